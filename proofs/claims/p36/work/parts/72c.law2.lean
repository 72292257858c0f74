set_option maxHeartbeats 4000000 in
set_option maxRecDepth 100000 in
theorem w_L_sum_L213 {G : Gl} {ρ0 : Nat → Nat} {M0 MF : Mem} {r : Int32 ⊕ Nat} : ∀ (n : Nat) (l0 : Nat) (l1 : Int32) (l2 : Int32) (M : Mem), f_L_sum_L213 n l0 l1 l2 M = some (r, MF) → V G (RL, cL_sum, (some .int), 8, 136, 4, "sum", []) (ρ0, M0, cxI r, MF) 213 [(0, .ref l0), (1, .int l1), (2, .int l2)] [] M := by
  intro n
  induction n with
  | zero => intro l0 l1 l2 M h; cases h
  | succ n ih =>
    intro l0 l1 l2 M h
    rw [f_L_sum_L213] at h
    refine v_iload_n dL_sum_213 rfl 2 rfl ?_
    refine v_aload_n dL_sum_214 rfl 0 rfl ?_
    obtain ⟨v2, M1, e, h⟩ := bindP_some h
    refine ca_L_203 e dL_sum_215 (Nat.le_of_ble_eq_true rfl) (by decide) ?_
    refine v_icmp_ge (tgt := 258) dL_sum_218 (by decide) (fun c9 => ?_) (fun c9 => ?_)
    · replace h := ifP c9 h
      refine v_iload_n dL_sum_258 rfl 1 rfl ?_
      cases h
      exact v_ireturn dL_sum_259
    · replace h := ifN c9 h
      refine v_bipush (v := 31) dL_sum_221 cb_31 ?_
      refine v_iload_n dL_sum_223 rfl 1 rfl ?_
      refine v_imul dL_sum_224 ?_
      refine v_aload_n dL_sum_225 rfl 0 rfl ?_
      refine v_iload_n dL_sum_226 rfl 2 rfl ?_
      refine v_iconst (v := 0) dL_sum_227 ci_0 ?_
      rcases bindX_some h with ⟨v4, M3, e, h⟩ | ⟨e9, e, rfl⟩
      rotate_left
      · exact cx_L_212 e dL_sum_228 (Nat.le_of_ble_eq_true rfl) (by decide)
      refine ca_L_212 e dL_sum_228 (Nat.le_of_ble_eq_true rfl) (by decide) ?_
      refine v_iadd dL_sum_231 ?_
      refine v_iconst (v := 3) dL_sum_232 ci_3 ?_
      refine v_aload_n dL_sum_233 rfl 0 rfl ?_
      refine v_iload_n dL_sum_234 rfl 2 rfl ?_
      refine v_iconst (v := 1) dL_sum_235 ci_1 ?_
      rcases bindX_some h with ⟨v6, M5, e, h⟩ | ⟨e9, e, rfl⟩
      rotate_left
      · exact cx_L_212 e dL_sum_236 (Nat.le_of_ble_eq_true rfl) (by decide)
      refine ca_L_212 e dL_sum_236 (Nat.le_of_ble_eq_true rfl) (by decide) ?_
      refine v_imul dL_sum_239 ?_
      refine v_iadd dL_sum_240 ?_
      refine kc_L_218 dL_sum_241 ?_
      refine v_aload_n dL_sum_243 rfl 0 rfl ?_
      refine v_iload_n dL_sum_244 rfl 2 rfl ?_
      refine v_iconst (v := 2) dL_sum_245 ci_2 ?_
      rcases bindX_some h with ⟨v8, M7, e, h⟩ | ⟨e9, e, rfl⟩
      rotate_left
      · exact cx_L_212 e dL_sum_246 (Nat.le_of_ble_eq_true rfl) (by decide)
      refine ca_L_212 e dL_sum_246 (Nat.le_of_ble_eq_true rfl) (by decide) ?_
      refine v_imul dL_sum_249 ?_
      refine v_iadd dL_sum_250 ?_
      refine v_istore_n (ls' := [(1, .int (((((31 : Int32) * l1) + v4) + ((3 : Int32) * v6)) + ((40000 : Int32) * v8))), (0, .ref l0), (2, .int l2)]) dL_sum_251 rfl (by decide) rfl ?_
      refine v_iinc (ls' := [(2, .int (l2 + 1)), (1, .int (((((31 : Int32) * l1) + v4) + ((3 : Int32) * v6)) + ((40000 : Int32) * v8))), (0, .ref l0)]) dL_sum_252 2 rfl (v := 1) ci_1 (by decide) rfl ?_
      refine v_goto (tgt := 213) dL_sum_255 (by decide) ?_
      refine v_sub [2, 1, 0] rfl ?_
      exact ih l0 (((((31 : Int32) * l1) + v4) + ((3 : Int32) * v6)) + ((40000 : Int32) * v8)) (l2 + 1) M7 h
set_option maxHeartbeats 4000000 in
set_option maxRecDepth 100000 in
theorem w_L_sum_L143 {G : Gl} {ρ0 : Nat → Nat} {M0 MF : Mem} {r : Int32 ⊕ Nat} (k30 : Nat → Int32 → Int32 → Mem → Option ((Int32 ⊕ Nat) × Mem)) (h30 : ∀ (l0 : Nat) (l1 : Int32) (l2 : Int32) (M : Mem), k30 l0 l1 l2 M = some (r, MF) → V G (RL, cL_sum, (some .int), 8, 136, 4, "sum", []) (ρ0, M0, cxI r, MF) 30 [(0, .ref l0), (1, .int l1), (2, .int l2)] [] M) : ∀ (n : Nat) (l0 : Nat) (l1 : Int32) (l2 : Int32) (l3 : Int32) (M : Mem), f_L_sum_L143 n k30 l0 l1 l2 l3 M = some (r, MF) → V G (RL, cL_sum, (some .int), 8, 136, 4, "sum", []) (ρ0, M0, cxI r, MF) 143 [(0, .ref l0), (1, .int l1), (2, .int l2), (3, .int l3)] [] M := by
  intro n
  induction n with
  | zero => intro l0 l1 l2 l3 M h; cases h
  | succ n ih =>
    intro l0 l1 l2 l3 M h
    rw [f_L_sum_L143] at h
    refine v_iload_n dL_sum_143 rfl 3 rfl ?_
    refine v_aload_n dL_sum_144 rfl 0 rfl ?_
    refine v_iload_n dL_sum_145 rfl 2 rfl ?_
    refine v_iconst (v := 4) dL_sum_146 ci_4 ?_
    rcases bindX_some h with ⟨v2, M1, e, h⟩ | ⟨e9, e, rfl⟩
    rotate_left
    · exact cx_L_187 e dL_sum_147 (Nat.le_of_ble_eq_true rfl) (by decide)
    refine ca_L_187 e dL_sum_147 (Nat.le_of_ble_eq_true rfl) (by decide) ?_
    refine v_icmp_ge (tgt := 205) dL_sum_150 (by decide) (fun c11 => ?_) (fun c11 => ?_)
    · replace h := ifP c11 h
      refine v_iinc (ls' := [(2, .int (l2 + 1)), (0, .ref l0), (1, .int l1), (3, .int l3)]) dL_sum_205 2 rfl (v := 1) ci_1 (by decide) rfl ?_
      refine v_goto (tgt := 30) dL_sum_208 (by decide) ?_
      refine v_sub [1, 2, 0] rfl ?_
      exact h30 l0 l1 (l2 + 1) M1 h
    · replace h := ifN c11 h
      refine v_bipush (v := 31) dL_sum_153 cb_31 ?_
      refine v_iload_n dL_sum_155 rfl 1 rfl ?_
      refine v_imul dL_sum_156 ?_
      refine v_aload_n dL_sum_157 rfl 0 rfl ?_
      refine v_iload_n dL_sum_158 rfl 2 rfl ?_
      refine v_iload_n dL_sum_159 rfl 3 rfl ?_
      refine v_iconst (v := 0) dL_sum_160 ci_0 ?_
      rcases bindX_some h with ⟨v4, M3, e, h⟩ | ⟨e9, e, rfl⟩
      rotate_left
      · exact cx_L_215 e dL_sum_161 (Nat.le_of_ble_eq_true rfl) (by decide)
      refine ca_L_215 e dL_sum_161 (Nat.le_of_ble_eq_true rfl) (by decide) ?_
      refine v_iadd dL_sum_164 ?_
      refine v_iconst (v := 5) dL_sum_165 ci_5 ?_
      refine v_aload_n dL_sum_166 rfl 0 rfl ?_
      refine v_iload_n dL_sum_167 rfl 2 rfl ?_
      refine v_iload_n dL_sum_168 rfl 3 rfl ?_
      refine v_iconst (v := 1) dL_sum_169 ci_1 ?_
      rcases bindX_some h with ⟨v6, M5, e, h⟩ | ⟨e9, e, rfl⟩
      rotate_left
      · exact cx_L_215 e dL_sum_170 (Nat.le_of_ble_eq_true rfl) (by decide)
      refine ca_L_215 e dL_sum_170 (Nat.le_of_ble_eq_true rfl) (by decide) ?_
      refine v_imul dL_sum_173 ?_
      refine v_iadd dL_sum_174 ?_
      refine v_bipush (v := 25) dL_sum_175 cb_25 ?_
      refine v_aload_n dL_sum_177 rfl 0 rfl ?_
      refine v_iload_n dL_sum_178 rfl 2 rfl ?_
      refine v_iload_n dL_sum_179 rfl 3 rfl ?_
      refine v_iconst (v := 2) dL_sum_180 ci_2 ?_
      rcases bindX_some h with ⟨v8, M7, e, h⟩ | ⟨e9, e, rfl⟩
      rotate_left
      · exact cx_L_215 e dL_sum_181 (Nat.le_of_ble_eq_true rfl) (by decide)
      refine ca_L_215 e dL_sum_181 (Nat.le_of_ble_eq_true rfl) (by decide) ?_
      refine v_imul dL_sum_184 ?_
      refine v_iadd dL_sum_185 ?_
      refine v_sipush (v := 300) dL_sum_186 cs_300 ?_
      refine v_aload_n dL_sum_189 rfl 0 rfl ?_
      refine v_iload_n dL_sum_190 rfl 2 rfl ?_
      refine v_iload_n dL_sum_191 rfl 3 rfl ?_
      refine v_iconst (v := 3) dL_sum_192 ci_3 ?_
      rcases bindX_some h with ⟨v10, M9, e, h⟩ | ⟨e9, e, rfl⟩
      rotate_left
      · exact cx_L_215 e dL_sum_193 (Nat.le_of_ble_eq_true rfl) (by decide)
      refine ca_L_215 e dL_sum_193 (Nat.le_of_ble_eq_true rfl) (by decide) ?_
      refine v_imul dL_sum_196 ?_
      refine v_iadd dL_sum_197 ?_
      refine v_istore_n (ls' := [(1, .int ((((((31 : Int32) * l1) + v4) + ((5 : Int32) * v6)) + ((25 : Int32) * v8)) + ((300 : Int32) * v10))), (0, .ref l0), (2, .int l2), (3, .int l3)]) dL_sum_198 rfl (by decide) rfl ?_
      refine v_iinc (ls' := [(3, .int (l3 + 1)), (1, .int ((((((31 : Int32) * l1) + v4) + ((5 : Int32) * v6)) + ((25 : Int32) * v8)) + ((300 : Int32) * v10))), (0, .ref l0), (2, .int l2)]) dL_sum_199 3 rfl (v := 1) ci_1 (by decide) rfl ?_
      refine v_goto (tgt := 143) dL_sum_202 (by decide) ?_
      refine v_sub [2, 1, 3, 0] rfl ?_
      exact ih l0 ((((((31 : Int32) * l1) + v4) + ((5 : Int32) * v6)) + ((25 : Int32) * v8)) + ((300 : Int32) * v10)) l2 (l3 + 1) M9 h
set_option maxHeartbeats 4000000 in
set_option maxRecDepth 100000 in
theorem w_L_sum_L82 {G : Gl} {ρ0 : Nat → Nat} {M0 MF : Mem} {r : Int32 ⊕ Nat} (k30 : Nat → Int32 → Int32 → Mem → Option ((Int32 ⊕ Nat) × Mem)) (h30 : ∀ (l0 : Nat) (l1 : Int32) (l2 : Int32) (M : Mem), k30 l0 l1 l2 M = some (r, MF) → V G (RL, cL_sum, (some .int), 8, 136, 4, "sum", []) (ρ0, M0, cxI r, MF) 30 [(0, .ref l0), (1, .int l1), (2, .int l2)] [] M) : ∀ (n : Nat) (l0 : Nat) (l1 : Int32) (l2 : Int32) (l3 : Int32) (M : Mem), f_L_sum_L82 n k30 l0 l1 l2 l3 M = some (r, MF) → V G (RL, cL_sum, (some .int), 8, 136, 4, "sum", []) (ρ0, M0, cxI r, MF) 82 [(0, .ref l0), (1, .int l1), (2, .int l2), (3, .int l3)] [] M := by
  intro n
  induction n with
  | zero => intro l0 l1 l2 l3 M h; cases h
  | succ n ih =>
    intro l0 l1 l2 l3 M h
    rw [f_L_sum_L82] at h
    refine v_iload_n dL_sum_82 rfl 3 rfl ?_
    refine v_aload_n dL_sum_83 rfl 0 rfl ?_
    refine v_iload_n dL_sum_84 rfl 2 rfl ?_
    refine v_iconst (v := 1) dL_sum_85 ci_1 ?_
    rcases bindX_some h with ⟨v2, M1, e, h⟩ | ⟨e9, e, rfl⟩
    rotate_left
    · exact cx_L_187 e dL_sum_86 (Nat.le_of_ble_eq_true rfl) (by decide)
    refine ca_L_187 e dL_sum_86 (Nat.le_of_ble_eq_true rfl) (by decide) ?_
    refine v_icmp_ge (tgt := 141) dL_sum_89 (by decide) (fun c11 => ?_) (fun c11 => ?_)
    · replace h := ifP c11 h
      refine v_iconst (v := 0) dL_sum_141 ci_0 ?_
      refine v_istore_n (ls' := [(3, .int (0 : Int32)), (0, .ref l0), (1, .int l1), (2, .int l2)]) dL_sum_142 rfl (by decide) rfl ?_
      refine v_sub [1, 2, 3, 0] rfl ?_
      exact w_L_sum_L143 k30 h30 FU l0 l1 l2 (0 : Int32) M1 h
    · replace h := ifN c11 h
      refine v_bipush (v := 31) dL_sum_92 cb_31 ?_
      refine v_iload_n dL_sum_94 rfl 1 rfl ?_
      refine v_imul dL_sum_95 ?_
      refine v_aload_n dL_sum_96 rfl 0 rfl ?_
      refine v_iload_n dL_sum_97 rfl 2 rfl ?_
      refine v_iload_n dL_sum_98 rfl 3 rfl ?_
      refine v_iconst (v := 0) dL_sum_99 ci_0 ?_
      rcases bindX_some h with ⟨v4, M3, e, h⟩ | ⟨e9, e, rfl⟩
      rotate_left
      · exact cx_L_192 e dL_sum_100 (Nat.le_of_ble_eq_true rfl) (by decide)
      refine ca_L_192 e dL_sum_100 (Nat.le_of_ble_eq_true rfl) (by decide) ?_
      refine v_iadd dL_sum_103 ?_
      refine v_bipush (v := 60) dL_sum_104 cb_60 ?_
      refine v_aload_n dL_sum_106 rfl 0 rfl ?_
      refine v_iload_n dL_sum_107 rfl 2 rfl ?_
      refine v_iload_n dL_sum_108 rfl 3 rfl ?_
      refine v_iconst (v := 2) dL_sum_109 ci_2 ?_
      rcases bindX_some h with ⟨v6, M5, e, h⟩ | ⟨e9, e, rfl⟩
      rotate_left
      · exact cx_L_192 e dL_sum_110 (Nat.le_of_ble_eq_true rfl) (by decide)
      refine ca_L_192 e dL_sum_110 (Nat.le_of_ble_eq_true rfl) (by decide) ?_
      refine v_imul dL_sum_113 ?_
      refine v_iadd dL_sum_114 ?_
      refine v_aload_n dL_sum_115 rfl 0 rfl ?_
      refine v_iload_n dL_sum_116 rfl 2 rfl ?_
      refine v_iload_n dL_sum_117 rfl 3 rfl ?_
      refine v_iconst (v := 3) dL_sum_118 ci_3 ?_
      rcases bindX_some h with ⟨v8, M7, e, h⟩ | ⟨e9, e, rfl⟩
      rotate_left
      · exact cx_L_192 e dL_sum_119 (Nat.le_of_ble_eq_true rfl) (by decide)
      refine ca_L_192 e dL_sum_119 (Nat.le_of_ble_eq_true rfl) (by decide) ?_
      refine v_iadd dL_sum_122 ?_
      refine v_bipush (v := 7) dL_sum_123 cb_7 ?_
      refine v_aload_n dL_sum_125 rfl 0 rfl ?_
      refine v_iload_n dL_sum_126 rfl 2 rfl ?_
      refine v_iload_n dL_sum_127 rfl 3 rfl ?_
      refine v_iconst (v := 4) dL_sum_128 ci_4 ?_
      rcases bindX_some h with ⟨v10, M9, e, h⟩ | ⟨e9, e, rfl⟩
      rotate_left
      · exact cx_L_192 e dL_sum_129 (Nat.le_of_ble_eq_true rfl) (by decide)
      refine ca_L_192 e dL_sum_129 (Nat.le_of_ble_eq_true rfl) (by decide) ?_
      refine v_imul dL_sum_132 ?_
      refine v_iadd dL_sum_133 ?_
      refine v_istore_n (ls' := [(1, .int ((((((31 : Int32) * l1) + v4) + ((60 : Int32) * v6)) + v8) + ((7 : Int32) * v10))), (0, .ref l0), (2, .int l2), (3, .int l3)]) dL_sum_134 rfl (by decide) rfl ?_
      refine v_iinc (ls' := [(3, .int (l3 + 1)), (1, .int ((((((31 : Int32) * l1) + v4) + ((60 : Int32) * v6)) + v8) + ((7 : Int32) * v10))), (0, .ref l0), (2, .int l2)]) dL_sum_135 3 rfl (v := 1) ci_1 (by decide) rfl ?_
      refine v_goto (tgt := 82) dL_sum_138 (by decide) ?_
      refine v_sub [2, 1, 3, 0] rfl ?_
      exact ih l0 ((((((31 : Int32) * l1) + v4) + ((60 : Int32) * v6)) + v8) + ((7 : Int32) * v10)) l2 (l3 + 1) M9 h
set_option maxHeartbeats 4000000 in
set_option maxRecDepth 100000 in
theorem w_L_sum_L57 {G : Gl} {ρ0 : Nat → Nat} {M0 MF : Mem} {r : Int32 ⊕ Nat} (k30 : Nat → Int32 → Int32 → Mem → Option ((Int32 ⊕ Nat) × Mem)) (h30 : ∀ (l0 : Nat) (l1 : Int32) (l2 : Int32) (M : Mem), k30 l0 l1 l2 M = some (r, MF) → V G (RL, cL_sum, (some .int), 8, 136, 4, "sum", []) (ρ0, M0, cxI r, MF) 30 [(0, .ref l0), (1, .int l1), (2, .int l2)] [] M) : ∀ (n : Nat) (l0 : Nat) (l1 : Int32) (l2 : Int32) (l3 : Int32) (M : Mem), f_L_sum_L57 n k30 l0 l1 l2 l3 M = some (r, MF) → V G (RL, cL_sum, (some .int), 8, 136, 4, "sum", []) (ρ0, M0, cxI r, MF) 57 [(0, .ref l0), (1, .int l1), (2, .int l2), (3, .int l3)] [] M := by
  intro n
  induction n with
  | zero => intro l0 l1 l2 l3 M h; cases h
  | succ n ih =>
    intro l0 l1 l2 l3 M h
    rw [f_L_sum_L57] at h
    refine v_iload_n dL_sum_57 rfl 3 rfl ?_
    refine v_iconst (v := 5) dL_sum_58 ci_5 ?_
    refine v_icmp_ge (tgt := 80) dL_sum_59 (by decide) (fun c3 => ?_) (fun c3 => ?_)
    · replace h := ifP c3 h
      refine v_iconst (v := 0) dL_sum_80 ci_0 ?_
      refine v_istore_n (ls' := [(3, .int (0 : Int32)), (0, .ref l0), (1, .int l1), (2, .int l2)]) dL_sum_81 rfl (by decide) rfl ?_
      refine v_sub [1, 2, 3, 0] rfl ?_
      exact w_L_sum_L82 k30 h30 FU l0 l1 l2 (0 : Int32) M h
    · replace h := ifN c3 h
      refine v_bipush (v := 31) dL_sum_62 cb_31 ?_
      refine v_iload_n dL_sum_64 rfl 1 rfl ?_
      refine v_imul dL_sum_65 ?_
      refine v_aload_n dL_sum_66 rfl 0 rfl ?_
      refine v_iload_n dL_sum_67 rfl 2 rfl ?_
      refine v_iload_n dL_sum_68 rfl 3 rfl ?_
      rcases bindX_some h with ⟨v2, M1, e, h⟩ | ⟨e9, e, rfl⟩
      rotate_left
      · exact cx_L_187 e dL_sum_69 (Nat.le_of_ble_eq_true rfl) (by decide)
      refine ca_L_187 e dL_sum_69 (Nat.le_of_ble_eq_true rfl) (by decide) ?_
      refine v_iadd dL_sum_72 ?_
      refine v_istore_n (ls' := [(1, .int (((31 : Int32) * l1) + v2)), (0, .ref l0), (2, .int l2), (3, .int l3)]) dL_sum_73 rfl (by decide) rfl ?_
      refine v_iinc (ls' := [(3, .int (l3 + 1)), (1, .int (((31 : Int32) * l1) + v2)), (0, .ref l0), (2, .int l2)]) dL_sum_74 3 rfl (v := 1) ci_1 (by decide) rfl ?_
      refine v_goto (tgt := 57) dL_sum_77 (by decide) ?_
      refine v_sub [2, 1, 3, 0] rfl ?_
      exact ih l0 (((31 : Int32) * l1) + v2) l2 (l3 + 1) M1 h
set_option maxHeartbeats 4000000 in
set_option maxRecDepth 100000 in
theorem w_L_sum_L30 {G : Gl} {ρ0 : Nat → Nat} {M0 MF : Mem} {r : Int32 ⊕ Nat} : ∀ (n : Nat) (l0 : Nat) (l1 : Int32) (l2 : Int32) (M : Mem), f_L_sum_L30 n l0 l1 l2 M = some (r, MF) → V G (RL, cL_sum, (some .int), 8, 136, 4, "sum", []) (ρ0, M0, cxI r, MF) 30 [(0, .ref l0), (1, .int l1), (2, .int l2)] [] M := by
  intro n
  induction n with
  | zero => intro l0 l1 l2 M h; cases h
  | succ n ih =>
    intro l0 l1 l2 M h
    rw [f_L_sum_L30] at h
    refine v_iload_n dL_sum_30 rfl 2 rfl ?_
    refine v_bipush (v := 6) dL_sum_31 cb_6 ?_
    refine v_icmp_ge (tgt := 211) dL_sum_33 (by decide) (fun c5 => ?_) (fun c5 => ?_)
    · replace h := ifP c5 h
      refine v_iconst (v := 0) dL_sum_211 ci_0 ?_
      refine v_istore_n (ls' := [(2, .int (0 : Int32)), (0, .ref l0), (1, .int l1)]) dL_sum_212 rfl (by decide) rfl ?_
      refine v_sub [1, 2, 0] rfl ?_
      exact w_L_sum_L213 FU l0 l1 (0 : Int32) M h
    · replace h := ifN c5 h
      refine v_bipush (v := 31) dL_sum_36 cb_31 ?_
      refine v_iload_n dL_sum_38 rfl 1 rfl ?_
      refine v_imul dL_sum_39 ?_
      refine v_aload_n dL_sum_40 rfl 0 rfl ?_
      refine v_iload_n dL_sum_41 rfl 2 rfl ?_
      rcases bindX_some h with ⟨v2, M1, e, h⟩ | ⟨e9, e, rfl⟩
      rotate_left
      · exact cx_L_141 e dL_sum_42 (Nat.le_of_ble_eq_true rfl) (by decide)
      refine ca_L_141 e dL_sum_42 (Nat.le_of_ble_eq_true rfl) (by decide) ?_
      refine v_iadd dL_sum_45 ?_
      refine v_iconst (v := 4) dL_sum_46 ci_4 ?_
      refine v_aload_n dL_sum_47 rfl 0 rfl ?_
      refine v_iload_n dL_sum_48 rfl 2 rfl ?_
      rcases bindX_some h with ⟨v4, M3, e, h⟩ | ⟨e9, e, rfl⟩
      rotate_left
      · exact cx_L_209 e dL_sum_49 (Nat.le_of_ble_eq_true rfl) (by decide)
      refine ca_L_209 e dL_sum_49 (Nat.le_of_ble_eq_true rfl) (by decide) ?_
      refine v_imul dL_sum_52 ?_
      refine v_iadd dL_sum_53 ?_
      refine v_istore_n (ls' := [(1, .int ((((31 : Int32) * l1) + v2) + ((4 : Int32) * v4))), (0, .ref l0), (2, .int l2)]) dL_sum_54 rfl (by decide) rfl ?_
      refine v_iconst (v := 0) dL_sum_55 ci_0 ?_
      refine v_istore_n (ls' := [(3, .int (0 : Int32)), (1, .int ((((31 : Int32) * l1) + v2) + ((4 : Int32) * v4))), (0, .ref l0), (2, .int l2)]) dL_sum_56 rfl (by decide) rfl ?_
      refine v_sub [2, 1, 3, 0] rfl ?_
      exact w_L_sum_L57 (f_L_sum_L30 n) ih FU l0 ((((31 : Int32) * l1) + v2) + ((4 : Int32) * v4)) l2 (0 : Int32) M3 h
set_option maxHeartbeats 4000000 in
set_option maxRecDepth 100000 in
theorem w_L_sum_L5 {G : Gl} {ρ0 : Nat → Nat} {M0 MF : Mem} {r : Int32 ⊕ Nat} : ∀ (n : Nat) (l0 : Nat) (l1 : Int32) (l2 : Int32) (M : Mem), f_L_sum_L5 n l0 l1 l2 M = some (r, MF) → V G (RL, cL_sum, (some .int), 8, 136, 4, "sum", []) (ρ0, M0, cxI r, MF) 5 [(0, .ref l0), (1, .int l1), (2, .int l2)] [] M := by
  intro n
  induction n with
  | zero => intro l0 l1 l2 M h; cases h
  | succ n ih =>
    intro l0 l1 l2 M h
    rw [f_L_sum_L5] at h
    refine v_iload_n dL_sum_5 rfl 2 rfl ?_
    refine v_bipush (v := 10) dL_sum_6 cb_10 ?_
    refine v_icmp_ge (tgt := 28) dL_sum_8 (by decide) (fun c3 => ?_) (fun c3 => ?_)
    · replace h := ifP c3 h
      refine v_iconst (v := 0) dL_sum_28 ci_0 ?_
      refine v_istore_n (ls' := [(2, .int (0 : Int32)), (0, .ref l0), (1, .int l1)]) dL_sum_29 rfl (by decide) rfl ?_
      refine v_sub [1, 2, 0] rfl ?_
      exact w_L_sum_L30 FU l0 l1 (0 : Int32) M h
    · replace h := ifN c3 h
      refine v_bipush (v := 31) dL_sum_11 cb_31 ?_
      refine v_iload_n dL_sum_13 rfl 1 rfl ?_
      refine v_imul dL_sum_14 ?_
      refine v_aload_n dL_sum_15 rfl 0 rfl ?_
      refine v_iload_n dL_sum_16 rfl 2 rfl ?_
      rcases bindX_some h with ⟨v2, M1, e, h⟩ | ⟨e9, e, rfl⟩
      rotate_left
      · exact cx_L_180 e dL_sum_17 (Nat.le_of_ble_eq_true rfl) (by decide)
      refine ca_L_180 e dL_sum_17 (Nat.le_of_ble_eq_true rfl) (by decide) ?_
      refine v_iadd dL_sum_20 ?_
      refine v_istore_n (ls' := [(1, .int (((31 : Int32) * l1) + v2)), (0, .ref l0), (2, .int l2)]) dL_sum_21 rfl (by decide) rfl ?_
      refine v_iinc (ls' := [(2, .int (l2 + 1)), (1, .int (((31 : Int32) * l1) + v2)), (0, .ref l0)]) dL_sum_22 2 rfl (v := 1) ci_1 (by decide) rfl ?_
      refine v_goto (tgt := 5) dL_sum_25 (by decide) ?_
      refine v_sub [2, 1, 0] rfl ?_
      exact ih l0 (((31 : Int32) * l1) + v2) (l2 + 1) M1 h
set_option maxHeartbeats 4000000 in
set_option maxRecDepth 100000 in
theorem w_L_sum {G : Gl} {ρ0 : Nat → Nat} {M0 MF : Mem} {r : Int32 ⊕ Nat} (l0 : Nat) (M : Mem) (h : f_L_sum l0 M = some (r, MF)) : V G (RL, cL_sum, (some .int), 8, 136, 4, "sum", []) (ρ0, M0, cxI r, MF) 0 [(0, .ref l0)] [] M := by
  unfold f_L_sum at h
  refine v_bipush (v := 7) dL_sum_0 cb_7 ?_
  refine v_istore_n (ls' := [(1, .int (7 : Int32)), (0, .ref l0)]) dL_sum_2 rfl (by decide) rfl ?_
  refine v_iconst (v := 0) dL_sum_3 ci_0 ?_
  refine v_istore_n (ls' := [(2, .int (0 : Int32)), (1, .int (7 : Int32)), (0, .ref l0)]) dL_sum_4 rfl (by decide) rfl ?_
  refine v_sub [2, 1, 0] rfl ?_
  exact w_L_sum_L5 FU l0 (7 : Int32) (0 : Int32) M h
theorem k_L_sum {G : Gl} {l0 : Nat} {M MF : Mem} {r : Int32 ⊕ Nat} (h : f_L_sum l0 M = some (r, MF)) : CtrP G yL_sum cL_sum 4 (some .int) 8 136 [.ref l0] M (cxI r) MF :=
  ctr_of (by decide +kernel) (Nat.le_of_ble_eq_true rfl) (fun ρ => w_L_sum l0 M h)
theorem wd_L_219 : wdT RL 219 yL_sum cL_sum 4 (some .int) 1 := ⟨gwi 1077 (by decide +kernel) (by decide +kernel), gwi 1078 (by decide +kernel) (by decide +kernel), nw_L, gwi 1079 (by decide +kernel) (by decide +kernel), ⟨by decide +kernel, by decide +kernel, by decide +kernel⟩⟩
theorem ca_L_219 {G : Gl} {B : Bx} {cc : ByteArray} {ret : Option FieldType} {fr lo nL : Nat} {mn : String} {hh : List (Nat × Nat × Nat × Nat)} {pc : Nat} {ls : List (Nat × Value)} {st : List Value} {M M1 : Mem} {l0 : Nat} {x : Int32} (e : f_L_sum l0 M = some (.inl x, M1)) (hd : decode cc pc = .ok (.invokestatic 219, 3)) (hcat : (st.map fun v => v.category).sum ≤ 8) (hR : 8 + 1 ≤ fr ∧ 8 + (4 + 11) + 136 ≤ lo) (k : V G (RL, cc, ret, fr, lo, nL, mn, hh) B (pc + 3) ls (.int x :: st) M1) : V G (RL, cc, ret, fr, lo, nL, mn, hh) B pc ls (.ref l0 :: st) M := v_callSi (As := [.ref l0]) (k_L_sum e) wd_L_219 hd rfl rfl hcat hR k
theorem cx_L_219 {G : Gl} {ρ0 : Nat → Nat} {M0 : Mem} {cc : ByteArray} {ret : Option FieldType} {fr lo nL : Nat} {mn : String} {pc : Nat} {ls : List (Nat × Value)} {st : List Value} {M M1 : Mem} {l0 : Nat} {e9 : Nat} (e : f_L_sum l0 M = some (.inr e9, M1)) (hd : decode cc pc = .ok (.invokestatic 219, 3)) (hcat : (st.map fun v => v.category).sum ≤ 8) (hR : 8 + 1 ≤ fr ∧ 8 + (4 + 11) + 136 ≤ lo) : V G (RL, cc, ret, fr, lo, nL, mn, []) (ρ0, M0, Sum.inr e9, M1) pc ls (.ref l0 :: st) M := v_callSx (As := [.ref l0]) (k_L_sum e) wd_L_219 hd rfl rfl hcat hR
set_option maxHeartbeats 4000000 in
set_option maxRecDepth 100000 in
theorem w_L_areRefused_J141 {G : Gl} {ρ0 : Nat → Nat} {M0 MF : Mem} {r : Int32 ⊕ Nat} (l0 : Nat) (l1 : Int32) (s0 : Int32) (s1 : Int32) (M : Mem) (h : f_L_areRefused_J141 l0 l1 s0 s1 M = some (r, MF)) : V G (RL, cL_areRefused, (some .boolean), 11, 213, 3, "areRefused", []) (ρ0, M0, cxI r, MF) 141 [(0, .ref l0), (1, .int l1)] [.int s0, .int s1] M := by
  unfold f_L_areRefused_J141 at h
  refine v_iand dL_areRefused_141 ?_
  refine v_istore_n (ls' := [(2, .int (s1 &&& s0)), (0, .ref l0), (1, .int l1)]) dL_areRefused_142 rfl (by decide) rfl ?_
  refine v_iload_n dL_areRefused_143 rfl 0 rfl ?_
  refine v_if_eq (tgt := 159) dL_areRefused_144 (by decide) (fun c4 => ?_) (fun c4 => ?_)
  · replace h := ifP c4 h
    refine v_iconst (v := 0) dL_areRefused_159 ci_0 ?_
    obtain ⟨hz, rfl, rfl⟩ := okZX_some h
    exact v_zreturn dL_areRefused_160 hz
  · replace h := ifN c4 h
    refine v_aload_n dL_areRefused_147 rfl 1 rfl ?_
    rcases bindX_some h with ⟨v2, M1, e, h⟩ | ⟨e9, e, rfl⟩
    rotate_left
    · exact cx_L_219 e dL_areRefused_148 (Nat.le_of_ble_eq_true rfl) (by decide)
    refine ca_L_219 e dL_areRefused_148 (Nat.le_of_ble_eq_true rfl) (by decide) ?_
    refine v_iload_n dL_areRefused_151 rfl 2 rfl ?_
    refine v_icmp_ne (tgt := 159) dL_areRefused_152 (by decide) (fun c3 => ?_) (fun c3 => ?_)
    · replace h := ifN c3 h
      refine v_iconst (v := 0) dL_areRefused_159 ci_0 ?_
      obtain ⟨hz, rfl, rfl⟩ := okZX_some h
      exact v_zreturn dL_areRefused_160 hz
    · replace h := ifP c3 h
      refine v_iconst (v := 1) dL_areRefused_155 ci_1 ?_
      refine v_goto (tgt := 160) dL_areRefused_156 (by decide) ?_
      obtain ⟨hz, rfl, rfl⟩ := okZX_some h
      exact v_zreturn dL_areRefused_160 hz
theorem w_L_areRefused_J140 {G : Gl} {ρ0 : Nat → Nat} {M0 MF : Mem} {r : Int32 ⊕ Nat} (l0 : Nat) (l1 : Int32) (s0 : Int32) (M : Mem) (h : f_L_areRefused_J140 l0 l1 s0 M = some (r, MF)) : V G (RL, cL_areRefused, (some .boolean), 11, 213, 3, "areRefused", []) (ρ0, M0, cxI r, MF) 140 [(0, .ref l0), (1, .int l1)] [.int s0] M := by
  unfold f_L_areRefused_J140 at h
  refine v_iconst (v := 0) dL_areRefused_140 ci_0 ?_
  exact w_L_areRefused_J141 l0 l1 (0 : Int32) s0 M h
set_option maxHeartbeats 4000000 in
set_option maxRecDepth 100000 in
theorem w_L_areRefused_J68 {G : Gl} {ρ0 : Nat → Nat} {M0 MF : Mem} {r : Int32 ⊕ Nat} (l0 : Nat) (l1 : Int32) (s0 : Int32) (M : Mem) (h : f_L_areRefused_J68 l0 l1 s0 M = some (r, MF)) : V G (RL, cL_areRefused, (some .boolean), 11, 213, 3, "areRefused", []) (ρ0, M0, cxI r, MF) 68 [(0, .ref l0), (1, .int l1)] [.int s0] M := by
  unfold f_L_areRefused_J68 at h
  refine v_istore_n (ls' := [(2, .int s0), (0, .ref l0), (1, .int l1)]) dL_areRefused_68 rfl (by decide) rfl ?_
  refine v_iload_n dL_areRefused_69 rfl 0 rfl ?_
  refine v_aload_n dL_areRefused_70 rfl 1 rfl ?_
  refine v_ldcS (i := 0) (by decide) rfl rfl dL_areRefused_71 ?_
  obtain ⟨v2, M1, e, h⟩ := bindP_some h
  refine ca_L_66 e dL_areRefused_73 (Nat.le_of_ble_eq_true rfl) (by decide) ?_
  refine v_if_eq (tgt := 140) dL_areRefused_76 (by decide) (fun c18 => ?_) (fun c18 => ?_)
  · replace h := ifP c18 h
    refine v_sub [1, 2] rfl ?_
    exact w_L_areRefused_J140 l0 l1 s0 M1 h
  · replace h := ifN c18 h
    refine v_aload_n dL_areRefused_79 rfl 1 rfl ?_
    refine v_iconst (v := 0) dL_areRefused_80 ci_0 ?_
    refine v_iconst (v := 0) dL_areRefused_81 ci_0 ?_
    refine v_iconst (v := 1) dL_areRefused_82 ci_1 ?_
    refine v_iconst (v := 1) dL_areRefused_83 ci_1 ?_
    obtain ⟨v4, M3, e, h⟩ := bindP_some h
    refine ca_L_70 e dL_areRefused_84 (Nat.le_of_ble_eq_true rfl) (by decide) ?_
    refine v_bipush (v := (-2)) dL_areRefused_87 cb_m2 ?_
    refine v_icmp_ne (tgt := 140) dL_areRefused_89 (by decide) (fun c17 => ?_) (fun c17 => ?_)
    · replace h := ifN c17 h
      refine v_sub [1, 2] rfl ?_
      exact w_L_areRefused_J140 l0 l1 s0 M3 h
    · replace h := ifP c17 h
      refine v_aload_n dL_areRefused_92 rfl 1 rfl ?_
      refine v_iconst (v := 0) dL_areRefused_93 ci_0 ?_
      refine v_iconst (v := 3) dL_areRefused_94 ci_3 ?_
      refine v_iconst (v := 1) dL_areRefused_95 ci_1 ?_
      obtain ⟨v6, M5, e, h⟩ := bindP_some h
      refine ca_L_189 e dL_areRefused_96 (Nat.le_of_ble_eq_true rfl) (by decide) ?_
      refine v_bipush (v := (-2)) dL_areRefused_99 cb_m2 ?_
      refine v_icmp_ne (tgt := 140) dL_areRefused_101 (by decide) (fun c16 => ?_) (fun c16 => ?_)
      · replace h := ifN c16 h
        refine v_sub [1, 2] rfl ?_
        exact w_L_areRefused_J140 l0 l1 s0 M5 h
      · replace h := ifP c16 h
        refine v_aload_n dL_areRefused_104 rfl 1 rfl ?_
        refine v_iconst (v := 0) dL_areRefused_105 ci_0 ?_
        refine v_iconst (v := 0) dL_areRefused_106 ci_0 ?_
        obtain ⟨v8, M7, e, h⟩ := bindP_some h
        refine ca_L_162 e dL_areRefused_107 (Nat.le_of_ble_eq_true rfl) (by decide) ?_
        refine v_bipush (v := (-2)) dL_areRefused_110 cb_m2 ?_
        refine v_icmp_ne (tgt := 140) dL_areRefused_112 (by decide) (fun c15 => ?_) (fun c15 => ?_)
        · replace h := ifN c15 h
          refine v_sub [1, 2] rfl ?_
          exact w_L_areRefused_J140 l0 l1 s0 M7 h
        · replace h := ifP c15 h
          refine v_aload_n dL_areRefused_115 rfl 1 rfl ?_
          refine v_bipush (v := 6) dL_areRefused_116 cb_6 ?_
          obtain ⟨v10, M9, e, h⟩ := bindP_some h
          refine ca_L_76 e dL_areRefused_118 (Nat.le_of_ble_eq_true rfl) (by decide) ?_
          refine v_bipush (v := (-8)) dL_areRefused_121 cb_m8 ?_
          refine v_icmp_ne (tgt := 140) dL_areRefused_123 (by decide) (fun c14 => ?_) (fun c14 => ?_)
          · replace h := ifN c14 h
            refine v_sub [1, 2] rfl ?_
            exact w_L_areRefused_J140 l0 l1 s0 M9 h
          · replace h := ifP c14 h
            refine v_aload_n dL_areRefused_126 rfl 1 rfl ?_
            refine v_iconst (v := 5) dL_areRefused_127 ci_5 ?_
            obtain ⟨v12, M11, e, h⟩ := bindP_some h
            refine ca_L_76 e dL_areRefused_128 (Nat.le_of_ble_eq_true rfl) (by decide) ?_
            refine v_bipush (v := (-9)) dL_areRefused_131 cb_m9 ?_
            refine v_icmp_ne (tgt := 140) dL_areRefused_133 (by decide) (fun c13 => ?_) (fun c13 => ?_)
            · replace h := ifN c13 h
              refine v_sub [1, 2] rfl ?_
              exact w_L_areRefused_J140 l0 l1 s0 M11 h
            · replace h := ifP c13 h
              refine v_iconst (v := 1) dL_areRefused_136 ci_1 ?_
              refine v_goto (tgt := 141) dL_areRefused_137 (by decide) ?_
              refine v_sub [1, 2] rfl ?_
              exact w_L_areRefused_J141 l0 l1 (1 : Int32) s0 M11 h
theorem w_L_areRefused_J67 {G : Gl} {ρ0 : Nat → Nat} {M0 MF : Mem} {r : Int32 ⊕ Nat} (l0 : Nat) (l1 : Int32) (M : Mem) (h : f_L_areRefused_J67 l0 l1 M = some (r, MF)) : V G (RL, cL_areRefused, (some .boolean), 11, 213, 3, "areRefused", []) (ρ0, M0, cxI r, MF) 67 [(0, .ref l0), (1, .int l1)] [] M := by
  unfold f_L_areRefused_J67 at h
  refine v_iconst (v := 0) dL_areRefused_67 ci_0 ?_
  exact w_L_areRefused_J68 l0 l1 (0 : Int32) M h
set_option maxHeartbeats 4000000 in
set_option maxRecDepth 100000 in
theorem w_L_areRefused {G : Gl} {ρ0 : Nat → Nat} {M0 MF : Mem} {r : Int32 ⊕ Nat} (l0 : Nat) (M : Mem) (h : f_L_areRefused l0 M = some (r, MF)) : V G (RL, cL_areRefused, (some .boolean), 11, 213, 3, "areRefused", []) (ρ0, M0, cxI r, MF) 0 [(0, .ref l0)] [] M := by
  unfold f_L_areRefused at h
  refine v_aload_n dL_areRefused_0 rfl 0 rfl ?_
  rcases bindX_some h with ⟨v2, M1, e, h⟩ | ⟨e9, e, rfl⟩
  rotate_left
  · exact cx_L_219 e dL_areRefused_1 (Nat.le_of_ble_eq_true rfl) (by decide)
  refine ca_L_219 e dL_areRefused_1 (Nat.le_of_ble_eq_true rfl) (by decide) ?_
  refine v_istore_n (ls' := [(1, .int v2), (0, .ref l0)]) dL_areRefused_4 rfl (by decide) rfl ?_
  refine v_aload_n dL_areRefused_5 rfl 1 rfl ?_
  refine v_ldcS (i := 0) (by decide) rfl rfl dL_areRefused_6 ?_
  obtain ⟨v4, M3, e, h⟩ := bindP_some h
  refine ca_L_66 e dL_areRefused_8 (Nat.le_of_ble_eq_true rfl) (by decide) ?_
  refine v_if_eq (tgt := 67) dL_areRefused_11 (by decide) (fun c17 => ?_) (fun c17 => ?_)
  · replace h := ifP c17 h
    refine v_sub [1, 0] rfl ?_
    exact w_L_areRefused_J67 l0 v2 M3 h
  · replace h := ifN c17 h
    refine v_aload_n dL_areRefused_14 rfl 1 rfl ?_
    refine v_bipush (v := 6) dL_areRefused_15 cb_6 ?_
    refine v_iconst (v := 0) dL_areRefused_17 ci_0 ?_
    refine v_iconst (v := 0) dL_areRefused_18 ci_0 ?_
    refine v_iconst (v := 0) dL_areRefused_19 ci_0 ?_
    obtain ⟨v6, M5, e, h⟩ := bindP_some h
    refine ca_L_70 e dL_areRefused_20 (Nat.le_of_ble_eq_true rfl) (by decide) ?_
    refine v_iconst (v := (-1)) dL_areRefused_23 ci_m1 ?_
    refine v_icmp_ne (tgt := 67) dL_areRefused_24 (by decide) (fun c16 => ?_) (fun c16 => ?_)
    · replace h := ifN c16 h
      refine v_sub [1, 0] rfl ?_
      exact w_L_areRefused_J67 l0 v2 M5 h
    · replace h := ifP c16 h
      refine v_aload_n dL_areRefused_27 rfl 1 rfl ?_
      refine v_ldcS (i := 0) (by decide) rfl rfl dL_areRefused_28 ?_
      refine v_iconst (v := 5) dL_areRefused_30 ci_5 ?_
      refine v_iconst (v := 1) dL_areRefused_31 ci_1 ?_
      refine v_iconst (v := 1) dL_areRefused_32 ci_1 ?_
      refine v_iconst (v := 1) dL_areRefused_33 ci_1 ?_
      refine v_iconst (v := 5) dL_areRefused_34 ci_5 ?_
      obtain ⟨v8, M7, e, h⟩ := bindP_some h
      refine ca_L_197 e dL_areRefused_35 (Nat.le_of_ble_eq_true rfl) (by decide) ?_
      refine v_bipush (v := (-3)) dL_areRefused_38 cb_m3 ?_
      refine v_icmp_ne (tgt := 67) dL_areRefused_40 (by decide) (fun c15 => ?_) (fun c15 => ?_)
      · replace h := ifN c15 h
        refine v_sub [1, 0] rfl ?_
        exact w_L_areRefused_J67 l0 v2 M7 h
      · replace h := ifP c15 h
        refine v_aload_n dL_areRefused_43 rfl 1 rfl ?_
        refine v_bipush (v := 6) dL_areRefused_44 cb_6 ?_
        obtain ⟨v10, M9, e, h⟩ := bindP_some h
        refine ca_L_159 e dL_areRefused_46 (Nat.le_of_ble_eq_true rfl) (by decide) ?_
        refine v_iconst (v := (-1)) dL_areRefused_49 ci_m1 ?_
        refine v_icmp_ne (tgt := 67) dL_areRefused_50 (by decide) (fun c14 => ?_) (fun c14 => ?_)
        · replace h := ifN c14 h
          refine v_sub [1, 0] rfl ?_
          exact w_L_areRefused_J67 l0 v2 M9 h
        · replace h := ifP c14 h
          refine v_aload_n dL_areRefused_53 rfl 1 rfl ?_
          refine v_iconst (v := 5) dL_areRefused_54 ci_5 ?_
          obtain ⟨v12, M11, e, h⟩ := bindP_some h
          refine ca_L_159 e dL_areRefused_55 (Nat.le_of_ble_eq_true rfl) (by decide) ?_
          refine v_bipush (v := (-2)) dL_areRefused_58 cb_m2 ?_
          refine v_icmp_ne (tgt := 67) dL_areRefused_60 (by decide) (fun c13 => ?_) (fun c13 => ?_)
          · replace h := ifN c13 h
            refine v_sub [1, 0] rfl ?_
            exact w_L_areRefused_J67 l0 v2 M11 h
          · replace h := ifP c13 h
            refine v_iconst (v := 1) dL_areRefused_63 ci_1 ?_
            refine v_goto (tgt := 68) dL_areRefused_64 (by decide) ?_
            refine v_sub [1, 0] rfl ?_
            exact w_L_areRefused_J68 l0 v2 (1 : Int32) M11 h
theorem k_L_areRefused {G : Gl} {l0 : Nat} {M MF : Mem} {r : Int32 ⊕ Nat} (h : f_L_areRefused l0 M = some (r, MF)) : CtrP G yL_areRefused cL_areRefused 3 (some .boolean) 11 213 [.ref l0] M (cxI r) MF :=
  ctr_of (by decide +kernel) (Nat.le_of_ble_eq_true rfl) (fun ρ => w_L_areRefused l0 M h)
theorem wd_L_131 : wdT RL 131 yL_areRefused cL_areRefused 3 (some .boolean) 1 := ⟨gwi 1074 (by decide +kernel) (by decide +kernel), gwi 1075 (by decide +kernel) (by decide +kernel), nw_L, gwi 1076 (by decide +kernel) (by decide +kernel), ⟨by decide +kernel, by decide +kernel, by decide +kernel⟩⟩
theorem ca_L_131 {G : Gl} {B : Bx} {cc : ByteArray} {ret : Option FieldType} {fr lo nL : Nat} {mn : String} {hh : List (Nat × Nat × Nat × Nat)} {pc : Nat} {ls : List (Nat × Value)} {st : List Value} {M M1 : Mem} {l0 : Nat} {x : Int32} (e : f_L_areRefused l0 M = some (.inl x, M1)) (hd : decode cc pc = .ok (.invokestatic 131, 3)) (hcat : (st.map fun v => v.category).sum ≤ 8) (hR : 11 + 1 ≤ fr ∧ 8 + (3 + 11) + 213 ≤ lo) (k : V G (RL, cc, ret, fr, lo, nL, mn, hh) B (pc + 3) ls (.int x :: st) M1) : V G (RL, cc, ret, fr, lo, nL, mn, hh) B pc ls (.ref l0 :: st) M := v_callSi (As := [.ref l0]) (k_L_areRefused e) wd_L_131 hd rfl rfl hcat hR k
theorem cx_L_131 {G : Gl} {ρ0 : Nat → Nat} {M0 : Mem} {cc : ByteArray} {ret : Option FieldType} {fr lo nL : Nat} {mn : String} {pc : Nat} {ls : List (Nat × Value)} {st : List Value} {M M1 : Mem} {l0 : Nat} {e9 : Nat} (e : f_L_areRefused l0 M = some (.inr e9, M1)) (hd : decode cc pc = .ok (.invokestatic 131, 3)) (hcat : (st.map fun v => v.category).sum ≤ 8) (hR : 11 + 1 ≤ fr ∧ 8 + (3 + 11) + 213 ≤ lo) : V G (RL, cc, ret, fr, lo, nL, mn, []) (ρ0, M0, Sum.inr e9, M1) pc ls (.ref l0 :: st) M := v_callSx (As := [.ref l0]) (k_L_areRefused e) wd_L_131 hd rfl rfl hcat hR
set_option maxHeartbeats 4000000 in
set_option maxRecDepth 100000 in
theorem w_L_isKept_L17 {G : Gl} {ρ0 : Nat → Nat} {M0 MF : Mem} {r : Int32 ⊕ Nat} (L : Nat) (xs : Nat → Int32) (hX : G.2.2.2.2.1 = L ∧ G.2.2.2.2.2 = xs) : ∀ (n : Nat) (l1 : Int32) (l2 : Nat) (l3 : Int32) (l4 : Int32) (l5 : Int32) (l6 : Int32) (M : Mem), f_L_isKept_L17 L xs n l1 l2 l3 l4 l5 l6 M = some (r, MF) → V G (RL, cL_isKept, (some .boolean), 13, 273, 7, "isKept", []) (ρ0, M0, cxI r, MF) 17 [(0, .ref SCR), (1, .int l1), (2, .ref l2), (3, .int l3), (4, .int l4), (5, .int l5), (6, .int l6)] [] M := by
  intro n
  induction n with
  | zero => intro l1 l2 l3 l4 l5 l6 M h; cases h
  | succ n ih =>
    intro l1 l2 l3 l4 l5 l6 M h
    rw [f_L_isKept_L17] at h
    refine v_iload dL_isKept_17 6 rfl ?_
    refine v_iconst (v := 5) dL_isKept_19 ci_5 ?_
    refine v_icmp_ge (tgt := 48) dL_isKept_20 (by decide) (fun c11 => ?_) (fun c11 => ?_)
    · replace h := ifP c11 h
      refine v_iload dL_isKept_48 5 rfl ?_
      refine v_if_eq (tgt := 85) dL_isKept_50 (by decide) (fun c10 => ?_) (fun c10 => ?_)
      · replace h := ifP c10 h
        refine v_iconst (v := 0) dL_isKept_85 ci_0 ?_
        obtain ⟨hz, rfl, rfl⟩ := okZX_some h
        exact v_zreturn dL_isKept_86 hz
      · replace h := ifN c10 h
        refine v_aload_n dL_isKept_53 rfl 2 rfl ?_
        obtain ⟨v2, M1, e, h⟩ := bindP_some h
        refine ca_L_120 e dL_isKept_54 (Nat.le_of_ble_eq_true rfl) (by decide) ?_
        refine v_iload_n dL_isKept_57 rfl 3 rfl ?_
        refine v_icmp_ne (tgt := 85) dL_isKept_58 (by decide) (fun c9 => ?_) (fun c9 => ?_)
        · replace h := ifN c9 h
          refine v_iconst (v := 0) dL_isKept_85 ci_0 ?_
          obtain ⟨hz, rfl, rfl⟩ := okZX_some h
          exact v_zreturn dL_isKept_86 hz
        · replace h := ifP c9 h
          refine v_aload_n dL_isKept_61 rfl 2 rfl ?_
          rcases bindX_some h with ⟨v4, M3, e, h⟩ | ⟨e9, e, rfl⟩
          rotate_left
          · exact cx_L_219 e dL_isKept_62 (Nat.le_of_ble_eq_true rfl) (by decide)
          refine ca_L_219 e dL_isKept_62 (Nat.le_of_ble_eq_true rfl) (by decide) ?_
          refine v_iload dL_isKept_65 4 rfl ?_
          refine v_icmp_ne (tgt := 85) dL_isKept_67 (by decide) (fun c8 => ?_) (fun c8 => ?_)
          · replace h := ifN c8 h
            refine v_iconst (v := 0) dL_isKept_85 ci_0 ?_
            obtain ⟨hz, rfl, rfl⟩ := okZX_some h
            exact v_zreturn dL_isKept_86 hz
          · replace h := ifP c8 h
            refine v_aload_n dL_isKept_70 rfl 2 rfl ?_
            refine v_iconst (v := 1) dL_isKept_71 ci_1 ?_
            rcases bindX_some h with ⟨v6, M5, e, h⟩ | ⟨e9, e, rfl⟩
            rotate_left
            · exact cx_L_173 e dL_isKept_72 (Nat.le_of_ble_eq_true rfl) (by decide)
            refine ca_L_173 e dL_isKept_72 (Nat.le_of_ble_eq_true rfl) (by decide) ?_
            refine v_iload_n dL_isKept_75 rfl 3 rfl ?_
            refine v_iconst (v := 1) dL_isKept_76 ci_1 ?_
            refine v_iadd dL_isKept_77 ?_
            refine v_icmp_ne (tgt := 85) dL_isKept_78 (by decide) (fun c7 => ?_) (fun c7 => ?_)
            · replace h := ifN c7 h
              refine v_iconst (v := 0) dL_isKept_85 ci_0 ?_
              obtain ⟨hz, rfl, rfl⟩ := okZX_some h
              exact v_zreturn dL_isKept_86 hz
            · replace h := ifP c7 h
              refine v_iconst (v := 1) dL_isKept_81 ci_1 ?_
              refine v_goto (tgt := 86) dL_isKept_82 (by decide) ?_
              obtain ⟨hz, rfl, rfl⟩ := okZX_some h
              exact v_zreturn dL_isKept_86 hz
    · replace h := ifN c11 h
      refine v_iload dL_isKept_23 5 rfl ?_
      refine v_aload_n dL_isKept_25 rfl 0 rfl ?_
      refine v_iload_n dL_isKept_26 rfl 1 rfl ?_
      refine v_bipush (v := 6) dL_isKept_27 cb_6 ?_
      refine v_iload dL_isKept_29 6 rfl ?_
      refine v_imul dL_isKept_31 ?_
      refine v_iadd dL_isKept_32 ?_
      refine v_iconst (v := 3) dL_isKept_33 ci_3 ?_
      refine v_iadd dL_isKept_34 ?_
      refine v_aload_n dL_isKept_35 rfl 2 rfl ?_
      rcases bindX_some h with ⟨v2, M1, e, h⟩ | ⟨e9, e, rfl⟩
      rotate_left
      · exact cx_L_123 hX e dL_isKept_36 (Nat.le_of_ble_eq_true rfl) (by decide)
      refine ca_L_123 hX e dL_isKept_36 (Nat.le_of_ble_eq_true rfl) (by decide) ?_
      refine v_iand dL_isKept_39 ?_
      refine v_istore (ls' := [(5, .int (l5 &&& v2)), (0, .ref SCR), (1, .int l1), (2, .ref l2), (3, .int l3), (4, .int l4), (6, .int l6)]) dL_isKept_40 (by decide) rfl ?_
      refine v_iinc (ls' := [(6, .int (l6 + 1)), (5, .int (l5 &&& v2)), (0, .ref SCR), (1, .int l1), (2, .ref l2), (3, .int l3), (4, .int l4)]) dL_isKept_42 6 rfl (v := 1) ci_1 (by decide) rfl ?_
      refine v_goto (tgt := 17) dL_isKept_45 (by decide) ?_
      refine v_sub [2, 3, 4, 5, 6, 1, 0] rfl ?_
      exact ih l1 l2 l3 l4 (l5 &&& v2) (l6 + 1) M1 h
set_option maxHeartbeats 4000000 in
set_option maxRecDepth 100000 in
theorem w_L_isKept {G : Gl} {ρ0 : Nat → Nat} {M0 MF : Mem} {r : Int32 ⊕ Nat} (L : Nat) (xs : Nat → Int32) (hX : G.2.2.2.2.1 = L ∧ G.2.2.2.2.2 = xs) (l1 : Int32) (l2 : Nat) (M : Mem) (h : f_L_isKept L xs l1 l2 M = some (r, MF)) : V G (RL, cL_isKept, (some .boolean), 13, 273, 7, "isKept", []) (ρ0, M0, cxI r, MF) 0 [(0, .ref SCR), (1, .int l1), (2, .ref l2)] [] M := by
  unfold f_L_isKept at h
  refine v_aload_n dL_isKept_0 rfl 2 rfl ?_
  obtain ⟨v2, M1, e, h⟩ := bindP_some h
  refine ca_L_224 e dL_isKept_1 (Nat.le_of_ble_eq_true rfl) (by decide) ?_
  refine v_istore_n (ls' := [(3, .int v2), (0, .ref SCR), (1, .int l1), (2, .ref l2)]) dL_isKept_4 rfl (by decide) rfl ?_
  refine v_aload_n dL_isKept_5 rfl 3 rfl ?_
  rcases bindX_some h with ⟨v4, M3, e, h⟩ | ⟨e9, e, rfl⟩
  rotate_left
  · exact cx_L_219 e dL_isKept_6 (Nat.le_of_ble_eq_true rfl) (by decide)
  refine ca_L_219 e dL_isKept_6 (Nat.le_of_ble_eq_true rfl) (by decide) ?_
  refine v_istore (ls' := [(4, .int v4), (3, .int v2), (0, .ref SCR), (1, .int l1), (2, .ref l2)]) dL_isKept_9 (by decide) rfl ?_
  refine v_iconst (v := 1) dL_isKept_11 ci_1 ?_
  refine v_istore (ls' := [(5, .int (1 : Int32)), (4, .int v4), (3, .int v2), (0, .ref SCR), (1, .int l1), (2, .ref l2)]) dL_isKept_12 (by decide) rfl ?_
  refine v_iconst (v := 0) dL_isKept_14 ci_0 ?_
  refine v_istore (ls' := [(6, .int (0 : Int32)), (5, .int (1 : Int32)), (4, .int v4), (3, .int v2), (0, .ref SCR), (1, .int l1), (2, .ref l2)]) dL_isKept_15 (by decide) rfl ?_
  refine v_sub [4, 5, 6, 3, 2, 1, 0] rfl ?_
  exact w_L_isKept_L17 L xs hX FU l1 l2 v2 v4 (1 : Int32) (0 : Int32) M3 h
theorem k_L_isKept {G : Gl} {L : Nat} {xs : Nat → Int32} (hX : G.2.2.2.2.1 = L ∧ G.2.2.2.2.2 = xs) {l1 : Int32} {l2 : Nat} {M MF : Mem} {r : Int32 ⊕ Nat} (h : f_L_isKept L xs l1 l2 M = some (r, MF)) : CtrP G yL_isKept cL_isKept 7 (some .boolean) 13 273 [.ref SCR, .int l1, .ref l2] M (cxI r) MF :=
  ctr_of (by decide +kernel) (Nat.le_of_ble_eq_true rfl) (fun ρ => w_L_isKept L xs hX l1 l2 M h)
theorem wd_L_134 : wdT RL 134 yL_isKept cL_isKept 7 (some .boolean) 3 := ⟨gwi 1107 (by decide +kernel) (by decide +kernel), gwi 1108 (by decide +kernel) (by decide +kernel), nw_L, gwi 1109 (by decide +kernel) (by decide +kernel), ⟨by decide +kernel, by decide +kernel, by decide +kernel⟩⟩
theorem ca_L_134 {G : Gl} {B : Bx} {cc : ByteArray} {ret : Option FieldType} {fr lo nL : Nat} {mn : String} {hh : List (Nat × Nat × Nat × Nat)} {pc : Nat} {ls : List (Nat × Value)} {st : List Value} {M M1 : Mem} {L : Nat} {xs : Nat → Int32} (hX : G.2.2.2.2.1 = L ∧ G.2.2.2.2.2 = xs) {l1 : Int32} {l2 : Nat} {x : Int32} (e : f_L_isKept L xs l1 l2 M = some (.inl x, M1)) (hd : decode cc pc = .ok (.invokestatic 134, 3)) (hcat : (st.map fun v => v.category).sum ≤ 8) (hR : 13 + 1 ≤ fr ∧ 8 + (7 + 11) + 273 ≤ lo) (k : V G (RL, cc, ret, fr, lo, nL, mn, hh) B (pc + 3) ls (.int x :: st) M1) : V G (RL, cc, ret, fr, lo, nL, mn, hh) B pc ls (.ref l2 :: .int l1 :: .ref SCR :: st) M := v_callSi (As := [.ref SCR, .int l1, .ref l2]) (k_L_isKept hX e) wd_L_134 hd rfl rfl hcat hR k
theorem cx_L_134 {G : Gl} {ρ0 : Nat → Nat} {M0 : Mem} {cc : ByteArray} {ret : Option FieldType} {fr lo nL : Nat} {mn : String} {pc : Nat} {ls : List (Nat × Value)} {st : List Value} {M M1 : Mem} {L : Nat} {xs : Nat → Int32} (hX : G.2.2.2.2.1 = L ∧ G.2.2.2.2.2 = xs) {l1 : Int32} {l2 : Nat} {e9 : Nat} (e : f_L_isKept L xs l1 l2 M = some (.inr e9, M1)) (hd : decode cc pc = .ok (.invokestatic 134, 3)) (hcat : (st.map fun v => v.category).sum ≤ 8) (hR : 13 + 1 ≤ fr ∧ 8 + (7 + 11) + 273 ≤ lo) : V G (RL, cc, ret, fr, lo, nL, mn, []) (ρ0, M0, Sum.inr e9, M1) pc ls (.ref l2 :: .int l1 :: .ref SCR :: st) M := v_callSx (As := [.ref SCR, .int l1, .ref l2]) (k_L_isKept hX e) wd_L_134 hd rfl rfl hcat hR
set_option maxHeartbeats 4000000 in
set_option maxRecDepth 100000 in
theorem w_L_law_L22 {G : Gl} {ρ0 : Nat → Nat} {M0 MF : Mem} {r : Int32 ⊕ Nat} (L : Nat) (xs : Nat → Int32) (hX : G.2.2.2.2.1 = L ∧ G.2.2.2.2.2 = xs) : ∀ (n : Nat) (l1 : Nat) (l2 : Int32) (l3 : Int32) (M : Mem), f_L_law_L22 L xs n l1 l2 l3 M = some (r, MF) → V G (RL, cL_law, (some .boolean), 14, 299, 4, "law", []) (ρ0, M0, cxI r, MF) 22 [(0, .ref SCR), (1, .ref l1), (2, .int l2), (3, .int l3)] [] M := by
  intro n
  induction n with
  | zero => intro l1 l2 l3 M h; cases h
  | succ n ih =>
    intro l1 l2 l3 M h
    rw [f_L_law_L22] at h
    refine v_iload_n dL_law_22 rfl 3 rfl ?_
    refine v_bipush (v := 40) dL_law_23 cb_40 ?_
    refine v_icmp_ge (tgt := 82) dL_law_25 (by decide) (fun c14 => ?_) (fun c14 => ?_)
    · replace h := ifP c14 h
      refine v_iconst (v := 1) dL_law_82 ci_1 ?_
      obtain ⟨hz, rfl, rfl⟩ := okZX_some h
      exact v_zreturn dL_law_83 hz
    · replace h := ifN c14 h
      refine v_aload_n dL_law_28 rfl 0 rfl ?_
      refine v_iload_n dL_law_29 rfl 2 rfl ?_
      refine v_aload_n dL_law_30 rfl 1 rfl ?_
      rcases bindX_some h with ⟨v2, M1, e, h⟩ | ⟨e9, e, rfl⟩
      rotate_left
      · exact cx_L_123 hX e dL_law_31 (Nat.le_of_ble_eq_true rfl) (by decide)
      refine ca_L_123 hX e dL_law_31 (Nat.le_of_ble_eq_true rfl) (by decide) ?_
      refine v_if_eq (tgt := 51) dL_law_34 (by decide) (fun c13 => ?_) (fun c13 => ?_)
      · replace h := ifP c13 h
        refine v_iconst (v := 0) dL_law_51 ci_0 ?_
        obtain ⟨hz, rfl, rfl⟩ := okZX_some h
        exact v_zreturn dL_law_52 hz
      · replace h := ifN c13 h
        refine v_aload_n dL_law_37 rfl 1 rfl ?_
        rcases bindX_some h with ⟨v4, M3, e, h⟩ | ⟨e9, e, rfl⟩
        rotate_left
        · exact cx_L_127 e dL_law_38 (Nat.le_of_ble_eq_true rfl) (by decide)
        refine ca_L_127 e dL_law_38 (Nat.le_of_ble_eq_true rfl) (by decide) ?_
        refine v_if_eq (tgt := 51) dL_law_41 (by decide) (fun c12 => ?_) (fun c12 => ?_)
        · replace h := ifP c12 h
          refine v_iconst (v := 0) dL_law_51 ci_0 ?_
          obtain ⟨hz, rfl, rfl⟩ := okZX_some h
          exact v_zreturn dL_law_52 hz
        · replace h := ifN c12 h
          refine v_aload_n dL_law_44 rfl 1 rfl ?_
          rcases bindX_some h with ⟨v6, M5, e, h⟩ | ⟨e9, e, rfl⟩
          rotate_left
          · exact cx_L_131 e dL_law_45 (Nat.le_of_ble_eq_true rfl) (by decide)
          refine ca_L_131 e dL_law_45 (Nat.le_of_ble_eq_true rfl) (by decide) ?_
          refine v_if_ne (tgt := 53) dL_law_48 (by decide) (fun c11 => ?_) (fun c11 => ?_)
          · replace h := ifN c11 h
            refine v_iinc (ls' := [(2, .int (l2 + 6)), (0, .ref SCR), (1, .ref l1), (3, .int l3)]) dL_law_53 2 rfl (v := 6) ci_6 (by decide) rfl ?_
            refine v_iload_n dL_law_56 rfl 3 rfl ?_
            refine v_bipush (v := 13) dL_law_57 cb_13 ?_
            refine v_irem dL_law_59 (by decide) ?_
            refine v_bipush (v := 12) dL_law_60 cb_12 ?_
            refine v_icmp_ne (tgt := 76) dL_law_62 (by decide) (fun c10 => ?_) (fun c10 => ?_)
            · replace h := ifN c10 h
              refine v_iinc (ls' := [(3, .int (l3 + 1)), (2, .int (l2 + 6)), (0, .ref SCR), (1, .ref l1)]) dL_law_76 3 rfl (v := 1) ci_1 (by decide) rfl ?_
              refine v_goto (tgt := 22) dL_law_79 (by decide) ?_
              refine v_sub [2, 3, 1, 0] rfl ?_
              exact ih l1 (l2 + 6) (l3 + 1) M5 h
            · replace h := ifP c10 h
              refine v_aload_n dL_law_65 rfl 1 rfl ?_
              refine v_iload_n dL_law_66 rfl 0 rfl ?_
              refine v_aload_n dL_law_67 rfl 2 rfl ?_
              rcases bindX_some h with ⟨v8, M7, e, h⟩ | ⟨e9, e, rfl⟩
              rotate_left
              · exact cx_L_134 hX e dL_law_68 (Nat.le_of_ble_eq_true rfl) (by decide)
              refine ca_L_134 hX e dL_law_68 (Nat.le_of_ble_eq_true rfl) (by decide) ?_
              refine v_if_ne (tgt := 76) dL_law_71 (by decide) (fun c9 => ?_) (fun c9 => ?_)
              · replace h := ifN c9 h
                refine v_iinc (ls' := [(3, .int (l3 + 1)), (2, .int (l2 + 6)), (0, .ref SCR), (1, .ref l1)]) dL_law_76 3 rfl (v := 1) ci_1 (by decide) rfl ?_
                refine v_goto (tgt := 22) dL_law_79 (by decide) ?_
                refine v_sub [2, 3, 1, 0] rfl ?_
                exact ih l1 (l2 + 6) (l3 + 1) M7 h
              · replace h := ifP c9 h
                refine v_iconst (v := 0) dL_law_74 ci_0 ?_
                obtain ⟨hz, rfl, rfl⟩ := okZX_some h
                exact v_zreturn dL_law_75 hz
          · replace h := ifP c11 h
            refine v_iconst (v := 0) dL_law_51 ci_0 ?_
            obtain ⟨hz, rfl, rfl⟩ := okZX_some h
            exact v_zreturn dL_law_52 hz
set_option maxHeartbeats 4000000 in
set_option maxRecDepth 100000 in
theorem w_L_law {G : Gl} {ρ0 : Nat → Nat} {M0 MF : Mem} {r : Int32 ⊕ Nat} (L : Nat) (xs : Nat → Int32) (hX : G.2.2.2.2.1 = L ∧ G.2.2.2.2.2 = xs) (M : Mem) (h : f_L_law L xs M = some (r, MF)) : V G (RL, cL_law, (some .boolean), 14, 299, 4, "law", []) (ρ0, M0, cxI r, MF) 0 [(0, .ref SCR)] [] M := by
  unfold f_L_law at h
  obtain ⟨v1, M2, e, h⟩ := bindP_some h
  refine nx_L_15 e dL_law_0 ?_
  refine v_dup dL_law_3 rfl ?_
  obtain ⟨M3, e, h⟩ := bind_some h
  refine ca_L_119 e dL_law_4 (Nat.le_of_ble_eq_true rfl) (by decide) ?_
  refine v_astore_n (ls' := [(1, .ref v1), (0, .ref SCR)]) dL_law_7 rfl (by decide) rfl ?_
  refine v_aload_n dL_law_8 rfl 0 rfl ?_
  obtain ⟨v5, M4, e, h⟩ := bindP_some h
  refine ca_L_120 e dL_law_9 (Nat.le_of_ble_eq_true rfl) (by decide) ?_
  refine v_iconst (v := (-1)) dL_law_12 ci_m1 ?_
  refine v_icmp_eq (tgt := 18) dL_law_13 (by decide) (fun c6 => ?_) (fun c6 => ?_)
  · replace h := ifP c6 h
    refine v_iconst (v := 0) dL_law_18 ci_0 ?_
    refine v_istore_n (ls' := [(2, .int (0 : Int32)), (1, .ref v1), (0, .ref SCR)]) dL_law_19 rfl (by decide) rfl ?_
    refine v_iconst (v := 0) dL_law_20 ci_0 ?_
    refine v_istore_n (ls' := [(3, .int (0 : Int32)), (2, .int (0 : Int32)), (1, .ref v1), (0, .ref SCR)]) dL_law_21 rfl (by decide) rfl ?_
    refine v_sub [3, 2, 1, 0] rfl ?_
    exact w_L_law_L22 L xs hX FU v1 (0 : Int32) (0 : Int32) M4 h
  · replace h := ifN c6 h
    refine v_iconst (v := 0) dL_law_16 ci_0 ?_
    obtain ⟨hz, rfl, rfl⟩ := okZX_some h
    exact v_zreturn dL_law_17 hz
