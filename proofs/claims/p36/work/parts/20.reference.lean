/-! LIFTED: reference: each method as a function over the memory, by program out of its bytecode -/
