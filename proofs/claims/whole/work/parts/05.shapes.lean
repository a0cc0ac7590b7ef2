def nX : Nat := 211
def nM : Nat := 18
def shL (k : Nat) : Nat → Sh
  | 0 => .inl (3, [k + 1 + 3, k + 2 + 3, k + 3 + 3, k + 4 + 3, 0])
  | 1 => .inr (0, 6, fun _ => 0)
  | 2 => .inr (0, 25, fun _ => 0)
  | 3 => .inr (0, 7, fun _ => 0)
  | _ => .inr (0, 168, fun _ => 0)
def shS (k : Nat) : Nat → Sh
  | 0 => .inl (7, [k + 1 + 3, k + 2 + 3, k + 3 + 3, 0, 0, 0])
  | 1 => .inr (0, 96, fun _ => 0)
  | 2 => .inr (3, 80, fun _ => 0)
  | _ => .inr (1, 80, fun _ => 0)
def shW (k : Nat) : Nat → Sh
  | 0 => .inl (10, [k + 1 + 3, 0, 0, 0, 0, 0])
  | _ => .inr (5, 2, fun j => 160 + 4 * (k - 177 + j))
def shO : Nat → Sh
  | 0 => .inl (11, [185, 187, 184, 179, 181, 189, 191, 196, 198, 210, 212, 213])
  | 1 => .inr (4, 31, fun j => 5 * j)
  | 2 => .inl (8, [186, 0])
  | 3 => .inr (0, 400, fun _ => 0)
  | 4 => .inl (4, [185, 188, 2, 0, 0, 0, 0, 0, 0, 0, 0])
  | 5 => .inr (1, 18, fun _ => 0)
  | 6 => .inl (1, [190])
  | 7 => .inr (0, 1000, fun _ => 0)
  | 8 => .inl (6, [192, 193, 194, 195])
  | 9 => .inr (0, 20, fun _ => 0)
  | 10 => .inr (0, 20, fun _ => 0)
  | 11 => .inr (0, 20, fun _ => 0)
  | 12 => .inr (0, 20, fun _ => 0)
  | 13 => .inl (5, [197, 0, 0, 0])
  | 14 => .inr (3, 80, fun _ => 0)
  | 15 => .inl (2, [199, 200, 201, 202, 203, 204, 205, 206, 207, 0, 0])
  | 16 => .inr (0, 16, fun _ => 0)
  | 17 => .inr (0, 16, fun _ => 0)
  | 18 => .inr (0, 16, fun _ => 0)
  | 19 => .inr (0, 16, fun _ => 0)
  | 20 => .inr (0, 16, fun _ => 0)
  | 21 => .inr (0, 16, fun _ => 0)
  | 22 => .inr (3, 16, fun _ => 0)
  | 23 => .inr (3, 16, fun _ => 0)
  | 24 => .inl (0, [208, 209, 0, 1, 1])
  | 25 => .inr (0, 9, fun _ => 0)
  | 26 => .inr (0, 9, fun _ => 0)
  | 27 => .inl (9, [211, 0])
  | 28 => .inr (0, 7, fun _ => 0)
  | 29 => .inr (0, 6, fun _ => 0)
  | 30 => .inr (3, 5, fun _ => 0)
  | _ => .inr (0, 0, fun _ => 0)
def shX (k : Nat) : Sh := if k < 160 then shL k (k % 5) else if k < 176 then shS k (k % 4) else if k < 180 then shW k (k % 2) else shO (k - 180)
def shM : Nat → Sh
  | 0 => .inl (12, [4, 5, 6, 7, 8, 0, 9, 0, 0, 0, 0, 0, 0, 0, 0, 0, 0, 10, 11, 12, 13, 14, 15, 16, 17, 18, 19, 20])
  | 1 => .inr (0, 8320, fun _ => 0)
  | 2 => .inr (0, 8320, fun _ => 0)
  | 3 => .inr (3, 160, fun _ => 0)
  | 4 => .inr (3, 160, fun _ => 0)
  | 5 => .inr (3, 80, fun _ => 0)
  | 6 => .inr (2, 400, fun _ => 0)
  | 7 => .inr (1, 18, fun _ => 0)
  | 8 => .inr (0, 220, fun _ => 0)
  | 9 => .inr (0, 7000, fun _ => 0)
  | 10 => .inr (0, 7000, fun _ => 0)
  | 11 => .inr (0, 16, fun _ => 0)
  | 12 => .inr (0, 16, fun _ => 0)
  | 13 => .inr (0, 16, fun _ => 0)
  | 14 => .inr (0, 16, fun _ => 0)
  | 15 => .inr (1, 16, fun _ => 0)
  | 16 => .inr (0, 6, fun _ => 0)
  | 17 => .inr (1, 5, fun _ => 0)
  | _ => .inr (0, 0, fun _ => 0)
theorem pX_180 : Pl shX nX 180 (.inl (11, [185, 187, 184, 179, 181, 189, 191, 196, 198, 210, 212, 213])) := ⟨by decide, rfl⟩
theorem pX_181 : Pl shX nX 181 (.inr (4, 31, fun j => 5 * j)) := ⟨by decide, rfl⟩
theorem pX_182 : Pl shX nX 182 (.inl (8, [186, 0])) := ⟨by decide, rfl⟩
theorem pX_183 : Pl shX nX 183 (.inr (0, 400, fun _ => 0)) := ⟨by decide, rfl⟩
theorem pX_184 : Pl shX nX 184 (.inl (4, [185, 188, 2, 0, 0, 0, 0, 0, 0, 0, 0])) := ⟨by decide, rfl⟩
theorem pX_185 : Pl shX nX 185 (.inr (1, 18, fun _ => 0)) := ⟨by decide, rfl⟩
theorem pX_186 : Pl shX nX 186 (.inl (1, [190])) := ⟨by decide, rfl⟩
theorem pX_187 : Pl shX nX 187 (.inr (0, 1000, fun _ => 0)) := ⟨by decide, rfl⟩
theorem pX_188 : Pl shX nX 188 (.inl (6, [192, 193, 194, 195])) := ⟨by decide, rfl⟩
theorem pX_189 : Pl shX nX 189 (.inr (0, 20, fun _ => 0)) := ⟨by decide, rfl⟩
theorem pX_190 : Pl shX nX 190 (.inr (0, 20, fun _ => 0)) := ⟨by decide, rfl⟩
theorem pX_191 : Pl shX nX 191 (.inr (0, 20, fun _ => 0)) := ⟨by decide, rfl⟩
theorem pX_192 : Pl shX nX 192 (.inr (0, 20, fun _ => 0)) := ⟨by decide, rfl⟩
theorem pX_193 : Pl shX nX 193 (.inl (5, [197, 0, 0, 0])) := ⟨by decide, rfl⟩
theorem pX_194 : Pl shX nX 194 (.inr (3, 80, fun _ => 0)) := ⟨by decide, rfl⟩
theorem pX_195 : Pl shX nX 195 (.inl (2, [199, 200, 201, 202, 203, 204, 205, 206, 207, 0, 0])) := ⟨by decide, rfl⟩
theorem pX_196 : Pl shX nX 196 (.inr (0, 16, fun _ => 0)) := ⟨by decide, rfl⟩
theorem pX_197 : Pl shX nX 197 (.inr (0, 16, fun _ => 0)) := ⟨by decide, rfl⟩
theorem pX_198 : Pl shX nX 198 (.inr (0, 16, fun _ => 0)) := ⟨by decide, rfl⟩
theorem pX_199 : Pl shX nX 199 (.inr (0, 16, fun _ => 0)) := ⟨by decide, rfl⟩
theorem pX_200 : Pl shX nX 200 (.inr (0, 16, fun _ => 0)) := ⟨by decide, rfl⟩
theorem pX_201 : Pl shX nX 201 (.inr (0, 16, fun _ => 0)) := ⟨by decide, rfl⟩
theorem pX_202 : Pl shX nX 202 (.inr (3, 16, fun _ => 0)) := ⟨by decide, rfl⟩
theorem pX_203 : Pl shX nX 203 (.inr (3, 16, fun _ => 0)) := ⟨by decide, rfl⟩
theorem pX_204 : Pl shX nX 204 (.inl (0, [208, 209, 0, 1, 1])) := ⟨by decide, rfl⟩
theorem pX_205 : Pl shX nX 205 (.inr (0, 9, fun _ => 0)) := ⟨by decide, rfl⟩
theorem pX_206 : Pl shX nX 206 (.inr (0, 9, fun _ => 0)) := ⟨by decide, rfl⟩
theorem pX_207 : Pl shX nX 207 (.inl (9, [211, 0])) := ⟨by decide, rfl⟩
theorem pX_208 : Pl shX nX 208 (.inr (0, 7, fun _ => 0)) := ⟨by decide, rfl⟩
theorem pX_209 : Pl shX nX 209 (.inr (0, 6, fun _ => 0)) := ⟨by decide, rfl⟩
theorem pX_210 : Pl shX nX 210 (.inr (3, 5, fun _ => 0)) := ⟨by decide, rfl⟩
theorem pM_0 : Pl shM nM 0 (.inl (12, [4, 5, 6, 7, 8, 0, 9, 0, 0, 0, 0, 0, 0, 0, 0, 0, 0, 10, 11, 12, 13, 14, 15, 16, 17, 18, 19, 20])) := ⟨by decide, rfl⟩
theorem pM_1 : Pl shM nM 1 (.inr (0, 8320, fun _ => 0)) := ⟨by decide, rfl⟩
theorem pM_2 : Pl shM nM 2 (.inr (0, 8320, fun _ => 0)) := ⟨by decide, rfl⟩
theorem pM_3 : Pl shM nM 3 (.inr (3, 160, fun _ => 0)) := ⟨by decide, rfl⟩
theorem pM_4 : Pl shM nM 4 (.inr (3, 160, fun _ => 0)) := ⟨by decide, rfl⟩
theorem pM_5 : Pl shM nM 5 (.inr (3, 80, fun _ => 0)) := ⟨by decide, rfl⟩
theorem pM_6 : Pl shM nM 6 (.inr (2, 400, fun _ => 0)) := ⟨by decide, rfl⟩
theorem pM_7 : Pl shM nM 7 (.inr (1, 18, fun _ => 0)) := ⟨by decide, rfl⟩
theorem pM_8 : Pl shM nM 8 (.inr (0, 220, fun _ => 0)) := ⟨by decide, rfl⟩
theorem pM_9 : Pl shM nM 9 (.inr (0, 7000, fun _ => 0)) := ⟨by decide, rfl⟩
theorem pM_10 : Pl shM nM 10 (.inr (0, 7000, fun _ => 0)) := ⟨by decide, rfl⟩
theorem pM_11 : Pl shM nM 11 (.inr (0, 16, fun _ => 0)) := ⟨by decide, rfl⟩
theorem pM_12 : Pl shM nM 12 (.inr (0, 16, fun _ => 0)) := ⟨by decide, rfl⟩
theorem pM_13 : Pl shM nM 13 (.inr (0, 16, fun _ => 0)) := ⟨by decide, rfl⟩
theorem pM_14 : Pl shM nM 14 (.inr (0, 16, fun _ => 0)) := ⟨by decide, rfl⟩
theorem pM_15 : Pl shM nM 15 (.inr (1, 16, fun _ => 0)) := ⟨by decide, rfl⟩
theorem pM_16 : Pl shM nM 16 (.inr (0, 6, fun _ => 0)) := ⟨by decide, rfl⟩
theorem pM_17 : Pl shM nM 17 (.inr (1, 5, fun _ => 0)) := ⟨by decide, rfl⟩
theorem pL_0 (i : Nat) (hi : i < 32) : Pl shX nX (5 * i) (.inl (3, [5 * i + 1 + 3, 5 * i + 2 + 3, 5 * i + 3 + 3, 5 * i + 4 + 3, 0])) := by
  refine ⟨by unfold nX; omega, ?_⟩
  have h1 : 5 * i < 160 := by omega
  have h2 : (5 * i) % 5 = 0 := by omega
  simp only [shX, if_pos h1, h2]
  rfl
theorem pL_1 (i : Nat) (hi : i < 32) : Pl shX nX (5 * i + 1) (.inr (0, 6, fun _ => 0)) := by
  refine ⟨by unfold nX; omega, ?_⟩
  have h1 : 5 * i + 1 < 160 := by omega
  have h2 : (5 * i + 1) % 5 = 1 := by omega
  simp only [shX, if_pos h1, h2]
  rfl
theorem pL_2 (i : Nat) (hi : i < 32) : Pl shX nX (5 * i + 2) (.inr (0, 25, fun _ => 0)) := by
  refine ⟨by unfold nX; omega, ?_⟩
  have h1 : 5 * i + 2 < 160 := by omega
  have h2 : (5 * i + 2) % 5 = 2 := by omega
  simp only [shX, if_pos h1, h2]
  rfl
theorem pL_3 (i : Nat) (hi : i < 32) : Pl shX nX (5 * i + 3) (.inr (0, 7, fun _ => 0)) := by
  refine ⟨by unfold nX; omega, ?_⟩
  have h1 : 5 * i + 3 < 160 := by omega
  have h2 : (5 * i + 3) % 5 = 3 := by omega
  simp only [shX, if_pos h1, h2]
  rfl
theorem pL_4 (i : Nat) (hi : i < 32) : Pl shX nX (5 * i + 4) (.inr (0, 168, fun _ => 0)) := by
  refine ⟨by unfold nX; omega, ?_⟩
  have h1 : 5 * i + 4 < 160 := by omega
  have h2 : (5 * i + 4) % 5 = 4 := by omega
  simp only [shX, if_pos h1, h2]
  rfl
theorem pS_0 (i : Nat) (hi : i < 4) : Pl shX nX (160 + 4 * i) (.inl (7, [160 + 4 * i + 1 + 3, 160 + 4 * i + 2 + 3, 160 + 4 * i + 3 + 3, 0, 0, 0])) := by
  refine ⟨by unfold nX; omega, ?_⟩
  have h1 : ¬ 160 + 4 * i < 160 := by omega
  have h3 : 160 + 4 * i < 176 := by omega
  have h2 : (160 + 4 * i) % 4 = 0 := by omega
  simp only [shX, if_neg h1, if_pos h3, h2]
  rfl
theorem pS_1 (i : Nat) (hi : i < 4) : Pl shX nX (160 + 4 * i + 1) (.inr (0, 96, fun _ => 0)) := by
  refine ⟨by unfold nX; omega, ?_⟩
  have h1 : ¬ 160 + 4 * i + 1 < 160 := by omega
  have h3 : 160 + 4 * i + 1 < 176 := by omega
  have h2 : (160 + 4 * i + 1) % 4 = 1 := by omega
  simp only [shX, if_neg h1, if_pos h3, h2]
  rfl
theorem pS_2 (i : Nat) (hi : i < 4) : Pl shX nX (160 + 4 * i + 2) (.inr (3, 80, fun _ => 0)) := by
  refine ⟨by unfold nX; omega, ?_⟩
  have h1 : ¬ 160 + 4 * i + 2 < 160 := by omega
  have h3 : 160 + 4 * i + 2 < 176 := by omega
  have h2 : (160 + 4 * i + 2) % 4 = 2 := by omega
  simp only [shX, if_neg h1, if_pos h3, h2]
  rfl
theorem pS_3 (i : Nat) (hi : i < 4) : Pl shX nX (160 + 4 * i + 3) (.inr (1, 80, fun _ => 0)) := by
  refine ⟨by unfold nX; omega, ?_⟩
  have h1 : ¬ 160 + 4 * i + 3 < 160 := by omega
  have h3 : 160 + 4 * i + 3 < 176 := by omega
  have h2 : (160 + 4 * i + 3) % 4 = 3 := by omega
  simp only [shX, if_neg h1, if_pos h3, h2]
  rfl
theorem pW_0 (i : Nat) (hi : i < 2) : Pl shX nX (176 + 2 * i) (.inl (10, [176 + 2 * i + 1 + 3, 0, 0, 0, 0, 0])) := by
  refine ⟨by unfold nX; omega, ?_⟩
  have h1 : ¬ 176 + 2 * i < 160 := by omega
  have h3 : ¬ 176 + 2 * i < 176 := by omega
  have h4 : 176 + 2 * i < 180 := by omega
  have h2 : (176 + 2 * i) % 2 = 0 := by omega
  simp only [shX, if_neg h1, if_neg h3, if_pos h4, h2]
  rfl
theorem pW_1 (i : Nat) (hi : i < 2) : Pl shX nX (176 + 2 * i + 1) (.inr (5, 2, fun j => 160 + 4 * (2 * i + j))) := by
  refine ⟨by unfold nX; omega, ?_⟩
  have h1 : ¬ 176 + 2 * i + 1 < 160 := by omega
  have h3 : ¬ 176 + 2 * i + 1 < 176 := by omega
  have h4 : 176 + 2 * i + 1 < 180 := by omega
  have h2 : (176 + 2 * i + 1) % 2 = 1 := by omega
  simp only [shX, if_neg h1, if_neg h3, if_pos h4, h2]
  have h5 : 176 + 2 * i + 1 - 177 = 2 * i := by omega
  simp only [shW, h5]
