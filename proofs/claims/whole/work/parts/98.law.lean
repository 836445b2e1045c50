/-! THE LAW: its loop -/
section LAW
variable {n : Nat} {h : zH} {A : aS} {I : Nat → Option aS}
theorem zint01 : zint 0 ∧ zint 1 := ⟨⟨by omega, by omega⟩, ⟨by omega, by omega⟩⟩
def Nx (n pc i : Nat) (h : zH) : Prop := ∃ h' B J, Zx 243 pc [zR 0, zR 1, zR 202, zI (i : Int)] [] (Z0 n) h = Zx 243 1058 [zR 0, zR 1, zR 202, zI (i : Int)] [] (Z0 n) h' ∧ Sta h' B J ∧ ∀ k, h' 0 k = h 0 k
theorem nx_22 {i : Nat} (hL : n ≤ 3584) (hi : i + 7 ≤ n) (hz : ∀ k, zint (h 0 k)) (hS : Sta h A I) : Nx n 22 i h := by
  have H : OpS n 95 145 [zR 1, zI (h 0 ((i : Int) + 1).toNat), zI (h 0 ((i : Int) + 2).toNat), zI (h 0 ((i : Int) + 3).toNat), zI (h 0 ((i : Int) + 4).toNat), zI (h 0 ((i : Int) + 5).toNat)] [zR 202, zI (h 0 ((i : Int) + 1).toNat), zI (h 0 ((i : Int) + 2).toNat), zI (h 0 ((i : Int) + 3).toNat), zI (h 0 ((i : Int) + 4).toNat), zI (h 0 ((i : Int) + 5).toNat)] := OpW.S (fun A hA => op_feed hA )
  obtain ⟨v, h1, h2, B, J, e1, e2, S2, f1, f2⟩ := H h A I hS
  refine ⟨h2, B, J, ?_, S2, f2⟩
  rw [b243_22 (by omega) (by omega) (by omega) (by omega) (by omega) (by omega) (by omega) (by omega) (by omega) (by omega) (by omega), b243_48 (by omega) e1 (by omega) (by omega) (by omega) (by omega) (by omega) (by omega) (by omega) (by omega) (by omega) (by omega)]
  simp only [f1]
  rw [b243_75 (by omega) e2, if_pos rfl]
theorem nx_79 {i : Nat} (hL : n ≤ 3584) (hi : i + 7 ≤ n) (hz : ∀ k, zint (h 0 k)) (hS : Sta h A I) : Nx n 79 i h := by
  have H : OpS n 96 147 [zR 1, zI (h 0 ((i : Int) + 1).toNat)] [zR 202, zI (h 0 ((i : Int) + 1).toNat)] := OpW.S (fun A hA => op_end hA (by first | exact hz _ | exact zint01.1 | exact zint01.2))
  obtain ⟨v, h1, h2, B, J, e1, e2, S2, f1, f2⟩ := H h A I hS
  refine ⟨h2, B, J, ?_, S2, f2⟩
  rw [b243_79 (by omega) (by omega) (by omega), b243_85 (by omega) e1 (by omega) (by omega)]
  simp only [f1]
  rw [b243_92 (by omega) e2, if_pos rfl]
theorem nx_96 {i : Nat} (Ht : ∀ a b, zint a → zint b → OpS n 97 160 [zR 1, zI a, zI b, zN, zN] [zR 202, zI a, zI b, zN, zN]) (hL : n ≤ 3584) (hi : i + 7 ≤ n) (hz : ∀ k, zint (h 0 k)) (hS : Sta h A I) : Nx n 96 i h := by
  have H : OpS n 97 160 [zR 1, zI (h 0 ((i : Int) + 1).toNat), zI (h 0 ((i : Int) + 2).toNat), zN, zN] [zR 202, zI (h 0 ((i : Int) + 1).toNat), zI (h 0 ((i : Int) + 2).toNat), zN, zN] := Ht _ _ (by first | exact hz _ | exact zint01.1 | exact zint01.2) (by first | exact hz _ | exact zint01.1 | exact zint01.2)
  obtain ⟨v, h1, h2, B, J, e1, e2, S2, f1, f2⟩ := H h A I hS
  refine ⟨h2, B, J, ?_, S2, f2⟩
  rw [b243_96 (by omega) (by omega) (by omega) (by omega) (by omega), b243_107 (by omega) e1 (by omega) (by omega) (by omega) (by omega)]
  simp only [f1]
  rw [b243_119 (by omega) e2, if_pos rfl]
theorem nx_123 {i : Nat} (hL : n ≤ 3584) (hi : i + 7 ≤ n) (hz : ∀ k, zint (h 0 k)) (hS : Sta h A I) : Nx n 123 i h := by
  have H : OpS n 99 161 [zR 1, zI (h 0 ((i : Int) + 1).toNat)] [zR 202, zI (h 0 ((i : Int) + 1).toNat)] := OpI.S (fun A hA => op_fault hA (by first | exact hz _ | exact zint01.1 | exact zint01.2))
  obtain ⟨v, h1, h2, B, J, e1, e2, S2, f1, f2⟩ := H h A I hS
  refine ⟨h2, B, J, ?_, S2, f2⟩
  rw [b243_123 (by omega) (by omega) (by omega), b243_129 (by omega) e1 (by omega) (by omega)]
  simp only [f1]
  rw [b243_136 (by omega) e2, if_pos rfl]
theorem nx_140 {i : Nat} (hL : n ≤ 3584) (hi : i + 7 ≤ n) (hz : ∀ k, zint (h 0 k)) (hS : Sta h A I) : Nx n 140 i h := by
  have H : OpS n 111 193 [zR 1, zI (h 0 ((i : Int) + 1).toNat), zI (h 0 ((i : Int) + 2).toNat), zN, zN] [zR 202, zI (h 0 ((i : Int) + 1).toNat), zI (h 0 ((i : Int) + 2).toNat)] := OpI.S (fun A hA => op_picture hA (by first | exact hz _ | exact zint01.1 | exact zint01.2) (by first | exact hz _ | exact zint01.1 | exact zint01.2))
  obtain ⟨v, h1, h2, B, J, e1, e2, S2, f1, f2⟩ := H h A I hS
  refine ⟨h2, B, J, ?_, S2, f2⟩
  rw [b243_140 (by omega) (by omega) (by omega) (by omega) (by omega), b243_151 (by omega) e1 (by omega) (by omega) (by omega) (by omega)]
  simp only [f1]
  rw [b243_163 (by omega) e2, if_pos rfl]
theorem nx_167 {i : Nat} (hL : n ≤ 3584) (hi : i + 7 ≤ n) (hz : ∀ k, zint (h 0 k)) (hS : Sta h A I) : Nx n 167 i h := by
  have H : OpS n 114 194 [zR 1, zI (h 0 ((i : Int) + 1).toNat), zI (h 0 ((i : Int) + 2).toNat), zI (h 0 ((i : Int) + 3).toNat), zN] [zR 202, zI (h 0 ((i : Int) + 1).toNat), zI (h 0 ((i : Int) + 2).toNat), zI (h 0 ((i : Int) + 3).toNat)] := OpI.S (fun A hA => op_pixel hA (by first | exact hz _ | exact zint01.1 | exact zint01.2) (by first | exact hz _ | exact zint01.1 | exact zint01.2) (by first | exact hz _ | exact zint01.1 | exact zint01.2))
  obtain ⟨v, h1, h2, B, J, e1, e2, S2, f1, f2⟩ := H h A I hS
  refine ⟨h2, B, J, ?_, S2, f2⟩
  rw [b243_167 (by omega) (by omega) (by omega) (by omega) (by omega) (by omega) (by omega), b243_183 (by omega) e1 (by omega) (by omega) (by omega) (by omega) (by omega) (by omega)]
  simp only [f1]
  rw [b243_200 (by omega) e2, if_pos rfl]
theorem nx_204 {i : Nat} (hL : n ≤ 3584) (hi : i + 7 ≤ n) (hz : ∀ k, zint (h 0 k)) (hS : Sta h A I) : Nx n 204 i h := by
  have H : OpS n 115 196 [zR 1, zI (h 0 ((i : Int) + 1).toNat), zI (h 0 ((i : Int) + 2).toNat), zI (h 0 ((i : Int) + 3).toNat), zN] [zR 202, zI (h 0 ((i : Int) + 1).toNat), zI (h 0 ((i : Int) + 2).toNat), zI (h 0 ((i : Int) + 3).toNat)] := OpI.S (fun A hA => op_height hA (by first | exact hz _ | exact zint01.1 | exact zint01.2) (by first | exact hz _ | exact zint01.1 | exact zint01.2) (by first | exact hz _ | exact zint01.1 | exact zint01.2))
  obtain ⟨v, h1, h2, B, J, e1, e2, S2, f1, f2⟩ := H h A I hS
  refine ⟨h2, B, J, ?_, S2, f2⟩
  rw [b243_204 (by omega) (by omega) (by omega) (by omega) (by omega) (by omega) (by omega), b243_220 (by omega) e1 (by omega) (by omega) (by omega) (by omega) (by omega) (by omega)]
  simp only [f1]
  rw [b243_237 (by omega) e2, if_pos rfl]
theorem nx_241 {i : Nat} (hL : n ≤ 3584) (hi : i + 7 ≤ n) (hz : ∀ k, zint (h 0 k)) (hS : Sta h A I) : Nx n 241 i h := by
  by_cases c : zw (h 0 ((i : Int) + 4).toNat) = 0
  · have := 0
    have H : OpS n 116 197 [zR 1, zI (h 0 ((i : Int) + 1).toNat), zI (h 0 ((i : Int) + 2).toNat), zI (h 0 ((i : Int) + 3).toNat), zI (0), zN] [zR 202, zI (h 0 ((i : Int) + 1).toNat), zI (h 0 ((i : Int) + 2).toNat), zI (h 0 ((i : Int) + 3).toNat), zI (0)] := OpI.S (fun A hA => op_differ hA (by first | exact hz _ | exact zint01.1 | exact zint01.2) (by first | exact hz _ | exact zint01.1 | exact zint01.2) (by first | exact hz _ | exact zint01.1 | exact zint01.2) (by first | exact hz _ | exact zint01.1 | exact zint01.2))
    obtain ⟨v, h1, h2, B, J, e1, e2, S2, f1, f2⟩ := H h A I hS
    refine ⟨h2, B, J, ?_, S2, f2⟩
    rw [b243_241 (by omega) (by omega) (by omega) (by omega) (by omega) (by omega) (by omega) (by omega) (by omega), if_pos c, b243_266 (by omega) e1 (by omega) (by omega) (by omega) (by omega) (by omega) (by omega) (by omega) (by omega), f1, if_pos c]
    simp only [f1]
    rw [b243_292 (by omega) e2, if_pos rfl]
  · have := 0
    have H : OpS n 116 197 [zR 1, zI (h 0 ((i : Int) + 1).toNat), zI (h 0 ((i : Int) + 2).toNat), zI (h 0 ((i : Int) + 3).toNat), zI (1), zN] [zR 202, zI (h 0 ((i : Int) + 1).toNat), zI (h 0 ((i : Int) + 2).toNat), zI (h 0 ((i : Int) + 3).toNat), zI (1)] := OpI.S (fun A hA => op_differ hA (by first | exact hz _ | exact zint01.1 | exact zint01.2) (by first | exact hz _ | exact zint01.1 | exact zint01.2) (by first | exact hz _ | exact zint01.1 | exact zint01.2) (by first | exact hz _ | exact zint01.1 | exact zint01.2))
    obtain ⟨v, h1, h2, B, J, e1, e2, S2, f1, f2⟩ := H h A I hS
    refine ⟨h2, B, J, ?_, S2, f2⟩
    rw [b243_241 (by omega) (by omega) (by omega) (by omega) (by omega) (by omega) (by omega) (by omega) (by omega), if_neg c, b243_266 (by omega) e1 (by omega) (by omega) (by omega) (by omega) (by omega) (by omega) (by omega) (by omega), f1, if_neg c]
    simp only [f1]
    rw [b243_292 (by omega) e2, if_pos rfl]
theorem nx_296 {i : Nat} (hL : n ≤ 3584) (hi : i + 7 ≤ n) (hz : ∀ k, zint (h 0 k)) (hS : Sta h A I) : Nx n 296 i h := by
  have H : OpS n 117 198 [zR 1, zI (h 0 ((i : Int) + 1).toNat), zI (h 0 ((i : Int) + 2).toNat), zI (h 0 ((i : Int) + 3).toNat), zN] [zR 202, zI (h 0 ((i : Int) + 1).toNat), zI (h 0 ((i : Int) + 2).toNat), zI (h 0 ((i : Int) + 3).toNat), zN] := OpI.S (fun A hA => op_four hA (by first | exact hz _ | exact zint01.1 | exact zint01.2) (by first | exact hz _ | exact zint01.1 | exact zint01.2) (by first | exact hz _ | exact zint01.1 | exact zint01.2))
  obtain ⟨v, h1, h2, B, J, e1, e2, S2, f1, f2⟩ := H h A I hS
  refine ⟨h2, B, J, ?_, S2, f2⟩
  rw [b243_296 (by omega) (by omega) (by omega) (by omega) (by omega) (by omega) (by omega), b243_312 (by omega) e1 (by omega) (by omega) (by omega) (by omega) (by omega) (by omega)]
  simp only [f1]
  rw [b243_329 (by omega) e2, if_pos rfl]
theorem nx_333 {i : Nat} (hL : n ≤ 3584) (hi : i + 7 ≤ n) (hz : ∀ k, zint (h 0 k)) (hS : Sta h A I) : Nx n 333 i h := by
  have H : OpS n 122 202 [zR 1, zI (h 0 ((i : Int) + 1).toNat), zI (h 0 ((i : Int) + 2).toNat), zI (h 0 ((i : Int) + 3).toNat), zN] [zR 202, zI (h 0 ((i : Int) + 1).toNat), zI (h 0 ((i : Int) + 2).toNat), zI (h 0 ((i : Int) + 3).toNat)] := OpI.S (fun A hA => op_part hA (by first | exact hz _ | exact zint01.1 | exact zint01.2) (by first | exact hz _ | exact zint01.1 | exact zint01.2) (by first | exact hz _ | exact zint01.1 | exact zint01.2))
  obtain ⟨v, h1, h2, B, J, e1, e2, S2, f1, f2⟩ := H h A I hS
  refine ⟨h2, B, J, ?_, S2, f2⟩
  rw [b243_333 (by omega) (by omega) (by omega) (by omega) (by omega) (by omega) (by omega), b243_349 (by omega) e1 (by omega) (by omega) (by omega) (by omega) (by omega) (by omega)]
  simp only [f1]
  rw [b243_366 (by omega) e2, if_pos rfl]
theorem nx_370 {i : Nat} (hL : n ≤ 3584) (hi : i + 7 ≤ n) (hz : ∀ k, zint (h 0 k)) (hS : Sta h A I) : Nx n 370 i h := by
  have H : OpSL n 123 205 [zR 1, zI (h 0 ((i : Int) + 1).toNat), zI (h 0 ((i : Int) + 2).toNat), zI (h 0 ((i : Int) + 3).toNat)] [zR 202, zI (h 0 ((i : Int) + 1).toNat), zI (h 0 ((i : Int) + 2).toNat), zI (h 0 ((i : Int) + 3).toNat), zN, zN, zN, zN, zN, zN, zN, zN, zN] := OpL.S (fun A hA => op_plane hA (by first | exact hz _ | exact zint01.1 | exact zint01.2) (by first | exact hz _ | exact zint01.1 | exact zint01.2) (by first | exact hz _ | exact zint01.1 | exact zint01.2))
  obtain ⟨v, h1, h2, B, J, e1, e2, S2, f1, f2⟩ := H h A I hS
  refine ⟨h2, B, J, ?_, S2, f2⟩
  rw [b243_370 (by omega) (by omega) (by omega) (by omega) (by omega) (by omega) (by omega), b243_386 (by omega) e1 (by omega) (by omega) (by omega) (by omega) (by omega) (by omega)]
  simp only [f1]
  rw [b243_403 (by omega) e2, if_pos (show zw (zlcmp v v) = 0 by unfold zlcmp; rw [if_neg (Int.lt_irrefl _), if_pos rfl]; decide)]
theorem nx_408 {i : Nat} (hL : n ≤ 3584) (hi : i + 7 ≤ n) (hz : ∀ k, zint (h 0 k)) (hS : Sta h A I) : Nx n 408 i h := by
  by_cases c : zw (h 0 ((i : Int) + 3).toNat) = 0
  · have := 0
    have H : OpS n 124 206 [zR 1, zI (h 0 ((i : Int) + 1).toNat), zI (h 0 ((i : Int) + 2).toNat), zI (0), zN] [zR 202, zI (h 0 ((i : Int) + 1).toNat), zI (h 0 ((i : Int) + 2).toNat), zI (0), zN, zN, zN, zN] := OpI.S (fun A hA => op_out hA (by first | exact hz _ | exact zint01.1 | exact zint01.2) (by first | exact hz _ | exact zint01.1 | exact zint01.2) (by first | exact hz _ | exact zint01.1 | exact zint01.2))
    obtain ⟨v, h1, h2, B, J, e1, e2, S2, f1, f2⟩ := H h A I hS
    refine ⟨h2, B, J, ?_, S2, f2⟩
    rw [b243_408 (by omega) (by omega) (by omega) (by omega) (by omega) (by omega) (by omega), if_pos c, b243_428 (by omega) e1 (by omega) (by omega) (by omega) (by omega) (by omega) (by omega), f1, if_pos c]
    simp only [f1]
    rw [b243_449 (by omega) e2, if_pos rfl]
  · have := 0
    have H : OpS n 124 206 [zR 1, zI (h 0 ((i : Int) + 1).toNat), zI (h 0 ((i : Int) + 2).toNat), zI (1), zN] [zR 202, zI (h 0 ((i : Int) + 1).toNat), zI (h 0 ((i : Int) + 2).toNat), zI (1), zN, zN, zN, zN] := OpI.S (fun A hA => op_out hA (by first | exact hz _ | exact zint01.1 | exact zint01.2) (by first | exact hz _ | exact zint01.1 | exact zint01.2) (by first | exact hz _ | exact zint01.1 | exact zint01.2))
    obtain ⟨v, h1, h2, B, J, e1, e2, S2, f1, f2⟩ := H h A I hS
    refine ⟨h2, B, J, ?_, S2, f2⟩
    rw [b243_408 (by omega) (by omega) (by omega) (by omega) (by omega) (by omega) (by omega), if_neg c, b243_428 (by omega) e1 (by omega) (by omega) (by omega) (by omega) (by omega) (by omega), f1, if_neg c]
    simp only [f1]
    rw [b243_449 (by omega) e2, if_pos rfl]
theorem nx_453 {i : Nat} (hL : n ≤ 3584) (hi : i + 7 ≤ n) (hz : ∀ k, zint (h 0 k)) (hS : Sta h A I) : Nx n 453 i h := by
  have H : OpS n 126 207 [zR 1, zI (h 0 ((i : Int) + 1).toNat), zI (h 0 ((i : Int) + 2).toNat), zI (h 0 ((i : Int) + 3).toNat), zN] [zR 202, zI (h 0 ((i : Int) + 1).toNat), zI (h 0 ((i : Int) + 2).toNat), zI (h 0 ((i : Int) + 3).toNat)] := OpI.S (fun A hA => op_heavy hA (by first | exact hz _ | exact zint01.1 | exact zint01.2) (by first | exact hz _ | exact zint01.1 | exact zint01.2) (by first | exact hz _ | exact zint01.1 | exact zint01.2))
  obtain ⟨v, h1, h2, B, J, e1, e2, S2, f1, f2⟩ := H h A I hS
  refine ⟨h2, B, J, ?_, S2, f2⟩
  rw [b243_453 (by omega) (by omega) (by omega) (by omega) (by omega) (by omega) (by omega), b243_469 (by omega) e1 (by omega) (by omega) (by omega) (by omega) (by omega) (by omega)]
  simp only [f1]
  rw [b243_486 (by omega) e2, if_pos rfl]
theorem nx_490 {i : Nat} (hL : n ≤ 3584) (hi : i + 7 ≤ n) (hz : ∀ k, zint (h 0 k)) (hS : Sta h A I) : Nx n 490 i h := by
  have H : OpS n 131 210 [zR 1, zI (h 0 ((i : Int) + 1).toNat), zI (h 0 ((i : Int) + 2).toNat), zI (h 0 ((i : Int) + 3).toNat), zI (h 0 ((i : Int) + 4).toNat), zI (h 0 ((i : Int) + 5).toNat)] [zR 202, zI (h 0 ((i : Int) + 1).toNat), zI (h 0 ((i : Int) + 2).toNat), zI (h 0 ((i : Int) + 3).toNat), zI (h 0 ((i : Int) + 4).toNat), zI (h 0 ((i : Int) + 5).toNat), zN] := OpI.S (fun A hA => op_stitch hA (by first | exact hz _ | exact zint01.1 | exact zint01.2) (by first | exact hz _ | exact zint01.1 | exact zint01.2) (by first | exact hz _ | exact zint01.1 | exact zint01.2) (by first | exact hz _ | exact zint01.1 | exact zint01.2) (by first | exact hz _ | exact zint01.1 | exact zint01.2))
  obtain ⟨v, h1, h2, B, J, e1, e2, S2, f1, f2⟩ := H h A I hS
  refine ⟨h2, B, J, ?_, S2, f2⟩
  rw [b243_490 (by omega) (by omega) (by omega) (by omega) (by omega) (by omega) (by omega) (by omega) (by omega) (by omega) (by omega), b243_516 (by omega) e1 (by omega) (by omega) (by omega) (by omega) (by omega) (by omega) (by omega) (by omega) (by omega) (by omega)]
  simp only [f1]
  rw [b243_543 (by omega) e2, if_pos rfl]
theorem nx_547 {i : Nat} (hL : n ≤ 3584) (hi : i + 7 ≤ n) (hz : ∀ k, zint (h 0 k)) (hS : Sta h A I) : Nx n 547 i h := by
  by_cases c : zw (h 0 ((i : Int) + 3).toNat) = 0
  · have := 0
    have H : OpS n 132 211 [zR 1, zI (h 0 ((i : Int) + 1).toNat), zI (h 0 ((i : Int) + 2).toNat), zI (0), zN, zN, zN, zN, zN, zN, zN] [zR 202, zI (h 0 ((i : Int) + 1).toNat), zI (h 0 ((i : Int) + 2).toNat), zI (0), zN, zN, zN, zN, zN] := OpI.S (fun A hA => op_best hA (by first | exact hz _ | exact zint01.1 | exact zint01.2) (by first | exact hz _ | exact zint01.1 | exact zint01.2) (by first | exact hz _ | exact zint01.1 | exact zint01.2))
    obtain ⟨v, h1, h2, B, J, e1, e2, S2, f1, f2⟩ := H h A I hS
    refine ⟨h2, B, J, ?_, S2, f2⟩
    rw [b243_547 (by omega) (by omega) (by omega) (by omega) (by omega) (by omega) (by omega), if_pos c, b243_567 (by omega) e1 (by omega) (by omega) (by omega) (by omega) (by omega) (by omega), f1, if_pos c]
    simp only [f1]
    rw [b243_588 (by omega) e2, if_pos rfl]
  · have := 0
    have H : OpS n 132 211 [zR 1, zI (h 0 ((i : Int) + 1).toNat), zI (h 0 ((i : Int) + 2).toNat), zI (1), zN, zN, zN, zN, zN, zN, zN] [zR 202, zI (h 0 ((i : Int) + 1).toNat), zI (h 0 ((i : Int) + 2).toNat), zI (1), zN, zN, zN, zN, zN] := OpI.S (fun A hA => op_best hA (by first | exact hz _ | exact zint01.1 | exact zint01.2) (by first | exact hz _ | exact zint01.1 | exact zint01.2) (by first | exact hz _ | exact zint01.1 | exact zint01.2))
    obtain ⟨v, h1, h2, B, J, e1, e2, S2, f1, f2⟩ := H h A I hS
    refine ⟨h2, B, J, ?_, S2, f2⟩
    rw [b243_547 (by omega) (by omega) (by omega) (by omega) (by omega) (by omega) (by omega), if_neg c, b243_567 (by omega) e1 (by omega) (by omega) (by omega) (by omega) (by omega) (by omega), f1, if_neg c]
    simp only [f1]
    rw [b243_588 (by omega) e2, if_pos rfl]
theorem nx_592 {i : Nat} (hL : n ≤ 3584) (hi : i + 7 ≤ n) (hz : ∀ k, zint (h 0 k)) (hS : Sta h A I) : Nx n 592 i h := by
  have H : OpS n 133 214 [zR 1, zI (h 0 ((i : Int) + 1).toNat), zI (h 0 ((i : Int) + 2).toNat), zI (h 0 ((i : Int) + 3).toNat), zI (h 0 ((i : Int) + 4).toNat), zI (h 0 ((i : Int) + 5).toNat), zI (h 0 ((i : Int) + 6).toNat), zN, zN, zN, zN, zN, zN] [zR 202, zI (h 0 ((i : Int) + 1).toNat), zI (h 0 ((i : Int) + 2).toNat), zI (h 0 ((i : Int) + 3).toNat), zI (h 0 ((i : Int) + 4).toNat), zI (h 0 ((i : Int) + 5).toNat), zI (h 0 ((i : Int) + 6).toNat), zN, zN, zN, zN] := OpI.S (fun A hA => op_flat hA (by first | exact hz _ | exact zint01.1 | exact zint01.2) (by first | exact hz _ | exact zint01.1 | exact zint01.2) (by first | exact hz _ | exact zint01.1 | exact zint01.2) (by first | exact hz _ | exact zint01.1 | exact zint01.2) (by first | exact hz _ | exact zint01.1 | exact zint01.2) (by first | exact hz _ | exact zint01.1 | exact zint01.2))
  obtain ⟨v, h1, h2, B, J, e1, e2, S2, f1, f2⟩ := H h A I hS
  refine ⟨h2, B, J, ?_, S2, f2⟩
  rw [b243_592 (by omega) (by omega) (by omega) (by omega) (by omega) (by omega) (by omega) (by omega) (by omega) (by omega) (by omega) (by omega) (by omega), b243_623 (by omega) e1 (by omega) (by omega) (by omega) (by omega) (by omega) (by omega) (by omega) (by omega) (by omega) (by omega) (by omega) (by omega)]
  simp only [f1]
  rw [b243_655 (by omega) e2, if_pos rfl]
theorem nx_659 {i : Nat} (hL : n ≤ 3584) (hi : i + 7 ≤ n) (hz : ∀ k, zint (h 0 k)) (hS : Sta h A I) : Nx n 659 i h := by
  have H : OpS n 127 219 [zR 1, zI (h 0 ((i : Int) + 1).toNat), zI (h 0 ((i : Int) + 2).toNat), zI (h 0 ((i : Int) + 3).toNat), zI (h 0 ((i : Int) + 4).toNat), zN] [zR 202, zI (h 0 ((i : Int) + 1).toNat), zI (h 0 ((i : Int) + 2).toNat), zI (h 0 ((i : Int) + 3).toNat), zI (h 0 ((i : Int) + 4).toNat), zN, zN] := OpI.S (fun A hA => op_drawn hA (by first | exact hz _ | exact zint01.1 | exact zint01.2) (by first | exact hz _ | exact zint01.1 | exact zint01.2) (by first | exact hz _ | exact zint01.1 | exact zint01.2) (by first | exact hz _ | exact zint01.1 | exact zint01.2))
  obtain ⟨v, h1, h2, B, J, e1, e2, S2, f1, f2⟩ := H h A I hS
  refine ⟨h2, B, J, ?_, S2, f2⟩
  rw [b243_659 (by omega) (by omega) (by omega) (by omega) (by omega) (by omega) (by omega) (by omega) (by omega), b243_680 (by omega) e1 (by omega) (by omega) (by omega) (by omega) (by omega) (by omega) (by omega) (by omega)]
  simp only [f1]
  rw [b243_702 (by omega) e2, if_pos rfl]
theorem nx_706 {i : Nat} (hL : n ≤ 3584) (hi : i + 7 ≤ n) (hz : ∀ k, zint (h 0 k)) (hS : Sta h A I) : Nx n 706 i h := by
  have H : OpS n 134 220 [zR 1, zI (h 0 ((i : Int) + 1).toNat), zI (h 0 ((i : Int) + 2).toNat), zI (h 0 ((i : Int) + 3).toNat), zN] [zR 202, zI (h 0 ((i : Int) + 1).toNat), zI (h 0 ((i : Int) + 2).toNat), zI (h 0 ((i : Int) + 3).toNat), zN] := OpI.S (fun A hA => op_test hA (by first | exact hz _ | exact zint01.1 | exact zint01.2) (by first | exact hz _ | exact zint01.1 | exact zint01.2) (by first | exact hz _ | exact zint01.1 | exact zint01.2))
  obtain ⟨v, h1, h2, B, J, e1, e2, S2, f1, f2⟩ := H h A I hS
  refine ⟨h2, B, J, ?_, S2, f2⟩
  rw [b243_706 (by omega) (by omega) (by omega) (by omega) (by omega) (by omega) (by omega), b243_722 (by omega) e1 (by omega) (by omega) (by omega) (by omega) (by omega) (by omega)]
  simp only [f1]
  rw [b243_739 (by omega) e2, if_pos rfl]
theorem nx_743 {i : Nat} (hL : n ≤ 3584) (hi : i + 7 ≤ n) (hz : ∀ k, zint (h 0 k)) (hS : Sta h A I) : Nx n 743 i h := by
  by_cases c : zw (h 0 ((i : Int) + 3).toNat) = 0
  · have := 0
    have H : OpS n 135 223 [zR 1, zI (h 0 ((i : Int) + 1).toNat), zI (h 0 ((i : Int) + 2).toNat), zI (0), zN, zN, zN, zN, zN] [zR 202, zI (h 0 ((i : Int) + 1).toNat), zI (h 0 ((i : Int) + 2).toNat), zI (0), zN, zN, zN] := OpI.S (fun A hA => op_fails hA (by first | exact hz _ | exact zint01.1 | exact zint01.2) (by first | exact hz _ | exact zint01.1 | exact zint01.2) (by first | exact hz _ | exact zint01.1 | exact zint01.2))
    obtain ⟨v, h1, h2, B, J, e1, e2, S2, f1, f2⟩ := H h A I hS
    refine ⟨h2, B, J, ?_, S2, f2⟩
    rw [b243_743 (by omega) (by omega) (by omega) (by omega) (by omega) (by omega) (by omega), if_pos c, b243_763 (by omega) e1 (by omega) (by omega) (by omega) (by omega) (by omega) (by omega), f1, if_pos c]
    simp only [f1]
    rw [b243_784 (by omega) e2, if_pos rfl]
  · have := 0
    have H : OpS n 135 223 [zR 1, zI (h 0 ((i : Int) + 1).toNat), zI (h 0 ((i : Int) + 2).toNat), zI (1), zN, zN, zN, zN, zN] [zR 202, zI (h 0 ((i : Int) + 1).toNat), zI (h 0 ((i : Int) + 2).toNat), zI (1), zN, zN, zN] := OpI.S (fun A hA => op_fails hA (by first | exact hz _ | exact zint01.1 | exact zint01.2) (by first | exact hz _ | exact zint01.1 | exact zint01.2) (by first | exact hz _ | exact zint01.1 | exact zint01.2))
    obtain ⟨v, h1, h2, B, J, e1, e2, S2, f1, f2⟩ := H h A I hS
    refine ⟨h2, B, J, ?_, S2, f2⟩
    rw [b243_743 (by omega) (by omega) (by omega) (by omega) (by omega) (by omega) (by omega), if_neg c, b243_763 (by omega) e1 (by omega) (by omega) (by omega) (by omega) (by omega) (by omega), f1, if_neg c]
    simp only [f1]
    rw [b243_784 (by omega) e2, if_pos rfl]
theorem nx_788 {i : Nat} (hL : n ≤ 3584) (hi : i + 7 ≤ n) (hz : ∀ k, zint (h 0 k)) (hS : Sta h A I) : Nx n 788 i h := by
  have H : OpS n 118 224 [zR 1, zI (h 0 ((i : Int) + 1).toNat), zI (h 0 ((i : Int) + 2).toNat), zI (h 0 ((i : Int) + 3).toNat), zI (h 0 ((i : Int) + 4).toNat), zI (h 0 ((i : Int) + 5).toNat)] [zR 202, zI (h 0 ((i : Int) + 1).toNat), zI (h 0 ((i : Int) + 2).toNat), zI (h 0 ((i : Int) + 3).toNat), zI (h 0 ((i : Int) + 4).toNat), zI (h 0 ((i : Int) + 5).toNat), zN, zN, zN, zN] := OpI.S (fun A hA => op_round hA (by first | exact hz _ | exact zint01.1 | exact zint01.2) (by first | exact hz _ | exact zint01.1 | exact zint01.2) (by first | exact hz _ | exact zint01.1 | exact zint01.2) (by first | exact hz _ | exact zint01.1 | exact zint01.2) (by first | exact hz _ | exact zint01.1 | exact zint01.2))
  obtain ⟨v, h1, h2, B, J, e1, e2, S2, f1, f2⟩ := H h A I hS
  refine ⟨h2, B, J, ?_, S2, f2⟩
  rw [b243_788 (by omega) (by omega) (by omega) (by omega) (by omega) (by omega) (by omega) (by omega) (by omega) (by omega) (by omega), b243_814 (by omega) e1 (by omega) (by omega) (by omega) (by omega) (by omega) (by omega) (by omega) (by omega) (by omega) (by omega)]
  simp only [f1]
  rw [b243_841 (by omega) e2, if_pos rfl]
theorem nx_845 {i : Nat} (hL : n ≤ 3584) (hi : i + 7 ≤ n) (hz : ∀ k, zint (h 0 k)) (hS : Sta h A I) : Nx n 845 i h := by
  have H : OpS n 119 227 [zR 1, zI (h 0 ((i : Int) + 1).toNat)] [zR 202, zI (h 0 ((i : Int) + 1).toNat), zN, zN, zN, zN, zN] := OpI.S (fun A hA => op_paired hA (by first | exact hz _ | exact zint01.1 | exact zint01.2))
  obtain ⟨v, h1, h2, B, J, e1, e2, S2, f1, f2⟩ := H h A I hS
  refine ⟨h2, B, J, ?_, S2, f2⟩
  rw [b243_845 (by omega) (by omega) (by omega), b243_851 (by omega) e1 (by omega) (by omega)]
  simp only [f1]
  rw [b243_858 (by omega) e2, if_pos rfl]
theorem nx_862 {i : Nat} (hL : n ≤ 3584) (hi : i + 7 ≤ n) (hz : ∀ k, zint (h 0 k)) (hS : Sta h A I) : Nx n 862 i h := by
  have H : OpS n 120 229 [zR 1, zI (h 0 ((i : Int) + 1).toNat), zI (h 0 ((i : Int) + 2).toNat)] [zR 202, zI (h 0 ((i : Int) + 1).toNat), zI (h 0 ((i : Int) + 2).toNat), zN, zN] := OpI.S (fun A hA => op_above hA (by first | exact hz _ | exact zint01.1 | exact zint01.2) (by first | exact hz _ | exact zint01.1 | exact zint01.2))
  obtain ⟨v, h1, h2, B, J, e1, e2, S2, f1, f2⟩ := H h A I hS
  refine ⟨h2, B, J, ?_, S2, f2⟩
  rw [b243_862 (by omega) (by omega) (by omega) (by omega) (by omega), b243_873 (by omega) e1 (by omega) (by omega) (by omega) (by omega)]
  simp only [f1]
  rw [b243_885 (by omega) e2, if_pos rfl]
theorem nx_889 {i : Nat} (hL : n ≤ 3584) (hi : i + 7 ≤ n) (hz : ∀ k, zint (h 0 k)) (hS : Sta h A I) : Nx n 889 i h := by
  have H : OpS n 121 231 [zR 1, zI (h 0 ((i : Int) + 1).toNat), zI (h 0 ((i : Int) + 2).toNat)] [zR 202, zI (h 0 ((i : Int) + 1).toNat), zI (h 0 ((i : Int) + 2).toNat), zN, zN] := OpI.S (fun A hA => op_fringes hA (by first | exact hz _ | exact zint01.1 | exact zint01.2) (by first | exact hz _ | exact zint01.1 | exact zint01.2))
  obtain ⟨v, h1, h2, B, J, e1, e2, S2, f1, f2⟩ := H h A I hS
  refine ⟨h2, B, J, ?_, S2, f2⟩
  rw [b243_889 (by omega) (by omega) (by omega) (by omega) (by omega), b243_900 (by omega) e1 (by omega) (by omega) (by omega) (by omega)]
  simp only [f1]
  rw [b243_912 (by omega) e2, if_pos rfl]
theorem nx_916 {i : Nat} (hL : n ≤ 3584) (hi : i + 7 ≤ n) (hz : ∀ k, zint (h 0 k)) (hS : Sta h A I) : Nx n 916 i h := by
  have H : OpS n 128 232 [zR 1, zI (h 0 ((i : Int) + 1).toNat), zI (h 0 ((i : Int) + 2).toNat), zN, zN, zN] [zR 202, zI (h 0 ((i : Int) + 1).toNat), zI (h 0 ((i : Int) + 2).toNat), zN, zN, zN, zN] := OpI.S (fun A hA => op_tough hA (by first | exact hz _ | exact zint01.1 | exact zint01.2) (by first | exact hz _ | exact zint01.1 | exact zint01.2))
  obtain ⟨v, h1, h2, B, J, e1, e2, S2, f1, f2⟩ := H h A I hS
  refine ⟨h2, B, J, ?_, S2, f2⟩
  rw [b243_916 (by omega) (by omega) (by omega) (by omega) (by omega), b243_927 (by omega) e1 (by omega) (by omega) (by omega) (by omega)]
  simp only [f1]
  rw [b243_939 (by omega) e2, if_pos rfl]
theorem nx_943 {i : Nat} (hL : n ≤ 3584) (hi : i + 7 ≤ n) (hz : ∀ k, zint (h 0 k)) (hS : Sta h A I) : Nx n 943 i h := by
  have H : OpS n 129 233 [zR 1, zI (h 0 ((i : Int) + 1).toNat), zI (h 0 ((i : Int) + 2).toNat), zI (h 0 ((i : Int) + 3).toNat), zN] [zR 202, zI (h 0 ((i : Int) + 1).toNat), zI (h 0 ((i : Int) + 2).toNat), zI (h 0 ((i : Int) + 3).toNat)] := OpI.S (fun A hA => op_dim hA (by first | exact hz _ | exact zint01.1 | exact zint01.2) (by first | exact hz _ | exact zint01.1 | exact zint01.2) (by first | exact hz _ | exact zint01.1 | exact zint01.2))
  obtain ⟨v, h1, h2, B, J, e1, e2, S2, f1, f2⟩ := H h A I hS
  refine ⟨h2, B, J, ?_, S2, f2⟩
  rw [b243_943 (by omega) (by omega) (by omega) (by omega) (by omega) (by omega) (by omega), b243_959 (by omega) e1 (by omega) (by omega) (by omega) (by omega) (by omega) (by omega)]
  simp only [f1]
  rw [b243_976 (by omega) e2, if_pos rfl]
theorem nx_980 {i : Nat} (hL : n ≤ 3584) (hi : i + 7 ≤ n) (hz : ∀ k, zint (h 0 k)) (hS : Sta h A I) : Nx n 980 i h := by
  have H : OpS n 130 234 [zR 1, zI (h 0 ((i : Int) + 1).toNat), zI (h 0 ((i : Int) + 2).toNat), zN, zN] [zR 202, zI (h 0 ((i : Int) + 1).toNat), zI (h 0 ((i : Int) + 2).toNat)] := OpI.S (fun A hA => op_solid hA (by first | exact hz _ | exact zint01.1 | exact zint01.2) (by first | exact hz _ | exact zint01.1 | exact zint01.2))
  obtain ⟨v, h1, h2, B, J, e1, e2, S2, f1, f2⟩ := H h A I hS
  refine ⟨h2, B, J, ?_, S2, f2⟩
  rw [b243_980 (by omega) (by omega) (by omega) (by omega) (by omega), b243_991 (by omega) e1 (by omega) (by omega) (by omega) (by omega)]
  simp only [f1]
  rw [b243_1003 (by omega) e2, if_pos rfl]
theorem nx_1007 {i : Nat} (hL : n ≤ 3584) (hi : i + 7 ≤ n) (hz : ∀ k, zint (h 0 k)) (hS : Sta h A I) : Nx n 1007 i h := by
  have H : OpS n 100 235 [zR 1, zI (h 0 ((i : Int) + 1).toNat)] [zR 202, zI (h 0 ((i : Int) + 1).toNat)] := OpI.S (fun A hA => op_count hA (by first | exact hz _ | exact zint01.1 | exact zint01.2))
  obtain ⟨v, h1, h2, B, J, e1, e2, S2, f1, f2⟩ := H h A I hS
  refine ⟨h2, B, J, ?_, S2, f2⟩
  rw [b243_1007 (by omega) (by omega) (by omega), b243_1013 (by omega) e1 (by omega) (by omega)]
  simp only [f1]
  rw [b243_1020 (by omega) e2, if_pos rfl]
theorem nx_1024 {i : Nat} (hL : n ≤ 3584) (hi : i + 7 ≤ n) (hz : ∀ k, zint (h 0 k)) (hS : Sta h A I) : Nx n 1024 i h := by
  have H : OpS n 101 236 [zR 1, zI (h 0 ((i : Int) + 1).toNat)] [zR 202, zI (h 0 ((i : Int) + 1).toNat)] := op_image (by first | exact hz _ | exact zint01.1 | exact zint01.2)
  obtain ⟨v, h1, h2, B, J, e1, e2, S2, f1, f2⟩ := H h A I hS
  refine ⟨h2, B, J, ?_, S2, f2⟩
  rw [b243_1024 (by omega) (by omega) (by omega), b243_1030 (by omega) e1 (by omega) (by omega)]
  simp only [f1]
  rw [b243_1037 (by omega) e2, if_pos rfl]
theorem nx_1041 {i : Nat} (hL : n ≤ 3584) (hi : i + 7 ≤ n) (hz : ∀ k, zint (h 0 k)) (hS : Sta h A I) : Nx n 1041 i h := by
  have H : OpS n 102 237 [zR 1, zI (h 0 ((i : Int) + 1).toNat)] [zR 202, zI (h 0 ((i : Int) + 1).toNat)] := op_again (by first | exact hz _ | exact zint01.1 | exact zint01.2)
  obtain ⟨v, h1, h2, B, J, e1, e2, S2, f1, f2⟩ := H h A I hS
  refine ⟨h2, B, J, ?_, S2, f2⟩
  rw [b243_1041 (by omega) (by omega) (by omega), b243_1047 (by omega) e1 (by omega) (by omega)]
  simp only [f1]
  rw [b243_1054 (by omega) e2, if_pos rfl]
theorem zfind_in (z : Int) : ∀ (l : List (Int × Nat)) (d : Nat), zfind z l d = d ∨ zfind z l d ∈ l.map (·.2)
  | [], d => Or.inl rfl
  | q :: qs, d => by
    unfold zfind
    by_cases c : q.1 = z
    · rw [if_pos c]; exact Or.inr (List.mem_cons_self)
    · rw [if_neg c]
      rcases zfind_in z qs d with e | e
      · exact Or.inl e
      · exact Or.inr (List.mem_cons_of_mem _ e)
theorem nx_all {i pc : Nat} (Ht : ∀ a b, zint a → zint b → OpS n 97 160 [zR 1, zI a, zI b, zN, zN] [zR 202, zI a, zI b, zN, zN]) (hL : n ≤ 3584) (hi : i + 7 ≤ n) (hz : ∀ k, zint (h 0 k)) (hS : Sta h A I) (hp : pc = 1058 ∨ pc ∈ [22, 79, 96, 123, 140, 167, 204, 241, 296, 333, 370, 408, 453, 490, 547, 592, 659, 706, 743, 788, 845, 862, 889, 916, 943, 980, 1007, 1024, 1041]) : Nx n pc i h := by
  rcases hp with e | e
  · subst e; exact ⟨h, A, I, rfl, hS, fun k => rfl⟩
  · simp only [List.mem_cons, List.not_mem_nil, or_false] at e
    rcases e with e | e | e | e | e | e | e | e | e | e | e | e | e | e | e | e | e | e | e | e | e | e | e | e | e | e | e | e | e <;> subst e
    · exact nx_22 hL hi hz hS
    · exact nx_79 hL hi hz hS
    · exact nx_96 Ht hL hi hz hS
    · exact nx_123 hL hi hz hS
    · exact nx_140 hL hi hz hS
    · exact nx_167 hL hi hz hS
    · exact nx_204 hL hi hz hS
    · exact nx_241 hL hi hz hS
    · exact nx_296 hL hi hz hS
    · exact nx_333 hL hi hz hS
    · exact nx_370 hL hi hz hS
    · exact nx_408 hL hi hz hS
    · exact nx_453 hL hi hz hS
    · exact nx_490 hL hi hz hS
    · exact nx_547 hL hi hz hS
    · exact nx_592 hL hi hz hS
    · exact nx_659 hL hi hz hS
    · exact nx_706 hL hi hz hS
    · exact nx_743 hL hi hz hS
    · exact nx_788 hL hi hz hS
    · exact nx_845 hL hi hz hS
    · exact nx_862 hL hi hz hS
    · exact nx_889 hL hi hz hS
    · exact nx_916 hL hi hz hS
    · exact nx_943 hL hi hz hS
    · exact nx_980 hL hi hz hS
    · exact nx_1007 hL hi hz hS
    · exact nx_1024 hL hi hz hS
    · exact nx_1041 hL hi hz hS
theorem zrun_end {i : Nat} (hL : n ≤ 3584) (h4 : i ≤ 4000) (c : ¬ i + 7 ≤ n) : Zx 243 10 [zR 0, zR 1, zR 202, zI (i : Int)] [] (Z0 n) h = some (some (zI 1), Z0 n, h) := by
  rw [b243_10 (by omega) (by rw [zw_id (z := (n : Int) - 7) (by omega) (by omega), zw_nat (n := i) (by omega)]; intros; omega) (by rw [zw_id (z := (n : Int) - 7) (by omega) (by omega), zw_nat (n := i) (by omega)]; intros; omega), zw_id (z := (n : Int) - 7) (by omega) (by omega), zw_nat (n := i) (by omega), if_pos (by omega)]
theorem zrun (Ht : ∀ a b, zint a → zint b → OpS n 97 160 [zR 1, zI a, zI b, zN, zN] [zR 202, zI a, zI b, zN, zN]) (hL : n ≤ 3584) : ∀ (f i : Nat) (h : zH) (A : aS) (I : Nat → Option aS), n < i + f → i ≤ 4000 → (∀ k, zint (h 0 k)) → Sta h A I → ∃ h', Zx 243 10 [zR 0, zR 1, zR 202, zI (i : Int)] [] (Z0 n) h = some (some (zI 1), Z0 n, h')
  | 0, i, h, A, I, hf, h4, hz, hS => ⟨h, zrun_end hL h4 (by omega)⟩
  | f + 1, i, h, A, I, hf, h4, hz, hS => by
    by_cases c : i + 7 ≤ n
    case neg => exact ⟨h, zrun_end hL h4 c⟩
    have e := b243_10 (n := n) (h := h) (l3 := (i : Int)) (by omega) (by rw [zw_id (z := (n : Int) - 7) (by omega) (by omega), zw_nat (n := i) (by omega)]; intros; omega) (by rw [zw_id (z := (n : Int) - 7) (by omega) (by omega), zw_nat (n := i) (by omega)]; intros; omega)
    rw [zw_id (z := (n : Int) - 7) (by omega) (by omega), zw_nat (n := i) (by omega), if_neg (by omega)] at e
    have z := zfind_in (zw (zband (h 0 ((i : Int)).toNat) 31)) [(0, 22), (1, 79), (2, 96), (3, 123), (4, 140), (5, 167), (6, 204), (7, 241), (8, 296), (9, 333), (10, 370), (11, 408), (12, 453), (13, 490), (14, 547), (15, 592), (16, 659), (17, 706), (18, 743), (19, 788), (20, 845), (21, 862), (22, 889), (23, 916), (24, 943), (25, 980), (26, 1007), (27, 1024), (28, 1041)] 1058
    obtain ⟨h2, B, J, e2, S2, f2⟩ := nx_all (n := n) (i := i) Ht hL c hz hS z
    obtain ⟨h', e3⟩ := zrun Ht hL f (i + 7) h2 B J (by omega) (by omega) (fun k => by rw [f2]; exact hz k) S2
    refine ⟨h', ?_⟩
    rw [e, e2, b243_1058 (by omega), show (i : Int) + 7 = ((i + 7 : Nat) : Int) by omega]
    exact e3
def A0 : aS := (0, fun _ => 0, 0, fun _ => (0, 0, 0, fun _ => 0, fun _ => 0, fun _ => 0, fun _ => false), 0, fun _ => (0, fun _ => 0, fun _ => 0), 0, -1)
theorem zlaw_of (Ht : ∀ n a b, zint a → zint b → OpS n 97 160 [zR 1, zI a, zI b, zN, zN] [zR 202, zI a, zI b, zN, zN]) : zLaw := fun L h hL hz => by
  obtain ⟨h0, e0, k0, k2, k103, k172, k204, k205, k206, k207, k237⟩ := zhead (L := L) (h := h)
  have S0 : Sta h0 A0 (fun _ => none) := by
    refine ⟨⟨by show 0 ≤ 600; omega, by show 0 ≤ 3; omega, fun p hp => absurd hp (Nat.not_lt_zero p), by show 0 ≤ 2; omega, fun p hp => absurd hp (Nat.not_lt_zero p), ⟨by show (-2147483648 : Int) ≤ 0; omega, by show (0 : Int) < 2147483648; omega⟩, ⟨by show (-2147483648 : Int) ≤ -1; omega, by show (-1 : Int) < 2147483648; omega⟩⟩, ⟨⟨?_, fun k hk => absurd hk (Nat.not_lt_zero k), ?_, fun k hk => absurd hk (Nat.not_lt_zero k), ?_, fun k hk => absurd hk (Nat.not_lt_zero k), ?_, ?_⟩, fun p hp => Or.inl ?_⟩, ⟨?_, fun k hk => absurd hk (Nat.not_lt_zero k), ?_, fun k hk => absurd hk (Nat.not_lt_zero k), ?_, fun k hk => absurd hk (Nat.not_lt_zero k), ?_, ?_⟩, fun i hi => ⟨?_, ?_⟩⟩
    · rw [k2]; rfl
    · rw [k2]; rfl
    · rw [k2]; rfl
    · rw [k2]; rfl
    · rw [k2]; rfl
    · rw [k172]; rfl
    · rw [k204]; rfl
    · rw [k207]; rfl
    · rw [k207]; rfl
    · rw [k205]; rfl
    · rw [k206]; rfl
    · rw [k103]; rfl
    · rw [k237]; rfl
  obtain ⟨h', e⟩ := zrun (n := L) (Ht L) hL (L + 1) 0 h0 A0 (fun _ => none) (by omega) (by omega) (fun k => by rw [k0]; exact hz k) S0
  refine ⟨Z0 L, h', ?_, by rw [zlen_Z0]; omega, by rw [zcs_Z0]; omega⟩
  rw [e0]
  exact e
end LAW
