/-! THE LAW'S HEAD: both objects are made -/
set_option maxRecDepth 100000 in
theorem zcs_Z0 (L : Nat) : zcs (Z0 L) = L + 79451 := rfl
set_option maxRecDepth 100000 in
theorem zlen_Z0 (L : Nat) : (Z0 L).length = 238 := rfl
set_option maxRecDepth 100000 in
theorem zmade_Z0 (L : Nat) : ([(108, L, [])] ++ cl9 1) ++ cl10 202 = Z0 L := rfl
set_option maxRecDepth 100000 in
theorem cl9_len {b : Nat} : (cl9 b).length = 201 := rfl
theorem zhead {L : Nat} {h : zH} : ∃ h0, Zx 243 0 [zR 0, zN, zN, zN] [] [(108, L, [])] h = Zx 243 10 [zR 0, zR 1, zR 202, zI 0] [] (Z0 L) h0 ∧ (∀ k, h0 0 k = h 0 k) ∧ (∀ k, h0 2 k = if k = 7 then -1 else 0) ∧ (∀ k, h0 103 k = 0) ∧ (∀ k, h0 172 k = 0) ∧ (∀ k, h0 204 k = 0) ∧ (∀ k, h0 205 k = 0) ∧ (∀ k, h0 206 k = if k = 0 then -1 else 0) ∧ (∀ k, h0 207 k = 0) ∧ ∀ k, h0 237 k = 0 := by
  have e0 : Zx 243 0 [zR 0, zN, zN, zN] [] [(108, L, [])] h = Zx 243 1 [zR 0, zN, zN, zN] [zR 1] ([(108, L, [])] ++ [(9, 10, List.replicate 10 none)]) (zhn h 1) := Zx_new rfl rfl ⟨by simp [zvalidS, zvalid], by simp⟩
  have e1 : Zx 243 1 [zR 0, zN, zN, zN] [zR 1] ([(108, L, [])] ++ [(9, 10, List.replicate 10 none)]) (zhn h 1) = Zx 243 2 [zR 0, zN, zN, zN] [zR 1, zR 1] ([(108, L, [])] ++ [(9, 10, List.replicate 10 none)]) (zhn h 1) := Zx_next rfl rfl
  obtain ⟨h1, hr1, hw1, hf1, g1, g2, g3⟩ := zc_94 (S1 := [(108, L, [])]) (h := zhn h 1) (by simp [zvalidS]) (by simp)
  have hl1 : ([(108, L, [])] ++ cl9 1 : zS).length = 202 := by rw [List.length_append, cl9_len]; rfl
  have hw1 : zvalidS ([(108, L, [])] ++ cl9 1) = true := hw1
  have hr1 : Zx 94 0 [zR 1] [] ([(108, L, [])] ++ [(9, 10, List.replicate 10 none)]) (zhn h 1) = some (none, [(108, L, [])] ++ cl9 1, h1) := hr1
  have hZ := zmade_Z0 L
  generalize ([(108, L, [])] ++ cl9 1 : zS) = S2 at hl1 hw1 hr1 hZ
  have e2 : Zx 243 2 [zR 0, zN, zN, zN] [zR 1, zR 1] ([(108, L, [])] ++ [(9, 10, List.replicate 10 none)]) (zhn h 1) = Zx 243 3 [zR 0, zN, zN, zN] [zR 1] S2 h1 := Zx_ci (b := 1) (st2 := [zR 1]) rfl rfl (by decide) rfl rfl rfl (Nat.le_of_ble_eq_true rfl) (Nat.le_of_ble_eq_true rfl) (Nat.le_of_ble_eq_true rfl) rfl hr1 (Or.inr (by simp [zvalid])) rfl
  have e3 : Zx 243 3 [zR 0, zN, zN, zN] [zR 1] S2 h1 = Zx 243 4 [zR 0, zR 1, zN, zN] [] S2 h1 := Zx_next rfl rfl
  have e4 : Zx 243 4 [zR 0, zR 1, zN, zN] [] S2 h1 = Zx 243 5 [zR 0, zR 1, zN, zN] [zR 202] (S2 ++ [(10, 63, List.replicate 63 none)]) (zhn h1 202) := by
    have := Zx_new (k := 243) (i := 4) (L := [zR 0, zR 1, zN, zN]) (st := []) (S := S2) (h := h1) rfl rfl ⟨by rw [hw1, hl1]; rfl, by rw [hl1]; decide⟩
    rw [hl1] at this
    exact this
  have e5 : Zx 243 5 [zR 0, zR 1, zN, zN] [zR 202] (S2 ++ [(10, 63, List.replicate 63 none)]) (zhn h1 202) = Zx 243 6 [zR 0, zR 1, zN, zN] [zR 202, zR 202] (S2 ++ [(10, 63, List.replicate 63 none)]) (zhn h1 202) := Zx_next rfl rfl
  obtain ⟨h2, hr2, hw2, hf2, k1, k2, k3, k4, k5⟩ := zc_137 (S1 := S2) (h := zhn h1 202) hw1 (by rw [hl1]; decide)
  rw [hl1] at hr2 hw2 hf2 k1 k2 k3 k4 k5
  have hr2 : Zx 137 0 [zR 202] [] (S2 ++ [(10, 63, List.replicate 63 none)]) (zhn h1 202) = some (none, S2 ++ cl10 202, h2) := hr2
  have e6 : Zx 243 6 [zR 0, zR 1, zN, zN] [zR 202, zR 202] (S2 ++ [(10, 63, List.replicate 63 none)]) (zhn h1 202) = Zx 243 7 [zR 0, zR 1, zN, zN] [zR 202] (S2 ++ cl10 202) h2 := Zx_ci (b := 1) (st2 := [zR 202]) rfl rfl (by decide) rfl rfl rfl (Nat.le_of_ble_eq_true rfl) (Nat.le_of_ble_eq_true rfl) (Nat.le_of_ble_eq_true rfl) rfl hr2 (Or.inr (by simp [zvalid, hl1])) rfl
  rw [hZ] at e6
  have e7 : Zx 243 7 [zR 0, zR 1, zN, zN] [zR 202] (Z0 L) h2 = Zx 243 8 [zR 0, zR 1, zR 202, zN] [] (Z0 L) h2 := Zx_next rfl rfl
  have e8 : Zx 243 8 [zR 0, zR 1, zR 202, zN] [] (Z0 L) h2 = Zx 243 9 [zR 0, zR 1, zR 202, zN] [zI 0] (Z0 L) h2 := Zx_next rfl rfl
  have e9 : Zx 243 9 [zR 0, zR 1, zR 202, zN] [zI 0] (Z0 L) h2 = Zx 243 10 [zR 0, zR 1, zR 202, zI 0] [] (Z0 L) h2 := Zx_next rfl rfl
  have lt : ∀ o, o < 202 → ∀ k, h2 o k = h1 o k := fun o ho k => by
    rw [hf2 o k ho, zhn_neq (by omega)]
  refine ⟨h2, e0.trans (e1.trans (e2.trans (e3.trans (e4.trans (e5.trans (e6.trans (e7.trans (e8.trans e9)))))))), fun k => ?_, fun k => ?_, fun k => ?_, fun k => ?_, k1, k2, k3, k4, k5⟩
  · rw [lt 0 (by decide), hf1 0 k (by show 0 < 1; decide), zhn_neq (by decide)]
  · rw [lt 2 (by decide)]; exact g1 k
  · rw [lt 103 (by decide)]; exact g2 k
  · rw [lt 172 (by decide)]; exact g3 k
