/-! THE LAW'S HEAD: both objects are made -/
theorem zcs_Z0 (L : Nat) : zcs (Z0 L) = L + 79451 := rfl
theorem zlen_Z0 (L : Nat) : (Z0 L).length = 238 := rfl
theorem zhead {L : Nat} {h : zH} : ∃ h0, Zx 243 0 [zR 0, zN, zN, zN] [] [(108, L, [])] h = Zx 243 10 [zR 0, zR 1, zR 202, zI 0] [] (Z0 L) h0 ∧ (∀ k, h0 0 k = h 0 k) ∧ (∀ k, h0 2 k = if k = 7 then -1 else 0) ∧ (∀ k, h0 103 k = 0) ∧ (∀ k, h0 172 k = 0) ∧ (∀ k, h0 204 k = 0) ∧ (∀ k, h0 205 k = 0) ∧ (∀ k, h0 206 k = if k = 0 then -1 else 0) ∧ (∀ k, h0 207 k = 0) ∧ ∀ k, h0 237 k = 0 := by
  have e0 : Zx 243 0 [zR 0, zN, zN, zN] [] [(108, L, [])] h = Zx 243 1 [zR 0, zN, zN, zN] [zR 1] ([(108, L, [])] ++ [(9, 10, List.replicate 10 none)]) (zhn h 1) := Zx_new rfl rfl ⟨by simp [zvalidS, zvalid], by simp⟩
  have e1 : Zx 243 1 [zR 0, zN, zN, zN] [zR 1] ([(108, L, [])] ++ [(9, 10, List.replicate 10 none)]) (zhn h 1) = Zx 243 2 [zR 0, zN, zN, zN] [zR 1, zR 1] ([(108, L, [])] ++ [(9, 10, List.replicate 10 none)]) (zhn h 1) := Zx_next rfl rfl
  obtain ⟨h1, hr1, hw1, hf1, g1, g2, g3⟩ := zc_94 (S1 := [(108, L, [])]) (h := zhn h 1) (by simp [zvalidS]) (by simp)
  have e2 : Zx 243 2 [zR 0, zN, zN, zN] [zR 1, zR 1] ([(108, L, [])] ++ [(9, 10, List.replicate 10 none)]) (zhn h 1) = Zx 243 3 [zR 0, zN, zN, zN] [zR 1] ([(108, L, [])] ++ cl9 1) h1 := Zx_ci (b := 1) (st2 := [zR 1]) rfl rfl (by decide) rfl rfl rfl (Nat.le_of_ble_eq_true rfl) (Nat.le_of_ble_eq_true rfl) (Nat.le_of_ble_eq_true rfl) rfl hr1 (Or.inr (by simp [zvalid])) rfl
  have e3 : Zx 243 3 [zR 0, zN, zN, zN] [zR 1] ([(108, L, [])] ++ cl9 1) h1 = Zx 243 4 [zR 0, zR 1, zN, zN] [] ([(108, L, [])] ++ cl9 1) h1 := Zx_next rfl rfl
  have e4 : Zx 243 4 [zR 0, zR 1, zN, zN] [] ([(108, L, [])] ++ cl9 1) h1 = Zx 243 5 [zR 0, zR 1, zN, zN] [zR 202] (([(108, L, [])] ++ cl9 1) ++ [(10, 63, List.replicate 63 none)]) (zhn h1 202) := Zx_new rfl rfl ⟨by rw [show zvalidS ([(108, L, [])] ++ cl9 1) = true from hw1]; rfl, by show 202 < 1000000; decide⟩
  have e5 : Zx 243 5 [zR 0, zR 1, zN, zN] [zR 202] (([(108, L, [])] ++ cl9 1) ++ [(10, 63, List.replicate 63 none)]) (zhn h1 202) = Zx 243 6 [zR 0, zR 1, zN, zN] [zR 202, zR 202] (([(108, L, [])] ++ cl9 1) ++ [(10, 63, List.replicate 63 none)]) (zhn h1 202) := Zx_next rfl rfl
  obtain ⟨h2, hr2, hw2, hf2, k1, k2, k3, k4, k5⟩ := zc_137 (S1 := [(108, L, [])] ++ cl9 1) (h := zhn h1 202) hw1 (by show 202 ≤ 700000; decide)
  have e6 : Zx 243 6 [zR 0, zR 1, zN, zN] [zR 202, zR 202] (([(108, L, [])] ++ cl9 1) ++ [(10, 63, List.replicate 63 none)]) (zhn h1 202) = Zx 243 7 [zR 0, zR 1, zN, zN] [zR 202] (([(108, L, [])] ++ cl9 1) ++ cl10 202) h2 := Zx_ci (b := 1) (st2 := [zR 202]) rfl rfl (by decide) rfl rfl rfl (Nat.le_of_ble_eq_true rfl) (Nat.le_of_ble_eq_true rfl) (Nat.le_of_ble_eq_true rfl) rfl hr2 (Or.inr rfl) rfl
  have e7 : Zx 243 7 [zR 0, zR 1, zN, zN] [zR 202] (([(108, L, [])] ++ cl9 1) ++ cl10 202) h2 = Zx 243 8 [zR 0, zR 1, zR 202, zN] [] (([(108, L, [])] ++ cl9 1) ++ cl10 202) h2 := Zx_next rfl rfl
  have e8 : Zx 243 8 [zR 0, zR 1, zR 202, zN] [] (([(108, L, [])] ++ cl9 1) ++ cl10 202) h2 = Zx 243 9 [zR 0, zR 1, zR 202, zN] [zI 0] (([(108, L, [])] ++ cl9 1) ++ cl10 202) h2 := Zx_next rfl rfl
  have e9 : Zx 243 9 [zR 0, zR 1, zR 202, zN] [zI 0] (([(108, L, [])] ++ cl9 1) ++ cl10 202) h2 = Zx 243 10 [zR 0, zR 1, zR 202, zI 0] [] (([(108, L, [])] ++ cl9 1) ++ cl10 202) h2 := Zx_next rfl rfl
  have hZ : ([(108, L, [])] ++ cl9 1) ++ cl10 202 = Z0 L := rfl
  have lt : ∀ o, o < 202 → ∀ k, h2 o k = h1 o k := fun o ho k => by
    rw [hf2 o k (show o < 202 from ho), zhn_neq (by omega)]
  refine ⟨h2, ?_, fun k => ?_, fun k => ?_, fun k => ?_, fun k => ?_, k1, k2, k3, k4, k5⟩
  · rw [← hZ]
    exact e0.trans (e1.trans (e2.trans (e3.trans (e4.trans (e5.trans (e6.trans (e7.trans (e8.trans e9))))))))
  · rw [lt 0 (by decide), hf1 0 k (by show 0 < 1; decide), zhn_neq (by decide)]
  · rw [lt 2 (by decide)]; exact g1 k
  · rw [lt 103 (by decide)]; exact g2 k
  · rw [lt 172 (by decide)]; exact g3 k
