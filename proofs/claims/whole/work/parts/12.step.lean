/-! THE SMALL MACHINE IS SOUND: what a step on the heap was; one step -/
section ZIN
variable {i : Nat} {L st : List zV} {S : zS} {h : zH} {j : Nat} {L' st' : List zV} {S' : zS} {h' : zH}
theorem zget_inv {ci k : Nat} (hs : zget ci k i L st S h = some (.inl (j, L', st', S', h'))) : ∃ o v r, st = zR o :: r ∧ (zC S o).1 = ci ∧ j = i + 1 ∧ L' = L ∧ st' = v :: r ∧ S' = S ∧ h' = h ∧ ∀ ad : Nat → Nat, zt ad v = zFv ad (zty (zTys ci k)) (h o k) ((zC S o).2.2.getD k none) := by
  unfold zget znext at hs
  split at hs
  · split at hs
    · rename_i hk
      split at hs
      · rename_i ht
        cases hs
        exact ⟨_, _, _, rfl, hk, rfl, rfl, rfl, rfl, rfl, fun ad => by rw [ht]; rfl⟩
      · rename_i ht
        cases hs
        exact ⟨_, _, _, rfl, hk, rfl, rfl, rfl, rfl, rfl, fun ad => by rw [ht]; rfl⟩
      · rename_i ht
        cases hs
        exact ⟨_, _, _, rfl, hk, rfl, rfl, rfl, rfl, rfl, fun ad => by rw [ht]; rfl⟩
      · rename_i ht
        split at hs
        · rename_i q hq
          cases hs
          exact ⟨_, _, _, rfl, hk, rfl, rfl, rfl, rfl, rfl, fun ad => by rw [ht, hq]; rfl⟩
        · cases hs
      · cases hs
    · cases hs
  · cases hs
theorem zput_inv {ci k : Nat} (hs : zput ci k i L st S h = some (.inl (j, L', st', S', h'))) : ∃ o v, st = v :: zR o :: st' ∧ (zC S o).1 = ci ∧ j = i + 1 ∧ L' = L ∧
    ((∃ z, v = zI z ∧ zty (zTys ci k) = 0 ∧ S' = S ∧ h' = zu h o k z) ∨ (∃ z, v = zL z ∧ zty (zTys ci k) = 1 ∧ S' = S ∧ h' = zu h o k z) ∨ (∃ z, v = zI z ∧ zty (zTys ci k) = 2 ∧ (z = 0 ∨ z = 1) ∧ S' = S ∧ h' = zu h o k z) ∨ (∃ q, v = zR q ∧ zty (zTys ci k) = 3 ∧ S' = zrset S o k (some q) ∧ h' = h)) := by
  unfold zput znext at hs
  split at hs
  · split at hs
    · rename_i hk
      split at hs
      · rename_i ht
        cases hs
        exact ⟨_, _, rfl, hk, rfl, rfl, Or.inl ⟨_, rfl, ht, rfl, rfl⟩⟩
      · rename_i ht
        cases hs
        exact ⟨_, _, rfl, hk, rfl, rfl, Or.inr (Or.inl ⟨_, rfl, ht, rfl, rfl⟩)⟩
      · rename_i ht
        split at hs
        · rename_i hz
          cases hs
          exact ⟨_, _, rfl, hk, rfl, rfl, Or.inr (Or.inr (Or.inl ⟨_, rfl, ht, hz, rfl, rfl⟩))⟩
        · cases hs
      · rename_i ht
        cases hs
        exact ⟨_, _, rfl, hk, rfl, rfl, Or.inr (Or.inr (Or.inr ⟨_, rfl, ht, rfl, rfl⟩))⟩
      · cases hs
    · cases hs
  · cases hs
theorem zald_inv {kd : Nat} (hs : zald kd i L st S h = some (.inl (j, L', st', S', h'))) : ∃ x o a v r, st = zI x :: zR o :: r ∧ (zC S o).1 = kd ∧ zidx x (zC S o).2.1 = some a ∧ j = i + 1 ∧ L' = L ∧ st' = v :: r ∧ S' = S ∧ h' = h ∧
    ((kd = 100 ∧ v = zI (h o a)) ∨ (kd = 101 ∧ v = zI (zb8 (h o a))) ∨ (kd = 102 ∧ v = zI (zb1 (h o a))) ∨ (kd = 103 ∧ v = zL (h o a)) ∨ (kd ≠ 100 ∧ kd ≠ 101 ∧ kd ≠ 102 ∧ kd ≠ 103 ∧ ∃ q, v = zR q ∧ (zC S o).2.2.getD a none = some q)) := by
  unfold zald znext at hs
  split at hs
  · split at hs
    · rename_i hk
      split at hs
      · cases hs
      · rename_i a ha
        split at hs
        · cases hs
          exact ⟨_, _, _, _, _, rfl, hk, ha, rfl, rfl, rfl, rfl, rfl, Or.inl ⟨rfl, rfl⟩⟩
        · cases hs
          exact ⟨_, _, _, _, _, rfl, hk, ha, rfl, rfl, rfl, rfl, rfl, Or.inr (Or.inl ⟨rfl, rfl⟩)⟩
        · cases hs
          exact ⟨_, _, _, _, _, rfl, hk, ha, rfl, rfl, rfl, rfl, rfl, Or.inr (Or.inr (Or.inl ⟨rfl, rfl⟩))⟩
        · cases hs
          exact ⟨_, _, _, _, _, rfl, hk, ha, rfl, rfl, rfl, rfl, rfl, Or.inr (Or.inr (Or.inr (Or.inl ⟨rfl, rfl⟩)))⟩
        · rename_i n1 n2 n3 n4
          split at hs
          · rename_i q hq
            cases hs
            exact ⟨_, _, _, _, _, rfl, hk, ha, rfl, rfl, rfl, rfl, rfl, Or.inr (Or.inr (Or.inr (Or.inr ⟨n1, n2, n3, n4, _, rfl, hq⟩)))⟩
          · cases hs
    · cases hs
  · cases hs
theorem zsld_inv (hs : zsld i L st S h = some (.inl (j, L', st', S', h'))) : ∃ x a r, st = zI x :: zR 0 :: r ∧ zidx x (zC S 0).2.1 = some a ∧ j = i + 1 ∧ L' = L ∧ st' = zI (h 0 a) :: r ∧ S' = S ∧ h' = h := by
  unfold zsld znext at hs
  split at hs
  · split at hs
    · cases hs
    · rename_i a ha
      cases hs
      exact ⟨_, _, _, rfl, ha, rfl, rfl, rfl, rfl, rfl⟩
  · cases hs
theorem zlen_inv {kd : Nat} (hs : zlen kd i L st S h = some (.inl (j, L', st', S', h'))) : ∃ o r, st = zR o :: r ∧ (kd = 108 ∧ o = 0 ∨ (zC S o).1 = kd ∧ 100 ≤ kd ∧ kd < 108) ∧ j = i + 1 ∧ L' = L ∧ st' = zI (zC S o).2.1 :: r ∧ S' = S ∧ h' = h := by
  unfold zlen znext at hs
  split at hs
  · split at hs
    · rename_i hk
      cases hs
      exact ⟨_, _, rfl, hk, rfl, rfl, rfl, rfl, rfl⟩
    · cases hs
  · cases hs
theorem zast_inv {kd : Nat} (hs : zast kd i L st S h = some (.inl (j, L', st', S', h'))) : ∃ v x o a, st = v :: zI x :: zR o :: st' ∧ (zC S o).1 = kd ∧ zidx x (zC S o).2.1 = some a ∧ j = i + 1 ∧ L' = L ∧
    ((∃ z, v = zI z ∧ 100 ≤ kd ∧ kd < 103 ∧ S' = S ∧ h' = zu h o a z) ∨ (∃ z, v = zL z ∧ kd = 103 ∧ S' = S ∧ h' = zu h o a z) ∨ (∃ q, v = zR q ∧ (kd = 104 ∧ (zC S q).1 = 7 ∨ kd = 105 ∧ (zC S q).1 = 2 ∨ kd = 106 ∧ (zC S q).1 = 8 ∨ kd = 107 ∧ (zC S q).1 = 0) ∧ S' = zrset S o a (some q) ∧ h' = h)) := by
  unfold zast znext at hs
  split at hs
  · split at hs
    · rename_i hk
      split at hs
      · cases hs
      · rename_i a ha
        split at hs
        · split at hs
          · rename_i hz
            cases hs
            exact ⟨_, _, _, _, rfl, hk, ha, rfl, rfl, Or.inl ⟨_, rfl, hz.1, hz.2, rfl, rfl⟩⟩
          · cases hs
        · split at hs
          · rename_i hz
            cases hs
            exact ⟨_, _, _, _, rfl, hk, ha, rfl, rfl, Or.inr (Or.inl ⟨_, rfl, hz, rfl, rfl⟩)⟩
          · cases hs
        · split at hs
          · rename_i hz
            cases hs
            exact ⟨_, _, _, _, rfl, hk, ha, rfl, rfl, Or.inr (Or.inr ⟨_, rfl, hz, rfl, rfl⟩)⟩
          · cases hs
        · cases hs
    · cases hs
  · cases hs
theorem zmake_inv {kd n nr : Nat} (hs : zmake kd n nr i L st S h = some (.inl (j, L', st', S', h'))) : zvalidS S = true ∧ L.all (zvalid S.length) = true ∧ st.all (zvalid S.length) = true ∧ j = i + 1 ∧ L' = L ∧ st' = zR S.length :: st ∧ S' = S ++ [(kd, n, List.replicate nr none)] ∧ h' = zhn h S.length := by
  unfold zmake znext at hs
  split at hs
  · rename_i hv
    simp only [Bool.and_eq_true] at hv
    cases hs
    exact ⟨hv.1.1, hv.1.2, hv.2, rfl, rfl, rfl, rfl, rfl⟩
  · cases hs
theorem znewa_inv {kd : Nat} (hs : znewa kd i L st S h = some (.inl (j, L', st', S', h'))) : ∃ x n r, st = zI x :: r ∧ zidx x 100000 = some n ∧ zmake kd n (if kd < 104 then 0 else n) i L r S h = some (.inl (j, L', st', S', h')) := by
  unfold znewa at hs
  split at hs
  · split at hs
    · rename_i n hn
      exact ⟨_, n, _, rfl, hn, hs⟩
    · cases hs
  · cases hs
theorem zcopy_inv (hs : zcopy i L st S h = some (.inl (j, L', st', S', h'))) : ∃ z y o2 x o1, st = [zI z, zI y, zR o2, zI x, zR o1] ∧ (zC S o1).1 = (zC S o2).1 ∧ ((zC S o1).1 = 100 ∨ (zC S o1).1 = 101) ∧ 0 ≤ zw x ∧ 0 ≤ zw y ∧ 0 ≤ zw z ∧ zw x + zw z ≤ (zC S o1).2.1 ∧ zw y + zw z ≤ (zC S o2).2.1 ∧ j = i + 1 ∧ L' = L ∧ st' = [] ∧ S' = S ∧ h' = zcpy h o1 (zw x).toNat o2 (zw y).toNat (zw z).toNat := by
  unfold zcopy znext at hs
  split at hs
  · split at hs
    · rename_i hk
      cases hs
      exact ⟨_, _, _, _, _, rfl, hk.1, hk.2.1, hk.2.2.1, hk.2.2.2.1, hk.2.2.2.2.1, hk.2.2.2.2.2.1, hk.2.2.2.2.2.2, rfl, rfl, rfl, rfl, rfl⟩
    · cases hs
  · cases hs
end ZIN
/-- elements in all -/
def zcs (S : zS) : Nat := (S.map fun c => c.2.1).sum
theorem zcs_app {S : zS} {c : Nat × Nat × List (Option Nat)} : zcs (S ++ [c]) = zcs S + c.2.1 := by
  simp [zcs]
theorem zcs_rset {S : zS} {o k : Nat} {v : Option Nat} : zcs (zrset S o k v) = zcs S := by
  have h : (zrset S o k v).map (fun c => c.2.1) = S.map (fun c => c.2.1) := by
    unfold zrset
    apply List.ext_getElem?
    intro i
    rw [List.getElem?_map, List.getElem?_map, List.getElem?_set]
    by_cases hi : o = i
    · subst hi
      by_cases ho : o < S.length
      · rw [if_pos rfl, if_pos ho]
        unfold zC
        rw [List.getD_eq_getElem?_getD, List.getElem?_eq_getElem ho]; rfl
      · rw [if_pos rfl, if_neg ho, List.getElem?_eq_none (by omega)]
    · rw [if_neg hi]
  unfold zcs; rw [h]
/-- the words of the JDK that a step may want -/
theorem zw_copy : Cond.native arraycopyName ∈ zGw ∧ Cond.static arraycopyName ∈ zGw ∧ Cond.initialized "java/lang/System" ∈ zGw := ⟨lw_ct3 148 rfl rfl, lw_ct3 147 rfl rfl, lw_ct1 18 rfl rfl⟩
theorem zw_init : Cond.instanceMethod Lib.objectInit ∈ zGw ∧ Cond.code Lib.objectInit ⟨#[0xb1]⟩ 1 none ∈ zGw := ⟨lw_ct1 25 rfl rfl, lw_ct1 26 rfl rfl⟩
