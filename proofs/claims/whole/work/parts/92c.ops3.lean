/-! QUESTIONS: count, fault, test, fails -/
section OPC
variable {n : Nat} {h : zH} {A : aS}
/-- count -/
theorem op_count (hA : wfA A) {w : Int} (hw : zint w) : OpI n 100 235 [zR 1, zI w] [zR 202, zI w] A := by
  refine ⟨if w = 0 then (aNp A : Int) else if w = 1 then (aNt A : Int) else -2, fun h hS => ⟨h, ?_, hS, frC.rf⟩, fun g hM => ⟨zu g 202 0 0, ?_, frM0⟩⟩
  · rw [b100_0, hw.e, b100_14, b100_14, hS.1.2.2.1, hS.1.2.2.2.2.1]
    by_cases d : w = 0
    · rw [if_neg (fun z => z d), if_pos d]
    · rw [if_pos d, if_neg d]
      by_cases e : w = 1
      · rw [if_neg (fun z => z e), if_pos e]
      · rw [if_pos e, if_neg e]
  · have hi := s_inz (S := Z0 n) (h := zu g 202 0 0) (a := w) (b := 0) (c := 1) hw ⟨by omega, by omega⟩ ⟨by omega, by omega⟩
    have e0 : (zu g 202 0 0) 207 0 = (aNp A : Int) := by rw [zu_off (by omega)]; exact hM.2.2.1
    have e1 : (zu g 202 0 0) 207 1 = (aNt A : Int) := by rw [zu_off (by omega)]; exact hM.2.2.2.2.1
    rw [b235_0, b235_6 hi (fun q => (zif_of q).1) (fun q => by have := (zif_of q).2; omega), b235_14, b235_14]
    by_cases d : 0 ≤ w ∧ w ≤ 1
    · rw [if_neg (zif_neg d)]
      by_cases e : w = 0
      · rw [if_pos e, e]
        show some (some (zI ((zu g 202 0 0) 207 0)), _, _) = _
        rw [e0]
      · have e' : w = 1 := by omega
        rw [if_neg e, if_pos e', e']
        show some (some (zI ((zu g 202 0 0) 207 1)), _, _) = _
        rw [e1]
    · rw [if_pos (zif_pos d), if_neg (by omega), if_neg (by omega)]
/-- fault -/
theorem op_fault (hA : wfA A) {w : Int} (hw : zint w) : OpI n 99 161 [zR 1, zI w] [zR 202, zI w] A := by
  refine ⟨if w = 0 then aFlt A else if w = 1 then aPlc A else -1, fun h hS => ⟨h, ?_, hS, frC.rf⟩, fun g hM => ⟨zu g 202 0 0, ?_, frM0⟩⟩
  · rw [b99_0, hw.e, b99_14, b99_14, hS.1.2.2.2.2.2.2.1, hS.1.2.2.2.2.2.2.2]
    by_cases d : w = 0
    · rw [if_neg (fun z => z d), if_pos d]
    · rw [if_pos d, if_neg d]
      by_cases e : w = 1
      · rw [if_neg (fun z => z e), if_pos e]
      · rw [if_pos e, if_neg e]
  · have e0 : (zu g 202 0 0) 205 0 = aFlt A := by rw [zu_off (by omega)]; exact hM.2.2.2.2.2.2.1
    have e1 : (zu g 202 0 0) 206 0 = aPlc A := by rw [zu_off (by omega)]; exact hM.2.2.2.2.2.2.2
    rw [b161_0, hw.e, b161_19, b161_19, b161_19, e0, e1]
    by_cases d : w = 0
    · rw [if_neg (fun z => z d), if_pos d]
    · rw [if_pos d, if_neg d]
      by_cases e : w = 1
      · rw [if_neg (fun z => z e), if_pos e]
      · rw [if_pos e, if_neg e]
theorem tri2 {t : Nat} (ht : t < 2) : [some 21, some 24].getD ((t : Int)).toNat none = some (21 + 3 * t) := by
  rcases (by omega : t = 0 ∨ t = 1) with e | e <;> subst e <;> rfl
theorem LX8_t {t : Nat} (ht : t < 2) : LX8 (Z0 n) (21 + 3 * t) := by
  rcases (by omega : t = 0 ∨ t = 1) with e | e <;> subst e
  · exact LX8_21 n
  · exact LX8_24 n
theorem c_ist0 (hS : ClS h A) (hA : wfA A) {p : Int} (hp : zint p) (hn : ¬ (0 ≤ p ∧ p < aNt A)) : Zx 108 0 [zR 1, zI p] [] (Z0 n) h = some (some (zI 0), Z0 n, h) := by
  have := c_ist (n := n) hS hA hp
  rw [if_neg hn] at this
  exact this
theorem c_ist1 (hS : ClS h A) (hA : wfA A) {p : Nat} (hp : p < aNt A) : Zx 108 0 [zR 1, zI (p : Int)] [] (Z0 n) h = some (some (zI 1), Z0 n, h) := by
  have nt := hA.2.2.2.1
  have := c_ist (n := n) hS hA (p := (p : Int)) ⟨by omega, by omega⟩
  rw [if_pos (by omega)] at this
  exact this
theorem m_ist0 (hM : McT h 0 A) (hA : wfA A) {p : Int} (hp : zint p) (hn : ¬ (0 ≤ p ∧ p < aNt A)) : Zx 144 0 [zR 202, zI p] [] (Z0 n) h = some (some (zI 0), Z0 n, h) := by
  have := m_ist (n := n) hM hA hp
  rw [if_neg hn] at this
  exact this
theorem m_ist1 (hM : McT h 0 A) (hA : wfA A) {p : Nat} (hp : p < aNt A) : Zx 144 0 [zR 202, zI (p : Int)] [] (Z0 n) h = some (some (zI 1), Z0 n, h) := by
  have nt := hA.2.2.2.1
  have := m_ist (n := n) hM hA (p := (p : Int)) ⟨by omega, by omega⟩
  rw [if_pos (by omega)] at this
  exact this
/-- test -/
theorem op_test (hA : wfA A) {t k w : Int} (ht : zint t) (hk : zint k) (hw : zint w) : OpI n 134 220 [zR 1, zI t, zI k, zI w, zN] [zR 202, zI t, zI k, zI w, zN] A := by
  by_cases c : 0 ≤ t ∧ t < aNt A
  case neg =>
    refine ⟨-1, fun h hS => ⟨h, ?_, hS, frC.rf⟩, fun g hM => ⟨zu g 202 0 0, ?_, frM0⟩⟩
    · rw [b134_0, b134_2 (q0 := 21) (c_ist0 hS hA ht c) (fun q => absurd zw0 q) (fun q => absurd zw0 q) (fun q => absurd zw0 q) (LX8_21 n) (fun q => absurd zw0 q) (fun q => absurd zw0 q) (fun q => absurd zw0 q) (fun q => absurd zw0 q), if_neg (fun q => q zw0)]
    · rw [b220_0, b220_5 (m_ist0 (McT0 hM) hA ht c) (fun q => absurd zw0 q) (fun q => absurd zw0 q), if_neg (fun q => q zw0)]
  obtain ⟨t, rfl, ht'⟩ := nat_of c
  have nt := hA.2.2.2.1
  have t2 : t < 2 := by omega
  have wT := hA.2.2.2.2.1 t ht'
  have n8 := wT.1
  refine ⟨if k = -1 then (if w = 0 then ((aTri A t).1 : Int) else -1) else if (0 ≤ k ∧ k < ((aTri A t).1 : Int)) ∧ 0 ≤ w ∧ w ≤ 1 then (if w = 0 then (aTri A t).2.1 k.toNat else (aTri A t).2.2 k.toNat) else -1, fun h hS => ⟨h, ?_, hS, frC.rf⟩, fun g hM => ⟨zu g 202 0 0, ?_, frM0⟩⟩
  · obtain ⟨T0, T1⟩ := hS.1.2.2.2.2.2.1 t ht'
    rw [show 2 + 19 + 3 * t = 21 + 3 * t by omega] at T0 T1
    have T0' : zw (h (21 + 3 * t) 0) = ((aTri A t).1 : Int) := by rw [T0]; exact zw_nat (by omega)
    have bd : ¬ zw 1 = 0 → ¬ ¬ zw k = -1 → True := fun _ _ => trivial
    rw [b134_0, b134_2 (c_ist1 hS hA ht') (by intros; omega) (by intros; omega) (fun _ => tri2 t2) (LX8_t t2) (by intros; rw [hk.e, T0', hw.e] at *; omega) (by intros; rw [hk.e, T0', hw.e] at *; omega) (by intros; rw [hk.e, T0', hw.e] at *; omega) (by intros; rw [hk.e, T0', hw.e] at *; omega), if_pos (show ¬ zw 1 = 0 by decide), hk.e, T0', hw.e, T0, b134_21, b134_21, b134_33, b134_46, b134_46]
    by_cases d : k = -1
    · rw [if_neg (fun z => z d), if_pos d]
      by_cases e : w = 0
      · rw [if_neg (fun z => z e), if_pos e]
      · rw [if_pos e, if_neg e]
    · rw [if_pos d, if_neg d]
      by_cases d1 : k < 0
      · rw [if_pos d1, if_neg (fun z => by omega)]
      · rw [if_neg d1]
        by_cases d2 : ((aTri A t).1 : Int) ≤ k
        · rw [if_pos d2, if_neg (fun z => by omega)]
        · rw [if_neg d2]
          obtain ⟨u1, u2⟩ := T1 k.toNat (by omega)
          by_cases d3 : w < 0
          · rw [if_pos d3, if_neg (fun z => by omega)]
          · rw [if_neg d3]
            by_cases d4 : w ≤ 1
            · rw [if_pos d4, if_pos (show (0 ≤ k ∧ k < ((aTri A t).1 : Int)) ∧ 0 ≤ w ∧ w ≤ 1 by omega), u1, u2]
              by_cases e : w = 0
              · rw [if_neg (fun z => z e), if_pos e]
              · rw [if_pos e, if_neg e]
            · rw [if_neg d4, if_neg (fun z => by omega)]
  · obtain ⟨T0, T1⟩ := (McT0 (v := 0) (k := 0) hM).2.2.2.2.2.1 t ht'
    rw [show 34 * 0 + 17 * t = 17 * t by omega] at T0 T1
    have et : ((17 : Int) * (t : Int)).toNat = 17 * t := by omega
    have hi := s_inz (S := Z0 n) (h := zu g 202 0 0) (a := k) (b := 0) (c := ((aTri A t).1 : Int) - 1) hk ⟨by omega, by omega⟩ ⟨by omega, by omega⟩
    have hj := s_inz (S := Z0 n) (h := zu g 202 0 0) (a := w) (b := 0) (c := 1) hw ⟨by omega, by omega⟩ ⟨by omega, by omega⟩
    rw [b220_0, b220_5 (m_ist1 (McT0 hM) hA ht') (by intros; omega) (by intros; omega), if_pos (show ¬ zw 1 = 0 by decide), hk.e, hw.e, et, T0, b220_24, b220_24, b220_30 hi]
    by_cases d : k = -1
    · rw [if_neg (fun z => z d), if_pos d]
      by_cases e : w = 0
      · rw [if_neg (fun z => z e), if_pos e]
      · rw [if_pos e, if_neg e]
    · rw [if_pos d, if_neg d]
      by_cases d1 : 0 ≤ k ∧ k ≤ ((aTri A t).1 : Int) - 1
      · rw [if_neg (zif_neg d1), b220_35 hj (by intro q; have := zif_of q; omega) (by intro q; have := zif_of q; omega)]
        by_cases d2 : 0 ≤ w ∧ w ≤ 1
        · obtain ⟨u1, u2⟩ := T1 k.toNat (by omega)
          rw [if_neg (zif_neg d2), if_pos (show (0 ≤ k ∧ k < ((aTri A t).1 : Int)) ∧ 0 ≤ w ∧ w ≤ 1 by omega), b220_53]
          by_cases e : w = 0
          · rw [if_pos e, show ((((17 : Int) * (t : Int)) + 1) + (2 * k) + w).toNat = 17 * t + 1 + 2 * k.toNat by omega, u1]
          · rw [if_neg e, show ((((17 : Int) * (t : Int)) + 1) + (2 * k) + w).toNat = 17 * t + 2 + 2 * k.toNat by omega, u2]
        · rw [if_pos (zif_pos d2), if_neg (fun z => d2 z.2), b220_52, b220_53]
      · rw [if_pos (zif_pos d1), if_neg (fun z => d1 (by omega)), b220_52, b220_53]
/-- what a limit names -/
noncomputable def nmv (D : pD) (k : Int) : Int := if k = 0 then dZ D else if k = 1 then (dN D : Int) - cnT (dN D) (dT D) else if k = 2 then (pM (dN D) (dW D) (dT D) : Int) else if k = 3 then cf (dW D) (dH D) (dT D) (dF D) 1 + cf (dW D) (dH D) (dT D) (dF D) (-1) else if k = 4 then pgh (dN D) (dW D) (dT D) (dF D) (dTl D) (pM (dN D) (dW D) (dT D)) else su (fun k => if dT D k = true ∧ pW (dN D) (dW D) (dT D) (dF D) k ≠ hgt (dF D) (dTl D) k then 1 else 0) (dN D)
theorem sub_in {p : Nat → Prop} [DecidablePred p] {m : Nat} : 0 ≤ su (fun k => if p k then (1 : Int) else 0) m ∧ su (fun k => if p k then (1 : Int) else 0) m ≤ m := by
  have a := su_nonneg (f := fun k => if p k then (1 : Int) else 0) (n := m) (fun k _ => by (try dsimp only); split <;> omega)
  have b := su_le (f := fun k => if p k then (1 : Int) else 0) (g := fun _ => 1) (n := m) (fun k _ => by (try dsimp only); split <;> omega)
  rw [su_const1] at b
  exact ⟨a, b⟩
theorem cf_in {W H N : Nat} {T : Nat → Bool} {F G : Nat → Int} (hw : wfS W H N T F G) {k : Int} : 0 ≤ cf W H T F k ∧ cf W H T F k ≤ 25 := by
  have w1 := hw.1
  have w2 := hw.2.1
  unfold cf
  have inn := fun y => sub_in (p := fun x => arn W H T F ((x : Nat) : Int) ((y : Nat) : Int) 1 1 = k) (m := W - 1)
  refine ⟨su_nonneg (fun y _ => (inn y).1), ?_⟩
  have b := su_bd (B := 4) (f := fun y => su (fun x => if arn W H T F ((x : Nat) : Int) ((y : Nat) : Int) 1 1 = k then 1 else 0) (W - 1)) (H - 1) (fun y _ => by
    have := inn y
    (try dsimp only at this ⊢)
    omega)
  omega
theorem dZ_in {W H N : Nat} {T : Nat → Bool} {F G : Nat → Int} (hw : wfS W H N T F G) : 0 ≤ czo N W T F G ∧ czo N W T F G ≤ 30000 := by
  obtain ⟨⟨x, hx⟩, hmin⟩ := cz_C hw
  refine ⟨?_, ?_⟩
  · rw [← hx]
    exact su_nonneg (f := fun j => scu N W T G j * ab (lpx N W T F x j)) (n := scJ N W T) (fun j hj => Int.mul_nonneg (by have := (scu_in (G := G) hw hj).1; omega) (ab_nn _))
  · have t : TuC (fun _ k => tw N W T F k) N T (tw N W T F) 30 := fun k hk tk => ⟨rfl, (tw_e hw hk tk).2⟩
    have a := hmin (tw N W T F)
    have b := (tco_in hw t (by omega)).2
    omega
theorem cnTn_in {N : Nat} {T : Nat → Bool} : 0 ≤ cnT N T ∧ cnT N T ≤ N := sub_in
theorem nmv_in {D : pD} {o : Nat} (hw : wfD D) (hV : SvK h o (dW D) (dH D) (dN D) (dT D) (dF D) (dG D)) {k : Int} : -1000000000 ≤ nmv D k ∧ nmv D k ≤ 1000000000 := by
  have hN := dN25 hw
  have hD := wfS_D hw
  have a : 0 ≤ dZ D ∧ dZ D ≤ 30000 := dZ_in hD
  have b := cnTn_in (N := dN D) (T := dT D)
  have c := pM25 hD
  have d := cf_in hD (k := 1)
  have e := cf_in hD (k := -1)
  have f : 0 ≤ pgh (dN D) (dW D) (dT D) (dF D) (dTl D) (pM (dN D) (dW D) (dT D)) ∧ pgh (dN D) (dW D) (dT D) (dF D) (dTl D) (pM (dN D) (dW D) (dT D)) ≤ 24000400 := pgh_in hV hD _ (Nat.le_refl _)
  have g := sub_in (p := fun k => dT D k = true ∧ pW (dN D) (dW D) (dT D) (dF D) k ≠ hgt (dF D) (dTl D) k) (m := dN D)
  unfold nmv
  split
  · omega
  · split
    · omega
    · split
      · omega
      · split
        · omega
        · split
          · omega
          · omega
theorem c_named {D : pD} {o : Nat} (hL : LX0 (Z0 n) o) (hw : wfD D) (hV : SvK h o (dW D) (dH D) (dN D) (dT D) (dF D) (dG D)) {k : Int} (hk : 0 ≤ k ∧ k ≤ 5) : Zx 136 0 [zR o, zI k] [] (Z0 n) h = some (some (zI (nmv D k)), Z0 n, h) := by
  have hD := wfS_D hw
  have hz : zint k := ⟨by omega, by omega⟩
  rw [b136_0 hL, hz.e]
  unfold nmv
  rcases (by omega : k = 0 ∨ k = 1 ∨ k = 2 ∨ k = 3 ∨ k = 4 ∨ k = 5) with e | e | e | e | e | e <;> subst e
  · show Zx 136 2 _ _ _ _ = _
    refine (Zx_nm (L' := [zR o, zN]) rfl rfl).trans ?_
    rw [b136_2 hL, hV.cost, if_pos rfl]
  · show Zx 136 5 _ _ _ _ = _
    refine (Zx_nm (L' := [zR o, zN]) rfl rfl).trans ?_
    rw [b136_5 hL, hV.sc.2.2.1, b136_10 hL.scene (s_cth hL.scene hV.sc hD.2.2.2.1), if_neg (by decide), if_pos rfl]
    rfl
  · show Zx 136 13 _ _ _ _ = _
    refine (Zx_nm (L' := [zR o, zN]) rfl rfl).trans ?_
    rw [b136_13 hL, hV.pm, if_neg (by decide), if_neg (by decide), if_pos rfl]
  · show Zx 136 17 _ _ _ _ = _
    refine (Zx_nm (L' := [zR o, zN]) rfl rfl).trans ?_
    rw [b136_17 hL, b136_20 hL hL.scene (s_cf hL.scene hV.sc hD ⟨by omega, by omega⟩), b136_24 hL.scene (s_cf hL.scene hV.sc hD ⟨by omega, by omega⟩), if_neg (by decide), if_neg (by decide), if_neg (by decide), if_pos rfl]
  · show Zx 136 27 _ _ _ _ = _
    refine (Zx_nm (L' := [zR o, zN]) rfl rfl).trans ?_
    rw [b136_27 hL, b136_28 hL (s_pgh hL hV hD), if_neg (by decide), if_neg (by decide), if_neg (by decide), if_neg (by decide), if_pos rfl]
  · show Zx 136 30 _ _ _ _ = _
    refine (Zx_nm (L' := [zR o, zN]) rfl rfl).trans ?_
    rw [b136_30 hL, b136_31 hL (s_cwr hL hV hD), if_neg (by decide), if_neg (by decide), if_neg (by decide), if_neg (by decide), if_neg (by decide)]
theorem m_named {D : pD} (hw : wfD D) (hV : RtD h D) (hn : h 202 30 = cnT (dN D) (dT D)) {k : Int} (hk : 0 ≤ k ∧ k ≤ 5) : Zx 222 0 [zR 202, zI k] [] (Z0 n) h = some (some (zI (nmv D k)), Z0 n, h) := by
  have hD := wfS_D hw
  have hz : zint k := ⟨by omega, by omega⟩
  rw [b222_0, hz.e]
  unfold nmv
  rcases (by omega : k = 0 ∨ k = 1 ∨ k = 2 ∨ k = 3 ∨ k = 4 ∨ k = 5) with e | e | e | e | e | e <;> subst e
  · show Zx 222 2 _ _ _ _ = _
    refine (Zx_nm (L' := [zR 202, zN]) rfl rfl).trans ?_
    rw [b222_2, hV.2.2.2.2.1, if_pos rfl]
  · show Zx 222 5 _ _ _ _ = _
    refine (Zx_nm (L' := [zR 202, zN]) rfl rfl).trans ?_
    rw [b222_5, hV.1.2.2.1, hn, if_neg (by decide), if_pos rfl]
  · show Zx 222 11 _ _ _ _ = _
    refine (Zx_nm (L' := [zR 202, zN]) rfl rfl).trans ?_
    rw [b222_11, hV.2.1.1, if_neg (by decide), if_neg (by decide), if_pos rfl]
  · show Zx 222 14 _ _ _ _ = _
    refine (Zx_nm (L' := [zR 202, zN]) rfl rfl).trans ?_
    rw [b222_14, b222_15 (m_fof hV.1 hD), if_neg (by decide), if_neg (by decide), if_neg (by decide), if_pos rfl]
  · show Zx 222 17 _ _ _ _ = _
    refine (Zx_nm (L' := [zR 202, zN]) rfl rfl).trans ?_
    rw [b222_17, b222_18 (m_ghi hV hD), if_neg (by decide), if_neg (by decide), if_neg (by decide), if_neg (by decide), if_pos rfl]
  · show Zx 222 20 _ _ _ _ = _
    refine (Zx_nm (L' := [zR 202, zN]) rfl rfl).trans ?_
    rw [b222_20, b222_21 (m_wro hV hD), if_neg (by decide), if_neg (by decide), if_neg (by decide), if_neg (by decide), if_neg (by decide)]
theorem su_rev {f : Nat → Int} {L : Nat} : ∀ t, t ≤ L → su (fun i => f (L - 1 - i)) t + su f (L - t) = su f L
  | 0, _ => by show 0 + su f (L - 0) = _; rw [Int.zero_add]; rfl
  | t + 1, ht => by
    have i := su_rev (f := f) (L := L) t (by omega)
    have e : L - t = (L - (t + 1)) + 1 := by omega
    rw [e, su] at i
    rw [su]
    rw [show L - 1 - t = L - (t + 1) by omega]
    omega
end OPC
