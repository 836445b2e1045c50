/-! text: the reference's state; both sides -/
section OTX
variable {n : Nat} {h : zH} {A : aS}
theorem McT.isF {h' : zH} {f q : Int} (hM : McT h 0 A) (hA : wfA A) (e4 : h' 204 0 = 0) (e5 : h' 205 0 = f) (e6 : h' 206 0 = q) (fr : ∀ x k, 207 ≤ x → x ≤ 209 → h' x k = h x k) : McT h' 0 (txF A f q) := by
  obtain ⟨-, -, t3, t4, t5, t6, t7, t8⟩ := hM
  refine ⟨e4, fun k hk => absurd hk (Nat.not_lt_zero k), by rw [fr _ _ (by omega) (by omega)]; exact t3, fun p hp => ?_, by rw [fr _ _ (by omega) (by omega)]; exact t5, fun t ht => ?_, e5, e6⟩
  · obtain ⟨d1, d2, d3, d4, d5⟩ := t4 p hp
    refine ⟨by rw [fr _ _ (by omega) (by omega)]; exact d1, by rw [fr _ _ (by omega) (by omega)]; exact d2, by rw [fr _ _ (by omega) (by omega)]; exact d3, fun k hk => by rw [fr _ _ (by omega) (by omega)]; exact d4 k hk, fun k hk => ?_⟩
    rw [fr _ _ (by omega) (by omega), fr _ _ (by omega) (by omega), fr _ _ (by omega) (by omega)]
    exact d5 k hk
  · obtain ⟨u, v⟩ := t6 t ht
    refine ⟨by rw [fr _ _ (by omega) (by omega)]; exact u, fun k hk => ?_⟩
    rw [fr _ _ (by omega) (by omega), fr _ _ (by omega) (by omega)]
    exact v k hk
theorem McT.isP {h' : zH} {p : Nat} {D : pD} {f q : Int} (hM : McT h 0 A) (hA : wfA A) (hp3 : p < 3) (hpn : p ≤ aNp A) (e4 : h' 204 0 = 0) (e5 : h' 205 0 = f) (e6 : h' 206 0 = q) (e7 : h' 207 0 = ((if aNp A < p + 1 then p + 1 else aNp A : Nat) : Int)) (e7' : h' 207 1 = h 207 1) {g : zH} (hP : RoP g D) (cp : ∀ k, k < 178 → h' 208 (178 * p + k) = g 210 k) (fr8 : ∀ k, ¬ (178 * p ≤ k ∧ k < 178 * p + 178) → h' 208 k = h 208 k) (fr9 : ∀ k, h' 209 k = h 209 k) : McT h' 0 (txP A p D f q) := by
  obtain ⟨-, -, t3, t4, t5, t6, t7, t8⟩ := hM
  have old : ∀ i, i < (if aNp A < p + 1 then p + 1 else aNp A) → i ≠ p → i < aNp A := fun i hi z => by
    by_cases y : aNp A < p + 1
    · rw [if_pos y] at hi; omega
    · rw [if_neg y] at hi; exact hi
  refine ⟨e4, fun k hk => absurd hk (Nat.not_lt_zero k), e7, fun i hi => ?_, by rw [e7']; exact t5, fun t ht => ?_, e5, e6⟩
  · show McP h' (534 * 0 + 178 * i) (if i = p then D else aPic A i)
    by_cases z : i = p
    · rw [if_pos z, z, show 534 * 0 + 178 * p = 178 * p by omega]
      obtain ⟨d1, d2, d3, d4, d5⟩ := hP
      refine ⟨by rw [show 178 * p = 178 * p + 0 by omega, cp 0 (by omega)]; exact d1, by rw [cp 1 (by omega)]; exact d2, by rw [cp 2 (by omega)]; exact d3, fun k hk => by rw [show 178 * p + 3 + k = 178 * p + (3 + k) by omega, cp _ (by omega)]; exact d4 k hk, fun k hk => ?_⟩
      rw [show 178 * p + 103 + k = 178 * p + (103 + k) by omega, show 178 * p + 128 + k = 178 * p + (128 + k) by omega, show 178 * p + 153 + k = 178 * p + (153 + k) by omega, cp _ (by omega), cp _ (by omega), cp _ (by omega)]
      exact d5 k hk
    · rw [if_neg z]
      have hi' := old i hi z
      obtain ⟨d1, d2, d3, d4, d5⟩ := t4 i hi'
      have o : ∀ k, 534 * 0 + 178 * i ≤ k → k < 534 * 0 + 178 * i + 178 → ¬ (178 * p ≤ k ∧ k < 178 * p + 178) := fun k q1 q2 => by
        by_cases y : i < p <;> omega
      refine ⟨by rw [fr8 _ (o _ (by omega) (by omega))]; exact d1, by rw [fr8 _ (o _ (by omega) (by omega))]; exact d2, by rw [fr8 _ (o _ (by omega) (by omega))]; exact d3, fun k hk => by rw [fr8 _ (o _ (by omega) (by omega))]; exact d4 k hk, fun k hk => ?_⟩
      rw [fr8 _ (o _ (by omega) (by omega)), fr8 _ (o _ (by omega) (by omega)), fr8 _ (o _ (by omega) (by omega))]
      exact d5 k hk
  · obtain ⟨u, v⟩ := t6 t ht
    refine ⟨by rw [fr9]; exact u, fun k hk => ?_⟩
    rw [fr9, fr9]
    exact v k hk
theorem McT.isT {h' : zH} {p : Nat} {T : tD} {f q : Int} (hM : McT h 0 A) (hA : wfA A) (hp2 : p < 2) (hpn : p ≤ aNt A) (hT : wfT T) (e4 : h' 204 0 = 0) (e5 : h' 205 0 = f) (e6 : h' 206 0 = q) (e7 : h' 207 1 = ((if aNt A < p + 1 then p + 1 else aNt A : Nat) : Int)) (e7' : h' 207 0 = h 207 0) {g : zH} (hR : RoT g T) (cp : ∀ k, k < 17 → h' 209 (17 * p + k) = g 210 k) (fr9 : ∀ k, ¬ (17 * p ≤ k ∧ k < 17 * p + 17) → h' 209 k = h 209 k) (fr8 : ∀ k, h' 208 k = h 208 k) : McT h' 0 (txT A p T f q) := by
  obtain ⟨-, -, t3, t4, t5, t6, t7, t8⟩ := hM
  have nt := hA.2.2.2.2.1
  have old : ∀ i, i < (if aNt A < p + 1 then p + 1 else aNt A) → i ≠ p → i < aNt A := fun i hi z => by
    by_cases y : aNt A < p + 1
    · rw [if_pos y] at hi; omega
    · rw [if_neg y] at hi; exact hi
  refine ⟨e4, fun k hk => absurd hk (Nat.not_lt_zero k), by rw [show 2 * 0 = 0 from rfl, e7']; exact t3, fun i hi => ?_, e7, fun i hi => ?_, e5, e6⟩
  · obtain ⟨d1, d2, d3, d4, d5⟩ := t4 i hi
    refine ⟨by rw [fr8]; exact d1, by rw [fr8]; exact d2, by rw [fr8]; exact d3, fun k hk => by rw [fr8]; exact d4 k hk, fun k hk => ?_⟩
    rw [fr8, fr8, fr8]
    exact d5 k hk
  · show McR h' (34 * 0 + 17 * i) (if i = p then T else aTri A i)
    by_cases z : i = p
    · rw [if_pos z, z, show 34 * 0 + 17 * p = 17 * p by omega]
      obtain ⟨u, v⟩ := hR
      refine ⟨by rw [show 17 * p = 17 * p + 0 by omega, cp 0 (by omega)]; exact u, fun k hk => ?_⟩
      have k8 : k < 8 := Nat.lt_of_lt_of_le hk hT.1
      rw [show 17 * p + 1 + 2 * k = 17 * p + (1 + 2 * k) by omega, show 17 * p + 2 + 2 * k = 17 * p + (2 + 2 * k) by omega, cp _ (by omega), cp _ (by omega)]
      exact v k hk
    · rw [if_neg z]
      have hi' := old i hi z
      have w8 := (nt i hi').1
      obtain ⟨u, v⟩ := t6 i hi'
      have o : ∀ k, 34 * 0 + 17 * i ≤ k → k < 34 * 0 + 17 * i + 17 → ¬ (17 * p ≤ k ∧ k < 17 * p + 17) := fun k q1 q2 => by
        by_cases y : i < p <;> omega
      refine ⟨by rw [fr9 _ (o _ (by omega) (by omega))]; exact u, fun k hk => ?_⟩
      have k8 : k < 8 := Nat.lt_of_lt_of_le hk w8
      rw [fr9 _ (o _ (by omega) (by omega)), fr9 _ (o _ (by omega) (by omega))]
      exact v k hk
/-- the tape's bytes -/
def byc (A : aS) (k : Nat) : Int := zb8 (aByt A k)
theorem byc_in : ∀ k, -128 ≤ byc A k ∧ byc A k ≤ 127 := fun k => by
  show -128 ≤ Int.bmod _ 256 ∧ Int.bmod _ 256 ≤ 127
  have a := @Int.le_bmod (aByt A k) 256 (by decide)
  have b := @Int.bmod_lt (aByt A k) 256 (by decide)
  omega
/-- what a text is found to be -/
noncomputable def txE (A : aS) (t : Int) : Bool × Nat × dR := rdE (byc A) (aLen A) t
noncomputable def txR (A : aS) (t : Int) : Int × Int := rfl4 (txE A t) (aLen A) t
theorem txR_in {t : Int} (hA : wfA A) : (0 ≤ (txR A t).1 ∧ (txR A t).1 ≤ 4) ∧ (-1 ≤ (txR A t).2 ∧ (txR A t).2 ≤ 600) ∧ ((txR A t).1 = 0 → (txR A t).2 = -1 ∧ wfD (rD (txE A t).2.2) ∧ wfT (rT (txE A t).2.2)) := by
  have m6 := hA.1
  obtain ⟨k1, k2⟩ := rdT_ok (c := byc A) (m := aLen A) (t := t) (aLen A + 1) 0 d0 (Nat.zero_le _) d0_wf
  have e : txE A t = rdT (byc A) (aLen A) t (aLen A + 1) 0 d0 := rfl
  unfold txR
  rw [e]
  generalize rdT (byc A) (aLen A) t (aLen A + 1) 0 d0 = R at *
  unfold rfl4
  by_cases x : R.1 = true
  · obtain ⟨w1, w2, w3⟩ := k2 x
    rw [if_pos x]
    by_cases f0 : rF R.2.2 = 0
    · rw [if_pos f0]
      by_cases y : t = 0 ∧ ((dN (rD R.2.2) : Nat) : Int) ≤ rM R.2.2
      · rw [if_pos y]
        exact ⟨⟨by show (0 : Int) ≤ 4; omega, by show (4 : Int) ≤ 4; omega⟩, ⟨by show -1 ≤ ((aLen A : Nat) : Int); omega, by show ((aLen A : Nat) : Int) ≤ 600; omega⟩, fun z => absurd z (by show ¬ (4 : Int) = 0; omega)⟩
      · rw [if_neg y]
        exact ⟨⟨by show (0 : Int) ≤ 0; omega, by show (0 : Int) ≤ 4; omega⟩, ⟨by show (-1 : Int) ≤ -1; omega, by show (-1 : Int) ≤ 600; omega⟩, fun _ => ⟨rfl, w1.1, w1.2.1⟩⟩
    · rw [if_neg f0]
      have w4 := w3 f0
      exact ⟨w2, ⟨by show -1 ≤ rQ R.2.2; omega, by show rQ R.2.2 ≤ 600; omega⟩, fun z => absurd z f0⟩
  · rw [if_neg x]
    exact ⟨⟨by show (0 : Int) ≤ 1; omega, by show (1 : Int) ≤ 4; omega⟩, ⟨by show -1 ≤ (R.2.1 : Int); omega, by show (R.2.1 : Int) ≤ 600; omega⟩, fun z => absurd z (by show ¬ (1 : Int) = 0; omega)⟩
/-- the class up to the end of reading -/
theorem c_tx0 {t p : Int} (hS : ClS h A) (hA : wfA A) (ht : zint t) (hp : zint p) : ∃ g, Zx 97 0 [zR 1, zI t, zI p, zN, zN] [] (Z0 n) h = (if plcO (aNp A) (aNt A) t p = -2 then some (some (zI (-2)), Z0 n, g) else Zx 97 30 [zR 1, zI t, zN, zN, zI (plcO (aNp A) (aNt A) t p)] [zI ((aLen A : Nat) : Int), zI t, zR 104] (Z0 n) g) ∧ g 2 1 = 0 ∧ g 2 6 = 0 ∧ g 2 7 = -1 ∧ ∀ x k, ¬ (x = 2 ∧ (k = 1 ∨ k = 6 ∨ k = 7)) → g x k = h x k := by
  have np := hA.2.1
  have nt := hA.2.2.2.1
  have fr : ∀ x k, ¬ (x = 2 ∧ (k = 1 ∨ k = 6 ∨ k = 7)) → zu (zu (zu h 2 1 0) 2 6 0) 2 7 (-1) x k = h x k := fun x k q => by rw [zu_off (by omega), zu_off (by omega), zu_off (by omega)]
  have pc := c_plc (n := n) (h := zu (zu (zu h 2 1 0) 2 6 0) 2 7 (-1)) (np := aNp A) (nt := aNt A) (t := t) (p := p) (by rw [fr _ _ (by omega)]; exact hS.1.2.2.1) (by rw [fr _ _ (by omega)]; exact hS.1.2.2.2.2.1) np nt ht hp
  have pz : zw (plcO (aNp A) (aNt A) t p) = plcO (aNp A) (aNt A) t p := by
    refine zw_id ?_ ?_ <;> · have := plcO_in (np := aNp A) (nt := aNt A) (t := t) (p := p) np nt
                             rcases this with z | ⟨-, k, z, z2, -⟩ | ⟨-, k, z, z2, -⟩ <;> omega
  refine ⟨_, ?_, by rw [zu_off (by omega), zu_off (by omega), zu_eq], by rw [zu_off (by omega), zu_eq], zu_eq, fr⟩
  rw [b97_0, b97_19 pc, pz, hS.1.1]
  by_cases q : plcO (aNp A) (aNt A) t p = -2
  · rw [if_neg (fun z => z q), if_pos q]
  · rw [if_pos q, if_neg q]
theorem byc_c {g : zH} (hS : ClS h A) (fr : ∀ x k, ¬ (x = 2 ∧ (k = 1 ∨ k = 6 ∨ k = 7)) → g x k = h x k) : ∀ k, k < aLen A → zb8 (g 3 k) = byc A k := fun k hk => by
  rw [fr _ _ (by omega)]
  unfold byc
  rw [← hS.1.2.1 k hk, zb8_zb8]
/-- FringeBench.text, of a picture -/
theorem c_txP {p : Int} {k : Nat} (hS : ClS h A) (hA : wfA A) (hp : zint p) (hk : plcO (aNp A) (aNt A) 0 p = (k : Int)) (k3 : k < 3) (kn : k ≤ aNp A) : ∃ h', Zx 97 0 [zR 1, zI 0, zI p, zN, zN] [] (Z0 n) h = some (some (zI (if (txR A 0).1 = 0 then (k : Int) else -1)), Z0 n, h') ∧ ClS h' (if (txR A 0).1 = 0 then txP A k (rD (txE A 0).2.2) (txR A 0).1 (txR A 0).2 else txF A (txR A 0).1 (txR A 0).2) ∧ frX h' h := by
  have np := hA.2.1
  obtain ⟨i1, i2, i3⟩ := txR_in (t := 0) hA
  obtain ⟨g, g1, g2, g3, g4, gf⟩ := c_tx0 (n := n) (t := 0) (p := p) hS hA ⟨by omega, by omega⟩ hp
  rw [hk, if_neg (by omega)] at g1
  obtain ⟨u, u1, u2, u3, u4, uf⟩ := c_rea (n := n) (h := g) (c := byc A) (m := aLen A) (t := 0) (Or.inl rfl) hA.1 byc_in (byc_c hS gf)
  have u2' : u 104 11 = (txR A 0).1 := u2
  have u3' : u 104 12 = (txR A 0).2 := u3
  have u4' : (txR A 0).1 = 0 → PiD u 106 (rD (txE A 0).2.2) ∧ TrL u (rT (txE A 0).2.2) := u4
  have z11 : zu (zu u 2 6 (u 104 11)) 2 7 ((zu u 2 6 (u 104 11)) 104 12) 104 11 = (txR A 0).1 := by rw [zu_off (by omega), zu_off (by omega)]; exact u2'
  have b0 := b97_30 (n := n) (l1 := 0) (l4 := (k : Int)) (q0 := 21) (q1 := 5 + 5 * k) u1 (fun _ z => absurd zw0 z) (fun _ z => absurd zw0 z) (fun _ z => absurd zw0 z) (LX8_21 n) (by intros; omega) (by intros; omega) (fun _ _ => pic3 k3) (LX2_p k3)
  rw [z11, zw_id (z := (txR A 0).1) (by omega) (by omega), if_neg (show ¬ ¬ zw 0 = 0 by decide), zu_off (x := 2) (y := 104) (by omega), u2', u3'] at b0
  have uf2 : ∀ x k, (x < 104 ∨ 113 < x) → ¬ (x = 2 ∧ (k = 6 ∨ k = 7)) → zu (zu u 2 6 (txR A 0).1) 2 7 (txR A 0).2 x k = g x k := fun x k q1 q2 => by rw [zu_off (by omega), zu_off (by omega)]; exact uf x k q1
  by_cases f0 : (txR A 0).1 = 0
  case neg =>
    rw [if_neg f0] at b0
    rw [if_neg f0, if_neg f0]
    refine ⟨_, g1.trans b0, hS.isF hA (by rw [uf2 _ _ (by omega) (by omega)]; exact g2) (by rw [zu_off (by omega), zu_eq]) zu_eq (fun x k q1 q2 => by rw [uf2 x k q2 (by omega)]; exact gf x k q1), fun x k q => by rw [uf2 x k (by omega) (by omega)]; exact gf x k (by omega)⟩
  rw [if_pos f0] at b0
  rw [if_pos f0, if_pos f0]
  obtain ⟨y1, y2⟩ := u4' f0
  generalize hU : zu (zu u 2 6 (txR A 0).1) 2 7 (txR A 0).2 = U at *
  have UP : PiD U 106 (rD (txE A 0).2.2) := y1.far (fun x k q1 q2 => by rw [← hU, zu_off (by omega), zu_off (by omega)])
  obtain ⟨w, w1, w2, w3⟩ := s_cpx (S := Z0 n) (h := U) (o := 5 + 5 * k) (p := 106) (LX2_p k3) (LX2_106 n) (by omega)
  have w23 : w 2 3 = ((aNp A : Nat) : Int) := by rw [w3 _ _ (by omega), uf2 _ _ (by omega) (by omega), gf _ _ (by omega)]; exact hS.1.2.2.1
  have mx := s_max (S := Z0 n) (h := w) (a := ((aNp A : Nat) : Int)) (b := (k : Int) + 1) ⟨by omega, by omega⟩ ⟨by omega, by omega⟩
  have em : (if ((aNp A : Nat) : Int) < (k : Int) + 1 then (k : Int) + 1 else ((aNp A : Nat) : Int)) = ((if aNp A < k + 1 then k + 1 else aNp A : Nat) : Int) := by
    by_cases q : aNp A < k + 1
    · rw [if_pos q, if_pos (by omega)]; omega
    · rw [if_neg q, if_neg (by omega)]
  rw [em] at mx
  have fin : Zx 97 0 [zR 1, zI 0, zI p, zN, zN] [] (Z0 n) h = some (some (zI (k : Int)), Z0 n, zu (zu w 2 3 ((if aNp A < k + 1 then k + 1 else aNp A : Nat) : Int)) 172 k 0) := by
    rw [g1, b0, b97_59 (LX2_p k3) (LX2_106 n) w1, w23, b97_68 (LX7_2 n) mx (by omega) (by omega), b97_95, Int.toNat_natCast]
  have wf : ∀ x i, ¬ (x = 2 ∧ i = 3) → ¬ (x = 172 ∧ i = k) → (x < 5 + 5 * k ∨ 5 + 5 * k + 4 < x) → zu (zu w 2 3 ((if aNp A < k + 1 then k + 1 else aNp A : Nat) : Int)) 172 k 0 x i = U x i := fun x i q1 q2 q3 => by rw [zu_off (by omega), zu_off (by omega)]; exact w3 x i q3
  have wP : PiD (zu (zu w 2 3 ((if aNp A < k + 1 then k + 1 else aNp A : Nat) : Int)) 172 k 0) (5 + 5 * k) (rD (txE A 0).2.2) := (w2.pi UP).cg2 (fun x i q1 q2 => by rw [zu_off (by omega), zu_off (by omega)])
  refine ⟨_, fin, hS.isP hA k3 kn ?_ ?_ ?_ ?_ ?_ wP (by rw [zu_eq]; decide) (fun x i q1 q2 q3 q4 => ?_), fun x i q => ?_⟩
  · rw [wf _ _ (by omega) (by omega) (by omega), uf2 _ _ (by omega) (by omega)]; exact g2
  · rw [wf _ _ (by omega) (by omega) (by omega), ← hU, zu_off (by omega), zu_eq]
  · rw [wf _ _ (by omega) (by omega) (by omega), ← hU, zu_eq]
  · rw [zu_off (by omega), zu_eq]
  · rw [wf _ _ (by omega) (by omega) (by omega), uf2 _ _ (by omega) (by omega), gf _ _ (by omega)]
  · rw [wf _ _ (by omega) q3 (by omega), uf2 x i q4 (by omega), gf _ _ (by omega)]
  · rw [wf _ _ (by omega) (by omega) (by omega), uf2 x i (by omega) (by omega), gf _ _ (by omega)]
/-- FringeBench.text, of a test -/
theorem c_txT {p : Int} {k : Nat} (hS : ClS h A) (hA : wfA A) (hp : zint p) (hk : plcO (aNp A) (aNt A) 1 p = (k : Int)) (k2 : k < 2) (kn : k ≤ aNt A) : ∃ h', Zx 97 0 [zR 1, zI 1, zI p, zN, zN] [] (Z0 n) h = some (some (zI (if (txR A 1).1 = 0 then (k : Int) else -1)), Z0 n, h') ∧ ClS h' (if (txR A 1).1 = 0 then txT A k (rT (txE A 1).2.2) (txR A 1).1 (txR A 1).2 else txF A (txR A 1).1 (txR A 1).2) ∧ frX h' h := by
  have nt := hA.2.2.2.1
  obtain ⟨i1, i2, i3⟩ := txR_in (t := 1) hA
  obtain ⟨g, g1, g2, g3, g4, gf⟩ := c_tx0 (n := n) (t := 1) (p := p) hS hA ⟨by omega, by omega⟩ hp
  rw [hk, if_neg (by omega)] at g1
  obtain ⟨u, u1, u2, u3, u4, uf⟩ := c_rea (n := n) (h := g) (c := byc A) (m := aLen A) (t := 1) (Or.inr rfl) hA.1 byc_in (byc_c hS gf)
  have u2' : u 104 11 = (txR A 1).1 := u2
  have u3' : u 104 12 = (txR A 1).2 := u3
  have u4' : (txR A 1).1 = 0 → PiD u 106 (rD (txE A 1).2.2) ∧ TrL u (rT (txE A 1).2.2) := u4
  have z11 : zu (zu u 2 6 (u 104 11)) 2 7 ((zu u 2 6 (u 104 11)) 104 12) 104 11 = (txR A 1).1 := by rw [zu_off (by omega), zu_off (by omega)]; exact u2'
  have z1 : ¬ zw 1 = 0 := by decide
  have b0 := b97_30 (n := n) (l1 := 1) (l4 := (k : Int)) (q0 := 21 + 3 * k) (q1 := 5) u1 (by intros; omega) (by intros; omega) (fun _ _ => tri2 k2) (LX8_t k2) (fun _ z => absurd z1 z) (fun _ z => absurd z1 z) (fun _ z => absurd z1 z) (LX2_5 n)
  rw [z11, zw_id (z := (txR A 1).1) (by omega) (by omega), if_pos z1, zu_off (x := 2) (y := 104) (by omega), u2', u3'] at b0
  have uf2 : ∀ x k, (x < 104 ∨ 113 < x) → ¬ (x = 2 ∧ (k = 6 ∨ k = 7)) → zu (zu u 2 6 (txR A 1).1) 2 7 (txR A 1).2 x k = g x k := fun x k q1 q2 => by rw [zu_off (by omega), zu_off (by omega)]; exact uf x k q1
  by_cases f0 : (txR A 1).1 = 0
  case neg =>
    rw [if_neg f0] at b0
    rw [if_neg f0, if_neg f0]
    refine ⟨_, g1.trans b0, hS.isF hA (by rw [uf2 _ _ (by omega) (by omega)]; exact g2) (by rw [zu_off (by omega), zu_eq]) zu_eq (fun x k q1 q2 => by rw [uf2 x k q2 (by omega)]; exact gf x k q1), fun x k q => by rw [uf2 x k (by omega) (by omega)]; exact gf x k (by omega)⟩
  rw [if_pos f0] at b0
  rw [if_pos f0, if_pos f0]
  obtain ⟨y1, y2⟩ := u4' f0
  have wT := (i3 f0).2.2
  generalize hU : zu (zu u 2 6 (txR A 1).1) 2 7 (txR A 1).2 = U at *
  have Uf : ∀ x i, x ≠ 2 → U x i = u x i := fun x i q => by rw [← hU, zu_off (by omega), zu_off (by omega)]
  obtain ⟨w, w1, w2, w4, w3⟩ := s_cpt (S := Z0 n) (h := U) (t := 21 + 3 * k) (r := 111) (LX8_t k2) ⟨rfl, rfl, rfl⟩ (by omega)
  have w25 : w 2 5 = ((aNt A : Nat) : Int) := by rw [w3 _ _ (by omega), uf2 _ _ (by omega) (by omega), gf _ _ (by omega)]; exact hS.1.2.2.2.2.1
  have mx := s_max (S := Z0 n) (h := w) (a := ((aNt A : Nat) : Int)) (b := (k : Int) + 1) ⟨by omega, by omega⟩ ⟨by omega, by omega⟩
  have em : (if ((aNt A : Nat) : Int) < (k : Int) + 1 then (k : Int) + 1 else ((aNt A : Nat) : Int)) = ((if aNt A < k + 1 then k + 1 else aNt A : Nat) : Int) := by
    by_cases q : aNt A < k + 1
    · rw [if_pos q, if_pos (by omega)]; omega
    · rw [if_neg q, if_neg (by omega)]
  rw [em] at mx
  have fin : Zx 97 0 [zR 1, zI 1, zI p, zN, zN] [] (Z0 n) h = some (some (zI (k : Int)), Z0 n, zu w 2 5 ((if aNt A < k + 1 then k + 1 else aNt A : Nat) : Int)) := by
    rw [g1, b0, b97_84 (LX8_t k2) ⟨rfl, rfl, rfl⟩ w1, w25, b97_93 (LX7_2 n) mx, b97_95]
  have wf : ∀ x i, ¬ (x = 2 ∧ i = 5) → (x < 21 + 3 * k ∨ 21 + 3 * k + 2 < x) → zu w 2 5 ((if aNt A < k + 1 then k + 1 else aNt A : Nat) : Int) x i = U x i := fun x i q1 q3 => by rw [zu_off (by omega)]; exact w3 x i q3
  have tT : TrC (zu w 2 5 ((if aNt A < k + 1 then k + 1 else aNt A : Nat) : Int)) (21 + 3 * k) (rT (txE A 1).2.2) := by
    refine ⟨by rw [zu_off (by omega), w2, Uf _ _ (by omega)]; exact y2.1, fun i hi => ?_⟩
    have i8 : i < 8 := Nat.lt_of_lt_of_le hi wT.1
    obtain ⟨x1, x2⟩ := w4 i i8
    rw [zu_off (by omega), zu_off (by omega), x1, x2, Uf _ _ (by omega), Uf _ _ (by omega)]
    exact y2.2 i hi
  refine ⟨_, fin, hS.isT hA k2 kn ?_ ?_ ?_ ?_ ?_ tT (fun x i q1 q2 q4 => ?_), fun x i q => ?_⟩
  · rw [wf _ _ (by omega) (by omega), uf2 _ _ (by omega) (by omega)]; exact g2
  · rw [wf _ _ (by omega) (by omega), ← hU, zu_off (by omega), zu_eq]
  · rw [wf _ _ (by omega) (by omega), ← hU, zu_eq]
  · rw [zu_eq]
  · rw [wf _ _ (by omega) (by omega), uf2 _ _ (by omega) (by omega), gf _ _ (by omega)]
  · rw [wf _ _ (by omega) (by omega), uf2 x i q4 (by omega), gf _ _ (by omega)]
  · rw [wf _ _ (by omega) (by omega), uf2 x i (by omega) (by omega), gf _ _ (by omega)]
end OTX
