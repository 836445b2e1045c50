/-! WHAT CHANGES THE STATE: feed, end -/
section CHG
variable {n : Nat} {h : zH} {A : aS}
/-- what a change may touch: of the class, of the reference -/
def frX (h' h : zH) : Prop := ∀ x k, (x < 2 ∨ (28 ≤ x ∧ x ≤ 103) ∨ 201 < x) → h' x k = h x k
def frY (h' h : zH) : Prop := ∀ x k, (x < 202 ∨ x = 210 ∨ x = 237 ∨ (x = 203 ∧ 600 ≤ k) ∨ ((x = 204 ∨ x = 205 ∨ x = 206) ∧ 1 ≤ k) ∨ (x = 207 ∧ 2 ≤ k) ∨ (x = 208 ∧ 534 ≤ k) ∨ (x = 209 ∧ 34 ≤ k)) → h' x k = h x k
theorem frC.X {h' : zH} (f : frC h' h) : frX h' h := fun x k q => f x k (by omega)
theorem frM.Y {h' : zH} (f : frM h' h) : frY h' h := fun x k q => f x k (by omega)
theorem frX.tr {a b c : zH} (p : frX a b) (q : frX b c) : frX a c := fun x k e => (p x k e).trans (q x k e)
theorem frY.tr {a b c : zH} (p : frY a b) (q : frY b c) : frY a c := fun x k e => (p x k e).trans (q x k e)
/-- a change: both sides answer alike, and the state is the same again -/
def OpW (n m m' : Nat) (L L' : List zV) (A : aS) : Prop := ∃ (v : Int) (B : aS), wfA B ∧ (∀ h, ClS h A → ∃ h', Zx m 0 L [] (Z0 n) h = some (some (zI v), Z0 n, h') ∧ ClS h' B ∧ frX h' h) ∧ ∀ g, McT g 0 A → ∃ g', Zx m' 0 L' [] (Z0 n) g = some (some (zI v), Z0 n, g') ∧ McT g' 0 B ∧ frY g' g
theorem zb8_zb8 (z : Int) : zb8 (zb8 z) = zb8 z := by
  have e : ∀ x y : Int, x % 256 = y % 256 → zb8 x = zb8 y := fun x y q => by
    show Int.bmod x 256 = Int.bmod y 256
    rw [← Int.emod_bmod, show x % ((256 : Nat) : Int) = y % ((256 : Nat) : Int) from q, Int.emod_bmod]
  refine e _ _ ?_
  exact Int.bmod_emod
/-- four bytes more -/
def apB (A : aS) (w : Int) : aS := (aLen A + 4, (fun k => if aLen A ≤ k ∧ k < aLen A + 4 then byt w (k - aLen A) else aByt A k), A.2.2)
theorem apB_wf (hA : wfA A) {w : Int} (hl : aLen A + 4 ≤ 600) : wfA (apB A w) := ⟨hl, hA.2⟩
theorem apB_b {w : Int} {k : Nat} (hk : k < aLen A) : aByt (apB A w) k = aByt A k := if_neg (by omega)
theorem apB_n {w : Int} {i : Nat} (hi : i < 4) : aByt (apB A w) (aLen A + i) = byt w i := by
  show (if aLen A ≤ aLen A + i ∧ aLen A + i < aLen A + 4 then byt w (aLen A + i - aLen A) else _) = _
  rw [if_pos (by omega), show aLen A + i - aLen A = i by omega]
/-- the tape alone is other -/
theorem ClS.tape {B : aS} {h' : zH} (hS : ClS h A) (hA : wfA A) (hB : B.2.2 = A.2.2) (f : ∀ x k, ¬ (x = 2 ∧ k = 1) → x ≠ 3 → h' x k = h x k) (e1 : h' 2 1 = (aLen B : Int)) (e2 : ∀ k, k < aLen B → zb8 (h' 3 k) = aByt B k) : ClS h' B := by
  obtain ⟨l, b, c⟩ := B
  obtain ⟨l', b', c'⟩ := A
  have hc : c = c' := hB
  subst hc
  obtain ⟨⟨-, -, t3, t4, t5, t6, t7, t8⟩, C⟩ := hS
  have np : aNp (l', b', c) ≤ 3 := hA.2.1
  have nt : aNt (l', b', c) ≤ 2 := hA.2.2.2.1
  refine ⟨⟨e1, e2, by rw [f _ _ (by omega) (by omega)]; exact t3, fun p hp => ?_, by rw [f _ _ (by omega) (by omega)]; exact t5, fun t ht => ?_, by rw [f _ _ (by omega) (by omega)]; exact t7, by rw [f _ _ (by omega) (by omega)]; exact t8⟩, ?_⟩
  · exact (t4 p hp).cg2 (fun x k q1 q2 => f x k (by omega) (by omega))
  · obtain ⟨u, v⟩ := t6 t ht
    refine ⟨by rw [f _ _ (by omega) (by omega)]; exact u, fun k hk => ?_⟩
    rw [f _ _ (by omega) (by omega), f _ _ (by omega) (by omega)]
    exact v k hk
  · have := C.cg (h' := h') (fun x k q1 q2 => f x k (by omega) (by omega))
    exact this
theorem McT.tape {B : aS} {h' : zH} (hM : McT h 0 A) (hB : B.2.2 = A.2.2) (f : ∀ x k, 205 ≤ x → x ≤ 209 → h' x k = h x k) (e1 : h' 204 0 = (aLen B : Int)) (e2 : ∀ k, k < aLen B → zb8 (h' 203 k) = aByt B k) : McT h' 0 B := by
  obtain ⟨l, b, c⟩ := B
  obtain ⟨l', b', c'⟩ := A
  have hc : c = c' := hB
  subst hc
  obtain ⟨-, -, t3, t4, t5, t6, t7, t8⟩ := hM
  refine ⟨e1, fun k hk => by rw [show 600 * 0 + k = k by omega]; exact e2 k hk, by rw [f _ _ (by omega) (by omega)]; exact t3, fun p hp => ?_, by rw [f _ _ (by omega) (by omega)]; exact t5, fun t ht => ?_, by rw [f _ _ (by omega) (by omega)]; exact t7, by rw [f _ _ (by omega) (by omega)]; exact t8⟩
  · obtain ⟨d1, d2, d3, d4, d5⟩ := t4 p hp
    refine ⟨by rw [f _ _ (by omega) (by omega)]; exact d1, by rw [f _ _ (by omega) (by omega)]; exact d2, by rw [f _ _ (by omega) (by omega)]; exact d3, fun k hk => by rw [f _ _ (by omega) (by omega)]; exact d4 k hk, fun k hk => ?_⟩
    rw [f _ _ (by omega) (by omega), f _ _ (by omega) (by omega), f _ _ (by omega) (by omega)]
    exact d5 k hk
  · obtain ⟨u, v⟩ := t6 t ht
    refine ⟨by rw [f _ _ (by omega) (by omega)]; exact u, fun k hk => ?_⟩
    rw [f _ _ (by omega) (by omega), f _ _ (by omega) (by omega)]
    exact v k hk
/-- Told.append -/
theorem c_app {w : Int} (hS : ClS h A) (hA : wfA A) (hl : aLen A + 4 ≤ 600) : ∃ h', Zx 91 0 [zR 2, zI w, zN] [] (Z0 n) h = some (none, Z0 n, h') ∧ ClS h' (apB A w) ∧ frX h' h := by
  obtain ⟨h1, e1, i1, i2, i3⟩ := z_inv (N := 4) (X := fun i (u : zH) => Zx 91 2 [zR 2, zI w, zI (24 - 8 * (i : Int))] [] (Z0 n) u) (I := fun i u => u 2 1 = ((aLen A + i : Nat) : Int) ∧ (∀ j, j < i → zb8 (u 3 (aLen A + j)) = byt w j) ∧ ∀ x k, ¬ (x = 2 ∧ k = 1) → ¬ (x = 3 ∧ aLen A ≤ k) → u x k = h x k) (s := h) ⟨hS.1.1, fun j q => absurd q (Nat.not_lt_zero j), fun _ _ _ _ => rfl⟩ (fun i u hi Iu => by
    obtain ⟨i1, i2, i3⟩ := Iu
    have st := b91_2 (S := Z0 n) (h := u) (l0 := 2) (l1 := w) (l2 := 24 - 8 * (i : Int)) (LX7_2 n) (by rw [i1]; intros; omega) (by rw [i1, zw_nat (by omega)]; intros; omega)
    rw [i1, zw_id (z := 24 - 8 * (i : Int)) (by omega) (by omega), if_neg (by omega), zw_nat (n := aLen A + i) (by omega), if_neg (by omega), Int.toNat_natCast, show zb8 (zushr w (24 - 8 * (i : Int))) = byt w i from rfl, zu_off (by omega), i1, b91_23 (LX7_2 n)] at st
    refine ⟨_, st.trans (by rw [show 24 - 8 * (i : Int) + -8 = 24 - 8 * ((i + 1 : Nat) : Int) by omega]), ?_, fun j hj => ?_, fun x k q1 q2 => ?_⟩
    · rw [zu_eq]; omega
    · rw [zu_off (by omega)]
      by_cases c : j = i
      · rw [c, zu_eq]; exact zb8_zb8 _
      · rw [zu_off (by omega)]; exact i2 j (by omega)
    · rw [zu_off (by omega), zu_off (by omega)]; exact i3 x k q1 q2)
  refine ⟨h1, ?_, ?_, fun x k q => i3 x k (by omega) (by omega)⟩
  · rw [b91_0 (LX7_2 n)]
    refine e1.trans ?_
    show Zx 91 2 _ _ _ _ = _
    rw [b91_2 (LX7_2 n) (fun q => absurd (by decide) q) (fun q => absurd (by decide) q), if_pos (by decide)]
  · refine hS.tape hA rfl (fun x k q1 q2 => i3 x k q1 (by omega)) i1 (fun k hk => ?_)
    by_cases c : k < aLen A
    · rw [apB_b c, i3 _ _ (by omega) (by omega)]
      exact hS.1.2.1 k c
    · have hk' : k < aLen A + 4 := hk
      have := i2 (k - aLen A) (by omega)
      rw [show aLen A + (k - aLen A) = k by omega] at this
      rw [this]
      have q := apB_n (A := A) (w := w) (i := k - aLen A) (by omega)
      rw [show aLen A + (k - aLen A) = k by omega] at q
      exact q.symm
/-- FringeBenchModel.fourBytes -/
theorem m_fbs {w : Int} (hM : McT h 0 A) (hl : aLen A + 4 ≤ 600) : ∃ h', Zx 146 0 [zR 202, zI w, zN] [] (Z0 n) h = some (none, Z0 n, h') ∧ McT h' 0 (apB A w) ∧ frY h' h := by
  obtain ⟨h1, e1, i1, i2, i3⟩ := z_inv (N := 4) (X := fun i (u : zH) => Zx 146 2 [zR 202, zI w, zI (24 - 8 * (i : Int))] [] (Z0 n) u) (I := fun i u => u 204 0 = ((aLen A + i : Nat) : Int) ∧ (∀ j, j < i → zb8 (u 203 (aLen A + j)) = byt w j) ∧ ∀ x k, ¬ (x = 204 ∧ k = 0) → ¬ (x = 203 ∧ aLen A ≤ k ∧ k < 600) → u x k = h x k) (s := h) ⟨hM.1, fun j q => absurd q (Nat.not_lt_zero j), fun _ _ _ _ => rfl⟩ (fun i u hi Iu => by
    obtain ⟨i1, i2, i3⟩ := Iu
    have st := b146_2 (n := n) (h := u) (l1 := w) (l2 := 24 - 8 * (i : Int)) (by rw [i1]; intros; omega) (by rw [i1]; intros; omega)
    rw [i1, zw_id (z := 24 - 8 * (i : Int)) (by omega) (by omega), if_neg (by omega), Int.toNat_natCast, ← byt_shr hi, zu_off (by omega), i1] at st
    refine ⟨_, st.trans (by rw [show 24 - 8 * (i : Int) + -8 = 24 - 8 * ((i + 1 : Nat) : Int) by omega]), ?_, fun j hj => ?_, fun x k q1 q2 => ?_⟩
    · rw [zu_eq]; omega
    · rw [zu_off (by omega)]
      by_cases c : j = i
      · rw [c, zu_eq]; exact zb8_zb8 _
      · rw [zu_off (by omega)]; exact i2 j (by omega)
    · rw [zu_off (by omega), zu_off (by omega)]; exact i3 x k q1 q2)
  refine ⟨h1, ?_, ?_, fun x k q => i3 x k (by omega) (by omega)⟩
  · rw [b146_0]
    refine e1.trans ?_
    show Zx 146 2 _ _ _ _ = _
    rw [b146_2 (fun q => absurd (by decide) q) (fun q => absurd (by decide) q), if_pos (by decide)]
  · refine hM.tape rfl (fun x k q1 q2 => i3 x k (by omega) (by omega)) i1 (fun k hk => ?_)
    by_cases c : k < aLen A
    · rw [apB_b c, i3 _ _ (by omega) (by omega)]
      have := hM.2.1 k c
      rw [show 600 * 0 + k = k by omega] at this
      exact this
    · have hk' : k < aLen A + 4 := hk
      have := i2 (k - aLen A) (by omega)
      rw [show aLen A + (k - aLen A) = k by omega] at this
      rw [this]
      have q := apB_n (A := A) (w := w) (i := k - aLen A) (by omega)
      rw [show aLen A + (k - aLen A) = k by omega] at q
      exact q.symm
theorem apB_len {w : Int} : aLen (apB A w) = aLen A + 4 := rfl
/-- feed -/
theorem op_feed (hA : wfA A) {a b c d e : Int} : OpW n 95 145 [zR 1, zI a, zI b, zI c, zI d, zI e] [zR 202, zI a, zI b, zI c, zI d, zI e] A := by
  have hl := hA.1
  by_cases q : aLen A ≤ 580
  case neg =>
    refine ⟨-1, A, hA, fun h hS => ⟨h, ?_, hS, fun _ _ _ => rfl⟩, fun g hM => ⟨zu g 202 0 0, ?_, McT0 hM, frM0.Y⟩⟩
    · rw [b95_0, hS.1.1, zw_nat (by omega), if_neg (by omega)]
    · rw [b145_0, zu_off (by omega), hM.1, zw_id (by omega) (by omega), if_neg (by omega)]
  have hB1 := apB_wf hA (w := a) (by omega)
  have hB2 := apB_wf hB1 (w := b) (by rw [apB_len]; omega)
  have hB3 := apB_wf hB2 (w := c) (by rw [apB_len, apB_len]; omega)
  have hB4 := apB_wf hB3 (w := d) (by rw [apB_len, apB_len, apB_len]; omega)
  have hB5 := apB_wf hB4 (w := e) (by rw [apB_len, apB_len, apB_len, apB_len]; omega)
  refine ⟨((aLen A + 20 : Nat) : Int), _, hB5, fun h hS => ?_, fun g hM => ?_⟩
  · obtain ⟨h1, e1, S1, f1⟩ := c_app (n := n) (w := a) hS hA (by omega)
    obtain ⟨h2, e2, S2, f2⟩ := c_app (n := n) (w := b) S1 hB1 (by rw [apB_len]; omega)
    obtain ⟨h3, e3, S3, f3⟩ := c_app (n := n) (w := c) S2 hB2 (by rw [apB_len, apB_len]; omega)
    obtain ⟨h4, e4, S4, f4⟩ := c_app (n := n) (w := d) S3 hB3 (by rw [apB_len, apB_len, apB_len]; omega)
    obtain ⟨h5, e5, S5, f5⟩ := c_app (n := n) (w := e) S4 hB4 (by rw [apB_len, apB_len, apB_len, apB_len]; omega)
    refine ⟨h5, ?_, S5, f5.tr (f4.tr (f3.tr (f2.tr f1)))⟩
    rw [b95_0, hS.1.1, zw_nat (by omega), if_pos (by omega), b95_10 (LX7_2 n) e1, b95_14 (LX7_2 n) e2, b95_18 (LX7_2 n) e3, b95_22 (LX7_2 n) e4, b95_26 (LX7_2 n) e5, S5.1.1]
    rfl
  · obtain ⟨h1, e1, S1, f1⟩ := m_fbs (n := n) (w := a) (McT0 (v := 0) (k := 0) hM) (by omega)
    obtain ⟨h2, e2, S2, f2⟩ := m_fbs (n := n) (w := b) S1 (by rw [apB_len]; omega)
    obtain ⟨h3, e3, S3, f3⟩ := m_fbs (n := n) (w := c) S2 (by rw [apB_len, apB_len]; omega)
    obtain ⟨h4, e4, S4, f4⟩ := m_fbs (n := n) (w := d) S3 (by rw [apB_len, apB_len, apB_len]; omega)
    obtain ⟨h5, e5, S5, f5⟩ := m_fbs (n := n) (w := e) S4 (by rw [apB_len, apB_len, apB_len, apB_len]; omega)
    refine ⟨h5, ?_, S5, f5.tr (f4.tr (f3.tr (f2.tr (f1.tr frM0.Y))))⟩
    rw [b145_0, zu_off (by omega), hM.1, zw_id (z := (aLen A : Int) + 20) (by omega) (by omega), if_pos (by omega), b145_15 e1, b145_18 e2, b145_21 e3, b145_24 e4, b145_27 e5, S5.1]
    rfl
/-- end -/
theorem op_end (hA : wfA A) {l : Int} (hl : zint l) : OpW n 96 147 [zR 1, zI l] [zR 202, zI l] A := by
  have h6 := hA.1
  by_cases q : 0 ≤ l ∧ l ≤ aLen A
  case neg =>
    refine ⟨-1, A, hA, fun h hS => ⟨h, ?_, hS, fun _ _ _ => rfl⟩, fun g hM => ⟨zu g 202 0 0, ?_, McT0 hM, frM0.Y⟩⟩
    · rw [b96_0, hl.e, hS.1.1, zw_nat (by omega)]
      by_cases c : l < 0
      · rw [if_pos c, b96_7]
      · rw [if_neg c, if_neg (by omega), b96_7]
    · rw [b147_0, zu_off (by omega), hM.1, b147_9 (s_inz hl ⟨by omega, by omega⟩ ⟨by omega, by omega⟩), if_neg (fun z => z (zif_pos q))]
  obtain ⟨k, rfl⟩ : ∃ k : Nat, l = (k : Int) := ⟨l.toNat, by omega⟩
  refine ⟨(k : Int), (k, A.2), ⟨by show k ≤ 600; omega, hA.2⟩, fun h hS => ⟨zu h 2 1 (k : Int), ?_, hS.tape hA rfl (fun x i q1 q2 => by rw [zu_off (by omega)]) zu_eq (fun i hi => ?_), fun x i q => by rw [zu_off (by omega)]⟩, fun g hM => ⟨zu (zu g 202 0 0) 204 0 (k : Int), ?_, hM.tape rfl (fun x i q1 q2 => by rw [zu_off (by omega), zu_off (by omega)]) zu_eq (fun i hi => ?_), fun x i q => by rw [zu_off (by omega), zu_off (by omega)]⟩⟩
  · rw [b96_0, hl.e, hS.1.1, zw_nat (by omega), if_neg (by omega), if_pos (by omega)]
  · have : i < k := hi
    rw [zu_off (by omega)]
    exact hS.1.2.1 i (by omega)
  · rw [b147_0, zu_off (by omega), hM.1, b147_9 (s_inz hl ⟨by omega, by omega⟩ ⟨by omega, by omega⟩), if_pos (zif_neg q)]
  · have : i < k := hi
    have := hM.2.1 i (by omega)
    rw [show 600 * 0 + i = i by omega] at this
    rw [zu_off (by omega), zu_off (by omega)]
    exact this
end CHG
