/-! READING: the lines of a picture; the class's -/
section LNP
variable {n : Nat} {h : zH} {d : dR} {c : Nat → Int} {m : Nat}
theorem tB_in {p : Nat} (hp : p ≤ m) : p ≤ tA c m p ∧ tA c m p ≤ tB c m p ∧ tB c m p ≤ m ∧ (tK c m p ≠ 0 → tA c m p < tB c m p) ∧ (tK c m p = 0 → tA c m p = m ∧ tB c m p = m) := by
  obtain ⟨a1, a2⟩ := tA_le (c := c) hp
  unfold tB tK
  generalize tA c m p = a at *
  by_cases q : m ≤ a
  · rw [if_pos q, if_pos q]
    exact ⟨a1, a2, Nat.le_refl _, fun z => absurd rfl z, fun _ => ⟨by omega, rfl⟩⟩
  rw [if_neg q, if_neg q]
  by_cases q1 : c a = 59
  · rw [if_pos q1, if_pos q1]
    exact ⟨a1, by omega, by omega, fun _ => by omega, fun z => absurd z (by omega)⟩
  rw [if_neg q1, if_neg q1]
  by_cases q2 : ltr c a = true
  · rw [if_pos q2, if_pos q2]
    have r := rn_lt (P := ltr c) (m := m) (p := a) (by omega) q2
    obtain ⟨r1, r2, r3, r4⟩ := rn_spec (P := ltr c) (m := m) (p := a) (by omega)
    exact ⟨a1, r1, r2, fun _ => r, fun z => absurd z (by omega)⟩
  rw [if_neg q2, if_neg q2]
  by_cases q3 : dgt c a = true
  · rw [if_pos q3, if_pos q3]
    have r := rn_lt (P := dgt c) (m := m) (p := a) (by omega) q3
    obtain ⟨r1, r2, r3, r4⟩ := rn_spec (P := dgt c) (m := m) (p := a) (by omega)
    exact ⟨a1, r1, r2, fun _ => r, fun z => by
      by_cases y : 4 < rn (dgt c) m a - a
      · rw [if_pos y] at z; exact absurd z (by omega)
      · rw [if_neg y] at z; exact absurd z (by omega)⟩
  rw [if_neg q3, if_neg q3]
  exact ⟨a1, by omega, by omega, fun _ => by omega, fun z => absurd z (by omega)⟩
theorem tN_in {p : Nat} (hp : p ≤ m) (hk : tK c m p = 2) : 0 ≤ tN c m p ∧ tN c m p ≤ 9999 := by
  obtain ⟨a1, a2⟩ := tA_le (c := c) hp
  unfold tK at hk
  unfold tN
  generalize tA c m p = a at *
  by_cases q : m ≤ a
  · rw [if_pos q] at hk; exact absurd hk (by omega)
  rw [if_neg q] at hk
  by_cases q1 : c a = 59
  · rw [if_pos q1] at hk; exact absurd hk (by omega)
  rw [if_neg q1] at hk
  by_cases q2 : ltr c a = true
  · rw [if_pos q2] at hk; exact absurd hk (by omega)
  rw [if_neg q2] at hk
  by_cases q3 : dgt c a = true
  case neg => rw [if_neg q3] at hk; exact absurd hk (by omega)
  rw [if_pos q3] at hk
  by_cases y : 4 < rn (dgt c) m a - a
  · rw [if_pos y] at hk; exact absurd hk (by omega)
  obtain ⟨r1, r2, r3, r4⟩ := rn_spec (P := dgt c) (m := m) (p := a) (by omega)
  have e := dv_in (c := c) (a := a) (rn (dgt c) m a - a) (by omega) (fun z z1 z2 => of_decide_eq_true (r3 z z1 (by omega)))
  have s : ∀ k : Nat, k ≤ 4 → (10 : Int) ^ k ≤ 10000 := by decide
  have := s (rn (dgt c) m a - a) (by omega)
  omega
/-- a line of a picture, behind its word: accepted, how far, the draft -/
def rdL (c : Nat → Int) (m : Nat) (l : Int) : Nat → Nat → Nat → dR → Bool × Nat × dR
  | 0, _, p, d => (false, tA c m p, d)
  | f + 1, i, p, d => if tK c m p = 2 ∧ (i : Int) < mostN 0 l then rdL c m l f (i + 1) (tB c m p) (tkP l i (tN c m p) (tA c m p : Nat) d) else if tK c m p = 3 ∧ fewN 0 l ≤ (i : Int) then (true, tB c m p, d) else (false, tA c m p, d)
theorem rdL_ok {l : Int} : ∀ f i p d, p ≤ m → wfQ d p → (rdL c m l f i p d).2.1 ≤ m ∧ ((rdL c m l f i p d).1 = true → p < (rdL c m l f i p d).2.1 ∧ wfQ (rdL c m l f i p d).2.2 (rdL c m l f i p d).2.1)
  | 0, i, p, d, hp, _ => ⟨(tA_le hp).2, fun z => Bool.noConfusion z⟩
  | f + 1, i, p, d, hp, hw => by
    obtain ⟨t1, t2, t3, t4, t5⟩ := tB_in (c := c) hp
    unfold rdL
    by_cases q : tK c m p = 2 ∧ (i : Int) < mostN 0 l
    · rw [if_pos q]
      have t6 := t4 (by rw [q.1]; decide)
      obtain ⟨i1, i2⟩ := rdL_ok (l := l) f (i + 1) (tB c m p) (tkP l i (tN c m p) (tA c m p : Nat) d) t3 (hw.tk t1 t6)
      exact ⟨i1, fun z => ⟨by have := (i2 z).1; omega, (i2 z).2⟩⟩
    rw [if_neg q]
    by_cases q2 : tK c m p = 3 ∧ fewN 0 l ≤ (i : Int)
    · rw [if_pos q2]
      have t6 := t4 (by rw [q2.1]; decide)
      exact ⟨t3, fun _ => ⟨by show p < tB c m p; omega, hw.1, hw.2.1, fun z => by have := hw.2.2 z; show 0 ≤ rQ d ∧ rQ d < ((tB c m p : Nat) : Int); omega⟩⟩
    · rw [if_neg q2]
      exact ⟨by show tA c m p ≤ m; omega, fun z => Bool.noConfusion z⟩
/-- the tape as the class's reader sees it -/
def CTp (h : zH) (c : Nat → Int) (m : Nat) : Prop := h 104 1 = (m : Int) ∧ ∀ k, k < m → zb8 (h 3 k) = c k
/-- what reading may change of the class -/
def frR (h' h : zH) : Prop := ∀ x k, (x < 104 ∨ 113 < x ∨ (x = 104 ∧ k ≤ 1)) → h' x k = h x k
theorem frR.rf : frR h h := fun _ _ _ => rfl
theorem frR.tr {a b c : zH} (p : frR a b) (q : frR b c) : frR a c := fun x k e => (p x k e).trans (q x k e)
theorem frK.R {h' : zH} (f : frK h' h) : frR h' h := fun x k q => f x k (by omega)
theorem frR.z {h' : zH} {a b : Nat} {v : Int} (f : frR h' h) (q : (a = 104 ∧ 2 ≤ b) ∨ (105 ≤ a ∧ a ≤ 113)) : frR (zu h' a b v) h := fun x k z => by
  rw [zu_off (by omega)]
  exact f x k z
theorem CTp.R {h' : zH} (hT : CTp h c m) (f : frR h' h) : CTp h' c m := ⟨by rw [f _ _ (by omega)]; exact hT.1, fun k hk => by rw [f _ _ (by omega)]; exact hT.2 k hk⟩
theorem CDr.cg {h' : zH} (hC : CDr h d) (e : ∀ x k, ((x = 104 ∧ 6 ≤ k) ∨ (105 ≤ x ∧ x ≤ 113)) → h' x k = h x k) : CDr h' d := by
  obtain ⟨a, b, c, f⟩ := hC
  refine ⟨by rw [e _ _ (by omega)]; exact a, by rw [e _ _ (by omega)]; exact b, by rw [e _ _ (by omega)]; exact c, fun z => ?_⟩
  obtain ⟨f1, f2, f3⟩ := f z
  exact ⟨f1.far (fun x k q1 q2 => e x k (by omega)), ⟨by rw [e _ _ (by omega)]; exact f2.1, fun k hk => by rw [e _ _ (by omega), e _ _ (by omega)]; exact f2.2 k hk⟩, f3.cg (fun k => e _ _ (by omega))⟩
/-- how the class leaves a line -/
def CEn (h : zH) (r : Int) (R : Bool × Nat × dR) : Prop := (R.1 = true ∧ r = 1 ∧ h 104 4 = (R.2.1 : Int) ∧ CDr h R.2.2) ∨ (R.1 = false ∧ r = 0 ∧ h 104 11 = 1 ∧ h 104 12 = (R.2.1 : Int))
/-- the line isn't accepted -/
theorem c_ref {q : Nat} (h3 : h 104 3 = (q : Int)) : ∃ h', Zx 42 54 [zR 104, zN, zN, zN] [] (Z0 n) h = some (some (zI 0), Z0 n, h') ∧ CEn h' 0 (false, q, d) ∧ frR h' h := by
  refine ⟨zu (zu h 104 11 1) 104 12 (h 104 3), ?_, Or.inr ⟨rfl, rfl, by rw [zu_off (by omega), zu_eq], by rw [zu_eq]; exact h3⟩, (frR.rf.z (Or.inl ⟨rfl, by omega⟩)).z (Or.inl ⟨rfl, by omega⟩)⟩
  rw [b42_54, b42_55 c_rfs, if_pos zw0, b42_60 (Or.inl rfl)]
/-- behind the numbers -/
theorem c_sem {l t : Int} {i p : Nat} (hl : 0 ≤ l ∧ l ≤ 5) (ht : t = 0 ∨ t = 1) (hi : i ≤ 600) (h2 : h 104 2 = tK c m p) (h3 : h 104 3 = ((tA c m p : Nat) : Int)) (h4 : h 104 4 = ((tB c m p : Nat) : Int)) (hC : fewN t l ≤ (i : Int) → CDr h d) : ∃ h' r, Zx 42 45 [zR 104, zI t, zI l, zI (i : Int)] [] (Z0 n) h = some (some (zI r), Z0 n, h') ∧ CEn h' r (if tK c m p = 3 ∧ fewN t l ≤ (i : Int) then (true, tB c m p, d) else (false, tA c m p, d)) ∧ frR h' h := by
  have kz : zw (h 104 2) = tK c m p := by
    rw [h2]
    refine zw_id ?_ ?_ <;> · unfold tK; repeat' split
                             all_goals omega
  have fw : 1 ≤ fewN t l ∧ fewN t l ≤ 3 := by
    unfold fewN
    repeat' split
    all_goals omega
  rw [b42_45, kz]
  by_cases q : tK c m p = 3
  · rw [if_neg (fun z => z q), b42_52 (s_few ht hl), zw_id (z := fewN t l) (by omega) (by omega), zw_nat (n := i) (by omega)]
    by_cases r : fewN t l ≤ (i : Int)
    · rw [if_pos r, if_pos ⟨q, r⟩, b42_57, b42_60 (Or.inr rfl)]
      exact ⟨h, 1, rfl, Or.inl ⟨rfl, rfl, h4, hC r⟩, frR.rf⟩
    · rw [if_neg r, if_neg (fun z => r z.2)]
      obtain ⟨g, e1, e2, e3⟩ := c_ref (n := n) (d := d) h3
      exact ⟨g, 0, e1, e2, e3⟩
  · rw [if_pos q, if_neg (fun z => q z.1)]
    obtain ⟨g, e1, e2, e3⟩ := c_ref (n := n) (d := d) h3
    exact ⟨g, 0, e1, e2, e3⟩
/-- the numbers of a line of a picture -/
theorem c_lnP {l : Int} (hl : 0 ≤ l ∧ l ≤ 5) (hm : m ≤ 600) (hc : ∀ k, -128 ≤ c k ∧ c k ≤ 127) : ∀ f i p (d : dR) (h : zH), m + 1 ≤ p + f → i ≤ p → p ≤ m → CTp h c m → h 104 4 = (p : Int) → CDr h d → LnC h l i d → wfQ d p → ∃ h' r, Zx 42 24 [zR 104, zI 0, zI l, zI (i : Int)] [] (Z0 n) h = some (some (zI r), Z0 n, h') ∧ CEn h' r (rdL c m l f i p d) ∧ frR h' h
  | 0, i, p, d, h, hf, hi, hp, _, _, _, _, _ => absurd hf (by omega)
  | f + 1, i, p, d, h, hf, hi, hp, hT, h4, hC, hN, hw => by
    obtain ⟨t1, t2, t3, t4, t5⟩ := tB_in (c := c) hp
    obtain ⟨g, e, g2, g3, g4, g5, gf⟩ := c_nxt (n := n) (h := h) (c := c) hm hp hT.1 h4 hT.2 hc
    have gR : frR g h := fun x k q => gf x k (by omega)
    have gT := hT.R gR
    have gC : CDr g d := hC.cg (fun x k q => gf x k (by omega))
    have ml : mostN 0 l = 600 ∨ (1 ≤ mostN 0 l ∧ mostN 0 l ≤ 3) := by
      unfold mostN fewN
      repeat' split
      all_goals omega
    have st : Zx 42 24 [zR 104, zI 0, zI l, zI (i : Int)] [] (Z0 n) h = if ¬ zw (g 104 2) = 2 then Zx 42 45 [zR 104, zI 0, zI l, zI (i : Int)] [] (Z0 n) g else Zx 42 37 [zR 104, zI 0, zI l, zI (i : Int)] [zI l, zI 0, zI (i : Int)] (Z0 n) g := by
      rw [b42_24, hT.1, zw_nat (n := m) (by omega), zw_nat (n := i) (by omega), if_neg (by omega), b42_29 e]
    have kz : zw (g 104 2) = tK c m p := by
      rw [g2]
      refine zw_id ?_ ?_ <;> · unfold tK; repeat' split
                               all_goals omega
    rw [kz] at st
    obtain ⟨u, r, s1, s2, s3⟩ := c_sem (n := n) (h := g) (c := c) (m := m) (d := d) (l := l) (t := 0) (i := i) (p := p) hl (Or.inl rfl) (by omega) g2 g3 g4 (fun _ => gC)
    unfold rdL
    by_cases q : tK c m p = 2
    case neg =>
      rw [if_pos q] at st
      rw [if_neg (fun z => q z.1)]
      exact ⟨u, r, st.trans s1, s2, s3.tr gR⟩
    rw [if_neg (fun z => z q), b42_37 (s_most (Or.inl rfl) hl), zw_id (z := mostN 0 l) (by omega) (by omega), zw_nat (n := i) (by omega)] at st
    by_cases q2 : (i : Int) < mostN 0 l
    case neg =>
      rw [if_pos (by omega)] at st
      rw [if_neg (fun z => q2 z.2)]
      exact ⟨u, r, st.trans s1, s2, s3.tr gR⟩
    have t6 := t4 (by rw [q]; decide)
    rw [if_neg (by omega)] at st
    rw [if_pos ⟨q, q2⟩]
    have gN : LnC g l i d := fun z => by rw [gf 104 6 (by omega), gf 104 7 (by omega)]; exact hN z
    obtain ⟨v, v1, v2, v4, v3⟩ := c_tkp (n := n) (h := g) (d := d) (l := l) (v := tN c m p) (i := i) (q := tA c m p) gC ⟨hw.1, hw.2.1, fun z => by have := hw.2.2 z; omega⟩ gN hl (by omega) (g5 q) g3 (tN_in hp q)
    rw [b42_43 v1, show (i : Int) + 1 = ((i + 1 : Nat) : Int) by omega] at st
    obtain ⟨w, r', w1, w2, w3⟩ := c_lnP (l := l) hl hm hc f (i + 1) (tB c m p) (tkP l i (tN c m p) (tA c m p : Nat) d) v (by omega) (by omega) t3 (gT.R v3.R) (by rw [v3 _ _ (by omega)]; exact g4) v2 v4 (hw.tk t1 t6)
    exact ⟨w, r', st.trans w1, w2, w3.tr (v3.R.tr gR)⟩
end LNP
