/-! READING: the class's read -/
section RDC
variable {n : Nat} {h : zH} {d : dR} {c : Nat → Int} {m : Nat}
/-- all lines -/
noncomputable def rdT (c : Nat → Int) (m : Nat) (t : Int) : Nat → Nat → dR → Bool × Nat × dR
  | 0, p, d => (false, p, d)
  | f + 1, p, d => if tK c m p = 0 then (true, m, d) else if (rdG c m t p d).1 = true then rdT c m t f (rdG c m t p d).2.1 (rdG c m t p d).2.2 else rdG c m t p d
theorem rdT_ok {t : Int} : ∀ f p d, p ≤ m → wfQ d p → (rdT c m t f p d).2.1 ≤ m ∧ ((rdT c m t f p d).1 = true → wfQ (rdT c m t f p d).2.2 (m + 1))
  | 0, p, d, hp, _ => ⟨hp, fun z => Bool.noConfusion z⟩
  | f + 1, p, d, hp, hw => by
    obtain ⟨o1, o2⟩ := rdG_ok (c := c) (m := m) (d := d) (t := t) hp hw
    unfold rdT
    by_cases k : tK c m p = 0
    · rw [if_pos k]
      exact ⟨Nat.le_refl _, fun _ => ⟨hw.1, hw.2.1, fun y => by have := hw.2.2 y; show 0 ≤ rQ d ∧ rQ d < ((m + 1 : Nat) : Int); omega⟩⟩
    rw [if_neg k]
    by_cases e : (rdG c m t p d).1 = true
    · rw [if_pos e]
      exact rdT_ok (t := t) f _ _ o1 (o2 e).2
    · rw [if_neg e]
      exact ⟨o1, fun z => absurd z e⟩
def REn (h : zH) (R : Bool × Nat × dR) : Prop := (R.1 = true ∧ CDr h R.2.2) ∨ (R.1 = false ∧ h 104 11 = 1 ∧ h 104 12 = (R.2.1 : Int))
theorem c_rdl {t : Int} (ht : t = 0 ∨ t = 1) (hm : m ≤ 600) (hc : ∀ k, -128 ≤ c k ∧ c k ≤ 127) : ∀ f i p (d : dR) (h : zH), m + 1 ≤ p + f → i ≤ p → p ≤ m → CTp h c m → h 104 4 = (p : Int) → CDr h d → wfQ d p → ∃ h', Zx 40 30 [zR 104, zI t, zN, zI 1, zI (i : Int)] [] (Z0 n) h = Zx 40 51 [zR 104, zI t, zN, zN, zN] [] (Z0 n) h' ∧ REn h' (rdT c m t f p d) ∧ frR h' h
  | 0, i, p, d, h, hf, hi, hp, _, _, _, _ => absurd hf (by omega)
  | f + 1, i, p, d, h, hf, hi, hp, hT, h4, hC, hw => by
    obtain ⟨o1, o2⟩ := rdG_ok (c := c) (m := m) (d := d) (t := t) hp hw
    obtain ⟨g, e, g2, g3, g4, g5, gf⟩ := c_nxt (n := n) (h := h) (c := c) hm hp hT.1 h4 hT.2 hc
    have gR : frR g h := fun x k q => gf x k (by omega)
    have gT := hT.R gR
    have gC : CDr g d := hC.cg (fun x k q => gf x k (by omega))
    have kz : zw (tK c m p) = tK c m p := by
      refine zw_id ?_ ?_ <;> · unfold tK; repeat' split
                               all_goals omega
    have st : Zx 40 30 [zR 104, zI t, zN, zI 1, zI (i : Int)] [] (Z0 n) h = if tK c m p = 0 then Zx 40 47 [zR 104, zI t, zN, zN, zI (i : Int)] [] (Z0 n) g else Zx 40 43 [zR 104, zI t, zN, zN, zI (i : Int)] [zI t, zR 104] (Z0 n) g := by
      rw [b40_30, if_neg (show ¬ zw 1 = 0 by decide), hT.1, zw_nat (n := m) (by omega), zw_nat (n := i) (by omega), if_neg (by omega), b40_37 e, g2, kz]
    have ex : ∀ (g : zH) (j : Int), Zx 40 30 [zR 104, zI t, zN, zI 0, zI j] [] (Z0 n) g = Zx 40 51 [zR 104, zI t, zN, zN, zN] [] (Z0 n) g := fun g j => by rw [b40_30, if_pos zw0]
    unfold rdT
    by_cases k : tK c m p = 0
    · rw [if_pos k, b40_47, b40_48, ex] at st
      rw [if_pos k]
      exact ⟨g, st, Or.inl ⟨rfl, gC⟩, gR⟩
    rw [if_neg k] at st
    rw [if_neg k]
    obtain ⟨u, r, u1, u2, u3⟩ := c_rln (n := n) (h := g) (d := d) (c := c) (m := m) (t := t) (p := p) ht hm hc hp gT g2 g3 g4 gC hw
    rw [b40_43 u1] at st
    rcases u2 with ⟨x1, x2, x3, x4⟩ | ⟨x1, x2, x3, x4⟩
    · rw [x2, if_neg (show ¬ zw 1 = 0 by decide), b40_48, show (i : Int) + 1 = ((i + 1 : Nat) : Int) by omega] at st
      rw [if_pos x1]
      obtain ⟨y1, y2⟩ := o2 x1
      obtain ⟨w, w1, w2, w3⟩ := c_rdl (t := t) ht hm hc f (i + 1) (rdG c m t p d).2.1 (rdG c m t p d).2.2 u (by omega) (by omega) o1 (gT.R u3) x3 x4 y2
      exact ⟨w, st.trans w1, w2, w3.tr (u3.tr gR)⟩
    · rw [x2, if_pos zw0, b40_47, b40_48, ex] at st
      rw [if_neg (by rw [x1]; decide)]
      exact ⟨u, st, Or.inr ⟨x1, x3, x4⟩, u3.tr gR⟩
/-- Reader.mentionsMissing -/
theorem c_mis {D : pD} {mx : Int} (hP : PiD h 106 D) (hD : wfD D) (hM : MnC h mx) : Zx 41 0 [zR 104, zN] [] (Z0 n) h = some (some (zI (if ((dN D : Nat) : Int) ≤ mx then 1 else 0)), Z0 n, h) := by
  obtain ⟨m1, m2⟩ := hM
  have run : ∀ e k : Nat, k + e = 25 → Zx 41 4 [zR 104, zI (k : Int)] [] (Z0 n) h = some (some (zI (if (k : Int) ≤ mx then 1 else 0)), Z0 n, h) := by
    intro e
    induction e with
    | zero =>
      intro k hk
      rw [b41_4 (by rw [zw_nat (n := k) (by omega)]; intros; omega) (by rw [zw_nat (n := k) (by omega)]; intros; omega), zw_nat (n := k) (by omega), if_pos (by omega), if_neg (by omega)]
    | succ e ih =>
      intro k hk
      have st := b41_4 (n := n) (h := h) (l1 := (k : Int)) (by intros; omega) (by intros; omega)
      have i1 := ih (k + 1) (by omega)
      rw [zw_nat (n := k) (by omega), if_neg (by omega), Int.toNat_natCast, show (k : Int) + 1 = ((k + 1 : Nat) : Int) by omega, i1] at st
      rw [st]
      by_cases z : zb1 (h 105 k) = 1
      · have := m1 k (by omega) z
        rw [z, if_neg (show ¬ zw 1 = 0 by decide), if_pos this]
      · have z0 : zb1 (h 105 k) = 0 := by unfold zb1 at *; omega
        rw [z0, if_pos zw0]
        by_cases y : (k : Int) ≤ mx
        · by_cases w : mx = (k : Int)
          · rcases m2 with v | ⟨v1, v2, v3⟩
            · omega
            · rw [w, Int.toNat_natCast] at v3
              exact absurd v3 z
          · rw [if_pos (by omega), if_pos y]
        · rw [if_neg (by omega), if_neg y]
  obtain ⟨w1, w2, -⟩ := hD
  have s30 := b30_0 (S := Z0 n) (h := h) (l0 := 106) ⟨rfl, rfl, rfl, rfl, rfl⟩
  have hn : h 106 0 * h 106 1 = ((dN D : Nat) : Int) := by
    rw [hP.1, hP.2.1]
    exact (Int.natCast_mul _ _).symm
  rw [hn] at s30
  have n25 : dN D ≤ 25 := by
    have : dW D * dH D ≤ 5 * 5 := Nat.mul_le_mul w1.2 w2.2
    exact this
  rw [b41_0, b41_2 ⟨rfl, rfl, rfl, rfl, rfl⟩ s30]
  exact run (25 - dN D) (dN D) (by omega)
/-- the draft at the beginning; what reading ends with: fault and place -/
def d0 : dR := (D0, (0, fun _ => 0, fun _ => 0), -1, 0, 0, 0, -1)
theorem d0_wf : wfQ d0 0 := ⟨⟨⟨⟨by decide, by decide⟩, ⟨by decide, by decide⟩, ⟨by decide, by decide⟩, fun _ _ => ⟨by show (0 : Int) ≤ 0; omega, by show (0 : Int) ≤ 99; omega⟩, fun _ _ => ⟨⟨by show (1 : Int) ≤ 1; omega, by show (1 : Int) ≤ 9; omega⟩, by show (-1 : Int) ≤ -1; omega, by show (-1 : Int) < 400; omega⟩⟩, ⟨by decide, fun k hk => absurd hk (Nat.not_lt_zero k)⟩, ⟨by decide, by decide⟩, ⟨by decide, by decide⟩, by decide, by decide⟩, ⟨by decide, by decide⟩, fun z => absurd rfl z⟩
noncomputable def rdE (c : Nat → Int) (m : Nat) (t : Int) : Bool × Nat × dR := rdT c m t (m + 1) 0 d0
def rfl4 (R : Bool × Nat × dR) (m : Nat) (t : Int) : Int × Int := if R.1 = true then (if rF R.2.2 = 0 then (if t = 0 ∧ ((dN (rD R.2.2) : Nat) : Int) ≤ rM R.2.2 then (4, (m : Int)) else (0, -1)) else (rF R.2.2, rQ R.2.2)) else (1, (R.2.1 : Int))
/-- without a fault, the place too is the beginning's -/
theorem rflQ {l v q : Int} {i : Nat} (hd : rF d = 0 → rQ d = -1) : rF (tkP l i v q d) = 0 → rQ (tkP l i v q d) = -1 := by
  unfold tkP
  split
  · rename_i z
    rcases rkn_f (d := d) (l := l) (i := i) (v := v) (q := q) with ⟨y1, y2⟩ | y
    · rw [y1, y2]; exact hd
    · rw [y]; exact fun w => absurd w (by show ¬ (2 : Int) = 0; omega)
  · exact hd
theorem rdL_q {l : Int} : ∀ f i p d, (rF d = 0 → rQ d = -1) → rF (rdL c m l f i p d).2.2 = 0 → rQ (rdL c m l f i p d).2.2 = -1
  | 0, i, p, d, hd => hd
  | f + 1, i, p, d, hd => by
    unfold rdL
    split
    · exact rdL_q (l := l) f _ _ _ (rflQ hd)
    split
    · exact hd
    · exact hd
theorem rdG_q {t : Int} {p : Nat} (hd : rF d = 0 → rQ d = -1) : rF (rdG c m t p d).2.2 = 0 → rQ (rdG c m t p d).2.2 = -1 := by
  unfold rdG
  split
  · split
    · unfold rdJ
      split
      · split
        · show rF (ttL _ _ _ d) = 0 → rQ (ttL _ _ _ d) = -1
          unfold ttL
          split
          · split
            · exact fun w => absurd w (by show ¬ (3 : Int) = 0; omega)
            · exact hd
          · exact hd
        · exact hd
      · exact hd
    · exact rdL_q _ _ _ _ hd
  · exact hd
theorem rdT_q {t : Int} : ∀ f p d, (rF d = 0 → rQ d = -1) → rF (rdT c m t f p d).2.2 = 0 → rQ (rdT c m t f p d).2.2 = -1
  | 0, p, d, hd => hd
  | f + 1, p, d, hd => by
    unfold rdT
    split
    · exact hd
    split
    · exact rdT_q (t := t) f _ _ (rdG_q hd)
    · exact rdG_q hd
/-- Reader.read -/
theorem c_rea {t : Int} (ht : t = 0 ∨ t = 1) (hm : m ≤ 600) (hc : ∀ k, -128 ≤ c k ∧ c k ≤ 127) (hb : ∀ k, k < m → zb8 (h 3 k) = c k) : ∃ h', Zx 40 0 [zR 104, zI t, zI (m : Int), zN, zN] [] (Z0 n) h = some (none, Z0 n, h') ∧ h' 104 11 = (rfl4 (rdE c m t) m t).1 ∧ h' 104 12 = (rfl4 (rdE c m t) m t).2 ∧ ((rfl4 (rdE c m t) m t).1 = 0 → PiD h' 106 (rD (rdE c m t).2.2) ∧ TrL h' (rT (rdE c m t).2.2)) ∧ ∀ x k, (x < 104 ∨ 113 < x) → h' x k = h x k := by
  have mi := s_min (S := Z0 n) (h := h) (a := (m : Int)) (b := 600) ⟨by omega, by omega⟩ ⟨by omega, by omega⟩
  rw [if_neg (by omega)] at mi
  obtain ⟨a, a1, a2, a3⟩ := c_pcl (n := n) (h := zu (zu (zu (zu h 104 1 (m : Int)) 104 4 0) 104 11 0) 104 12 (-1))
  obtain ⟨b, b1, b2, b3⟩ := s_clb (S := Z0 n) (h := zu a 111 0 0) (o := 105) (z := 25) (r := []) rfl (by omega)
  have st : Zx 40 0 [zR 104, zI t, zI (m : Int), zN, zN] [] (Z0 n) h = Zx 40 30 [zR 104, zI t, zN, zI 1, zI ((0 : Nat) : Int)] [] (Z0 n) b := by
    rw [b40_0, b40_5 mi, b40_18 ⟨rfl, rfl, rfl, rfl, rfl⟩ a1, b40_25 rfl (by omega) b1]
    rfl
  have bf : ∀ x k, x ≠ 105 → ¬ (x = 111 ∧ k = 0) → (x < 106 ∨ 110 < x) → b x k = zu (zu (zu (zu h 104 1 (m : Int)) 104 4 0) 104 11 0) 104 12 (-1) x k := fun x k q1 q2 q3 => by rw [b3 x k q1, zu_off (by omega), a3 x k q3]
  have bT : CTp b c m := ⟨by rw [bf _ _ (by omega) (by omega) (by omega), zu_off (by omega), zu_off (by omega), zu_off (by omega), zu_eq], fun k hk => by rw [bf _ _ (by omega) (by omega) (by omega), zu_off (by omega), zu_off (by omega), zu_off (by omega), zu_off (by omega)]; exact hb k hk⟩
  have b111 : b 111 0 = 0 := by rw [b3 _ _ (by omega), zu_eq]
  have bC : CDr b d0 := ⟨by rw [bf _ _ (by omega) (by omega) (by omega), zu_off (by omega), zu_eq]; rfl, by rw [bf _ _ (by omega) (by omega) (by omega), zu_eq]; rfl, by rw [b111]; omega, fun _ => ⟨a2.far (fun x k q1 q2 => by rw [b3 _ _ (by omega), zu_off (by omega)]), ⟨by rw [b111]; rfl, fun k hk => absurd hk (Nat.not_lt_zero k)⟩, ⟨fun k hk q => by rw [b2 k hk] at q; exact absurd q (by decide), Or.inl rfl⟩⟩⟩
  obtain ⟨g, g1, g2, g3⟩ := c_rdl (n := n) (c := c) (m := m) (t := t) ht hm hc (m + 1) 0 0 d0 b (by omega) (Nat.le_refl _) (Nat.zero_le _) bT (by rw [bf _ _ (by omega) (by omega) (by omega), zu_off (by omega), zu_off (by omega), zu_eq]; rfl) bC d0_wf
  obtain ⟨k1, k2⟩ := rdT_ok (c := c) (m := m) (t := t) (m + 1) 0 d0 (Nat.zero_le _) d0_wf
  have kq := rdT_q (c := c) (m := m) (t := t) (m + 1) 0 d0 (fun _ => rfl)
  have gT := bT.R g3
  have gf : ∀ x k, (x < 104 ∨ 113 < x) → g x k = h x k := fun x k q => by rw [g3 x k (by omega), bf x k (by omega) (by omega) (by omega), zu_off (by omega), zu_off (by omega), zu_off (by omega), zu_off (by omega)]
  unfold rdE
  generalize rdT c m t (m + 1) 0 d0 = R at *
  unfold rfl4
  rcases g2 with ⟨x1, x2⟩ | ⟨x1, x2, x3⟩
  · obtain ⟨w1, w2, w3⟩ := k2 x1
    rw [if_pos x1]
    have fz : zw (rF R.2.2) = rF R.2.2 := zw_id (by omega) (by omega)
    by_cases f0 : rF R.2.2 = 0
    · rw [if_pos f0]
      obtain ⟨y1, y2, y3⟩ := x2.2.2.2 f0
      by_cases t0 : t = 0
      · have mm := c_mis (n := n) y1 w1.1 y3
        have s51 : Zx 40 51 [zR 104, zI t, zN, zN, zN] [] (Z0 n) g = Zx 40 57 [zR 104, zN, zN, zN, zN] [zR 104] (Z0 n) g := by
          rw [b40_51, x2.1, fz, if_neg (fun z => z f0), t0, if_neg (fun z => z zw0)]
        by_cases z : ((dN (rD R.2.2) : Nat) : Int) ≤ rM R.2.2
        · rw [if_pos z] at mm
          rw [if_pos ⟨t0, z⟩]
          refine ⟨zu (zu g 104 11 4) 104 12 ((zu g 104 11 4) 104 1), ?_, by rw [zu_off (by omega), zu_eq], by rw [zu_eq, zu_off (by omega)]; exact gT.1, fun w => absurd w (by show ¬ (4 : Int) = 0; omega), fun x k q => by rw [zu_off (by omega), zu_off (by omega)]; exact gf x k q⟩
          rw [st, g1, s51, b40_57 mm, if_neg (show ¬ zw 1 = 0 by decide), b40_66]
        · rw [if_neg z] at mm
          rw [if_neg (fun w => z w.2)]
          refine ⟨g, ?_, x2.1.trans f0, x2.2.1.trans (kq f0), fun _ => ⟨y1, y2⟩, gf⟩
          rw [st, g1, s51, b40_57 mm, if_pos zw0, b40_66]
      · rw [if_neg (fun w => t0 w.1)]
        refine ⟨g, ?_, x2.1.trans f0, x2.2.1.trans (kq f0), fun _ => ⟨y1, y2⟩, gf⟩
        rw [st, g1, b40_51, x2.1, fz, if_neg (fun z => z f0), zw_id (z := t) (by omega) (by omega), if_pos t0, b40_66]
    · rw [if_neg f0]
      refine ⟨g, ?_, x2.1, x2.2.1, fun w => absurd w f0, gf⟩
      rw [st, g1, b40_51, x2.1, fz, if_pos f0, b40_66]
  · rw [if_neg (by rw [x1]; decide)]
    refine ⟨g, ?_, x2, x3, fun w => absurd w (by show ¬ (1 : Int) = 0; omega), gf⟩
    rw [st, g1, b40_51, x2, if_pos (show ¬ zw 1 = 0 by decide), b40_66]
end RDC
