/-! READING: the reference's readText -/
section RRD
variable {n : Nat} {h : zH} {d : dR} {c : Nat → Int} {m : Nat}
def SEn (h : zH) (t l : Int) (m : Nat) (R : Bool × Nat × dR) : Prop := (R.1 = true ∧ l = 1 ∧ RDr h t R.2.2 ∧ h 202 10 = (m : Int)) ∨ (R.1 = false ∧ l = 0 ∧ h 202 14 = (R.2.1 : Int))
theorem m_rdl {t : Int} (ht : t = 0 ∨ t = 1) (hm : m ≤ 600) (hc : ∀ k, -128 ≤ c k ∧ c k ≤ 127) : ∀ f p (d : dR) (h : zH), m + 1 ≤ p + f → p ≤ m → RTp h c m → RAt h c m p → RDr h t d → wfQ d p → ∃ h' l, Zx 159 13 [zR 202, zI t, zI 1, zN, zN, zN] [] (Z0 n) h = Zx 159 55 [zR 202, zI t, zI l, zN, zN, zN] [] (Z0 n) h' ∧ SEn h' t l m (rdT c m t f p d) ∧ frS h' h
  | 0, p, d, h, hf, hp, _, _, _, _ => absurd hf (by omega)
  | f + 1, p, d, h, hf, hp, hT, hA, hR, hw => by
    obtain ⟨t1, t2, t3, t4, t5⟩ := tB_in (c := c) hp
    obtain ⟨o1, o2⟩ := rdG_ok (c := c) (m := m) (d := d) (t := t) hp hw
    have tz : zw t = t := zw_id (by omega) (by omega)
    have ex : ∀ g : zH, Zx 159 50 [zR 202, zI t, zI 0, zN, zN, zN] [] (Z0 n) g = Zx 159 55 [zR 202, zI t, zI 0, zN, zN, zN] [] (Z0 n) g := fun g => by
      rw [b159_50, if_pos zw0, b159_54, b159_13, if_pos zw0]
    have b0 := b159_13 (n := n) (h := h) (l1 := t) (l2 := 1)
    rw [if_neg (show ¬ zw 1 = 0 by decide), hA.1] at b0
    unfold rdT
    by_cases k : tK c m p = 0
    · rw [if_pos ((rK0 tK_in).mpr k)] at b0
      rw [if_pos k]
      exact ⟨h, 1, b0, Or.inl ⟨rfl, rfl, hR, by rw [hA.2.1, (t5 k).1]⟩, frS.rf⟩
    rw [if_neg (fun z => k ((rK0 tK_in).mp z))] at b0
    rw [if_neg k]
    have b29 : Zx 159 13 [zR 202, zI t, zI 1, zN, zN, zN] [] (Z0 n) h = Zx 159 29 [zR 202, zI t, zN, zI ((tA c m p : Nat) : Int), zN, zN] [zL (wdO c m p)] (Z0 n) h := by
      rw [b0, hA.2.1]
      unfold wdO
      by_cases k1 : tK c m p = 1
      · rw [if_neg (fun z => z ((rK2 tK_in).mpr k1)), if_pos k1, hA.2.2.2.2 k1]
      · rw [if_pos (fun z => k1 ((rK2 tK_in).mp z)), if_neg k1]
    -- the line
    have ln : ∃ g r, Zx 159 13 [zR 202, zI t, zI 1, zN, zN, zN] [] (Z0 n) h = Zx 159 40 [zR 202, zI t, zN, zN, zN, zN] [zI r] (Z0 n) g ∧ MEn g t r c m (rdG c m t p d) ∧ frS g h ∧ (r = 0 ∨ r = 1) := by
      rcases ht with e | e
      · subst e
        obtain ⟨g, r, g1, g2, g3, g4⟩ := m_pln (n := n) (h := h) (d := d) (c := c) hm hc hp hT hA hR hw
        exact ⟨g, r, by rw [b29, b159_29, if_neg (fun z => z zw0), b159_34 g1], g2, g3, g4⟩
      · subst e
        obtain ⟨g, r, g1, g2, g3, g4⟩ := m_tln (n := n) (h := h) (d := d) (c := c) hm hc hp hT hA hR hw
        exact ⟨g, r, by rw [b29, b159_29, if_pos (show ¬ zw 1 = 0 by decide), b159_39 g1], g2, g3, g4⟩
    obtain ⟨g, r, g1, g2, g3, g4⟩ := ln
    rcases g2 with ⟨x1, p', d', x2, x3, x4, x5⟩ | ⟨x1, x2, x3⟩
    · subst x1
      have b40 := b159_40 (n := n) (h := g) (l1 := t) (s0 := 1)
      rw [if_neg (show ¬ zw 1 = 0 by decide), x3.1] at b40
      rcases x5 with ⟨y1, y2⟩ | ⟨y1, y2, y3⟩
      · rw [if_pos ((rK4 tK_in).mpr y1), b159_50, if_neg (show ¬ zw 1 = 0 by decide)] at b40
        rw [y2] at o1 o2
        have o3 := o2 rfl
        rw [y2, if_pos rfl]
        have gT := hT.S g3
        obtain ⟨u, u1, u2, u3, u4, u5, u6, uf⟩ := m_tok (n := n) (h := g) (c := c) hm o1 x3.2.2.1 gT.1 gT.2 hc
        have uS : frS u g := fun x k z1 z2 => uf x k (by omega)
        rw [b159_53 u1, b159_54] at b40
        have o4 : p < tB c m p' := o3.1
        obtain ⟨w, l, w1, w2, w3⟩ := m_rdl (t := t) ht hm hc f (tB c m p') d' u (by omega) o1 (gT.S uS) ⟨u2, u3, u4, u5, u6⟩ (x4.cg (fun x k z => uf x k (by omega))) o3.2
        exact ⟨w, l, (g1.trans b40).trans w1, w2, w3.tr (uS.tr g3)⟩
      · rw [if_neg (fun z => y1 ((rK4 tK_in).mp z)), b159_48 m_stp, ex] at b40
        rw [if_neg (by rw [y2]; decide)]
        exact ⟨_, 0, g1.trans b40, Or.inr ⟨y2, rfl, by rw [zu_eq, x3.2.1, y3]⟩, g3.z (Or.inr ⟨rfl, by omega⟩)⟩
    · subst x1
      have b40 := b159_40 (n := n) (h := g) (l1 := t) (s0 := 0)
      rw [if_pos zw0, ex] at b40
      rw [if_neg (by rw [x2]; decide)]
      exact ⟨g, 0, g1.trans b40, Or.inr ⟨x2, rfl, x3⟩, g3⟩
/-- FringeBenchModel.readText -/
theorem m_rea {t : Int} (ht : t = 0 ∨ t = 1) (hm : m ≤ 600) (hc : ∀ k, -128 ≤ c k ∧ c k ≤ 127) (hT : RTp h c m) : ∃ h', Zx 159 0 [zR 202, zI t, zN, zN, zN, zN] [] (Z0 n) h = some (some (zI (if (rfl4 (rdE c m t) m t).1 = 0 then 1 else 0)), Z0 n, h') ∧ h' 205 0 = (rfl4 (rdE c m t) m t).1 ∧ h' 206 0 = (rfl4 (rdE c m t) m t).2 ∧ ((rfl4 (rdE c m t) m t).1 = 0 → (t = 0 → RoP h' (rD (rdE c m t).2.2)) ∧ (t = 1 → RoT h' (rT (rdE c m t).2.2))) ∧ ∀ x k, x ≠ 210 → ¬ (x = 202 ∧ (k = 8 ∨ (10 ≤ k ∧ k ≤ 16) ∨ k = 18 ∨ k = 19)) → ¬ (x = 205 ∧ k = 0) → ¬ (x = 206 ∧ k = 0) → h' x k = h x k := by
  obtain ⟨a, a1, a2, a3, a4, af⟩ := m_clr (n := n) (h := h) ht
  have aT : RTp (zu (zu a 202 8 0) 202 15 0) c m := ⟨by rw [zu_off (by omega), zu_off (by omega), af _ _ (by omega) (by omega)]; exact hT.1, fun k hk => by rw [zu_off (by omega), zu_off (by omega), af _ _ (by omega) (by omega)]; exact hT.2 k hk⟩
  obtain ⟨b, b1, b2, b3, b4, b5, b6, bf⟩ := m_tok (n := n) (h := zu (zu a 202 8 0) 202 15 0) (c := c) (p := 0) hm (Nat.zero_le _) (by rw [zu_off (by omega), zu_eq]; rfl) aT.1 aT.2 hc
  have b19 : b 202 19 = -1 := by rw [bf _ _ (by omega), zu_off (by omega), zu_off (by omega)]; exact a4
  have b210 : ∀ k, b 210 k = a 210 k := fun k => by rw [bf _ _ (by omega), zu_off (by omega), zu_off (by omega)]
  have bR : RDr b t d0 := ⟨by rw [bf _ _ (by omega), zu_eq]; rfl, fun z => absurd rfl z, by rw [b19]; omega, fun z => by rw [b210, a3 z]; omega, fun _ => ⟨fun z => (a2 z).far b210, fun z => ⟨by rw [b210, a3 z]; rfl, fun k hk => absurd hk (Nat.not_lt_zero k)⟩, b19⟩⟩
  have bT := aT.S (h' := b) (fun x k z1 z2 => bf x k (by omega))
  have bF : ∀ x k, x ≠ 210 → ¬ (x = 202 ∧ (k = 8 ∨ (10 ≤ k ∧ k ≤ 16) ∨ k = 18 ∨ k = 19)) → b x k = h x k := fun x k z1 z2 => by rw [bf x k (by omega), zu_off (by omega), zu_off (by omega), af x k z1 (by omega)]
  obtain ⟨g, l, g1, g2, g3⟩ := m_rdl (n := n) (c := c) (m := m) (t := t) ht hm hc (m + 1) 0 d0 b (by omega) (Nat.zero_le _) bT ⟨b2, b3, b4, b5, b6⟩ bR d0_wf
  have st : Zx 159 0 [zR 202, zI t, zN, zN, zN, zN] [] (Z0 n) h = Zx 159 55 [zR 202, zI t, zI l, zN, zN, zN] [] (Z0 n) g := by
    rw [b159_0, b159_2 a1, b159_12 b1, g1]
  have gF : ∀ x k, x ≠ 210 → ¬ (x = 202 ∧ (k = 8 ∨ (10 ≤ k ∧ k ≤ 16) ∨ k = 18 ∨ k = 19)) → g x k = h x k := fun x k z1 z2 => (g3 x k z1 z2).trans (bF x k z1 z2)
  obtain ⟨k1, k2⟩ := rdT_ok (c := c) (m := m) (t := t) (m + 1) 0 d0 (Nat.zero_le _) d0_wf
  have hE : rdE c m t = rdT c m t (m + 1) 0 d0 := rfl
  rw [hE]
  generalize rdT c m t (m + 1) 0 d0 = R at *
  have tz : zw t = t := zw_id (by omega) (by omega)
  rcases g2 with ⟨x1, x2, x3, x4⟩ | ⟨x1, x2, x3⟩
  · subst x2
    obtain ⟨w1, w2, w3⟩ := k2 x1
    have s79 : ∃ (u : zH) (dF : dR), Zx 159 55 [zR 202, zI t, zI 1, zN, zN, zN] [] (Z0 n) g = Zx 159 79 [zR 202, zN, zI 1, zN, zN, zN] [] (Z0 n) u ∧ RDr u t dF ∧ (0 ≤ rF dF ∧ rF dF ≤ 4) ∧ rfl4 R m t = (rF dF, if rF dF = 0 then -1 else rQ dF) ∧ (rF dF = 0 → dF = R.2.2) ∧ frS u g := by
      have b0 := b159_55 (n := n) (h := g) (l1 := t) (l2 := 1)
      rw [if_neg (show ¬ zw 1 = 0 by decide), tz, x3.1, zw_id (z := rF R.2.2) (by omega) (by omega)] at b0
      unfold rfl4
      rw [if_pos x1]
      by_cases f0 : rF R.2.2 = 0
      · obtain ⟨i1, i2, i3⟩ := x3.2.2.2.2 f0
        rw [if_pos f0]
        rcases ht with e | e
        · subst e
          obtain ⟨v1, v2, v3, v4, v5⟩ := i1 rfl
          have hn : g 210 0 * g 210 1 = ((dN (rD R.2.2) : Nat) : Int) := by
            rw [v1, v2]
            exact (Int.natCast_mul _ _).symm
          have n25 : dN (rD R.2.2) ≤ 25 := by
            have : dW (rD R.2.2) * dH (rD R.2.2) ≤ 5 * 5 := Nat.mul_le_mul w1.1.1.2 w1.1.2.1.2
            exact this
          have rm := w1.2.2.1
          rw [if_neg (fun z => z rfl), if_neg (fun z => z f0), i3, hn, zw_id (z := rM R.2.2) (by omega) (by omega), zw_nat (n := dN (rD R.2.2)) (by omega)] at b0
          by_cases q : ((dN (rD R.2.2) : Nat) : Int) ≤ rM R.2.2
          · obtain ⟨u, u1, u2, u3⟩ := m_lat (n := n) (k := 4) (q := (m : Int)) x3 w2 ⟨by omega, by omega⟩ (fun z => absurd f0 z) ⟨by omega, by omega⟩
            rw [mkF_z f0] at u2
            rw [if_neg (by omega), x4, b159_78 u1] at b0
            rw [if_pos ⟨rfl, q⟩]
            exact ⟨u, _, b0, u2, ⟨by show (0 : Int) ≤ 4; omega, by show (4 : Int) ≤ 4; omega⟩, by show ((4 : Int), (m : Int)) = (4, if (4 : Int) = 0 then -1 else (m : Int)); rw [if_neg (by omega)], fun z => absurd z (by show ¬ (4 : Int) = 0; omega), fun x k z1 z2 => u3 x k (by omega)⟩
          · rw [if_pos (by omega)] at b0
            rw [if_neg (fun z => q z.2)]
            exact ⟨g, R.2.2, b0, x3, w2, by rw [f0, if_pos rfl], fun _ => rfl, frS.rf⟩
        · rw [if_pos (by omega)] at b0
          rw [if_neg (fun z => by omega)]
          exact ⟨g, R.2.2, b0, x3, w2, by rw [f0, if_pos rfl], fun _ => rfl, frS.rf⟩
      · rw [if_neg f0]
        have b0' : Zx 159 55 [zR 202, zI t, zI 1, zN, zN, zN] [] (Z0 n) g = Zx 159 79 [zR 202, zN, zI 1, zN, zN, zN] [] (Z0 n) g := by
          rw [b0]
          by_cases q : t = 0
          · rw [if_neg (fun z => z q), if_pos f0]
          · rw [if_pos q]
        exact ⟨g, R.2.2, b0', x3, w2, by rw [if_neg f0], fun _ => rfl, frS.rf⟩
    obtain ⟨u, dF, u1, u2, u3, u4, u5, u6⟩ := s79
    have uF : ∀ x k, x ≠ 210 → ¬ (x = 202 ∧ (k = 8 ∨ (10 ≤ k ∧ k ≤ 16) ∨ k = 18 ∨ k = 19)) → u x k = h x k := fun x k z1 z2 => (u6 x k z1 z2).trans (gF x k z1 z2)
    have fz : zw (rF dF) = rF dF := zw_id (by omega) (by omega)
    have b88 := b159_88 (n := n) (h := u) (l2 := 1) (s0 := 205) (n_s0 := 4) (r_s0 := []) (s1 := 0) (s2 := rF dF) rfl (by omega) (by omega) (by omega)
    rw [if_pos (show ¬ zw 1 = 0 by decide), show ((0 : Int)).toNat = 0 from rfl, zu_off (x := 205) (y := 202) (by omega), zu_off (x := 205) (y := 202) (by omega), u2.1, fz] at b88
    have b104 : ∀ v : Int, Zx 159 104 [zR 202, zN, zN, zN, zN, zN] [zI v, zI 0, zR 206] (Z0 n) (zu u 205 0 (rF dF)) = some (some (zI (if rF dF = 0 then 1 else 0)), Z0 n, zu (zu u 205 0 (rF dF)) 206 0 v) := fun v => by
      rw [b159_104 (n_s0 := 4) (r_s0 := []) rfl (by omega) (by omega) (by omega), show ((0 : Int)).toNat = 0 from rfl, zu_off (x := 206) (y := 205) (by omega), zu_eq, fz]
      by_cases q : rF dF = 0
      · rw [if_neg (fun z => z q), if_pos q, b159_113 (Or.inr rfl)]
      · rw [if_pos q, if_neg q, b159_113 (Or.inl rfl)]
    refine ⟨zu (zu u 205 0 (rF dF)) 206 0 (if rF dF = 0 then -1 else rQ dF), ?_, by rw [u4, zu_off (by omega), zu_eq], by rw [u4, zu_eq], fun z => ?_, fun x k z1 z2 z3 z4 => by rw [zu_off (by omega), zu_off (by omega)]; exact uF x k z1 z2⟩
    · rw [st, u1, b159_79, if_neg (show ¬ zw 1 = 0 by decide), u2.1, b88, u4]
      by_cases q : rF dF = 0
      · rw [if_pos (by omega), b104, if_pos q, if_pos q]
      · rw [if_neg (by omega), u2.2.1 q, b104, if_neg q, if_neg q]
    · rw [u4] at z
      have z' : rF dF = 0 := z
      have e := u5 z'
      rw [e] at z' u2
      obtain ⟨i1, i2, i3⟩ := u2.2.2.2.2 z'
      refine ⟨fun y => (i1 y).far (fun k => by rw [zu_off (by omega), zu_off (by omega)]), fun y => ?_⟩
      obtain ⟨j1, j2⟩ := i2 y
      exact ⟨by rw [zu_off (by omega), zu_off (by omega)]; exact j1, fun k hk => by rw [zu_off (by omega), zu_off (by omega), zu_off (by omega), zu_off (by omega)]; exact j2 k hk⟩
  · subst x2
    have e4 : rfl4 R m t = (1, (R.2.1 : Int)) := if_neg (by rw [x1]; decide)
    rw [e4]
    refine ⟨zu (zu g 205 0 1) 206 0 (R.2.1 : Int), ?_, by rw [zu_off (by omega), zu_eq], zu_eq, fun z => absurd z (by show ¬ (1 : Int) = 0; omega), fun x k z1 z2 z3 z4 => by rw [zu_off (by omega), zu_off (by omega)]; exact gF x k z1 z2⟩
    rw [st, b159_55, if_pos zw0, b159_79, if_pos zw0, b159_88 (n_s0 := 4) (r_s0 := []) rfl (by omega) (by omega) (by omega), if_neg (fun z => z zw0), show ((0 : Int)).toNat = 0 from rfl, zu_off (x := 205) (y := 202) (by omega), x3, b159_104 (n_s0 := 4) (r_s0 := []) rfl (by omega) (by omega) (by omega), show ((0 : Int)).toNat = 0 from rfl, zu_off (x := 206) (y := 205) (by omega), zu_eq, if_pos (show ¬ zw 1 = 0 by decide), b159_113 (Or.inl rfl), if_neg (show ¬ (1 : Int) = 0 by decide)]
end RRD
