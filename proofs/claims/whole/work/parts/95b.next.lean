/-! READING: the class's next token -/
section NXT
variable {n : Nat} {h : zH}
theorem tA_le {c : Nat → Int} {m p : Nat} (hp : p ≤ m) : p ≤ tA c m p ∧ tA c m p ≤ m := ⟨(rn_spec hp).1, (rn_spec hp).2.1⟩
/-- Reader.next -/
theorem c_nxt {c : Nat → Int} {m p : Nat} (hm : m ≤ 600) (hp : p ≤ m) (h1 : h 104 1 = (m : Int)) (h4 : h 104 4 = (p : Int)) (hb : ∀ k, k < m → zb8 (h 3 k) = c k) (hc : ∀ k, -128 ≤ c k ∧ c k ≤ 127) : ∃ h', Zx 45 0 [zR 104, zN] [] (Z0 n) h = some (none, Z0 n, h') ∧ h' 104 2 = tK c m p ∧ h' 104 3 = ((tA c m p : Nat) : Int) ∧ h' 104 4 = ((tB c m p : Nat) : Int) ∧ (tK c m p = 2 → h' 104 5 = tN c m p) ∧ ∀ x k, ¬ (x = 104 ∧ 2 ≤ k ∧ k ≤ 5) → h' x k = h x k := by
  obtain ⟨r1, r2, r3, r4⟩ := rn_spec (P := blk c) (m := m) (p := p) hp
  have eA : tA c m p = rn (blk c) m p := rfl
  unfold tK tB tN
  rw [eA]
  generalize hr : rn (blk c) m p = a at *
  obtain ⟨g, e, i1, i3⟩ := z_inv (N := a - p) (X := fun k (u : zH) => Zx 45 7 [zR 104, zI ((p + k : Nat) : Int)] [] (Z0 n) u) (I := fun k u => u 104 3 = ((p + k : Nat) : Int) ∧ ∀ x i, ¬ (x = 104 ∧ i = 3) → u x i = h x i) (s := zu h 104 3 (p : Int)) ⟨zu_eq, fun x i q => by rw [zu_off (by omega)]⟩ (fun k u hk Iu => by
    obtain ⟨i1, i3⟩ := Iu
    have u1 : u 104 1 = (m : Int) := by rw [i3 _ _ (by omega)]; exact h1
    have ub : zb8 (u 3 (p + k)) = c (p + k) := by rw [i3 _ _ (by omega)]; exact hb _ (by omega)
    have ck := hc (p + k)
    have dk : c (p + k) = 10 ∨ c (p + k) = 32 := of_decide_eq_true (r3 (p + k) (by omega) (by omega))
    have st := b45_7 (n := n) (h := u) (l1 := ((p + k : Nat) : Int)) (by intros; omega) (by intros; omega) (by intros; omega) (by intros; omega)
    rw [u1, zw_nat (n := m) (by omega), zw_nat (n := p + k) (by omega), if_neg (by omega), Int.toNat_natCast, ub, zw_id (z := c (p + k)) (by omega) (by omega)] at st
    have go : Zx 45 7 [zR 104, zI ((p + k : Nat) : Int)] [] (Z0 n) u = Zx 45 23 [zR 104, zI ((p + k : Nat) : Int)] [] (Z0 n) u := by
      rw [st]
      by_cases q : c (p + k) = 10
      · rw [if_pos q]
      · rw [if_neg q, if_neg (by omega)]
    refine ⟨_, go.trans b45_23, by rw [zu_eq]; omega, fun x i q => by rw [zu_off (by omega)]; exact i3 x i q⟩)
  have pa : p + (a - p) = a := by omega
  rw [pa] at i1
  have u1 : g 104 1 = (m : Int) := by rw [i3 _ _ (by omega)]; exact h1
  have gb : ∀ k, k < m → zb8 (g 3 k) = c k := fun k hk => by rw [i3 _ _ (by omega)]; exact hb k hk
  have e' : Zx 45 7 [zR 104, zI (p : Int)] [] (Z0 n) (zu h 104 3 (p : Int)) = Zx 45 7 [zR 104, zI (a : Int)] [] (Z0 n) g := by
    have : Zx 45 7 [zR 104, zI ((p + 0 : Nat) : Int)] [] (Z0 n) (zu h 104 3 (p : Int)) = Zx 45 7 [zR 104, zI ((p + (a - p) : Nat) : Int)] [] (Z0 n) g := e
    rw [pa] at this
    exact this
  have e30 : Zx 45 0 [zR 104, zN] [] (Z0 n) h = Zx 45 30 [zR 104, zN] [] (Z0 n) g := by
    have z4 : zu h 104 3 (p : Int) 104 4 = (p : Int) := by rw [zu_off (by omega)]; exact h4
    rw [b45_0, h4, z4, e']
    have st := b45_7 (n := n) (h := g) (l1 := (a : Int)) (by intros; omega) (by rw [u1, zw_nat (n := m) (by omega), zw_nat (n := a) (by omega)]; intros; omega) (by intros; omega) (by rw [u1, zw_nat (n := m) (by omega), zw_nat (n := a) (by omega)]; intros; omega)
    rw [u1, zw_nat (n := m) (by omega), zw_nat (n := a) (by omega), Int.toNat_natCast] at st
    rw [st]
    by_cases q : a < m
    · have nb : ¬ (c a = 10 ∨ c a = 32) := of_decide_eq_false (r4 q)
      have ca := hc a
      rw [if_neg (by omega), gb a q, zw_id (z := c a) (by omega) (by omega), if_neg (by omega), if_pos (by omega)]
    · rw [if_pos (by omega)]
  have z3 : ∀ v, zu g 104 4 v 104 3 = (a : Int) := fun v => by rw [zu_off (by omega)]; exact i1
  by_cases q : m ≤ a
  · rw [if_pos q, if_pos q]
    have am : a = m := by omega
    have w1 : zu g 104 3 (m : Int) 104 1 = (m : Int) := by rw [zu_off (by omega)]; exact u1
    refine ⟨zu (zu (zu g 104 3 (m : Int)) 104 4 (m : Int)) 104 2 0, ?_, zu_eq, ?_, ?_, fun z => absurd z (by omega), fun x k z => by rw [zu_off (by omega), zu_off (by omega), zu_off (by omega)]; exact i3 x k (by omega)⟩
    · rw [e30, b45_30 (by rw [i1, u1, zw_nat (n := a) (by omega), zw_nat (n := m) (by omega)]; intros; omega) (by rw [i1, u1, zw_nat (n := a) (by omega), zw_nat (n := m) (by omega)]; intros; omega) (by rw [i1, u1, zw_nat (n := a) (by omega), zw_nat (n := m) (by omega)]; intros; omega) (by rw [i1, u1, zw_nat (n := a) (by omega), zw_nat (n := m) (by omega)]; intros; omega), i1, u1, zw_nat (n := a) (by omega), zw_nat (n := m) (by omega), if_neg (by omega), w1]
    · rw [zu_off (by omega), zu_off (by omega), zu_eq, am]
    · rw [zu_off (by omega), zu_eq]
  rw [if_neg q, if_neg q]
  have ca := hc a
  have st := b45_30 (n := n) (h := g) (by intros; rw [z3]; omega) (by intros; rw [z3]; omega) (by intros; rw [z3]; omega) (by intros; rw [z3]; omega)
  rw [z3, i1, u1, zw_nat (n := a) (by omega), zw_nat (n := m) (by omega), if_pos (by omega), Int.toNat_natCast, zu_off (x := 104) (y := 3) (by omega), gb a (by omega), zw_id (z := c a) (by omega) (by omega)] at st
  by_cases q59 : c a = 59
  · rw [if_pos q59, if_pos q59]
    rw [if_neg (fun z => z q59), b45_108] at st
    refine ⟨_, e30.trans st, zu_eq, by rw [zu_off (by omega)]; exact z3 _, ?_, fun z => absurd z (by omega), fun x k z => by rw [zu_off (by omega), zu_off (by omega)]; exact i3 x k (by omega)⟩
    rw [zu_off (by omega), zu_eq]; omega
  rw [if_neg q59, if_neg q59]
  rw [if_pos q59] at st
  have sl := s_ltr (S := Z0 n) (h := zu g 104 4 ((a : Int) + 1)) (b := c a) ⟨by omega, by omega⟩
  by_cases ql : ltr c a = true
  · rw [if_pos ql, if_pos ql]
    rw [if_pos (of_decide_eq_true ql)] at sl
    have w4 : zu (zu g 104 4 ((a : Int) + 1)) 104 2 1 104 4 = (a : Int) + 1 := by rw [zu_off (by omega), zu_eq]
    rw [b45_69 sl (fun q => absurd q (by decide)) (fun q => absurd q (by decide)), if_neg (show ¬ zw 1 = 0 by decide), w4] at st
    obtain ⟨l1, l2, l3, l4⟩ := rn_spec (P := ltr c) (m := m) (p := a) (by omega)
    have ll := rn_lt (P := ltr c) (m := m) (p := a) (by omega) ql
    generalize hb' : rn (ltr c) m a = b at *
    obtain ⟨k, ek, j1, j3⟩ := z_inv (N := b - (a + 1)) (X := fun k (u : zH) => Zx 45 77 [zR 104, zI ((a + 1 + k : Nat) : Int)] [] (Z0 n) u) (I := fun k u => u 104 4 = ((a + 1 + k : Nat) : Int) ∧ ∀ x i, ¬ (x = 104 ∧ i = 4) → u x i = (zu (zu g 104 4 ((a : Int) + 1)) 104 2 1) x i) (s := zu (zu g 104 4 ((a : Int) + 1)) 104 2 1) ⟨by rw [w4]; omega, fun _ _ _ => rfl⟩ (fun k u hk Iu => by
      obtain ⟨j1, j3⟩ := Iu
      have v1 : u 104 1 = (m : Int) := by rw [j3 _ _ (by omega), zu_off (by omega), zu_off (by omega)]; exact u1
      have vb : zb8 (u 3 (a + 1 + k)) = c (a + 1 + k) := by rw [j3 _ _ (by omega), zu_off (by omega), zu_off (by omega)]; exact gb _ (by omega)
      have ck := hc (a + 1 + k)
      have dk : 97 ≤ c (a + 1 + k) ∧ c (a + 1 + k) ≤ 122 := of_decide_eq_true (l3 (a + 1 + k) (by omega) (by omega))
      have sl := s_ltr (S := Z0 n) (h := u) (b := c (a + 1 + k)) ⟨by omega, by omega⟩
      rw [if_pos dk] at sl
      have st := b45_77 (n := n) (h := u) (l1 := ((a + 1 + k : Nat) : Int)) (by intros; omega) (by intros; omega)
      rw [v1, zw_nat (n := m) (by omega), zw_nat (n := a + 1 + k) (by omega), if_neg (by omega), Int.toNat_natCast, vb, b45_85 sl, if_neg (show ¬ zw 1 = 0 by decide)] at st
      exact ⟨_, st, by rw [zu_eq]; omega, fun x i q => by rw [zu_off (by omega)]; exact j3 x i q⟩)
    have ab : a + 1 + (b - (a + 1)) = b := by omega
    rw [ab] at j1
    have ek' : Zx 45 77 [zR 104, zI ((a : Int) + 1)] [] (Z0 n) (zu (zu g 104 4 ((a : Int) + 1)) 104 2 1) = Zx 45 77 [zR 104, zI (b : Int)] [] (Z0 n) k := by
      have : Zx 45 77 [zR 104, zI ((a + 1 + 0 : Nat) : Int)] [] (Z0 n) (zu (zu g 104 4 ((a : Int) + 1)) 104 2 1) = Zx 45 77 [zR 104, zI ((a + 1 + (b - (a + 1)) : Nat) : Int)] [] (Z0 n) k := ek
      rw [ab] at this
      exact this
    have v1 : k 104 1 = (m : Int) := by rw [j3 _ _ (by omega), zu_off (by omega), zu_off (by omega)]; exact u1
    have fin : Zx 45 77 [zR 104, zI (b : Int)] [] (Z0 n) k = some (none, Z0 n, k) := by
      have st := b45_77 (n := n) (h := k) (l1 := (b : Int)) (by intros; omega) (by rw [v1, zw_nat (n := m) (by omega), zw_nat (n := b) (by omega)]; intros; omega)
      rw [v1, zw_nat (n := m) (by omega), zw_nat (n := b) (by omega), Int.toNat_natCast] at st
      rw [st]
      by_cases z : b < m
      · have vb : zb8 (k 3 b) = c b := by rw [j3 _ _ (by omega), zu_off (by omega), zu_off (by omega)]; exact gb _ z
        have cb := hc b
        have nb : ¬ (97 ≤ c b ∧ c b ≤ 122) := of_decide_eq_false (l4 z)
        have sl := s_ltr (S := Z0 n) (h := k) (b := c b) ⟨by omega, by omega⟩
        rw [if_neg nb] at sl
        rw [if_neg (by omega), vb, b45_85 sl, if_pos zw0, b45_94, b45_108]
      · rw [if_pos (by omega), b45_94, b45_108]
    refine ⟨k, e30.trans (st.trans (ek'.trans fin)), ?_, ?_, j1, fun z => absurd z (by omega), fun x i z => by rw [j3 x i (by omega), zu_off (by omega), zu_off (by omega)]; exact i3 x i (by omega)⟩
    · rw [j3 _ _ (by omega), zu_eq]
    · rw [j3 _ _ (by omega), zu_off (by omega)]; exact z3 _
  rw [if_neg ql, if_neg ql]
  have nl : ¬ (97 ≤ c a ∧ c a ≤ 122) := fun z => ql (decide_eq_true z)
  rw [if_neg nl] at sl
  rw [b45_69 sl (fun _ => by rw [z3]; omega) (fun _ => by rw [z3]; omega), if_pos zw0, z3, Int.toNat_natCast, zu_off (x := 104) (y := 3) (by omega), gb a (by omega)] at st
  have sd := s_dgt (S := Z0 n) (h := zu g 104 4 ((a : Int) + 1)) (b := c a) ⟨by omega, by omega⟩
  by_cases qd : dgt c a = true
  · rw [if_pos qd, if_pos qd]
    rw [if_pos (of_decide_eq_true qd)] at sd
    obtain ⟨k, ek, k2, k4, k5, kf⟩ := c_dig (n := n) (h := zu g 104 4 ((a : Int) + 1)) (c := c) (m := m) (a := a) hm (by rw [zu_off (by omega)]; exact u1) (z3 _) (by omega) qd (fun i hi => by rw [zu_off (by omega)]; exact gb i hi) hc
    rw [b45_100 sd, if_neg (show ¬ zw 1 = 0 by decide), b45_103 ek, b45_108] at st
    refine ⟨k, e30.trans st, k2, by rw [kf _ _ (by omega)]; exact z3 _, k4, fun z => ?_, fun x i z => by rw [kf x i (by omega), zu_off (by omega)]; exact i3 x i (by omega)⟩
    refine k5 ?_
    by_cases y : 4 < rn (dgt c) m a - a
    · rw [if_pos y] at z; exact absurd z (by omega)
    · omega
  · rw [if_neg qd, if_neg qd]
    have nd : ¬ (48 ≤ c a ∧ c a ≤ 57) := fun z => qd (decide_eq_true z)
    rw [if_neg nd] at sd
    rw [b45_100 sd, if_pos zw0, b45_108] at st
    refine ⟨_, e30.trans st, zu_eq, by rw [zu_off (by omega)]; exact z3 _, ?_, fun z => absurd z (by omega), fun x k z => by rw [zu_off (by omega), zu_off (by omega)]; exact i3 x k (by omega)⟩
    rw [zu_off (by omega), zu_eq]; omega
end NXT
