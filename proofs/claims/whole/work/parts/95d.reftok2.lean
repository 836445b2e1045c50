/-! READING: the reference's next token -/
section RTP
variable {n : Nat} {h : zH}
/-- FringeBenchModel.token -/
theorem m_tok {c : Nat → Int} {m p : Nat} (hm : m ≤ 600) (hp : p ≤ m) (h8 : h 202 8 = (p : Int)) (h9 : h 202 9 = (m : Int)) (hb : ∀ k, k < m → zb8 (h 203 k) = c k) (hc : ∀ k, -128 ≤ c k ∧ c k ≤ 127) : ∃ h', Zx 149 0 [zR 202, zN, zN] [] (Z0 n) h = some (none, Z0 n, h') ∧ h' 202 11 = rK (tK c m p) ∧ h' 202 10 = ((tA c m p : Nat) : Int) ∧ h' 202 8 = ((tB c m p : Nat) : Int) ∧ (tK c m p = 2 → h' 202 12 = tN c m p) ∧ (tK c m p = 1 → h' 202 13 = tW c m p) ∧ ∀ x k, ¬ (x = 202 ∧ (k = 8 ∨ (10 ≤ k ∧ k ≤ 13))) → h' x k = h x k := by
  obtain ⟨r1, r2, r3, r4⟩ := rn_spec (P := blk c) (m := m) (p := p) hp
  have eA : tA c m p = rn (blk c) m p := rfl
  unfold tK tB tN tW
  rw [eA]
  generalize hr : rn (blk c) m p = a at *
  obtain ⟨g, e, i1, i3⟩ := z_inv (N := a - p) (X := fun _ (u : zH) => Zx 149 0 [zR 202, zN, zN] [] (Z0 n) u) (I := fun k u => u 202 8 = ((p + k : Nat) : Int) ∧ ∀ x i, ¬ (x = 202 ∧ i = 8) → u x i = h x i) (s := h) ⟨h8, fun _ _ _ => rfl⟩ (fun k u hk Iu => by
    obtain ⟨i1, i3⟩ := Iu
    have u9 : u 202 9 = (m : Int) := by rw [i3 _ _ (by omega)]; exact h9
    have ub : ∀ z, z < m → zb8 (u 203 z) = c z := fun z hz => by rw [i3 _ _ (by omega)]; exact hb _ hz
    have se := m_see (n := n) (h := u) (c := c) (m := m) (p := p + k) hm (by omega) i1 u9 ub hc
    have si := sn_in c m (p + k)
    have dk : c (p + k) = 10 ∨ c (p + k) = 32 := of_decide_eq_true (r3 (p + k) (by omega) (by omega))
    have go : Zx 149 0 [zR 202, zN, zN] [] (Z0 n) u = Zx 149 8 [zR 202, zN, zN] [] (Z0 n) u := by
      rw [b149_0, b149_1 se, zw_id (z := sn c m (p + k)) (by omega) (by omega)]
      by_cases q : sn c m (p + k) = 10
      · rw [if_pos q]
      · have q2 : sn c m (p + k) = 32 := by
          rcases dk with z | z
          · exact absurd ((sn_e hc (x := 10) ⟨by omega, by omega⟩).mpr ⟨by omega, z⟩) q
          · exact (sn_e hc (x := 32) ⟨by omega, by omega⟩).mpr ⟨by omega, z⟩
        rw [if_neg q, b149_5 se, zw_id (z := sn c m (p + k)) (by omega) (by omega), if_neg (fun z => z q2)]
    refine ⟨_, go.trans b149_8, by rw [zu_eq, i1]; omega, fun x i q => by rw [zu_off (by omega)]; exact i3 x i q⟩)
  have pa : p + (a - p) = a := by omega
  rw [pa] at i1
  have u9 : g 202 9 = (m : Int) := by rw [i3 _ _ (by omega)]; exact h9
  have ub : ∀ z, z < m → zb8 (g 203 z) = c z := fun z hz => by rw [i3 _ _ (by omega)]; exact hb _ hz
  have se := m_see (n := n) (h := g) (c := c) (m := m) (p := a) hm (by omega) i1 u9 ub hc
  have si := sn_in c m a
  have ca := hc a
  have n10 : ¬ sn c m a = 10 := fun z => by
    have q := (sn_e hc (x := 10) ⟨by omega, by omega⟩).mp z
    exact absurd (Or.inl q.2) (of_decide_eq_false (r4 q.1))
  have n32 : ¬ sn c m a = 32 := fun z => by
    have q := (sn_e hc (x := 32) ⟨by omega, by omega⟩).mp z
    exact absurd (Or.inr q.2) (of_decide_eq_false (r4 q.1))
  have e' : Zx 149 0 [zR 202, zN, zN] [] (Z0 n) h = Zx 149 0 [zR 202, zN, zN] [] (Z0 n) g := e
  have k8 : (zu g 202 10 (a : Int)) 202 8 = (a : Int) := by rw [zu_off (by omega)]; exact i1
  have k9 : (zu g 202 10 (a : Int)) 202 9 = (m : Int) := by rw [zu_off (by omega)]; exact u9
  have kb : ∀ z, z < m → zb8 ((zu g 202 10 (a : Int)) 203 z) = c z := fun z hz => by rw [zu_off (by omega)]; exact ub _ hz
  have se2 := m_see (n := n) (h := zu g 202 10 (a : Int)) (c := c) (m := m) (p := a) hm (by omega) k8 k9 kb hc
  have e20 : Zx 149 0 [zR 202, zN, zN] [] (Z0 n) h = if 0 ≤ sn c m a then Zx 149 36 [zR 202, zI (sn c m a), zI 0] [zI 122, zI 97, zI (sn c m a)] (Z0 n) (zu (zu g 202 10 (a : Int)) 202 13 0) else Zx 149 137 [zN, zN, zN] [] (Z0 n) (zu (zu (zu g 202 10 (a : Int)) 202 13 0) 202 11 0) := by
    rw [e', b149_0, b149_1 se, zw_id (z := sn c m a) (by omega) (by omega), if_neg n10, b149_5 se, zw_id (z := sn c m a) (by omega) (by omega), if_pos n32, i1, b149_20 se2, zw_id (z := sn c m a) (by omega) (by omega)]
  by_cases q : m ≤ a
  · have sv : sn c m a = -1 := if_neg (by omega)
    rw [if_pos q, if_pos q]
    rw [if_neg (by omega), b149_137] at e20
    refine ⟨_, e20, by rw [zu_eq]; rfl, by rw [zu_off (by omega), zu_off (by omega), zu_eq], by rw [zu_off (by omega), zu_off (by omega), k8]; omega, fun z => absurd z (by omega), fun z => absurd z (by omega), fun x k z => by rw [zu_off (by omega), zu_off (by omega), zu_off (by omega)]; exact i3 x k (by omega)⟩
  have sv : sn c m a = c a % 256 := if_pos (by omega)
  rw [if_neg q, if_neg q]
  rw [if_pos (by omega)] at e20
  have f8 : (zu (zu g 202 10 (a : Int)) 202 13 0) 202 8 = (a : Int) := by rw [zu_off (by omega)]; exact k8
  have f9 : (zu (zu g 202 10 (a : Int)) 202 13 0) 202 9 = (m : Int) := by rw [zu_off (by omega)]; exact k9
  have fb : ∀ z, z < m → zb8 ((zu (zu g 202 10 (a : Int)) 202 13 0) 203 z) = c z := fun z hz => by rw [zu_off (by omega)]; exact kb _ hz
  have f10 : (zu (zu g 202 10 (a : Int)) 202 13 0) 202 10 = (a : Int) := by rw [zu_off (by omega), zu_eq]
  have ff : ∀ x k, ¬ (x = 202 ∧ (k = 10 ∨ k = 13)) → (zu (zu g 202 10 (a : Int)) 202 13 0) x k = g x k := fun x k z => by rw [zu_off (by omega), zu_off (by omega)]
  have f13 : (zu (zu g 202 10 (a : Int)) 202 13 0) 202 13 = 0 := zu_eq
  generalize hG : zu (zu g 202 10 (a : Int)) 202 13 0 = G at *
  rw [b149_36 (s_inz ⟨by omega, by omega⟩ ⟨by omega, by omega⟩ ⟨by omega, by omega⟩)] at e20
  have bl := sn_b (c := c) (m := m) (p := a) hc (x := 97) (y := 122) (by omega) (by omega)
  have bd := sn_b (c := c) (m := m) (p := a) hc (x := 48) (y := 57) (by omega) (by omega)
  by_cases ql : ltr c a = true
  · have lt := of_decide_eq_true ql
    have n59 : ¬ c a = 59 := by omega
    rw [if_neg n59, if_neg n59, if_pos ql, if_pos ql]
    rw [if_neg (zif_neg (bl.mpr ⟨by omega, lt⟩))] at e20
    obtain ⟨k, ek, k11, k8', k13, kf⟩ := m_let (n := n) (h := G) (c := c) (m := m) (a := a) hm (by omega) f8 f9 f13 fb hc
    refine ⟨k, e20.trans ek, k11, by rw [kf _ _ (by omega)]; exact f10, k8', fun z => absurd z (by omega), fun _ => k13, fun x i z => by rw [kf x i (by omega), ff x i (by omega)]; exact i3 x i (by omega)⟩
  have nl : ¬ (97 ≤ c a ∧ c a ≤ 122) := fun z => ql (decide_eq_true z)
  rw [if_pos (zif_pos (fun z => nl (bl.mp z).2)), b149_78 (s_inz ⟨by omega, by omega⟩ ⟨by omega, by omega⟩ ⟨by omega, by omega⟩)] at e20
  by_cases qd : dgt c a = true
  · have dt := of_decide_eq_true qd
    have n59 : ¬ c a = 59 := by omega
    rw [if_neg n59, if_neg n59, if_neg ql, if_neg ql, if_pos qd, if_pos qd]
    rw [if_neg (zif_neg (bd.mpr ⟨by omega, dt⟩))] at e20
    obtain ⟨k, ek, k11, k8', k12, kf⟩ := m_num (n := n) (h := zu G 202 12 0) (c := c) (m := m) (a := a) hm (by omega) (by rw [zu_off (by omega)]; exact f8) (by rw [zu_off (by omega)]; exact f9) zu_eq (fun z hz => by rw [zu_off (by omega)]; exact fb z hz) hc
    refine ⟨k, e20.trans ek, ?_, by rw [kf _ _ (by omega), zu_off (by omega)]; exact f10, k8', fun z => ?_, fun z => ?_, fun x i z => by rw [kf x i (by omega), zu_off (by omega), ff x i (by omega)]; exact i3 x i (by omega)⟩
    · rw [k11]
      by_cases y : 4 < rn (dgt c) m a - a
      · rw [if_pos y, if_pos y]; rfl
      · rw [if_neg y, if_neg y]; rfl
    · refine k12 ?_
      by_cases y : 4 < rn (dgt c) m a - a
      · rw [if_pos y] at z; exact absurd z (by omega)
      · omega
    · by_cases y : 4 < rn (dgt c) m a - a
      · rw [if_pos y] at z; exact absurd z (by omega)
      · rw [if_neg y] at z; exact absurd z (by omega)
  have nd : ¬ (48 ≤ c a ∧ c a ≤ 57) := fun z => qd (decide_eq_true z)
  rw [if_pos (zif_pos (fun z => nd (bd.mp z).2)), zw_id (z := sn c m a) (by omega) (by omega), f8] at e20
  by_cases q59 : c a = 59
  · have s59 : sn c m a = 59 := (sn_e hc (x := 59) ⟨by omega, by omega⟩).mpr ⟨by omega, q59⟩
    rw [if_pos q59, if_pos q59]
    rw [if_neg (fun z => z s59), b149_136, b149_137] at e20
    refine ⟨_, e20, by rw [zu_eq]; rfl, by rw [zu_off (by omega), zu_off (by omega)]; exact f10, by rw [zu_off (by omega), zu_eq]; omega, fun z => absurd z (by omega), fun z => absurd z (by omega), fun x k z => by rw [zu_off (by omega), zu_off (by omega), ff x k (by omega)]; exact i3 x k (by omega)⟩
  · have s59 : ¬ sn c m a = 59 := fun z => q59 ((sn_e hc (x := 59) ⟨by omega, by omega⟩).mp z).2
    rw [if_neg q59, if_neg q59, if_neg ql, if_neg ql, if_neg qd, if_neg qd]
    rw [if_pos s59, b149_136, b149_137] at e20
    refine ⟨_, e20, by rw [zu_eq]; rfl, by rw [zu_off (by omega), zu_off (by omega)]; exact f10, by rw [zu_off (by omega), zu_eq]; omega, fun z => absurd z (by omega), fun z => absurd z (by omega), fun x k z => by rw [zu_off (by omega), zu_off (by omega), ff x k (by omega)]; exact i3 x k (by omega)⟩
end RTP
