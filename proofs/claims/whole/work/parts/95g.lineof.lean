/-! READING: the class's lineOf -/
section LOG
variable {n : Nat} {h : zH}
/-- Reader.isToken -/
theorem c_ito {c : Nat → Int} {m a b w : Nat} (hm : m ≤ 600) (hab : a ≤ b) (hbm : b ≤ m) (h3 : h 104 3 = (a : Int)) (h4 : h 104 4 = (b : Int)) (hb : ∀ k, k < m → zb8 (h 3 k) = c k) (hc : ∀ k, -128 ≤ c k ∧ c k ≤ 127) (hw : w < 12) : ∃ r, Zx 50 0 [zR 104, zR (1000000 + w), zN] [] (Z0 n) h = some (some (zI r), Z0 n, h) ∧ ((r = 1 ∧ isW c a b w) ∨ (r = 0 ∧ ¬ isW c a b w)) := by
  have hz := zsl_in w hw
  have st := b50_0 (n := n) (h := h) (l1 := w) hw
  rw [h3, h4, zw_nat (n := zsl w) (by omega), zw_id (z := (b : Int) - (a : Int)) (by omega) (by omega)] at st
  by_cases q : (zsl w : Int) = (b : Int) - (a : Int)
  case neg =>
    rw [if_neg q] at st
    exact ⟨0, st, Or.inr ⟨rfl, fun z => by have := z.1; omega⟩⟩
  rw [if_pos q] at st
  have run : ∀ d k : Nat, k + d = zsl w → ∃ r, Zx 50 12 [zR 104, zR (1000000 + w), zI (k : Int)] [] (Z0 n) h = some (some (zI r), Z0 n, h) ∧ ((r = 1 ∧ ∀ j, k ≤ j → j < zsl w → c (a + j) = zsc w j) ∨ (r = 0 ∧ ¬ ∀ j, k ≤ j → j < zsl w → c (a + j) = zsc w j)) := by
    intro d
    induction d with
    | zero =>
      intro k hk
      refine ⟨1, ?_, Or.inl ⟨rfl, fun j j1 j2 => by omega⟩⟩
      rw [b50_12 hw (by rw [zw_nat (n := zsl w) (by omega), zw_nat (n := k) (by omega)]; intros; omega) (by rw [zw_nat (n := zsl w) (by omega), zw_nat (n := k) (by omega)]; intros; omega) (by rw [zw_nat (n := zsl w) (by omega), zw_nat (n := k) (by omega)]; intros; omega) (by rw [zw_nat (n := zsl w) (by omega), zw_nat (n := k) (by omega)]; intros; omega), zw_nat (n := zsl w) (by omega), zw_nat (n := k) (by omega), if_pos (by omega)]
    | succ d ih =>
      intro k hk
      have zk := zsc_in w hw k (by omega)
      have ck := hc (a + k)
      have s := b50_12 (n := n) (h := h) (l1 := w) (l2 := (k : Int)) hw (by rw [h3]; intros; omega) (by rw [h3]; intros; omega) (by intros; omega) (by intros; omega)
      rw [zw_nat (n := zsl w) (by omega), zw_nat (n := k) (by omega), if_neg (by omega), h3, show ((a : Int) + (k : Int)).toNat = a + k by omega, hb (a + k) (by omega), Int.toNat_natCast, zw_id (z := c (a + k)) (by omega) (by omega), zw_id (z := zsc w k) (by omega) (by omega)] at s
      by_cases y : c (a + k) = zsc w k
      · rw [if_pos y] at s
        obtain ⟨r, e, z⟩ := ih (k + 1) (by omega)
        refine ⟨r, s.trans e, ?_⟩
        rcases z with ⟨z1, z2⟩ | ⟨z1, z2⟩
        · refine Or.inl ⟨z1, fun j j1 j2 => ?_⟩
          by_cases v : j = k
          · rw [v]; exact y
          · exact z2 j (by omega) j2
        · exact Or.inr ⟨z1, fun f => z2 (fun j j1 j2 => f j (by omega) j2)⟩
      · rw [if_neg y] at s
        exact ⟨0, s, Or.inr ⟨rfl, fun f => y (f k (Nat.le_refl _) (by omega))⟩⟩
  obtain ⟨r, e, z⟩ := run (zsl w) 0 (by omega)
  refine ⟨r, st.trans e, ?_⟩
  rcases z with ⟨z1, z2⟩ | ⟨z1, z2⟩
  · exact Or.inl ⟨z1, by omega, fun j hj => z2 j (Nat.zero_le _) hj⟩
  · exact Or.inr ⟨z1, fun f => z2 (fun j _ hj => f.2 j hj)⟩
theorem s_pwd {S : zS} {i : Nat} (hi : i < 6) : Zx 51 0 [zI (i : Int)] [] S h = some (some (zR (1000000 + i)), S, h) := by
  rw [b51_0, zw_nat (n := i) (by omega)]
  rcases (by omega : i = 0 ∨ i = 1 ∨ i = 2 ∨ i = 3 ∨ i = 4 ∨ i = 5) with e | e | e | e | e | e <;> subst e
  · show Zx 51 2 _ _ _ _ = _
    refine (Zx_nm (L' := [zN]) rfl rfl).trans ?_
    exact b51_2
  · show Zx 51 4 _ _ _ _ = _
    refine (Zx_nm (L' := [zN]) rfl rfl).trans ?_
    exact b51_4
  · show Zx 51 6 _ _ _ _ = _
    refine (Zx_nm (L' := [zN]) rfl rfl).trans ?_
    exact b51_6
  · show Zx 51 8 _ _ _ _ = _
    refine (Zx_nm (L' := [zN]) rfl rfl).trans ?_
    exact b51_8
  · show Zx 51 10 _ _ _ _ = _
    refine (Zx_nm (L' := [zN]) rfl rfl).trans ?_
    exact b51_10
  · show Zx 51 12 _ _ _ _ = _
    refine (Zx_nm (L' := [zN]) rfl rfl).trans ?_
    exact b51_12
theorem s_twd {S : zS} {i : Nat} (hi : i < 6) : Zx 52 0 [zI (i : Int)] [] S h = some (some (zR (1000000 + (6 + i))), S, h) := by
  rw [b52_0, zw_nat (n := i) (by omega)]
  rcases (by omega : i = 0 ∨ i = 1 ∨ i = 2 ∨ i = 3 ∨ i = 4 ∨ i = 5) with e | e | e | e | e | e <;> subst e
  · show Zx 52 2 _ _ _ _ = _
    refine (Zx_nm (L' := [zN]) rfl rfl).trans ?_
    exact b52_2
  · show Zx 52 4 _ _ _ _ = _
    refine (Zx_nm (L' := [zN]) rfl rfl).trans ?_
    exact b52_4
  · show Zx 52 6 _ _ _ _ = _
    refine (Zx_nm (L' := [zN]) rfl rfl).trans ?_
    exact b52_6
  · show Zx 52 8 _ _ _ _ = _
    refine (Zx_nm (L' := [zN]) rfl rfl).trans ?_
    exact b52_8
  · show Zx 52 10 _ _ _ _ = _
    refine (Zx_nm (L' := [zN]) rfl rfl).trans ?_
    exact b52_10
  · show Zx 52 12 _ _ _ _ = _
    refine (Zx_nm (L' := [zN]) rfl rfl).trans ?_
    exact b52_12
/-- which line it begins: off = 0 for pictures, 6 for tests -/
def Lw (c : Nat → Int) (a b off k : Nat) (r : Int) : Prop := (∃ i : Nat, k ≤ i ∧ i < 6 ∧ isW c a b (off + i) ∧ r = (i : Int) ∧ ∀ j, k ≤ j → j < i → ¬ isW c a b (off + j)) ∨ (r = -1 ∧ ∀ j, k ≤ j → j < 6 → ¬ isW c a b (off + j))
/-- Reader.lineOf -/
theorem c_lof {c : Nat → Int} {m a b : Nat} {t : Int} (hm : m ≤ 600) (hab : a ≤ b) (hbm : b ≤ m) (h3 : h 104 3 = (a : Int)) (h4 : h 104 4 = (b : Int)) (hb : ∀ k, k < m → zb8 (h 3 k) = c k) (hc : ∀ k, -128 ≤ c k ∧ c k ≤ 127) (ht : t = 0 ∨ t = 1) : ∃ r, Zx 49 0 [zR 104, zI t, zN] [] (Z0 n) h = some (some (zI r), Z0 n, h) ∧ Lw c a b (if t = 0 then 0 else 6) 0 r := by
  have run : ∀ d k : Nat, k + d = 6 → ∃ r, Zx 49 2 [zR 104, zI t, zI (k : Int)] [] (Z0 n) h = some (some (zI r), Z0 n, h) ∧ Lw c a b (if t = 0 then 0 else 6) k r := by
    intro d
    induction d with
    | zero =>
      intro k hk
      refine ⟨-1, ?_, Or.inr ⟨rfl, fun j j1 j2 => by omega⟩⟩
      rw [b49_2, zw_nat (n := k) (by omega), if_pos (by omega)]
    | succ d ih =>
      intro k hk
      have s : ∃ r, Zx 49 2 [zR 104, zI t, zI (k : Int)] [] (Z0 n) h = (if zw r = 0 then Zx 49 2 [zR 104, zI t, zI ((k : Int) + 1)] [] (Z0 n) h else some (some (zI (k : Int)), Z0 n, h)) ∧ ((r = 1 ∧ isW c a b ((if t = 0 then 0 else 6) + k)) ∨ (r = 0 ∧ ¬ isW c a b ((if t = 0 then 0 else 6) + k))) := by
        rcases ht with e | e <;> subst e
        · obtain ⟨r, er, z⟩ := c_ito (n := n) (w := k) hm hab hbm h3 h4 hb hc (by omega)
          refine ⟨r, ?_, by rw [if_pos rfl, Nat.zero_add]; exact z⟩
          rw [b49_2, zw_nat (n := k) (by omega), if_neg (by omega), if_neg (fun q => q zw0), b49_9 (by omega) (s_pwd (by omega)), b49_13 (by omega) er]
        · obtain ⟨r, er, z⟩ := c_ito (n := n) (w := 6 + k) hm hab hbm h3 h4 hb hc (by omega)
          refine ⟨r, ?_, by rw [if_neg (by decide)]; exact z⟩
          rw [b49_2, zw_nat (n := k) (by omega), if_neg (by omega), if_pos (show ¬ zw 1 = 0 by decide), b49_12 (by omega) (s_twd (by omega)), b49_13 (by omega) er]
      obtain ⟨r, er, z⟩ := s
      rcases z with ⟨z1, z2⟩ | ⟨z1, z2⟩
      · rw [z1, if_neg (show ¬ zw 1 = 0 by decide)] at er
        exact ⟨(k : Int), er, Or.inl ⟨k, Nat.le_refl _, by omega, z2, rfl, fun j j1 j2 => by omega⟩⟩
      · rw [z1, if_pos zw0] at er
        obtain ⟨r', e', y⟩ := ih (k + 1) (by omega)
        refine ⟨r', er.trans e', ?_⟩
        have ex : ∀ j, k ≤ j → ¬ isW c a b ((if t = 0 then 0 else 6) + j) ∨ k + 1 ≤ j := fun j j1 => by
          by_cases v : j = k
          · left; rw [v]; exact z2
          · right; omega
        rcases y with ⟨i, y1, y2, y3, y4, y5⟩ | ⟨y1, y2⟩
        · refine Or.inl ⟨i, by omega, y2, y3, y4, fun j j1 j2 => ?_⟩
          rcases ex j j1 with v | v
          · exact v
          · exact y5 j v j2
        · refine Or.inr ⟨y1, fun j j1 j2 => ?_⟩
          rcases ex j j1 with v | v
          · exact v
          · exact y2 j v j2
  obtain ⟨r, e, z⟩ := run 6 0 rfl
  exact ⟨r, by rw [b49_0]; exact e, z⟩
end LOG
