/-! READING: a line; the class's -/
section RLN
variable {n : Nat} {h : zH} {d : dR} {c : Nat → Int} {m : Nat}
theorem wrd_u : ∀ w, w < 12 → ∀ w', w' < 12 → zsl w = zsl w' → (∀ j, j < zsl w → zsc w j = zsc w' j) → w = w' := by decide
theorem isW_u {a b w w' : Nat} (hw : w < 12) (hw' : w' < 12) (h1 : isW c a b w) (h2 : isW c a b w') : w = w' :=
  wrd_u w hw w' hw' (h1.1.symm.trans h2.1) (fun j hj => (h1.2 j hj).symm.trans (h2.2 j (by rw [← h2.1, h1.1]; exact hj)))
theorem Lw_u {a b off : Nat} {r r' : Int} (h1 : Lw c a b off 0 r) (h2 : Lw c a b off 0 r') : r = r' := by
  rcases h1 with ⟨i, x1, x2, x3, x4, x5⟩ | ⟨x1, x2⟩
  · rcases h2 with ⟨j, y1, y2, y3, y4, y5⟩ | ⟨y1, y2⟩
    · by_cases z : i = j
      · rw [x4, y4, z]
      · by_cases w : i < j
        · exact absurd x3 (y5 i (Nat.zero_le _) w)
        · exact absurd y3 (x5 j (Nat.zero_le _) (by omega))
    · exact absurd x3 (y2 i (Nat.zero_le _) x2)
  · rcases h2 with ⟨j, y1, y2, y3, y4, y5⟩ | ⟨y1, y2⟩
    · exact absurd y3 (x2 j (Nat.zero_le _) y2)
    · rw [x1, y1]
/-- which line the word from a to b begins -/
noncomputable def lw (c : Nat → Int) (a b off : Nat) : Int := Classical.epsilon (fun r => Lw c a b off 0 r)
theorem lw_e {a b off : Nat} {r : Int} (h : Lw c a b off 0 r) : lw c a b off = r := Lw_u (Classical.epsilon_spec (p := fun r => Lw c a b off 0 r) ⟨r, h⟩) h
theorem Lw_in {a b off : Nat} {r : Int} (h : Lw c a b off 0 r) : r = -1 ∨ (0 ≤ r ∧ r ≤ 5) := by
  rcases h with ⟨i, x1, x2, x3, x4, x5⟩ | ⟨x1, x2⟩
  · right; omega
  · left; exact x1
def oft (t : Int) : Nat := if t = 0 then 0 else 6
/-- a line, whose first token is sought from p on -/
noncomputable def rdG (c : Nat → Int) (m : Nat) (t : Int) (p : Nat) (d : dR) : Bool × Nat × dR := if tK c m p = 1 ∧ lw c (tA c m p) (tB c m p) (oft t) ≠ -1 then (if t = 1 then rdJ c m (lw c (tA c m p) (tB c m p) (oft t)) (tA c m p) (tB c m p) d else rdL c m (lw c (tA c m p) (tB c m p) (oft t)) (m + 1) 0 (tB c m p) d) else (false, tA c m p, d)
theorem Lw_ex {a b off : Nat} : ∀ d k, k + d = 6 → ∃ r, Lw c a b off k r
  | 0, k, h => ⟨-1, Or.inr ⟨rfl, fun j j1 j2 => by omega⟩⟩
  | d + 1, k, h => by
    rcases Classical.em (isW c a b (off + k)) with z | z
    · exact ⟨(k : Int), Or.inl ⟨k, Nat.le_refl _, by omega, z, rfl, fun j j1 j2 => by omega⟩⟩
    · obtain ⟨r, y⟩ := Lw_ex (a := a) (b := b) (off := off) d (k + 1) (by omega)
      have ex : ∀ j, k ≤ j → ¬ isW c a b (off + j) ∨ k + 1 ≤ j := fun j j1 => by
        by_cases v : j = k
        · left; rw [v]; exact z
        · right; omega
      refine ⟨r, ?_⟩
      rcases y with ⟨i, y1, y2, y3, y4, y5⟩ | ⟨y1, y2⟩
      · refine Or.inl ⟨i, by omega, y2, y3, y4, fun j j1 j2 => ?_⟩
        rcases ex j j1 with v | v
        · exact v
        · exact y5 j v j2
      · refine Or.inr ⟨y1, fun j j1 j2 => ?_⟩
        rcases ex j j1 with v | v
        · exact v
        · exact y2 j v j2
theorem lw_s {a b off : Nat} : Lw c a b off 0 (lw c a b off) := Classical.epsilon_spec (p := fun r => Lw c a b off 0 r) (Lw_ex 6 0 rfl)
theorem rdG_ok {t : Int} {p : Nat} (hp : p ≤ m) (hw : wfQ d p) : (rdG c m t p d).2.1 ≤ m ∧ ((rdG c m t p d).1 = true → p < (rdG c m t p d).2.1 ∧ wfQ (rdG c m t p d).2.2 (rdG c m t p d).2.1) := by
  obtain ⟨t1, t2, t3, t4, t5⟩ := tB_in (c := c) hp
  have ri := Lw_in (lw_s (c := c) (a := tA c m p) (b := tB c m p) (off := oft t))
  unfold rdG
  by_cases k : tK c m p = 1 ∧ lw c (tA c m p) (tB c m p) (oft t) ≠ -1
  case neg =>
    rw [if_neg k]
    exact ⟨by show tA c m p ≤ m; omega, fun z => Bool.noConfusion z⟩
  rw [if_pos k]
  generalize lw c (tA c m p) (tB c m p) (oft t) = r at *
  have t6 := t4 (by rw [k.1]; decide)
  by_cases e : t = 1
  · rw [if_pos e]
    obtain ⟨o1, o2⟩ := rdJ_ok (c := c) (m := m) (l := r) (q := tA c m p) (p := tB c m p) (d := d) (by omega) t3 t6 ⟨hw.1, hw.2.1, fun y => by have := hw.2.2 y; omega⟩
    exact ⟨o1, fun y => ⟨by have := (o2 y).1; omega, (o2 y).2⟩⟩
  · rw [if_neg e]
    obtain ⟨o1, o2⟩ := rdL_ok (c := c) (m := m) (l := r) (m + 1) 0 (tB c m p) d t3 ⟨hw.1, hw.2.1, fun y => by have := hw.2.2 y; omega⟩
    exact ⟨o1, fun y => ⟨by have := (o2 y).1; omega, (o2 y).2⟩⟩
/-- Reader.readLine -/
theorem c_rln {t : Int} {p : Nat} (ht : t = 0 ∨ t = 1) (hm : m ≤ 600) (hc : ∀ k, -128 ≤ c k ∧ c k ≤ 127) (hp : p ≤ m) (hT : CTp h c m) (h2 : h 104 2 = tK c m p) (h3 : h 104 3 = ((tA c m p : Nat) : Int)) (h4 : h 104 4 = ((tB c m p : Nat) : Int)) (hC : CDr h d) (hw : wfQ d p) : ∃ h' r, Zx 42 0 [zR 104, zI t, zN, zN] [] (Z0 n) h = some (some (zI r), Z0 n, h') ∧ CEn h' r (rdG c m t p d) ∧ frR h' h := by
  obtain ⟨t1, t2, t3, t4, t5⟩ := tB_in (c := c) hp
  have kz : ∀ p, zw (tK c m p) = tK c m p := fun p => by
    refine zw_id ?_ ?_ <;> · unfold tK; repeat' split
                             all_goals omega
  have rf : ∃ h', Zx 42 14 [zN, zN, zN, zN] [zR 104] (Z0 n) h = some (some (zI 0), Z0 n, h') ∧ CEn h' 0 (false, tA c m p, d) ∧ frR h' h := by
    refine ⟨zu (zu h 104 11 1) 104 12 (h 104 3), ?_, Or.inr ⟨rfl, rfl, by rw [zu_off (by omega), zu_eq], by rw [zu_eq]; exact h3⟩, (frR.rf.z (Or.inl ⟨rfl, by omega⟩)).z (Or.inl ⟨rfl, by omega⟩)⟩
    rw [b42_14 c_rfs (Or.inl rfl)]
  unfold rdG
  by_cases k : tK c m p = 1
  case neg =>
    rw [if_neg (fun z => k z.1)]
    obtain ⟨u, s1, s2, s3⟩ := rf
    refine ⟨u, 0, ?_, s2, s3⟩
    rw [b42_0, h2, kz, if_pos k, b42_9, if_neg (fun z => z (by decide)), s1]
  have t6 := t4 (by rw [k]; decide)
  obtain ⟨r, r1, r2⟩ := c_lof (n := n) (h := h) (c := c) (m := m) (a := tA c m p) (b := tB c m p) (t := t) hm t2 t3 h3 h4 hT.2 hc ht
  have r2' : Lw c (tA c m p) (tB c m p) (oft t) 0 r := r2
  have le := lw_e r2'
  have ri := Lw_in r2'
  rw [le]
  have st : Zx 42 0 [zR 104, zI t, zN, zN] [] (Z0 n) h = if ¬ r = -1 then (if ¬ t = 1 then Zx 42 22 [zR 104, zI t, zI r, zN] [] (Z0 n) h else Zx 42 21 [zR 104, zI t, zI r, zN] [zI r, zR 104] (Z0 n) h) else Zx 42 14 [zN, zN, zN, zN] [zR 104] (Z0 n) h := by
    rw [b42_0, h2, kz, if_neg (fun z => z k), b42_6 r1, b42_9, zw_id (z := r) (by omega) (by omega), zw_id (z := t) (by omega) (by omega)]
  by_cases z : r = -1
  · rw [if_neg (fun y => y z)] at st
    rw [if_neg (fun y => y.2 z)]
    obtain ⟨u, s1, s2, s3⟩ := rf
    exact ⟨u, 0, st.trans s1, s2, s3⟩
  rw [if_pos z] at st
  rw [if_pos ⟨k, z⟩]
  rcases ht with e | e
  · rw [if_pos (by omega)] at st
    rw [if_neg (by omega)]
    have hw' : wfQ d (tB c m p) := ⟨hw.1, hw.2.1, fun y => by have := hw.2.2 y; omega⟩
    obtain ⟨u, r', s1, s2, s3⟩ := c_lnP (n := n) (l := r) (c := c) (m := m) (by omega) hm hc (m + 1) 0 (tB c m p) d h (by omega) (Nat.zero_le _) t3 hT h4 hC LnC.z hw'
    refine ⟨u, r', ?_, s2, s3⟩
    rw [st, b42_22, e]
    exact s1
  · rw [if_neg (fun y => y e)] at st
    rw [if_pos e]
    have hw' : wfQ d (tA c m p) := ⟨hw.1, hw.2.1, fun y => by have := hw.2.2 y; omega⟩
    obtain ⟨u, r', s1, s2, s3⟩ := c_lnT (n := n) (h := h) (c := c) (m := m) (d := d) (l := r) (q := tA c m p) (p := tB c m p) (by omega) hm hc t3 t6 hT h3 h4 hC hw'
    refine ⟨u, r', ?_, s2, s3⟩
    rw [st, e]
    exact s1
end RLN
