/-! THE CLASS'S HEIGHTS: the joints -/
def hj (o : Nat) (m : Int) (A B C D : Nat → Int) (h : zH) : zH := fun x k => if x = o ∧ k = 4 then m else if x = o + 11 then A k else if x = o + 12 then B k else if x = o + 13 then C k else if x = o + 14 then D k else h x k
section P_hj
variable {o : Nat} {m xx : Int} {A B C D : Nat → Int} {h : zH} {k v : Nat}
theorem hj_11 : hj o m A B C D h (o + 11) k = A k := by
  unfold hj
  rw [if_neg (by omega), if_pos rfl]
theorem hj_12 : hj o m A B C D h (o + 12) k = B k := by
  unfold hj
  rw [if_neg (by omega), if_neg (by omega), if_pos rfl]
theorem hj_13 : hj o m A B C D h (o + 13) k = C k := by
  unfold hj
  rw [if_neg (by omega), if_neg (by omega), if_neg (by omega), if_pos rfl]
theorem hj_14 : hj o m A B C D h (o + 14) k = D k := by
  unfold hj
  rw [if_neg (by omega), if_neg (by omega), if_neg (by omega), if_neg (by omega), if_pos rfl]
theorem hj_m : hj o m A B C D h o 4 = m := by
  unfold hj
  rw [if_pos ⟨rfl, rfl⟩]
theorem hj_o {y : Nat} (g : y ≠ o + 11 ∧ y ≠ o + 12 ∧ y ≠ o + 13 ∧ y ≠ o + 14 ∧ ¬ (y = o ∧ k = 4)) : hj o m A B C D h y k = h y k := by
  unfold hj
  rw [if_neg (by omega), if_neg (by omega), if_neg (by omega), if_neg (by omega), if_neg (by omega)]
theorem zu_hj_11 : zu (hj o m A B C D h) (o + 11) v xx = hj o m (fu A v xx) B C D h := by
  funext y k
  by_cases q1 : y = o + 11
  · subst q1
    rw [hj_11]
    by_cases q2 : k = v
    · rw [show zu (hj o m A B C D h) (o + 11) v xx (o + 11) k = xx from if_pos ⟨rfl, q2⟩, q2, fu_same]
    · rw [show zu (hj o m A B C D h) (o + 11) v xx (o + 11) k = hj o m A B C D h (o + 11) k from if_neg (fun z => q2 z.2), fu_ne q2, hj_11]
  · rw [show zu (hj o m A B C D h) (o + 11) v xx y k = hj o m A B C D h y k from if_neg (fun z => q1 z.1)]
    unfold hj
    simp only [if_neg q1]
theorem zu_hj_12 : zu (hj o m A B C D h) (o + 12) v xx = hj o m A (fu B v xx) C D h := by
  funext y k
  by_cases q1 : y = o + 12
  · subst q1
    rw [hj_12]
    by_cases q2 : k = v
    · rw [show zu (hj o m A B C D h) (o + 12) v xx (o + 12) k = xx from if_pos ⟨rfl, q2⟩, q2, fu_same]
    · rw [show zu (hj o m A B C D h) (o + 12) v xx (o + 12) k = hj o m A B C D h (o + 12) k from if_neg (fun z => q2 z.2), fu_ne q2, hj_12]
  · rw [show zu (hj o m A B C D h) (o + 12) v xx y k = hj o m A B C D h y k from if_neg (fun z => q1 z.1)]
    unfold hj
    simp only [if_neg q1]
theorem zu_hj_13 : zu (hj o m A B C D h) (o + 13) v xx = hj o m A B (fu C v xx) D h := by
  funext y k
  by_cases q1 : y = o + 13
  · subst q1
    rw [hj_13]
    by_cases q2 : k = v
    · rw [show zu (hj o m A B C D h) (o + 13) v xx (o + 13) k = xx from if_pos ⟨rfl, q2⟩, q2, fu_same]
    · rw [show zu (hj o m A B C D h) (o + 13) v xx (o + 13) k = hj o m A B C D h (o + 13) k from if_neg (fun z => q2 z.2), fu_ne q2, hj_13]
  · rw [show zu (hj o m A B C D h) (o + 13) v xx y k = hj o m A B C D h y k from if_neg (fun z => q1 z.1)]
    unfold hj
    simp only [if_neg q1]
theorem zu_hj_14 : zu (hj o m A B C D h) (o + 14) v xx = hj o m A B C (fu D v xx) h := by
  funext y k
  by_cases q1 : y = o + 14
  · subst q1
    rw [hj_14]
    by_cases q2 : k = v
    · rw [show zu (hj o m A B C D h) (o + 14) v xx (o + 14) k = xx from if_pos ⟨rfl, q2⟩, q2, fu_same]
    · rw [show zu (hj o m A B C D h) (o + 14) v xx (o + 14) k = hj o m A B C D h (o + 14) k from if_neg (fun z => q2 z.2), fu_ne q2, hj_14]
  · rw [show zu (hj o m A B C D h) (o + 14) v xx y k = hj o m A B C D h y k from if_neg (fun z => q1 z.1)]
    unfold hj
    simp only [if_neg q1]
theorem zu_hj_m : zu (hj o m A B C D h) o 4 xx = hj o xx A B C D h := by
  funext y k
  by_cases q1 : y = o ∧ k = 4
  · obtain ⟨rfl, rfl⟩ := q1
    rw [hj_m]
    exact if_pos ⟨rfl, rfl⟩
  · rw [show zu (hj o m A B C D h) o 4 xx y k = hj o m A B C D h y k from if_neg q1]
    unfold hj
    simp only [if_neg q1]
end P_hj
theorem hj_self {o : Nat} {h : zH} {m : Int} : hj o m (h (o + 11)) (h (o + 12)) (h (o + 13)) (h (o + 14)) h = zu h o 4 m := by
  funext y k
  unfold hj zu
  by_cases q0 : y = o ∧ k = 4
  · rw [if_pos q0, if_pos q0]
  · rw [if_neg q0, if_neg q0]
    by_cases q1 : y = o + 11
    · rw [if_pos q1, q1]
    · rw [if_neg q1]
      by_cases q2 : y = o + 12
      · rw [if_pos q2, q2]
      · rw [if_neg q2]
        by_cases q3 : y = o + 13
        · rw [if_pos q3, q3]
        · rw [if_neg q3]
          by_cases q4 : y = o + 14
          · rw [if_pos q4, q4]
          · rw [if_neg q4]
/-- the joints of a pixel: right, down -/
def jr (W : Nat) (T : Nat → Bool) (a : Nat) : List (Nat × Nat) := if a % W + 1 < W ∧ T a = true ∧ T (a + 1) = true then [(a, a + 1)] else []
def jd (N W : Nat) (T : Nat → Bool) (a : Nat) : List (Nat × Nat) := if a + W < N ∧ T a = true ∧ T (a + W) = true then [(a, a + W)] else []
def jl (N W : Nat) (T : Nat → Bool) : Nat → List (Nat × Nat)
  | 0 => []
  | a + 1 => jl N W T a ++ jr W T a ++ jd N W T a
/-- jump and limit of a joint -/
def jcv (F w : Nat → Int) (a b : Nat) : Int := Int.tdiv (pdif a b (F a) (F b) - (w b - w a)) 400
def jdv (G : Nat → Int) (a b : Nat) : Int := if G b < G a then G b else G a
def JH (F G w : Nat → Int) (L : List (Nat × Nat)) (A B C D : Nat → Int) : Prop := ∀ (j a b : Nat), L[j]? = some (a, b) → A j = (a : Int) ∧ B j = (b : Int) ∧ C j = jcv F w a b ∧ D j = jdv G a b
section JOI
variable {S : zS} {h : zH} {o W H N : Nat} {T : Nat → Bool} {F G w : Nat → Int} {A B C D : Nat → Int} {L : List (Nat × Nat)}
theorem JH.snoc (hJ : JH F G w L A B C D) {a b : Nat} : JH F G w (L ++ [(a, b)]) (fu A L.length (a : Int)) (fu B L.length (b : Int)) (fu C L.length (jcv F w a b)) (fu D L.length (jdv G a b)) := by
  intro j x y e
  rw [List.getElem?_append] at e
  by_cases q : j < L.length
  · rw [if_pos q] at e
    have n : j ≠ L.length := by omega
    rw [fu_ne n, fu_ne n, fu_ne n, fu_ne n]
    exact hJ j x y e
  · rw [if_neg q] at e
    by_cases q2 : j = L.length
    · subst q2
      rw [Nat.sub_self] at e
      have e' : (a, b) = (x, y) := by simpa using e
      obtain ⟨rfl, rfl⟩ := Prod.mk.inj e'
      rw [fu_same, fu_same, fu_same, fu_same]
      exact ⟨rfl, rfl, rfl, rfl⟩
    · rw [List.getElem?_eq_none (by simp; omega)] at e
      cases e
theorem jl_len {a : Nat} (hW : 2 ≤ W ∧ W ≤ 5) (hH : 2 ≤ H ∧ H ≤ 5) (hN : N = W * H) : a ≤ N → (jl N W T a).length ≤ a - a / W + (if a ≤ N - W then a else N - W) := by
  induction a with
  | zero => intro _; simp [jl]
  | succ a ih =>
    intro ha
    have i := ih (by omega)
    rw [jl, List.length_append, List.length_append]
    have r : (jr W T a).length ≤ if a % W + 1 < W then 1 else 0 := by
      unfold jr
      by_cases q : a % W + 1 < W ∧ T a = true ∧ T (a + 1) = true
      · rw [if_pos q, if_pos q.1]; exact Nat.le_refl _
      · rw [if_neg q]; exact Nat.zero_le _
    have d : (jd N W T a).length ≤ if a + W < N then 1 else 0 := by
      unfold jd
      by_cases q : a + W < N ∧ T a = true ∧ T (a + W) = true
      · rw [if_pos q, if_pos q.1]; exact Nat.le_refl _
      · rw [if_neg q]; exact Nat.zero_le _
    obtain ⟨w1, w2⟩ := hW
    rcases (show W = 2 ∨ W = 3 ∨ W = 4 ∨ W = 5 by omega) with rfl | rfl | rfl | rfl <;> (split at r <;> split at d <;> split at i <;> split <;> omega)
theorem jl_40 (hW : 2 ≤ W ∧ W ≤ 5) (hH : 2 ≤ H ∧ H ≤ 5) (hN : N = W * H) : (jl N W T N).length ≤ 40 := by
  have := jl_len (T := T) hW hH hN (Nat.le_refl N)
  obtain ⟨w1, w2⟩ := hW
  rcases (show W = 2 ∨ W = 3 ∨ W = 4 ∨ W = 5 by omega) with rfl | rfl | rfl | rfl <;> (split at this <;> omega)
theorem jr_40 {a : Nat} (hW : 2 ≤ W ∧ W ≤ 5) (hH : 2 ≤ H ∧ H ≤ 5) (hN : N = W * H) (ha : a < N) (h : a % W + 1 < W) : (jl N W T a).length < 40 := by
  have := jl_len (T := T) hW hH hN (Nat.le_of_lt ha)
  obtain ⟨w1, w2⟩ := hW
  rcases (show W = 2 ∨ W = 3 ∨ W = 4 ∨ W = 5 by omega) with rfl | rfl | rfl | rfl <;> (split at this <;> omega)
theorem jd_40 {a : Nat} (hW : 2 ≤ W ∧ W ≤ 5) (hH : 2 ≤ H ∧ H ≤ 5) (hN : N = W * H) (ha : a < N) (h : a + W < N) : (jl N W T a ++ jr W T a).length < 40 := by
  have := jl_len (T := T) hW hH hN (Nat.le_of_lt ha)
  have r : (jr W T a).length ≤ 1 := by
    unfold jr
    split
    · exact Nat.le_refl _
    · exact Nat.zero_le _
  rw [List.length_append]
  obtain ⟨w1, w2⟩ := hW
  rcases (show W = 2 ∨ W = 3 ∨ W = 4 ∨ W = 5 by omega) with rfl | rfl | rfl | rfl <;> (split at this <;> omega)
/-- Heights.addJoint -/
theorem s_ajo {J a b : Nat} (hL : LX0 S o) (hS : ScC h (o + 1) W H N T F G) (hw : wfS W H N T F G) (ha : a < N) (hb : b < N) (ea : h (o + 6) a = w a) (eb : h (o + 6) b = w b) (ra : -10400 ≤ w a ∧ w a ≤ 10400) (rb : -10400 ≤ w b ∧ w b ≤ 10400) (hJ : J < 40) : Zx 4 0 [zR o, zI (a : Int), zI (b : Int), zN] [] S (hj o (J : Int) A B C D h) = some (none, S, hj o ((J + 1 : Nat) : Int) (fu A J (a : Int)) (fu B J (b : Int)) (fu C J (jcv F w a b)) (fu D J (jdv G a b)) h) := by
  obtain ⟨w1, w2, w5, w6, wk⟩ := hw
  obtain ⟨s0, s1, s2, sk⟩ := hS
  obtain ⟨fa, fa2, ga1, ga2⟩ := wk a ha
  obtain ⟨fb, fb2, gb1, gb2⟩ := wk b hb
  have pa : h (o + 3) a = F a := (sk a ha).2.1
  have pb : h (o + 3) b = F b := (sk b hb).2.1
  have wa : h (o + 4) a = G a := (sk a ha).2.2
  have wb : h (o + 4) b = G b := (sk b hb).2.2
  have ra2 : ∀ (m : Int) (A B C D : Nat → Int) (y k : Nat), (y = o + 3 ∨ y = o + 4 ∨ y = o + 6) → hj o m A B C D h y k = h y k := fun m A B C D y k hy => hj_o (by omega)
  rw [b4_0 hL (by intros; (try simp only [zu_hj_11, hj_m, Int.toNat_natCast]); omega) (by intros; (try simp only [zu_hj_11, hj_m, Int.toNat_natCast]); omega) (by intros; (try simp only [zu_hj_11, hj_m, Int.toNat_natCast]); omega) (by intros; (try simp only [zu_hj_11, hj_m, Int.toNat_natCast]); omega) (by intros; (try simp only [zu_hj_11, hj_m, Int.toNat_natCast]); omega) (by intros; (try simp only [zu_hj_11, hj_m, Int.toNat_natCast]); omega) (by intros; (try simp only [zu_hj_11, hj_m, Int.toNat_natCast]); omega) (by intros; (try simp only [zu_hj_11, hj_m, Int.toNat_natCast]); omega)]
  simp only [zu_hj_11, zu_hj_12, hj_m, Int.toNat_natCast]
  rw [ra2 _ _ _ _ _ (o + 6) b (by omega), ra2 _ _ _ _ _ (o + 6) a (by omega), ea, eb]
  have sd := s_sdif (h := hj o (J : Int) (fu A J (a : Int)) (fu B J (b : Int)) C D h) (o := o + 1) hL.scene (a := a) (b := b) (by omega) (by omega) (by rw [show o + 1 + 2 = o + 3 from rfl, ra2 _ _ _ _ _ (o + 3) a (by omega), pa]; exact fa.1) (by rw [show o + 1 + 2 = o + 3 from rfl, ra2 _ _ _ _ _ (o + 3) a (by omega), pa]; exact fa.2) (by rw [show o + 1 + 2 = o + 3 from rfl, ra2 _ _ _ _ _ (o + 3) b (by omega), pb]; exact fb.1) (by rw [show o + 1 + 2 = o + 3 from rfl, ra2 _ _ _ _ _ (o + 3) b (by omega), pb]; exact fb.2)
  rw [show o + 1 + 2 = o + 3 from rfl, ra2 _ _ _ _ _ (o + 3) a (by omega), ra2 _ _ _ _ _ (o + 3) b (by omega), pa, pb] at sd
  have pd := pdif_in (a := a) (b := b) (x := F a) (y := F b) (by omega) (by omega)
  have hc13 : zC S (o + 13) = (100, 40, []) := hL.2.2.2.2.2.2.2.2.2.2.2.2.2.1
  have hc14 : zC S (o + 14) = (100, 40, []) := hL.2.2.2.2.2.2.2.2.2.2.2.2.2.2.1
  rw [b4_32 hL hc13 (by omega) hL.scene sd (by intros; omega) (by intros; omega) (by intros; omega) (by intros; omega) (by intros; omega) (by intros; omega)]
  simp only [zu_hj_13, hj_m, Int.toNat_natCast]
  rw [ra2 _ _ _ _ _ (o + 4) b (by omega), ra2 _ _ _ _ _ (o + 4) a (by omega), wa, wb, zw_id (by omega) (by omega), b4_52 hL hc14 (by omega) (s_min ⟨by omega, by omega⟩ ⟨by omega, by omega⟩) (by intros; omega) (by intros; omega)]
  simp only [zu_hj_14, hj_m, zu_hj_m, Int.toNat_natCast]
  rfl
/-- Heights.join -/
theorem s_joi (hL : LX0 S o) (hS : ScC h (o + 1) W H N T F G) (hw : wfS W H N T F G) (hk : ∀ k, k < N → T k = true → h (o + 6) k = w k ∧ -10400 ≤ w k ∧ w k ≤ 10400) : ∃ A B C D : Nat → Int, Zx 3 0 [zR o, zN, zN, zN] [] S h = some (none, S, hj o ((jl N W T N).length : Int) A B C D h) ∧ JH F G w (jl N W T N) A B C D := by
  have hww := hw
  obtain ⟨w1, w2, w5, w6, wk⟩ := hww
  have hss := hS
  obtain ⟨s0, s1, s2, sk⟩ := hss
  have ScJ : ∀ (m : Int) (A B C D : Nat → Int), ScC (hj o m A B C D h) (o + 1) W H N T F G := fun m A B C D => by
    refine ⟨by rw [hj_o (by omega)]; exact s0, by rw [hj_o (by omega)]; exact s1, by rw [hj_o (by omega)]; exact s2, fun k hk => ?_⟩
    rw [hj_o (by omega), hj_o (by omega), hj_o (by omega)]
    exact sk k hk
  have t2 : ∀ (m : Int) (A B C D : Nat → Int) k, k < N → (zw (zb1 (hj o m A B C D h (o + 2) k)) = 0 ↔ T k = false) := fun m A B C D k hk => (ScJ m A B C D).th hk
  have n2 : ∀ (m : Int) (A B C D : Nat → Int), hj o m A B C D h (o + 1) 2 = (N : Int) := fun m A B C D => by rw [hj_o (by omega)]; exact s2
  -- one side
  have side : ∀ (a s : Nat) (L X : List (Nat × Nat)) (A B C D : Nat → Int), X = (if bs W N a s ≠ -1 ∧ T a = true ∧ T (bs W N a s).toNat = true then [(a, (bs W N a s).toNat)] else []) → a < N → s < 4 → JH F G w L A B C D → (bs W N a s ≠ -1 → L.length < 40) → ∃ A' B' C' D' : Nat → Int, JH F G w (L ++ X) A' B' C' D' ∧ Zx 3 12 [zR o, zI (a : Int), zI (s : Int), zN] [] S (hj o (L.length : Int) A B C D h) = Zx 3 12 [zR o, zI (a : Int), zI ((s + 1 : Nat) : Int), zN] [] S (hj o ((L ++ X).length : Int) A' B' C' D' h) := by
    intro a s L X A B C D hX ha hs hJ hl
    obtain ⟨b1, b2, b3⟩ := bs_in (s := s) w1 w5 ha hs
    have row : Zx 3 12 [zR o, zI (a : Int), zI (s : Int), zN] [] S (hj o (L.length : Int) A B C D h) = Zx 3 19 [zR o, zI (a : Int), zI (s : Int), zN] [zI (s : Int), zI (a : Int), zR (o + 1)] S (hj o (L.length : Int) A B C D h) := by
      rw [b3_12 hL, zw_nat (by omega), if_neg (by omega)]
    have e44 : ∀ H, Zx 3 44 [zR o, zI (a : Int), zI (s : Int), zN] [] S H = Zx 3 12 [zR o, zI (a : Int), zI ((s + 1 : Nat) : Int), zN] [] S H := fun H => by rw [b3_44 hL]; rfl
    have zb := zw_id (z := bs W N a s) (by omega) (by omega)
    have b5 : ¬ zw (bs W N a s) = -1 → 0 ≤ bs W N a s := fun g => by rw [zb] at g; exact b3 g
    have b6 : bs W N a s < 25 := by omega
    have ta := t2 (L.length : Int) A B C D a ha
    rw [row, b3_19 hL hL.scene (s_bes hL.scene (ScJ _ _ _ _ _) hw ha hs) (by intros; omega) (by intros; omega) (fun g _ => b5 g) (fun _ _ => b6), zb, Int.toNat_natCast]
    by_cases q1 : bs W N a s = -1
    · rw [if_neg (fun z => z.1 q1)] at hX
      subst hX
      rw [if_pos q1, List.append_nil, e44]
      exact ⟨A, B, C, D, hJ, rfl⟩
    rw [if_neg q1]
    by_cases q2 : T a = true
    rotate_left
    · rw [if_neg (fun z => q2 z.2.1)] at hX
      subst hX
      rw [if_pos (ta.mpr (Bool.eq_false_iff.mpr q2)), List.append_nil, e44]
      exact ⟨A, B, C, D, hJ, rfl⟩
    rw [if_neg (fun z => by rw [ta.mp z] at q2; cases q2)]
    have b4 := b3 q1
    have bN : (bs W N a s).toNat < N := by omega
    have tb := t2 (L.length : Int) A B C D _ bN
    by_cases q3 : T (bs W N a s).toNat = true
    rotate_left
    · rw [if_neg (fun z => q3 z.2.2)] at hX
      subst hX
      rw [if_pos (tb.mpr (Bool.eq_false_iff.mpr q3)), List.append_nil, e44]
      exact ⟨A, B, C, D, hJ, rfl⟩
    have l40 := hl q1
    rw [if_pos ⟨q1, q2, q3⟩] at hX
    subst hX
    rw [if_neg (fun z => by rw [tb.mp z] at q3; cases q3), hj_m, zw_nat (by omega), if_neg (by omega)]
    obtain ⟨k1, k2⟩ := hk a ha q2
    obtain ⟨k3, k4⟩ := hk _ bN q3
    have aj := s_ajo (A := A) (B := B) (C := C) (D := D) (J := L.length) hL hS hw ha bN k1 k3 k2 k4 l40
    rw [show (((bs W N a s).toNat : Nat) : Int) = bs W N a s by omega] at aj
    refine ⟨_, _, _, _, hJ.snoc (a := a) (b := (bs W N a s).toNat), ?_⟩
    rw [b3_43 hL hL aj, e44, show (((bs W N a s).toNat : Nat) : Int) = bs W N a s by omega, List.length_append]
    rfl
  have jrE : ∀ a, (if bs W N a 2 ≠ -1 ∧ T a = true ∧ T (bs W N a 2).toNat = true then [(a, (bs W N a 2).toNat)] else []) = jr W T a := fun a => by
    have e : bs W N a 2 = if a % W + 1 < W then (a : Int) + 1 else -1 := rfl
    unfold jr
    by_cases q : a % W + 1 < W
    · rw [e, if_pos q, show ((a : Int) + 1).toNat = a + 1 by omega]
      by_cases q2 : T a = true ∧ T (a + 1) = true
      · rw [if_pos ⟨by omega, q2⟩, if_pos ⟨q, q2⟩]
      · rw [if_neg (fun z => q2 z.2), if_neg (fun z => q2 z.2)]
    · rw [e, if_neg q, if_neg (fun z => z.1 rfl), if_neg (fun z => q z.1)]
  have jdE : ∀ a, (if bs W N a 3 ≠ -1 ∧ T a = true ∧ T (bs W N a 3).toNat = true then [(a, (bs W N a 3).toNat)] else []) = jd N W T a := fun a => by
    have e : bs W N a 3 = if a + W < N then (a : Int) + W else -1 := rfl
    unfold jd
    by_cases q : a + W < N
    · rw [e, if_pos q, show ((a : Int) + W).toNat = a + W by omega]
      by_cases q2 : T a = true ∧ T (a + W) = true
      · rw [if_pos ⟨by omega, q2⟩, if_pos ⟨q, q2⟩]
      · rw [if_neg (fun z => q2 z.2), if_neg (fun z => q2 z.2)]
    · rw [e, if_neg q, if_neg (fun z => z.1 rfl), if_neg (fun z => q z.1)]
  have all : ∀ a, a ≤ N → ∃ A B C D : Nat → Int, JH F G w (jl N W T a) A B C D ∧ Zx 3 0 [zR o, zN, zN, zN] [] S h = Zx 3 5 [zR o, zI (a : Int), zN, zN] [] S (hj o ((jl N W T a).length : Int) A B C D h) := by
    intro a
    induction a with
    | zero =>
      intro _
      refine ⟨h (o + 11), h (o + 12), h (o + 13), h (o + 14), (fun j x y e => by cases e), ?_⟩
      rw [b3_0 hL]
      show _ = Zx 3 5 _ _ _ (hj o 0 _ _ _ _ h)
      rw [hj_self]
      rfl
    | succ a ih =>
      intro ha
      obtain ⟨A, B, C, D, hJ, e⟩ := ih (by omega)
      have r : Zx 3 5 [zR o, zI (a : Int), zN, zN] [] S (hj o ((jl N W T a).length : Int) A B C D h) = Zx 3 12 [zR o, zI (a : Int), zI ((2 : Nat) : Int), zN] [] S (hj o ((jl N W T a).length : Int) A B C D h) := by
        rw [b3_5 hL, n2, zw_nat (by omega), zw_nat (by omega), if_neg (by omega)]
        rfl
      obtain ⟨A1, B1, C1, D1, hJ1, e1⟩ := side a 2 _ _ A B C D (jrE a).symm (by omega) (by omega) hJ (fun g => jr_40 w1 w2 w5 (by omega) (by
        apply Classical.byContradiction
        intro z
        exact g (if_neg z)))
      obtain ⟨A2, B2, C2, D2, hJ2, e2⟩ := side a 3 _ _ A1 B1 C1 D1 (jdE a).symm (by omega) (by omega) hJ1 (fun g => jd_40 w1 w2 w5 (by omega) (by
        apply Classical.byContradiction
        intro z
        exact g (if_neg z)))
      refine ⟨A2, B2, C2, D2, hJ2, ?_⟩
      rw [e, r, e1, e2, b3_12 hL, if_pos (by decide)]
      rfl
  obtain ⟨A, B, C, D, hJ, e⟩ := all N (Nat.le_refl _)
  refine ⟨A, B, C, D, ?_, hJ⟩
  rw [e, b3_5 hL, n2, if_pos (Int.le_refl _)]
end JOI
