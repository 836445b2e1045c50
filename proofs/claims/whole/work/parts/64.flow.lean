/-! THE CLASS'S HEIGHTS: the flow -/
/-- flow, surplus, ways, forerunners put in -/
def hq (o : Nat) (f s d b : Nat → Int) (h : zH) : zH := fun x k => if x = o + 15 then f k else if x = o + 16 then s k else if x = o + 17 then d k else if x = o + 18 then b k else h x k
section HQ
variable {o : Nat} {f s d b f' s' d' b' : Nat → Int} {h : zH} {k v : Nat} {x : Int}
theorem hq_15 : hq o f s d b h (o + 15) k = f k := if_pos rfl
theorem hq_16 : hq o f s d b h (o + 16) k = s k := by
  unfold hq
  rw [if_neg (by omega), if_pos rfl]
theorem hq_17 : hq o f s d b h (o + 17) k = d k := by
  unfold hq
  rw [if_neg (by omega), if_neg (by omega), if_pos rfl]
theorem hq_18 : hq o f s d b h (o + 18) k = b k := by
  unfold hq
  rw [if_neg (by omega), if_neg (by omega), if_neg (by omega), if_pos rfl]
theorem hq_o {y : Nat} (q : y < o + 15 ∨ o + 18 < y) : hq o f s d b h y k = h y k := by
  unfold hq
  rw [if_neg (by omega), if_neg (by omega), if_neg (by omega), if_neg (by omega)]
theorem hq_00 : hq o f s d b h o k = h o k := hq_o (by omega)
theorem hq_1 : hq o f s d b h (o + 1) k = h (o + 1) k := hq_o (by omega)
theorem hq_2 : hq o f s d b h (o + 2) k = h (o + 2) k := hq_o (by omega)
theorem hq_3 : hq o f s d b h (o + 3) k = h (o + 3) k := hq_o (by omega)
theorem hq_5 : hq o f s d b h (o + 5) k = h (o + 5) k := hq_o (by omega)
theorem hq_6 : hq o f s d b h (o + 6) k = h (o + 6) k := hq_o (by omega)
theorem hq_9 : hq o f s d b h (o + 9) k = h (o + 9) k := hq_o (by omega)
theorem hq_10 : hq o f s d b h (o + 10) k = h (o + 10) k := hq_o (by omega)
theorem hq_11 : hq o f s d b h (o + 11) k = h (o + 11) k := hq_o (by omega)
theorem hq_12 : hq o f s d b h (o + 12) k = h (o + 12) k := hq_o (by omega)
theorem hq_13 : hq o f s d b h (o + 13) k = h (o + 13) k := hq_o (by omega)
theorem hq_14 : hq o f s d b h (o + 14) k = h (o + 14) k := hq_o (by omega)
theorem zu_hq_15 : zu (hq o f s d b h) (o + 15) v x = hq o (fu f v x) s d b h := by
  funext y k
  by_cases q1 : y = o + 15
  · subst q1
    by_cases q2 : k = v
    · rw [hq_15, show zu (hq o f s d b h) (o + 15) v x (o + 15) k = x from if_pos ⟨rfl, q2⟩, q2, fu_same]
    · rw [hq_15, show zu (hq o f s d b h) (o + 15) v x (o + 15) k = hq o f s d b h (o + 15) k from if_neg (fun z => q2 z.2), fu_ne q2, hq_15]
  · rw [show zu (hq o f s d b h) (o + 15) v x y k = hq o f s d b h y k from if_neg (fun z => q1 z.1)]
    unfold hq
    simp only [if_neg q1]
theorem zu_hq_16 : zu (hq o f s d b h) (o + 16) v x = hq o f (fu s v x) d b h := by
  funext y k
  by_cases q1 : y = o + 16
  · subst q1
    by_cases q2 : k = v
    · rw [hq_16, show zu (hq o f s d b h) (o + 16) v x (o + 16) k = x from if_pos ⟨rfl, q2⟩, q2, fu_same]
    · rw [hq_16, show zu (hq o f s d b h) (o + 16) v x (o + 16) k = hq o f s d b h (o + 16) k from if_neg (fun z => q2 z.2), fu_ne q2, hq_16]
  · rw [show zu (hq o f s d b h) (o + 16) v x y k = hq o f s d b h y k from if_neg (fun z => q1 z.1)]
    unfold hq
    simp only [if_neg q1]
theorem zu_hq_17 : zu (hq o f s d b h) (o + 17) v x = hq o f s (fu d v x) b h := by
  funext y k
  by_cases q1 : y = o + 17
  · subst q1
    by_cases q2 : k = v
    · rw [hq_17, show zu (hq o f s d b h) (o + 17) v x (o + 17) k = x from if_pos ⟨rfl, q2⟩, q2, fu_same]
    · rw [hq_17, show zu (hq o f s d b h) (o + 17) v x (o + 17) k = hq o f s d b h (o + 17) k from if_neg (fun z => q2 z.2), fu_ne q2, hq_17]
  · rw [show zu (hq o f s d b h) (o + 17) v x y k = hq o f s d b h y k from if_neg (fun z => q1 z.1)]
    unfold hq
    simp only [if_neg q1]
theorem zu_hq_18 : zu (hq o f s d b h) (o + 18) v x = hq o f s d (fu b v x) h := by
  funext y k
  by_cases q1 : y = o + 18
  · subst q1
    by_cases q2 : k = v
    · rw [hq_18, show zu (hq o f s d b h) (o + 18) v x (o + 18) k = x from if_pos ⟨rfl, q2⟩, q2, fu_same]
    · rw [hq_18, show zu (hq o f s d b h) (o + 18) v x (o + 18) k = hq o f s d b h (o + 18) k from if_neg (fun z => q2 z.2), fu_ne q2, hq_18]
  · rw [show zu (hq o f s d b h) (o + 18) v x y k = hq o f s d b h y k from if_neg (fun z => q1 z.1)]
    unfold hq
    simp only [if_neg q1]
theorem hq_cg (h1 : ∀ k, f k = f' k) (h2 : ∀ k, s k = s' k) (h3 : ∀ k, d k = d' k) (h4 : ∀ k, b k = b' k) : hq o f s d b h = hq o f' s' d' b' h := by
  rw [show f = f' from funext h1, show s = s' from funext h2, show d = d' from funext h3, show b = b' from funext h4]
theorem hw_hq : hw o d' b' (hq o f s d b h) = hq o f s d' b' h := by
  funext y k
  unfold hw hq
  by_cases q1 : y = o + 17
  · rw [if_pos q1, if_neg (by omega), if_neg (by omega), if_pos q1]
  · rw [if_neg q1]
    by_cases q2 : y = o + 18
    · rw [if_pos q2, if_neg (by omega), if_neg (by omega), if_neg q1, if_pos q2]
    · rw [if_neg q2]
      by_cases q3 : y = o + 15
      · rw [if_pos q3, if_pos q3]
      · rw [if_neg q3, if_neg q3]
        by_cases q4 : y = o + 16
        · rw [if_pos q4, if_pos q4]
        · rw [if_neg q4, if_neg q4, if_neg q1, if_neg q1, if_neg q2, if_neg q2]
theorem hq_self : hq o (h (o + 15)) (h (o + 16)) (h (o + 17)) (h (o + 18)) h = h := by
  funext y k
  unfold hq
  by_cases q1 : y = o + 15
  · rw [if_pos q1, q1]
  · rw [if_neg q1]
    by_cases q2 : y = o + 16
    · rw [if_pos q2, q2]
    · rw [if_neg q2]
      by_cases q3 : y = o + 17
      · rw [if_pos q3, q3]
      · rw [if_neg q3]
        by_cases q4 : y = o + 18
        · rw [if_pos q4, q4]
        · rw [if_neg q4]
theorem JoC_hq {N J : Nat} {fr to : Nat → Nat} {u c : Nat → Int} (hJ : JoC h o N J fr to u c) : JoC (hq o f s d b h) o N J fr to u c := by
  obtain ⟨j1, j2, j3, j4, j5⟩ := hJ
  refine ⟨by rw [hq_1]; exact j1, j2, by rw [hq_00]; exact j3, j4, fun j hj => ?_⟩
  rw [hq_11, hq_12, hq_13, hq_14]
  exact j5 j hj
end HQ
theorem LX0.c15 {S : zS} {o : Nat} (h : LX0 S o) : zC S (o + 15) = (100, 40, []) := h.2.2.2.2.2.2.2.2.2.2.2.2.2.2.2.1
theorem LX0.c16 {S : zS} {o : Nat} (h : LX0 S o) : zC S (o + 16) = (100, 25, []) := h.2.2.2.2.2.2.2.2.2.2.2.2.2.2.2.2.1
theorem LX0.c17 {S : zS} {o : Nat} (h : LX0 S o) : zC S (o + 17) = (100, 25, []) := h.2.2.2.2.2.2.2.2.2.2.2.2.2.2.2.2.2.1
theorem LX0.c18 {S : zS} {o : Nat} (h : LX0 S o) : zC S (o + 18) = (100, 25, []) := h.2.2.2.2.2.2.2.2.2.2.2.2.2.2.2.2.2.2
theorem fu_two {s : Nat → Int} {a b v : Nat} {y : Int} : fu (fu s a (s a + y)) b (fu s a (s a + y) b - y) v = s v + ((if a = v then y else 0) - (if b = v then y else 0)) := by
  by_cases p1 : v = b
  · subst p1
    rw [fu_same, if_pos (rfl : v = v)]
    by_cases p2 : v = a
    · subst p2
      rw [fu_same, if_pos rfl]; omega
    · rw [fu_ne p2, if_neg (fun z => p2 z.symm)]; omega
  · rw [fu_ne p1, if_neg (fun z : b = v => p1 z.symm)]
    by_cases p2 : v = a
    · subst p2
      rw [fu_same, if_pos rfl]; omega
    · rw [fu_ne p2, if_neg (fun z => p2 z.symm)]; omega
/-- the flow at the start -/
def f0 (u c : Nat → Int) : Nat → Int := fun j => if 0 < c j then -(u j) else if c j < 0 then u j else 0
section FLW
variable {S : zS} {h : zH} {o N J : Nat} {fr to : Nat → Nat} {u c f s d b : Nat → Int}
theorem JoC_fr (hJ : JoC h o N J fr to u c) : ∀ j, j < J → fr j < N := fun j hj => (hJ.2.2.2.2 j hj).2.2.2.2.1
theorem JoC_to (hJ : JoC h o N J fr to u c) : ∀ j, j < J → to j < N := fun j hj => (hJ.2.2.2.2 j hj).2.2.2.2.2.1
theorem JoC_u (hJ : JoC h o N J fr to u c) : ∀ j, j < J → 1 ≤ u j ∧ u j ≤ 9 := fun j hj => (hJ.2.2.2.2 j hj).2.2.2.2.2.2.1
theorem JoC_c (hJ : JoC h o N J fr to u c) : ∀ j, j < J → -1000 ≤ c j ∧ c j ≤ 1000 := fun j hj => (hJ.2.2.2.2 j hj).2.2.2.2.2.2.2
/-- Heights.startFlow -/
theorem s_stf (hL : LX0 S o) (hJ : JoC h o N J fr to u c) : ∃ f s : Nat → Int, Zx 5 0 [zR o, zN] [] S h = some (none, S, hq o f s (h (o + 17)) (h (o + 18)) h) ∧ (∀ j, j < J → f j = f0 u c j) ∧ ∀ v, v < N → s v = sp J fr to (f0 u c) v := by
  have jj := hJ
  obtain ⟨j1, j2, j3, j4, j5⟩ := jj
  refine ⟨fun k => if k < J then f0 u c k else h (o + 15) k, fun v => if v < 25 then sp J fr to (f0 u c) v else h (o + 16) v, ?_, fun j hj => if_pos hj, fun v hv => if_pos (by omega)⟩
  rw [b5_0 hL, b5_3 hL hL.c16 (by omega) (s_fill hL.c16 (by omega))]
  have e0 : (fun o' k => if o' = o + 16 ∧ k < 25 then 0 else h o' k) = hq o (fun k => if k < 0 then f0 u c k else h (o + 15) k) (fun v => if v < 25 then sp 0 fr to (f0 u c) v else h (o + 16) v) (h (o + 17)) (h (o + 18)) h := by
    funext x k
    by_cases q1 : x = o + 16
    · subst q1
      rw [hq_16]
      by_cases q2 : k < 25
      · rw [if_pos ⟨rfl, q2⟩, if_pos q2]; rfl
      · rw [if_neg (fun z => q2 z.2), if_neg q2]
    · rw [if_neg (fun z => q1 z.1)]
      unfold hq
      by_cases q2 : x = o + 15
      · rw [if_pos q2, q2]; exact (if_neg (Nat.not_lt_zero _)).symm
      · rw [if_neg q2, if_neg q1]
        by_cases q3 : x = o + 17
        · rw [if_pos q3, q3]
        · rw [if_neg q3]
          by_cases q4 : x = o + 18
          · rw [if_pos q4, q4]
          · rw [if_neg q4]
  rw [e0]
  refine (z_chain (N := J) (X := fun i => Zx 5 6 [zR o, zI (i : Int)] [] S (hq o (fun k => if k < i then f0 u c k else h (o + 15) k) (fun v => if v < 25 then sp i fr to (f0 u c) v else h (o + 16) v) (h (o + 17)) (h (o + 18)) h)) (fun i hi => ?_)).trans ?_
  · obtain ⟨k1, k2, k3, k4, k5, k6, k7, k8, k9⟩ := j5 i hi
    show Zx 5 6 _ _ _ _ = Zx 5 6 _ _ _ _
    have first : Zx 5 6 [zR o, zI (i : Int)] [] S (hq o (fun k => if k < i then f0 u c k else h (o + 15) k) (fun v => if v < 25 then sp i fr to (f0 u c) v else h (o + 16) v) (h (o + 17)) (h (o + 18)) h) = Zx 5 35 [zR o, zI (i : Int)] [zI (f0 u c i), zI (i : Int), zR (o + 15)] S (hq o (fun k => if k < i then f0 u c k else h (o + 15) k) (fun v => if v < 25 then sp i fr to (f0 u c) v else h (o + 16) v) (h (o + 17)) (h (o + 18)) h) := by
      rw [b5_6 hL (by intros; omega) (by intros; omega) (by intros; omega) (by intros; omega) (by intros; omega) (by intros; omega) (by intros; omega) (by intros; omega), hq_00, j3, zw_nat (by omega), zw_nat (by omega), if_neg (by omega), Int.toNat_natCast, hq_13, hq_14, k3, k4, zw_id (z := c i) (by omega) (by omega)]
      unfold f0
      by_cases q1 : 0 < c i
      · rw [if_neg (by omega), if_pos q1]
      · rw [if_pos (by omega), if_neg q1]
        by_cases q2 : c i < 0
        · rw [if_neg (by omega), if_pos q2]
        · rw [if_pos (by omega), if_neg q2]
    rw [first, b5_35 hL hL.c15 (by omega) (by intros; (try simp only [zu_hq_15, zu_hq_16, zu_hq_17, zu_hq_18, hq_00, hq_1, hq_2, hq_3, hq_5, hq_6, hq_9, hq_10, hq_11, hq_12, hq_13, hq_14, hq_15, hq_16, hq_17, hq_18, Int.toNat_natCast, k1,k2]); omega) (by intros; (try simp only [zu_hq_15, zu_hq_16, zu_hq_17, zu_hq_18, hq_00, hq_1, hq_2, hq_3, hq_5, hq_6, hq_9, hq_10, hq_11, hq_12, hq_13, hq_14, hq_15, hq_16, hq_17, hq_18, Int.toNat_natCast, k1,k2]); omega) (by intros; (try simp only [zu_hq_15, zu_hq_16, zu_hq_17, zu_hq_18, hq_00, hq_1, hq_2, hq_3, hq_5, hq_6, hq_9, hq_10, hq_11, hq_12, hq_13, hq_14, hq_15, hq_16, hq_17, hq_18, Int.toNat_natCast, k1,k2]); omega) (by intros; (try simp only [zu_hq_15, zu_hq_16, zu_hq_17, zu_hq_18, hq_00, hq_1, hq_2, hq_3, hq_5, hq_6, hq_9, hq_10, hq_11, hq_12, hq_13, hq_14, hq_15, hq_16, hq_17, hq_18, Int.toNat_natCast, k1,k2]); omega) (by intros; (try simp only [zu_hq_15, zu_hq_16, zu_hq_17, zu_hq_18, hq_00, hq_1, hq_2, hq_3, hq_5, hq_6, hq_9, hq_10, hq_11, hq_12, hq_13, hq_14, hq_15, hq_16, hq_17, hq_18, Int.toNat_natCast, k1,k2]); omega) (by intros; (try simp only [zu_hq_15, zu_hq_16, zu_hq_17, zu_hq_18, hq_00, hq_1, hq_2, hq_3, hq_5, hq_6, hq_9, hq_10, hq_11, hq_12, hq_13, hq_14, hq_15, hq_16, hq_17, hq_18, Int.toNat_natCast, k1,k2]); omega) (by intros; (try simp only [zu_hq_15, zu_hq_16, zu_hq_17, zu_hq_18, hq_00, hq_1, hq_2, hq_3, hq_5, hq_6, hq_9, hq_10, hq_11, hq_12, hq_13, hq_14, hq_15, hq_16, hq_17, hq_18, Int.toNat_natCast, k1,k2]); omega) (by intros; (try simp only [zu_hq_15, zu_hq_16, zu_hq_17, zu_hq_18, hq_00, hq_1, hq_2, hq_3, hq_5, hq_6, hq_9, hq_10, hq_11, hq_12, hq_13, hq_14, hq_15, hq_16, hq_17, hq_18, Int.toNat_natCast, k1,k2]); omega) (by intros; (try simp only [zu_hq_15, zu_hq_16, zu_hq_17, zu_hq_18, hq_00, hq_1, hq_2, hq_3, hq_5, hq_6, hq_9, hq_10, hq_11, hq_12, hq_13, hq_14, hq_15, hq_16, hq_17, hq_18, Int.toNat_natCast, k1,k2]); omega) (by intros; (try simp only [zu_hq_15, zu_hq_16, zu_hq_17, zu_hq_18, hq_00, hq_1, hq_2, hq_3, hq_5, hq_6, hq_9, hq_10, hq_11, hq_12, hq_13, hq_14, hq_15, hq_16, hq_17, hq_18, Int.toNat_natCast, k1,k2]); omega) (by intros; (try simp only [zu_hq_15, zu_hq_16, zu_hq_17, zu_hq_18, hq_00, hq_1, hq_2, hq_3, hq_5, hq_6, hq_9, hq_10, hq_11, hq_12, hq_13, hq_14, hq_15, hq_16, hq_17, hq_18, Int.toNat_natCast, k1,k2]); omega) (by intros; (try simp only [zu_hq_15, zu_hq_16, zu_hq_17, zu_hq_18, hq_00, hq_1, hq_2, hq_3, hq_5, hq_6, hq_9, hq_10, hq_11, hq_12, hq_13, hq_14, hq_15, hq_16, hq_17, hq_18, Int.toNat_natCast, k1,k2]); omega) (by intros; (try simp only [zu_hq_15, zu_hq_16, zu_hq_17, zu_hq_18, hq_00, hq_1, hq_2, hq_3, hq_5, hq_6, hq_9, hq_10, hq_11, hq_12, hq_13, hq_14, hq_15, hq_16, hq_17, hq_18, Int.toNat_natCast, k1,k2]); omega) (by intros; (try simp only [zu_hq_15, zu_hq_16, zu_hq_17, zu_hq_18, hq_00, hq_1, hq_2, hq_3, hq_5, hq_6, hq_9, hq_10, hq_11, hq_12, hq_13, hq_14, hq_15, hq_16, hq_17, hq_18, Int.toNat_natCast, k1,k2]); omega) (by intros; (try simp only [zu_hq_15, zu_hq_16, zu_hq_17, zu_hq_18, hq_00, hq_1, hq_2, hq_3, hq_5, hq_6, hq_9, hq_10, hq_11, hq_12, hq_13, hq_14, hq_15, hq_16, hq_17, hq_18, Int.toNat_natCast, k1,k2]); omega) (by intros; (try simp only [zu_hq_15, zu_hq_16, zu_hq_17, zu_hq_18, hq_00, hq_1, hq_2, hq_3, hq_5, hq_6, hq_9, hq_10, hq_11, hq_12, hq_13, hq_14, hq_15, hq_16, hq_17, hq_18, Int.toNat_natCast, k1,k2]); omega) (by intros; (try simp only [zu_hq_15, zu_hq_16, zu_hq_17, zu_hq_18, hq_00, hq_1, hq_2, hq_3, hq_5, hq_6, hq_9, hq_10, hq_11, hq_12, hq_13, hq_14, hq_15, hq_16, hq_17, hq_18, Int.toNat_natCast, k1,k2]); omega) (by intros; (try simp only [zu_hq_15, zu_hq_16, zu_hq_17, zu_hq_18, hq_00, hq_1, hq_2, hq_3, hq_5, hq_6, hq_9, hq_10, hq_11, hq_12, hq_13, hq_14, hq_15, hq_16, hq_17, hq_18, Int.toNat_natCast, k1,k2]); omega)]
    simp only [zu_hq_15, zu_hq_16, zu_hq_17, zu_hq_18, hq_00, hq_1, hq_2, hq_3, hq_5, hq_6, hq_9, hq_10, hq_11, hq_12, hq_13, hq_14, hq_15, hq_16, hq_17, hq_18, Int.toNat_natCast, k1, k2]
    refine congrArg (fun H => Zx 5 6 [zR o, zI ((i + 1 : Nat) : Int)] [] S H) (hq_cg (fun k => ?_) (fun v => ?_) (fun _ => rfl) (fun _ => rfl))
    · by_cases q : k = i
      · subst q
        rw [fu_same, if_pos (by omega)]
      · rw [fu_ne q]
        by_cases q2 : k < i
        · rw [if_pos q2, if_pos (by omega)]
        · rw [if_neg q2, if_neg (by omega)]
    · have ft : to i < 25 := by omega
      have ff : fr i < 25 := by omega
      have e1 : fu (fun k => if k < i then f0 u c k else h (o + 15) k) i (f0 u c i) i = f0 u c i := fu_same
      simp only [e1]
      refine Eq.trans (fu_two (s := fun v => if v < 25 then sp i fr to (f0 u c) v else h (o + 16) v) (a := to i) (b := fr i) (v := v) (y := f0 u c i)) ?_
      show (if v < 25 then sp i fr to (f0 u c) v else h (o + 16) v) + _ = (if v < 25 then sp (i + 1) fr to (f0 u c) v else h (o + 16) v)
      by_cases q : v < 25
      · rw [if_pos q, if_pos q]; rfl
      · rw [if_neg q, if_neg q, if_neg (by omega), if_neg (by omega)]; omega
  · show Zx 5 6 _ _ _ _ = _
    rw [b5_6 hL (by intros; omega) (by rw [hq_00, j3]; intro q; exact absurd (Int.le_refl _) q) (by intros; omega) (by rw [hq_00, j3]; intro q; exact absurd (Int.le_refl _) q) (by intros; omega) (by rw [hq_00, j3]; intro q; exact absurd (Int.le_refl _) q) (by intros; omega) (by rw [hq_00, j3]; intro q; exact absurd (Int.le_refl _) q), hq_00, j3, if_pos (Int.le_refl _)]
end FLW
