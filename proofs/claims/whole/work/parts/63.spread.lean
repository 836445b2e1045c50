/-! THE CLASS'S HEIGHTS: the search for shortest ways is the pure one -/
/-- the joints of a Heights; its flow -/
def JoC (h : zH) (o N J : Nat) (fr to : Nat → Nat) (u c : Nat → Int) : Prop := h (o + 1) 2 = N ∧ N ≤ 25 ∧ h o 4 = J ∧ J ≤ 40 ∧ ∀ j, j < J → h (o + 11) j = fr j ∧ h (o + 12) j = to j ∧ h (o + 13) j = c j ∧ h (o + 14) j = u j ∧ fr j < N ∧ to j < N ∧ (1 ≤ u j ∧ u j ≤ 9) ∧ -1000 ≤ c j ∧ c j ≤ 1000
def FlC (h : zH) (o J : Nat) (u f : Nat → Int) : Prop := ∀ j, j < J → h (o + 15) j = f j ∧ -(u j) ≤ f j ∧ f j ≤ u j
/-- ways and forerunners put in -/
def hw (o : Nat) (d b : Nat → Int) (h : zH) : zH := fun x k => if x = o + 17 then d k else if x = o + 18 then b k else h x k
theorem hw_d {o : Nat} {d b : Nat → Int} {h : zH} {k : Nat} : hw o d b h (o + 17) k = d k := if_pos rfl
theorem hw_b {o : Nat} {d b : Nat → Int} {h : zH} {k : Nat} : hw o d b h (o + 18) k = b k := by
  unfold hw
  rw [if_neg (by omega), if_pos rfl]
theorem hw_o {o x k : Nat} {d b : Nat → Int} {h : zH} (h1 : x ≠ o + 17) (h2 : x ≠ o + 18) : hw o d b h x k = h x k := by
  unfold hw
  rw [if_neg h1, if_neg h2]
theorem zu_hw_d {o v : Nat} {x : Int} {d b : Nat → Int} {h : zH} : zu (hw o d b h) (o + 17) v x = hw o (fu d v x) b h := by
  funext y k
  unfold zu hw fu
  by_cases q1 : y = o + 17
  · by_cases q2 : k = v
    · rw [if_pos ⟨q1, q2⟩, if_pos q1, if_pos q2]
    · rw [if_neg (fun z => q2 z.2), if_pos q1, if_pos q1, if_neg q2]
  · rw [if_neg (fun z => q1 z.1), if_neg q1, if_neg q1]
theorem zu_hw_b {o v : Nat} {x : Int} {d b : Nat → Int} {h : zH} : zu (hw o d b h) (o + 18) v x = hw o d (fu b v x) h := by
  funext y k
  unfold zu hw fu
  by_cases q1 : y = o + 18
  · have q0 : ¬ y = o + 17 := by omega
    by_cases q2 : k = v
    · rw [if_pos ⟨q1, q2⟩, if_neg q0, if_pos q1, if_pos q2]
    · rw [if_neg (fun z => q2 z.2), if_neg q0, if_pos q1, if_neg q0, if_pos q1, if_neg q2]
  · rw [if_neg (fun z => q1 z.1)]
    by_cases q0 : y = o + 17
    · rw [if_pos q0, if_pos q0]
    · rw [if_neg q0, if_neg q0, if_neg q1, if_neg q1]
theorem hw_self {o : Nat} {h : zH} : hw o (h (o + 17)) (h (o + 18)) h = h := by
  funext x k
  unfold hw
  by_cases q1 : x = o + 17
  · rw [if_pos q1, q1]
  · rw [if_neg q1]
    by_cases q2 : x = o + 18
    · rw [if_pos q2, q2]
    · rw [if_neg q2]
theorem hw_hw {o : Nat} {d b d' b' : Nat → Int} {h : zH} : hw o d b (hw o d' b' h) = hw o d b h := by
  funext x k
  unfold hw
  by_cases q1 : x = o + 17
  · rw [if_pos q1, if_pos q1]
  · simp only [if_neg q1]
    by_cases q2 : x = o + 18
    · simp only [if_pos q2]
    · simp only [if_neg q2]
theorem JoC_hw {h : zH} {o N J : Nat} {fr to : Nat → Nat} {u c d b : Nat → Int} (hJ : JoC h o N J fr to u c) : JoC (hw o d b h) o N J fr to u c := by
  obtain ⟨j1, j2, j3, j4, j5⟩ := hJ
  refine ⟨by rw [hw_o (by omega) (by omega)]; exact j1, j2, by rw [hw_o (by omega) (by omega)]; exact j3, j4, fun j hj => ?_⟩
  rw [hw_o (by omega) (by omega), hw_o (by omega) (by omega), hw_o (by omega) (by omega), hw_o (by omega) (by omega)]
  exact j5 j hj
theorem FlC_hw {h : zH} {o J : Nat} {u f d b : Nat → Int} (hF : FlC h o J u f) : FlC (hw o d b h) o J u f := fun j hj => by
  rw [hw_o (by omega) (by omega)]
  exact hF j hj
section SPR
variable {S : zS} {h : zH} {o N J : Nat} {fr to : Nat → Nat} {u c f : Nat → Int}
def chI (b : Bool) : Int := if b = true then 1 else 0
/-- one joint, looked at from the one end and from the other -/
theorem spr_joint {q : Int} {one two : Nat → Nat} (hL : LX0 S o) (hJ : JoC h o N J fr to u c) (hF : FlC h o J u f) (hq : (q = 1 ∧ one = fr ∧ two = to) ∨ (q = 0 ∧ one = to ∧ two = fr)) {s : bS} {i j : Nat} (hj : j < J) (hi : i ≤ 100) (hd : ∀ v, v < N → -100000 ≤ s.1 v ∧ s.1 v ≤ 1000000) : Zx 7 19 [zR o, zI q, zI (chI s.2.2), zI (i : Int), zI (j : Int), zN, zN] [] S (hw o s.1 s.2.1 h) = Zx 7 19 [zR o, zI q, zI (chI (rl (asrc one two) (asrc two one) (aln c) (aop u f) (2 * j + 1) (rl (asrc one two) (asrc two one) (aln c) (aop u f) (2 * j) s)).2.2), zI (i : Int), zI ((j + 1 : Nat) : Int), zN, zN] [] S (hw o (rl (asrc one two) (asrc two one) (aln c) (aop u f) (2 * j + 1) (rl (asrc one two) (asrc two one) (aln c) (aop u f) (2 * j) s)).1 (rl (asrc one two) (asrc two one) (aln c) (aop u f) (2 * j + 1) (rl (asrc one two) (asrc two one) (aln c) (aop u f) (2 * j) s)).2.1 h) := by
  obtain ⟨j1, j2, j3, j4, j5⟩ := hJ
  obtain ⟨k1, k2, k3, k4, k5, k6, k7, k8, k9⟩ := j5 j hj
  obtain ⟨f1, f2, f3⟩ := hF j hj
  have e1 : two j < N ∧ one j < N := by rcases hq with ⟨-, rfl, rfl⟩ | ⟨-, rfl, rfl⟩ <;> omega
  -- the arcs
  have s0 : asrc one two (2 * j) = one j := by rw [asrc_e (by omega)]; congr 1; omega
  have s1 : asrc two one (2 * j) = two j := by rw [asrc_e (by omega)]; congr 1; omega
  have s2 : asrc one two (2 * j + 1) = two j := by rw [asrc_o (by omega)]; congr 1; omega
  have s3 : asrc two one (2 * j + 1) = one j := by rw [asrc_o (by omega)]; congr 1; omega
  have l0 : aln c (2 * j) = c j := by unfold aln; rw [if_pos (by omega)]; congr 1; omega
  have l1 : aln c (2 * j + 1) = -(c j) := by unfold aln; rw [if_neg (by omega)]; congr 2; omega
  have p0 : aop u f (2 * j) = decide (f j < u j) := by unfold aop; rw [if_pos (by omega), show 2 * j / 2 = j by omega]
  have p1 : aop u f (2 * j + 1) = decide (-(u j) < f j) := by unfold aop; rw [if_neg (by omega), show (2 * j + 1) / 2 = j by omega]
  -- second half, from any state
  have half2 : ∀ t : bS, (∀ v, v < N → -200000 ≤ t.1 v ∧ t.1 v ≤ 1000000) → Zx 7 98 [zR o, zI q, zI (chI t.2.2), zI (i : Int), zI (j : Int), zI (one j : Int), zI (two j : Int)] [] S (hw o t.1 t.2.1 h) = Zx 7 19 [zR o, zI q, zI (chI (rl (asrc one two) (asrc two one) (aln c) (aop u f) (2 * j + 1) t).2.2), zI (i : Int), zI ((j + 1 : Nat) : Int), zN, zN] [] S (hw o (rl (asrc one two) (asrc two one) (aln c) (aop u f) (2 * j + 1) t).1 (rl (asrc one two) (asrc two one) (aln c) (aop u f) (2 * j + 1) t).2.1 h) := by
    intro t ht
    have h1 := ht _ e1.1
    have h2 := ht _ e1.2
    rw [b7_98 hL (by intros; omega) (by intros; omega) (by intros; omega) (by intros; omega) (by intros; omega) (by intros; omega) (by intros; omega) (by intros; omega) (by intros; omega) (by intros; omega) (by intros; omega) (by intros; omega) (by intros; omega) (by intros; omega) (by intros; omega) (by intros; omega) (by intros; omega) (by intros; omega) (by intros; omega) (by intros; omega)]
    simp only [Int.toNat_natCast]
    rw [hw_o (x := o + 15) (by omega) (by omega), hw_o (x := o + 14) (by omega) (by omega), hw_o (x := o + 13) (by omega) (by omega), hw_d, hw_d, f1, k4, k3, zw_id (z := f j) (by omega) (by omega), zw_id (z := -(u j)) (by omega) (by omega), zw_id (z := t.1 (two j)) (by omega) (by omega), zw_id (z := t.1 (one j)) (by omega) (by omega), zw_id (z := t.1 (two j) - c j) (by omega) (by omega)]
    have hc : bcd (asrc one two) (asrc two one) (aln c) (aop u f) (2 * j + 1) t ↔ -(u j) < f j ∧ t.1 (two j) < 1000000 ∧ t.1 (two j) - c j < t.1 (one j) := by
      unfold bcd
      rw [s2, s3, l1, p1, decide_eq_true_eq, ← Int.sub_eq_add_neg]
    by_cases q1 : f j ≤ -(u j)
    · rw [if_pos q1, b7_152 hL, rl_neg (fun z => by have := hc.mp z; omega)]; rfl
    rw [if_neg q1]
    by_cases q2 : 1000000 ≤ t.1 (two j)
    · rw [if_pos q2, b7_152 hL, rl_neg (fun z => by have := hc.mp z; omega)]; rfl
    rw [if_neg q2]
    by_cases q3 : t.1 (one j) ≤ t.1 (two j) - c j
    · rw [if_pos q3, b7_152 hL, rl_neg (fun z => by have := hc.mp z; omega)]; rfl
    rw [if_neg q3, b7_152 hL, rl_pos (hc.mpr ⟨by omega, by omega, by omega⟩), zu_hw_d, zu_hw_b, s2, s3, l1, ← Int.sub_eq_add_neg]
    rfl
  have h1 := hd _ e1.1
  have h2 := hd _ e1.2
  have first : Zx 7 19 [zR o, zI q, zI (chI s.2.2), zI (i : Int), zI (j : Int), zN, zN] [] S (hw o s.1 s.2.1 h) = Zx 7 46 [zR o, zI q, zI (chI s.2.2), zI (i : Int), zI (j : Int), zI (one j : Int), zN] [zI (two j : Int)] S (hw o s.1 s.2.1 h) := by
    rw [b7_19 hL (by intros; omega) (by intros; omega) (by intros; omega) (by intros; omega)]
    simp only [Int.toNat_natCast]
    rw [hw_o (by omega) (by omega), hw_o (by omega) (by omega), hw_o (by omega) (by omega), j3, k1, k2, zw_nat (by omega), zw_nat (by omega), if_neg (by omega)]
    rcases hq with ⟨rfl, rfl, rfl⟩ | ⟨rfl, rfl, rfl⟩
    · rw [zw1, if_neg (by decide), b7_34 hL (by intros; omega) (by intros; omega) (by intros; omega) (by intros; omega)]
      simp only [Int.toNat_natCast]
      rw [hw_o (by omega) (by omega), hw_o (by omega) (by omega), k1, k2, zw1, if_neg (by decide)]
    · rw [zw0, if_pos rfl, b7_34 hL (by intros; omega) (by intros; omega) (by intros; omega) (by intros; omega)]
      simp only [Int.toNat_natCast]
      rw [hw_o (by omega) (by omega), hw_o (by omega) (by omega), k1, k2, zw0, if_pos rfl]
  rw [first, b7_46 hL (by intros; omega) (by intros; omega) (by intros; omega) (by intros; omega) (by intros; omega) (by intros; omega) (by intros; omega) (by intros; omega) (by intros; omega) (by intros; omega) (by intros; omega) (by intros; omega) (by intros; omega) (by intros; omega) (by intros; omega) (by intros; omega) (by intros; omega) (by intros; omega) (by intros; omega) (by intros; omega)]
  simp only [Int.toNat_natCast]
  rw [hw_o (x := o + 15) (by omega) (by omega), hw_o (x := o + 14) (by omega) (by omega), hw_o (x := o + 13) (by omega) (by omega), hw_d, hw_d, f1, k4, k3, zw_id (z := f j) (by omega) (by omega), zw_id (z := u j) (by omega) (by omega), zw_id (z := s.1 (two j)) (by omega) (by omega), zw_id (z := s.1 (one j)) (by omega) (by omega), zw_id (z := s.1 (one j) + c j) (by omega) (by omega)]
  have hc : bcd (asrc one two) (asrc two one) (aln c) (aop u f) (2 * j) s ↔ f j < u j ∧ s.1 (one j) < 1000000 ∧ s.1 (one j) + c j < s.1 (two j) := by
    unfold bcd
    rw [s0, s1, l0, p0, decide_eq_true_eq]
  by_cases q1 : u j ≤ f j
  · rw [if_pos q1, rl_neg (e := 2 * j) (fun z => by have := hc.mp z; omega)]
    exact half2 s (fun v hv => by have := hd v hv; omega)
  rw [if_neg q1]
  by_cases q2 : 1000000 ≤ s.1 (one j)
  · rw [if_pos q2, rl_neg (e := 2 * j) (fun z => by have := hc.mp z; omega)]
    exact half2 s (fun v hv => by have := hd v hv; omega)
  rw [if_neg q2]
  by_cases q3 : s.1 (two j) ≤ s.1 (one j) + c j
  · rw [if_pos q3, rl_neg (e := 2 * j) (fun z => by have := hc.mp z; omega)]
    exact half2 s (fun v hv => by have := hd v hv; omega)
  rw [if_neg q3, rl_pos (e := 2 * j) (hc.mpr ⟨by omega, by omega, by omega⟩), zu_hw_d, zu_hw_b, s0, s1, l0]
  have := half2 (fu s.1 (two j) (s.1 (one j) + c j), fu s.2.1 (two j) ((2 * j : Nat) : Int), true) (fun v hv => by
    have := hd v hv
    show -200000 ≤ fu s.1 (two j) (s.1 (one j) + c j) v ∧ fu s.1 (two j) (s.1 (one j) + c j) v ≤ 1000000
    unfold fu
    split <;> omega)
  exact this
theorem aln_in (hJ : JoC h o N J fr to u c) : ∀ e, e < 2 * J → -1000 ≤ aln c e ∧ aln c e ≤ 1000 := fun e he => by
  obtain ⟨-, -, -, -, j5⟩ := hJ
  have := j5 (e / 2) (by omega)
  unfold aln
  split <;> omega
/-- one round -/
theorem spr_round {q : Int} {one two : Nat → Nat} (hL : LX0 S o) (hJ : JoC h o N J fr to u c) (hF : FlC h o J u f) (hq : (q = 1 ∧ one = fr ∧ two = to) ∨ (q = 0 ∧ one = to ∧ two = fr)) {s : bS} {i : Nat} (hi : i ≤ 100) (hd : ∀ k v, k ≤ 2 * J → v < N → -100000 ≤ (rp (asrc one two) (asrc two one) (aln c) (aop u f) k (s.1, s.2.1, false)).1 v ∧ (rp (asrc one two) (asrc two one) (aln c) (aop u f) k (s.1, s.2.1, false)).1 v ≤ 1000000) : Zx 7 19 [zR o, zI q, zI 0, zI (i : Int), zI 0, zN, zN] [] S (hw o s.1 s.2.1 h) = Zx 7 8 [zR o, zI q, zI (chI (rnd (2 * J) (asrc one two) (asrc two one) (aln c) (aop u f) s).2.2), zI ((i + 1 : Nat) : Int), zN, zN, zN] [] S (hw o (rnd (2 * J) (asrc one two) (asrc two one) (aln c) (aop u f) s).1 (rnd (2 * J) (asrc one two) (asrc two one) (aln c) (aop u f) s).2.1 h) := by
  refine (z_chain (N := J) (X := fun j => Zx 7 19 [zR o, zI q, zI (chI (rp (asrc one two) (asrc two one) (aln c) (aop u f) (2 * j) (s.1, s.2.1, false)).2.2), zI (i : Int), zI (j : Int), zN, zN] [] S (hw o (rp (asrc one two) (asrc two one) (aln c) (aop u f) (2 * j) (s.1, s.2.1, false)).1 (rp (asrc one two) (asrc two one) (aln c) (aop u f) (2 * j) (s.1, s.2.1, false)).2.1 h)) (fun j hj => ?_)).trans ?_
  · exact spr_joint hL hJ hF hq hj hi (fun v hv => hd (2 * j) v (by omega) hv)
  · obtain ⟨-, -, j3, j4, -⟩ := hJ
    show Zx 7 19 _ _ _ _ = Zx 7 8 _ _ _ _
    rw [b7_19 hL (by rw [hw_o (by omega) (by omega), j3]; intro z; exact absurd (Int.le_refl _) z) (by rw [hw_o (by omega) (by omega), j3]; intro z; exact absurd (Int.le_refl _) z) (by rw [hw_o (by omega) (by omega), j3]; intro z; exact absurd (Int.le_refl _) z) (by rw [hw_o (by omega) (by omega), j3]; intro z; exact absurd (Int.le_refl _) z), hw_o (by omega) (by omega), j3, if_pos (Int.le_refl _)]
    rfl
/-- Heights.spread: the finished search -/
theorem s_spr {q : Int} {one two : Nat → Nat} {p : Nat → Int} (hL : LX0 S o) (hJ : JoC h o N J fr to u c) (hF : FlC h o J u f) (hq : (q = 1 ∧ one = fr ∧ two = to) ∨ (q = 0 ∧ one = to ∧ two = fr)) (hw0 : ∀ v, v < N → h (o + 17) v = 0 ∨ h (o + 17) v = 1000000) (hp : fe J one two u c f p) : ∃ (d b : Nat → Int) (rk : Nat → Nat), Zx 7 0 [zR o, zI q, zN, zN, zN, zN, zN] [] S h = some (none, S, hw o d b h) ∧ bfF N (2 * J) (asrc one two) (asrc two one) (aln c) (aop u f) (h (o + 17)) d b rk := by
  have jj := hJ
  obtain ⟨j1, j2, j3, j4, j5⟩ := jj
  have e1 : ∀ j, j < J → one j < N := fun j hj => by have := j5 j hj; rcases hq with ⟨-, rfl, rfl⟩ | ⟨-, rfl, rfl⟩ <;> omega
  have e2 : ∀ j, j < J → two j < N := fun j hj => by have := j5 j hj; rcases hq with ⟨-, rfl, rfl⟩ | ⟨-, rfl, rfl⟩ <;> omega
  have a1 := asrc_lt e1 e2
  have a2 := asrc_lt e2 e1
  have a3 := fe_arc hp
  obtain ⟨K, I⟩ := bfI_start (N := N) (w0 := h (o + 17)) (b := fun k => if k < 25 then -1 else h (o + 18) k) (ch := true) (A := 2 * J) (src := asrc one two) (dst := asrc two one) (ln := aln c) (op := aop u f) p (fun v hv => by rcases hw0 v hv with z | z <;> omega) (fun v hv => if_pos (by omega))
  have low : ∀ n k v, k ≤ 2 * J → v < N → -100000 ≤ (rp (asrc one two) (asrc two one) (aln c) (aop u f) k ((rit (2 * J) (asrc one two) (asrc two one) (aln c) (aop u f) n (h (o + 17), fun k => if k < 25 then -1 else h (o + 18) k, true)).1, (rit (2 * J) (asrc one two) (asrc two one) (aln c) (aop u f) n (h (o + 17), fun k => if k < 25 then -1 else h (o + 18) k, true)).2.1, false)).1 v ∧ (rp (asrc one two) (asrc two one) (aln c) (aop u f) k ((rit (2 * J) (asrc one two) (asrc two one) (aln c) (aop u f) n (h (o + 17), fun k => if k < 25 then -1 else h (o + 18) k, true)).1, (rit (2 * J) (asrc one two) (asrc two one) (aln c) (aop u f) n (h (o + 17), fun k => if k < 25 then -1 else h (o + 18) k, true)).2.1, false)).1 v ≤ 1000000 := by
    intro n k v hk hv
    refine ⟨?_, ?_⟩
    · have := bf_low (L := 1000) a1 a2 a3 I (fun _ _ => rfl) (fun v hv => by rcases hw0 v hv with z | z <;> omega) (by omega) (fun e he => (aln_in hJ e he).1) n k hk v hv
      omega
    · obtain ⟨rk, T, hI⟩ := bfI.rp a1 a2 a3 (bfI.ch (b := false) (bfI.rit a1 a2 a3 I n)) k hk
      have := (hI v hv).2.2.2.1
      rcases hw0 v hv with z | z <;> omega
  have start : Zx 7 0 [zR o, zI q, zN, zN, zN, zN, zN] [] S h = Zx 7 8 [zR o, zI q, zI (chI true), zI ((0 : Nat) : Int), zN, zN, zN] [] S (hw o (h (o + 17)) (fun k => if k < 25 then -1 else h (o + 18) k) h) := by
    rw [b7_0 hL, b7_3 hL (hc_s0 := hL.2.2.2.2.2.2.2.2.2.2.2.2.2.2.2.2.2.2) (by omega) (s_fill hL.2.2.2.2.2.2.2.2.2.2.2.2.2.2.2.2.2.2 (by omega))]
    have : (fun o' k => if o' = o + 18 ∧ k < 25 then -1 else h o' k) = hw o (h (o + 17)) (fun k => if k < 25 then -1 else h (o + 18) k) h := by
      funext x k
      unfold hw
      by_cases q1 : x = o + 17
      · rw [if_neg (by omega), if_pos q1, q1]
      · rw [if_neg q1]
        by_cases q2 : x = o + 18
        · rw [if_pos q2, q2]
          by_cases q3 : k < 25
          · rw [if_pos ⟨rfl, q3⟩]; exact (if_pos q3).symm
          · rw [if_neg (fun z => q3 z.2)]; exact (if_neg q3).symm
        · rw [if_neg (fun z => q2 z.1), if_neg q2]
    rw [this]
    rfl
  have key : ∀ d n : Nat, n + d = N + 1 → ∃ m, Zx 7 8 [zR o, zI q, zI (chI (rit (2 * J) (asrc one two) (asrc two one) (aln c) (aop u f) n (h (o + 17), fun k => if k < 25 then -1 else h (o + 18) k, true)).2.2), zI (n : Int), zN, zN, zN] [] S (hw o (rit (2 * J) (asrc one two) (asrc two one) (aln c) (aop u f) n (h (o + 17), fun k => if k < 25 then -1 else h (o + 18) k, true)).1 (rit (2 * J) (asrc one two) (asrc two one) (aln c) (aop u f) n (h (o + 17), fun k => if k < 25 then -1 else h (o + 18) k, true)).2.1 h) = some (none, S, hw o (rit (2 * J) (asrc one two) (asrc two one) (aln c) (aop u f) m (h (o + 17), fun k => if k < 25 then -1 else h (o + 18) k, true)).1 (rit (2 * J) (asrc one two) (asrc two one) (aln c) (aop u f) m (h (o + 17), fun k => if k < 25 then -1 else h (o + 18) k, true)).2.1 h) ∧ (m = N + 1 ∨ (1 ≤ m ∧ (rit (2 * J) (asrc one two) (asrc two one) (aln c) (aop u f) m (h (o + 17), fun k => if k < 25 then -1 else h (o + 18) k, true)).2.2 = false)) := by
    intro d
    induction d with
    | zero =>
      intro n hn
      refine ⟨n, ?_, Or.inl (by omega)⟩
      rw [b7_8 hL, hw_o (by omega) (by omega), j1, zw_nat (by omega), zw_nat (by omega), if_pos (show (N : Int) < (n : Int) by omega), b7_156]
      split <;> rfl
    | succ d ih =>
      intro n hn
      cases qc : (rit (2 * J) (asrc one two) (asrc two one) (aln c) (aop u f) n (h (o + 17), fun k => if k < 25 then -1 else h (o + 18) k, true)).2.2 with
      | false =>
        refine ⟨n, ?_, Or.inr ⟨?_, qc⟩⟩
        · rw [b7_8 hL, if_pos (show zw (chI false) = 0 from zw0), b7_156]
        · cases n with
          | zero => exact absurd (show true = false from qc) (by decide)
          | succ n => omega
      | true =>
        obtain ⟨m, e, g⟩ := ih (n + 1) (by omega)
        refine ⟨m, ?_, g⟩
        rw [← e, b7_8 hL, if_neg (show ¬ zw (chI true) = 0 by decide), hw_o (by omega) (by omega), j1, zw_nat (by omega), zw_nat (by omega), if_neg (show ¬ (N : Int) < (n : Int) by omega)]
        exact spr_round hL hJ hF hq (by omega) (low n)
  obtain ⟨m, e, g⟩ := key (N + 1) 0 (by omega)
  have fin := bf_end a1 a2 a3 I (fun _ _ => rfl) g
  obtain ⟨rk, F⟩ := bf_fin hw0 (bfI.rit a1 a2 a3 I m) fin
  exact ⟨_, _, rk, start.trans e, F⟩
end SPR
