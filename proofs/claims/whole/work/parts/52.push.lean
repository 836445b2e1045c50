/-! SHORTEST WAYS, the end of it; pushing along one -/
section BFE
variable {N A : Nat} {src dst : Nat → Nat} {ln : Nat → Int} {op : Nat → Bool} {w0 p : Nat → Int} {K L : Int}
/-- a finished search -/
def bfF (N A : Nat) (src dst : Nat → Nat) (ln : Nat → Int) (op : Nat → Bool) (w0 d b : Nat → Int) (rk : Nat → Nat) : Prop := bfe A src dst ln op d ∧ (∀ v, v < N → (d v < 1000000 → (b v = -1 ∧ w0 v = 0 ∧ d v = 0) ∨ (b v ≠ -1 ∧ ∃ e, e < A ∧ b v = (e : Int) ∧ op e = true ∧ dst e = v ∧ d (src e) < 1000000 ∧ d v = d (src e) + ln e ∧ rk (src e) < rk v)) ∧ (¬ d v < 1000000 → b v = -1 ∧ w0 v = 1000000 ∧ d v = 1000000)) ∧ ∀ v, v < N → d v ≤ w0 v
theorem bf_fin {s : bS} (hw : ∀ v, v < N → w0 v = 0 ∨ w0 v = 1000000) (I : bfI N A src dst ln op w0 p K s) (hf : bfe A src dst ln op s.1) : ∃ rk, bfF N A src dst ln op w0 s.1 s.2.1 rk := by
  obtain ⟨rk, T, I⟩ := I
  refine ⟨rk, hf, fun v hv => ?_, fun v hv => (I v hv).2.2.2.1⟩
  obtain ⟨i1, i2, i3, i4, i5⟩ := I v hv
  have w := hw v hv
  by_cases hb : s.2.1 v = -1
  · have e := i2 hb
    exact ⟨fun q => Or.inl ⟨hb, by omega, by omega⟩, fun q => ⟨hb, by omega, by omega⟩⟩
  · obtain ⟨g0, e, g1, g2, g3, g4, g5, g6, g7⟩ := i3 hb
    have g8 := hf e g1 g3 g5
    rw [g4] at g8
    exact ⟨fun q => Or.inr ⟨hb, e, g1, g2, g3, g4, g5, by omega, g7 (by omega)⟩, fun q => by omega⟩
theorem bfF.bound {d b : Nat → Int} {rk : Nat → Nat} (h1 : ∀ e, e < A → src e < N) (hL0 : 0 ≤ L) (hL : ∀ e, e < A → -L ≤ ln e ∧ ln e ≤ L) (F : bfF N A src dst ln op w0 d b rk) : ∀ v, v < N → d v < 1000000 → -(L * N) ≤ d v ∧ d v ≤ L * N := by
  have key : ∀ (m v : Nat), v < N → rk v ≤ m → d v < 1000000 → -(L * rc N rk v) ≤ d v ∧ d v ≤ L * rc N rk v := by
    intro m
    induction m with
    | zero =>
      intro v hv hm hd
      have b := Int.mul_nonneg hL0 (rc_le (R := rk) hv).1
      rcases (F.2.1 v hv).1 hd with ⟨q1, q2, q3⟩ | ⟨q1, e, g1, g2, g3, g4, g5, g6, g7⟩
      · omega
      · omega
    | succ m ih =>
      intro v hv hm hd
      rcases (F.2.1 v hv).1 hd with ⟨q1, q2, q3⟩ | ⟨q1, e, g1, g2, g3, g4, g5, g6, g7⟩
      · have b := Int.mul_nonneg hL0 (rc_le (R := rk) hv).1
        omega
      · have a := ih (src e) (h1 e g1) (by omega) g5
        have b := hL e g1
        have c := Int.mul_le_mul_of_nonneg_left (rc_lt (N := N) (h1 e g1) g7) hL0
        rw [Int.mul_add, Int.mul_one] at c
        omega
  intro v hv hd
  have a := key (rk v) v hv (Nat.le_refl _) hd
  have c := Int.mul_le_mul_of_nonneg_left (show rc N rk v ≤ N by have := (rc_le (R := rk) hv).2; omega) hL0
  omega
/-- the way back from a node -/
def pat (src : Nat → Nat) (b : Nat → Int) (a : Nat) : Nat → Nat
  | 0 => a
  | i + 1 => if b (pat src b a i) = -1 then pat src b a i else src (b (pat src b a i)).toNat
theorem bfF_pat {d b : Nat → Int} {rk : Nat → Nat} {a : Nat} (h1 : ∀ e, e < A → src e < N) (F : bfF N A src dst ln op w0 d b rk) (ha : a < N) (hd : d a < 1000000) : ∀ i, pat src b a i < N ∧ d (pat src b a i) < 1000000
  | 0 => ⟨ha, hd⟩
  | i + 1 => by
    obtain ⟨g1, g2⟩ := bfF_pat h1 F ha hd i
    show (if b (pat src b a i) = -1 then pat src b a i else src (b (pat src b a i)).toNat) < N ∧ d (if b (pat src b a i) = -1 then pat src b a i else src (b (pat src b a i)).toNat) < _
    by_cases q : b (pat src b a i) = -1
    · rw [if_pos q]; exact ⟨g1, g2⟩
    · rw [if_neg q]
      rcases (F.2.1 _ g1).1 g2 with ⟨q1, -⟩ | ⟨q1, e, k1, k2, k3, k4, k5, k6, k7⟩
      · exact absurd q1 q
      · rw [k2, show ((e : Int)).toNat = e by omega]
        exact ⟨h1 e k1, k5⟩
theorem bfF_pat_ends {d b : Nat → Int} {rk : Nat → Nat} {a : Nat} (h1 : ∀ e, e < A → src e < N) (F : bfF N A src dst ln op w0 d b rk) (ha : a < N) (hd : d a < 1000000) : ∃ m, m < N ∧ b (pat src b a m) = -1 ∧ w0 (pat src b a m) = 0 ∧ (∀ i, i < m → b (pat src b a i) ≠ -1) ∧ ∀ i k, i < k → k ≤ m → rk (pat src b a k) < rk (pat src b a i) := by
  have hp := fun i => bfF_pat h1 F ha hd i
  have step : ∀ i, b (pat src b a i) ≠ -1 → rk (pat src b a (i + 1)) < rk (pat src b a i) := by
    intro i q
    rcases (F.2.1 _ (hp i).1).1 (hp i).2 with ⟨q1, -⟩ | ⟨q1, e, k1, k2, k3, k4, k5, k6, k7⟩
    · exact absurd q1 q
    · show rk (if b (pat src b a i) = -1 then _ else src (b (pat src b a i)).toNat) < _
      rw [if_neg q, k2, show ((e : Int)).toNat = e by omega]
      exact k7
  have cnt : ∀ i, (∀ k, k < i → b (pat src b a k) ≠ -1) → rc N rk (pat src b a i) + i ≤ rc N rk a := by
    intro i
    induction i with
    | zero => intro _; show rc N rk a + 0 ≤ _; omega
    | succ i ih =>
      intro h
      have g := ih (fun k hk => h k (by omega))
      have := rc_lt (N := N) (hp (i + 1)).1 (step i (h i (by omega)))
      omega
  have ex : ∃ m, m < N ∧ b (pat src b a m) = -1 := by
    apply Classical.byContradiction
    intro q
    have g := cnt N (fun k hk => fun z => q ⟨k, hk, z⟩)
    have g1 := (rc_le (R := rk) (hp N).1).1
    have g2 := (rc_le (R := rk) ha).2
    omega
  obtain ⟨m, hm, hb⟩ := ex
  have least : ∀ m, m < N → b (pat src b a m) = -1 → ∃ m, m < N ∧ b (pat src b a m) = -1 ∧ ∀ i, i < m → b (pat src b a i) ≠ -1 := by
    intro m
    induction m using Nat.strongRecOn with
    | _ m ih =>
      intro h1 h2
      by_cases q : ∃ i, i < m ∧ b (pat src b a i) = -1
      · obtain ⟨i, hi, hbi⟩ := q
        exact ih i hi (by omega) hbi
      · exact ⟨m, h1, h2, fun i hi z => q ⟨i, hi, z⟩⟩
  obtain ⟨m, hm, hb, hl⟩ := least m hm hb
  refine ⟨m, hm, hb, ?_, hl, ?_⟩
  · rcases (F.2.1 _ (hp m).1).1 (hp m).2 with ⟨q1, q2, q3⟩ | ⟨q1, -⟩
    · exact q2
    · exact absurd hb q1
  · intro i k hik hk
    induction k with
    | zero => omega
    | succ k ih =>
      have s := step k (hl k (by omega))
      by_cases q : i = k
      · subst q; exact s
      · have := ih (by omega) (by omega)
        omega
end BFE
/-! the joints' ways: 2 j along, 2 j + 1 against -/
def asrc (fr to : Nat → Nat) (e : Nat) : Nat := if e % 2 = 0 then fr (e / 2) else to (e / 2)
theorem asrc_e {fr to : Nat → Nat} {e : Nat} (h : e % 2 = 0) : asrc fr to e = fr (e / 2) := if_pos h
theorem asrc_o {fr to : Nat → Nat} {e : Nat} (h : ¬ e % 2 = 0) : asrc fr to e = to (e / 2) := if_neg h
def aln (c : Nat → Int) (e : Nat) : Int := if e % 2 = 0 then c (e / 2) else -(c (e / 2))
def aop (u f : Nat → Int) (e : Nat) : Bool := if e % 2 = 0 then decide (f (e / 2) < u (e / 2)) else decide (-(u (e / 2)) < f (e / 2))
section PUSH
variable {N J : Nat} {fr to : Nat → Nat} {u c f : Nat → Int} {w0 d b : Nat → Int} {rk : Nat → Nat} {much : Int} {a : Nat}
/-- what a way still takes -/
def ares (u f : Nat → Int) (e : Nat) : Int := if e % 2 = 0 then u (e / 2) - f (e / 2) else u (e / 2) + f (e / 2)
/-- the flow when so many joints of the way have been pushed -/
def pfl (fr to : Nat → Nat) (b f : Nat → Int) (much : Int) (a : Nat) : Nat → Nat → Int
  | 0 => f
  | i + 1 => fu (pfl fr to b f much a i) ((b (pat (asrc fr to) b a i)).toNat / 2) (pfl fr to b f much a i ((b (pat (asrc fr to) b a i)).toNat / 2) + (if (b (pat (asrc fr to) b a i)).toNat % 2 = 0 then much else -much))
theorem sp_set {j v : Nat} {y : Int} (hj : j < J) : sp J fr to (fu f j (f j + y)) v = sp J fr to f v + (if to j = v then y else 0) - (if fr j = v then y else 0) := by
  have e : sp J fr to (fu f j (f j + y)) v = su (fun k => ((if to k = v then f k else 0) - (if fr k = v then f k else 0)) + (if k = j then (if to j = v then y else 0) - (if fr j = v then y else 0) else 0)) J := su_congr (fun k _ => by
    by_cases q : k = j
    · subst q
      rw [fu_same, if_pos rfl]
      by_cases q1 : to k = v <;> by_cases q2 : fr k = v <;> simp only [q1, q2, if_true, if_false] <;> omega
    · rw [fu_ne q, if_neg q]; omega)
  rw [e, su_add, su_one hj]
  unfold sp
  omega
theorem pfl_ok {m : Nat} (h1 : ∀ j, j < J → fr j < N) (h2 : ∀ j, j < J → to j < N) (hb : ∀ j, j < J → -(u j) ≤ f j ∧ f j ≤ u j) (F : bfF N (2 * J) (asrc fr to) (asrc to fr) (aln c) (aop u f) w0 d b rk) (ha : a < N) (hd : d a < 1000000) (hm : ∀ i, i < m → b (pat (asrc fr to) b a i) ≠ -1) (hrk : ∀ i k, i < k → k ≤ m → rk (pat (asrc fr to) b a k) < rk (pat (asrc fr to) b a i)) (hmu : 0 ≤ much) (hres : ∀ i, i < m → much ≤ ares u f (b (pat (asrc fr to) b a i)).toNat) :
    ∀ i, i ≤ m → (∀ j, j < J → pfl fr to b f much a i j ≠ f j → (∃ k, k < i ∧ (b (pat (asrc fr to) b a k)).toNat / 2 = j) ∧ d (to j) = d (fr j) + c j ∧ d (fr j) < 1000000 ∧ d (to j) < 1000000) ∧ (∀ j, j < J → -(u j) ≤ pfl fr to b f much a i j ∧ pfl fr to b f much a i j ≤ u j) ∧ (∀ v, sp J fr to (pfl fr to b f much a i) v = sp J fr to f v + (if v = a then much else 0) - (if v = pat (asrc fr to) b a i then much else 0)) ∧ ∀ j, ¬ j < J → pfl fr to b f much a i j = f j := by
  have hs : ∀ e, e < 2 * J → asrc fr to e < N := fun e he => by
    unfold asrc
    split
    · exact h1 _ (by omega)
    · exact h2 _ (by omega)
  have hp := fun i => bfF_pat hs F ha hd i
  -- joint i of the way
  have arc : ∀ i, i < m → ∃ e, e < 2 * J ∧ b (pat (asrc fr to) b a i) = (e : Int) ∧ aop u f e = true ∧ asrc to fr e = pat (asrc fr to) b a i ∧ asrc fr to e = pat (asrc fr to) b a (i + 1) ∧ d (pat (asrc fr to) b a i) = d (pat (asrc fr to) b a (i + 1)) + aln c e := by
    intro i hi
    rcases (F.2.1 _ (hp i).1).1 (hp i).2 with ⟨q1, -⟩ | ⟨q1, e, k1, k2, k3, k4, k5, k6, k7⟩
    · exact absurd q1 (hm i hi)
    · have es : asrc fr to e = pat (asrc fr to) b a (i + 1) := by
        show _ = (if b (pat (asrc fr to) b a i) = -1 then _ else asrc fr to (b (pat (asrc fr to) b a i)).toNat)
        rw [if_neg q1, k2, show ((e : Int)).toNat = e by omega]
      exact ⟨e, k1, k2, k3, k4, es, by rw [← es]; exact k6⟩
  intro i
  induction i with
  | zero =>
    intro _
    refine ⟨fun j hj q => absurd rfl q, hb, fun v => ?_, fun _ _ => rfl⟩
    show sp J fr to f v = sp J fr to f v + (if v = a then much else 0) - (if v = a then much else 0)
    omega
  | succ i ih =>
    intro hi
    obtain ⟨i1, i2, i3, i4⟩ := ih (by omega)
    obtain ⟨e, e1, e2, e3, e4, e5, e6⟩ := arc i (by omega)
    have eN : (b (pat (asrc fr to) b a i)).toNat = e := by rw [e2]; omega
    have hj : e / 2 < J := by omega
    -- not pushed before
    have fresh : pfl fr to b f much a i (e / 2) = f (e / 2) := by
      apply Classical.byContradiction
      intro q
      obtain ⟨⟨k, hk, hkj⟩, -⟩ := i1 (e / 2) hj q
      obtain ⟨e', x1, x2, x3, x4, x5, x6⟩ := arc k (by omega)
      have xN : (b (pat (asrc fr to) b a k)).toNat = e' := by rw [x2]; omega
      rw [xN] at hkj
      have r1 := hrk k i hk (by omega)
      have r2 := hrk k (i + 1) (by omega) (by omega)
      have r3 := hrk i (i + 1) (by omega) (by omega)
      have r4 := hrk k (k + 1) (by omega) (by omega)
      by_cases z : e % 2 = e' % 2
      · have : e = e' := by omega
        subst this
        rw [e4] at x4
        rw [← x4] at r1
        omega
      · have w1 : asrc fr to e = asrc to fr e' := by
          unfold asrc
          by_cases z1 : e % 2 = 0
          · rw [if_pos z1, if_neg (by omega), hkj]
          · rw [if_neg z1, if_pos (by omega), hkj]
        rw [e5, x4] at w1
        rw [w1] at r2
        omega
    have hr := hres i (by omega)
    rw [eN] at hr
    have hpf : pfl fr to b f much a (i + 1) = fu (pfl fr to b f much a i) (e / 2) (pfl fr to b f much a i (e / 2) + (if e % 2 = 0 then much else -much)) := by
      show fu (pfl fr to b f much a i) ((b (pat (asrc fr to) b a i)).toNat / 2) _ = _
      rw [eN]
    have tight : d (to (e / 2)) = d (fr (e / 2)) + c (e / 2) ∧ d (fr (e / 2)) < 1000000 ∧ d (to (e / 2)) < 1000000 := by
      have t1 := (hp i).2
      have t2 := (hp (i + 1)).2
      rw [← e4] at e6 t1
      rw [← e5] at e6 t2
      unfold asrc at e6 t1 t2
      unfold aln at e6
      by_cases z : e % 2 = 0
      · rw [if_pos z, if_pos z, if_pos z] at e6
        rw [if_pos z] at t1 t2
        exact ⟨e6, t2, t1⟩
      · rw [if_neg z, if_neg z, if_neg z] at e6
        rw [if_neg z] at t1 t2
        exact ⟨by omega, t1, t2⟩
    rw [hpf]
    refine ⟨fun j hjJ q => ?_, fun j hjJ => ?_, fun v => ?_, fun j hjJ => ?_⟩
    · by_cases z : j = e / 2
      · subst z
        exact ⟨⟨i, by omega, by rw [eN]⟩, tight⟩
      · rw [fu_ne z] at q
        obtain ⟨⟨k, hk, hkj⟩, g⟩ := i1 j hjJ q
        exact ⟨⟨k, by omega, hkj⟩, g⟩
    · by_cases z : j = e / 2
      · subst z
        rw [fu_same, fresh]
        have := hb _ hj
        unfold ares at hr
        by_cases z1 : e % 2 = 0
        · rw [if_pos z1] at hr ⊢; omega
        · rw [if_neg z1] at hr ⊢; omega
      · rw [fu_ne z]; exact i2 j hjJ
    · rw [sp_set hj, i3 v]
      have ne : pat (asrc fr to) b a i ≠ pat (asrc fr to) b a (i + 1) := by
        intro z
        have := hrk i (i + 1) (by omega) (by omega)
        rw [z] at this
        omega
      by_cases z1 : e % 2 = 0
      · rw [asrc_e z1] at e4 e5
        rw [if_pos z1, e4, e5]
        by_cases z2 : v = pat (asrc fr to) b a i
        · have z3 : ¬ v = pat (asrc fr to) b a (i + 1) := by rw [z2]; exact ne
          rw [if_pos z2, if_pos z2.symm, if_neg (Ne.symm z3), if_neg z3]; omega
        · rw [if_neg z2, if_neg (Ne.symm z2)]
          by_cases z3 : v = pat (asrc fr to) b a (i + 1)
          · rw [if_pos z3, if_pos z3.symm]; omega
          · rw [if_neg z3, if_neg (Ne.symm z3)]; omega
      · rw [asrc_o z1] at e4 e5
        rw [if_neg z1, e4, e5]
        by_cases z2 : v = pat (asrc fr to) b a i
        · have z3 : ¬ v = pat (asrc fr to) b a (i + 1) := by rw [z2]; exact ne
          rw [if_pos z2, if_pos z2.symm, if_neg (Ne.symm z3), if_neg z3]; omega
        · rw [if_neg z2, if_neg (Ne.symm z2)]
          by_cases z3 : v = pat (asrc fr to) b a (i + 1)
          · rw [if_pos z3, if_pos z3.symm]; omega
          · rw [if_neg z3, if_neg (Ne.symm z3)]; omega
    · rw [fu_ne (by omega)]; exact i4 j hjJ
/-- the ways are still without a shorter round, with other heights for the nodes -/
theorem push_fe {p g : Nat → Int} {L : Int} (h1 : ∀ j, j < J → fr j < N) (h2 : ∀ j, j < J → to j < N) (hL0 : 0 ≤ L) (hL : ∀ j, j < J → -L ≤ c j ∧ c j ≤ L) (hLN : L * N + L < 1000000) (hp : fe J fr to u c f p) (F : bfF N (2 * J) (asrc fr to) (asrc to fr) (aln c) (aop u f) w0 d b rk) (hg : ∀ j, j < J → g j ≠ f j → d (to j) = d (fr j) + c j ∧ d (fr j) < 1000000 ∧ d (to j) < 1000000) : ∃ p', fe J fr to u c g p' := by
  have hs : ∀ e, e < 2 * J → asrc fr to e < N := fun e he => by
    unfold asrc
    split
    · exact h1 _ (by omega)
    · exact h2 _ (by omega)
  have hl : ∀ e, e < 2 * J → -L ≤ aln c e ∧ aln c e ≤ L := fun e he => by
    have := hL (e / 2) (by omega)
    unfold aln
    split <;> omega
  have bd := F.bound hs hL0 hl
  have along : ∀ j, j < J → f j < u j → d (fr j) < 1000000 → d (to j) ≤ d (fr j) + c j ∧ d (to j) < 1000000 := by
    intro j hj ho hd
    have a := F.1 (2 * j) (by omega)
    unfold asrc aln aop at a
    rw [if_pos (by omega), if_pos (by omega), if_pos (by omega), if_pos (by omega), show 2 * j / 2 = j by omega] at a
    have b1 := a (by simpa using ho) hd
    have b2 := bd _ (h1 j hj) hd
    have b3 := hL j hj
    exact ⟨b1, by omega⟩
  have against : ∀ j, j < J → -(u j) < f j → d (to j) < 1000000 → d (fr j) ≤ d (to j) - c j ∧ d (fr j) < 1000000 := by
    intro j hj ho hd
    have a := F.1 (2 * j + 1) (by omega)
    unfold asrc aln aop at a
    rw [if_neg (by omega), if_neg (by omega), if_neg (by omega), if_neg (by omega), show (2 * j + 1) / 2 = j by omega] at a
    have b1 := a (by simpa using ho) hd
    have b2 := bd _ (h2 j hj) hd
    have b3 := hL j hj
    exact ⟨by omega, by omega⟩
  -- a number above all that is needed
  have hB : ∃ B : Int, ∀ v, v < N → 2000000 - p v ≤ B := by
    have : ∀ n, ∃ B : Int, ∀ v, v < n → 2000000 - p v ≤ B := by
      intro n
      induction n with
      | zero => exact ⟨0, fun v h => by omega⟩
      | succ n ih =>
        obtain ⟨B, hB⟩ := ih
        by_cases q : 2000000 - p n ≤ B
        · exact ⟨B, fun v hv => by
            by_cases z : v = n
            · subst z; exact q
            · exact hB v (by omega)⟩
        · exact ⟨2000000 - p n, fun v hv => by
            by_cases z : v = n
            · subst z; omega
            · have := hB v (by omega); omega⟩
    exact this N
  obtain ⟨B, hB⟩ := hB
  refine ⟨fun v => if d v < 1000000 then d v else p v + B, fun j hj => ?_⟩
  have bL := hL j hj
  have q1 := hB _ (h1 j hj)
  have q2 := hB _ (h2 j hj)
  by_cases hc : g j = f j
  · rw [hc]
    refine ⟨fun ho => ?_, fun ho => ?_⟩
    · show (if d (to j) < 1000000 then d (to j) else p (to j) + B) ≤ (if d (fr j) < 1000000 then d (fr j) else p (fr j) + B) + c j
      by_cases z : d (fr j) < 1000000
      · have := along j hj ho z
        rw [if_pos z, if_pos this.2]; exact this.1
      · rw [if_neg z]
        have := (hp j hj).1 ho
        by_cases z2 : d (to j) < 1000000
        · rw [if_pos z2]; omega
        · rw [if_neg z2]; omega
    · show (if d (fr j) < 1000000 then d (fr j) else p (fr j) + B) ≤ (if d (to j) < 1000000 then d (to j) else p (to j) + B) - c j
      by_cases z : d (to j) < 1000000
      · have := against j hj ho z
        rw [if_pos z, if_pos this.2]; exact this.1
      · rw [if_neg z]
        have := (hp j hj).2 ho
        by_cases z2 : d (fr j) < 1000000
        · rw [if_pos z2]; omega
        · rw [if_neg z2]; omega
  · obtain ⟨t1, t2, t3⟩ := hg j hj hc
    refine ⟨fun _ => ?_, fun _ => ?_⟩
    · show (if d (to j) < 1000000 then d (to j) else p (to j) + B) ≤ (if d (fr j) < 1000000 then d (fr j) else p (fr j) + B) + c j
      rw [if_pos t2, if_pos t3]; omega
    · show (if d (fr j) < 1000000 then d (fr j) else p (fr j) + B) ≤ (if d (to j) < 1000000 then d (to j) else p (to j) + B) - c j
      rw [if_pos t2, if_pos t3]; omega
/-- from where there is too much a way leads to where there is too little -/
theorem push_ex {L : Int} (h1 : ∀ j, j < J → fr j < N) (h2 : ∀ j, j < J → to j < N) (hu : ∀ j, j < J → 0 ≤ u j) (hb : ∀ j, j < J → -(u j) ≤ f j ∧ f j ≤ u j) (hL0 : 0 ≤ L) (hL : ∀ j, j < J → -L ≤ c j ∧ c j ≤ L) (hLN : L * N + L < 1000000) (F : bfF N (2 * J) (asrc fr to) (asrc to fr) (aln c) (aop u f) w0 d b rk) (hw : ∀ v, v < N → (0 < sp J fr to f v → d v < 1000000)) (hsrc : ∃ v, v < N ∧ 0 < sp J fr to f v) : ∃ v, v < N ∧ sp J fr to f v < 0 ∧ d v < 1000000 := by
  have hs : ∀ e, e < 2 * J → asrc fr to e < N := fun e he => by
    unfold asrc
    split
    · exact h1 _ (by omega)
    · exact h2 _ (by omega)
  have hl : ∀ e, e < 2 * J → -L ≤ aln c e ∧ aln c e ≤ L := fun e he => by
    have := hL (e / 2) (by omega)
    unfold aln
    split <;> omega
  have bd := F.bound hs hL0 hl
  have cut := fl_cut (f := f) (u := u) (R := fun v => decide (d v < 1000000)) h1 h2 (fun j hj => by
    have a := F.1 (2 * j) (by omega)
    unfold asrc aln aop at a
    rw [if_pos (by omega), if_pos (by omega), if_pos (by omega), if_pos (by omega), show 2 * j / 2 = j by omega] at a
    have b := F.1 (2 * j + 1) (by omega)
    unfold asrc aln aop at b
    rw [if_neg (by omega), if_neg (by omega), if_neg (by omega), if_neg (by omega), show (2 * j + 1) / 2 = j by omega] at b
    have b3 := hL j hj
    have b4 := hb j hj
    refine ⟨fun q1 q2 => ?_, fun q1 q2 => ?_⟩
    · simp only [decide_eq_true_eq, decide_eq_false_iff_not] at q1 q2
      apply Classical.byContradiction
      intro z
      have := a (by simp; omega) q1
      have := bd _ (h1 j hj) q1
      omega
    · simp only [decide_eq_true_eq, decide_eq_false_iff_not] at q1 q2
      apply Classical.byContradiction
      intro z
      have := b (by simp; omega) q1
      have := bd _ (h2 j hj) q1
      omega)
  apply Classical.byContradiction
  intro q
  obtain ⟨v, hv, hp⟩ := hsrc
  have pos : ∀ k, k < N → 0 ≤ (if decide (d k < 1000000) = true then sp J fr to f k else 0) := fun k hk => by
    split
    · rename_i z
      simp only [decide_eq_true_eq] at z
      rcases lt_ge (sp J fr to f k) 0 with y | y
      · exact absurd ⟨k, hk, y, z⟩ q
      · exact y
    · exact Int.le_refl _
  have big := su_nonneg_le (f := fun k => if decide (d k < 1000000) = true then sp J fr to f k else 0) pos hv
  have e : (if decide (d v < 1000000) = true then sp J fr to f v else 0) = sp J fr to f v := if_pos (by simpa using hw v hv hp)
  rw [e] at big
  have nn : 0 ≤ su (fun j => if (fun v => decide (d v < 1000000)) (fr j) = (fun v => decide (d v < 1000000)) (to j) then 0 else u j) J := su_nonneg (fun j hj => by
    split
    · exact Int.le_refl _
    · exact hu j hj)
  have cut2 : su (fun k => if decide (d k < 1000000) = true then sp J fr to f k else 0) N = -(su (fun j => if (fun v => decide (d v < 1000000)) (fr j) = (fun v => decide (d v < 1000000)) (to j) then 0 else u j) J) := cut
  omega
end PUSH
