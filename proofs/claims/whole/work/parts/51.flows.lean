/-! FLOWS: least cost by flows -/
section FLOW
variable {N J : Nat} {fr to : Nat → Nat} {u c f x : Nat → Int}
/-- the cost of a labelling; what a flow brings to a node; a labelling that keeps to the ways a flow leaves open -/
def co (J : Nat) (fr to : Nat → Nat) (u c x : Nat → Int) : Int := su (fun j => u j * ab (x (to j) - x (fr j) - c j)) J
def sp (J : Nat) (fr to : Nat → Nat) (f : Nat → Int) (v : Nat) : Int := su (fun j => (if to j = v then f j else 0) - (if fr j = v then f j else 0)) J
def fe (J : Nat) (fr to : Nat → Nat) (u c f x : Nat → Int) : Prop := ∀ j, j < J → (f j < u j → x (to j) ≤ x (fr j) + c j) ∧ (-(u j) < f j → x (fr j) ≤ x (to j) - c j)
theorem fl_pot (h1 : ∀ j, j < J → fr j < N) (h2 : ∀ j, j < J → to j < N) : su (fun j => f j * (x (to j) - x (fr j))) J = su (fun v => x v * sp J fr to f v) N := by
  have e1 : su (fun v => x v * sp J fr to f v) N = su (fun v => su (fun j => x v * ((if to j = v then f j else 0) - (if fr j = v then f j else 0))) J) N := su_congr (fun v _ => by
    show x v * su _ J = _
    rw [su_mul])
  rw [e1, su_swap]
  refine su_congr (fun j hj => ?_)
  have e2 : su (fun v => x v * ((if to j = v then f j else 0) - (if fr j = v then f j else 0))) N = su (fun v => (if v = to j then x (to j) * f j else 0) - (if v = fr j then x (fr j) * f j else 0)) N := su_congr (fun v _ => by
    by_cases q1 : v = to j
    · by_cases q2 : v = fr j
      · rw [if_pos q1.symm, if_pos q2.symm, if_pos q1, if_pos q2, ← q1, ← q2, Int.mul_sub]
      · rw [if_pos q1.symm, if_neg (Ne.symm q2), if_pos q1, if_neg q2, ← q1, Int.mul_sub, Int.mul_zero]
    · by_cases q2 : v = fr j
      · rw [if_neg (Ne.symm q1), if_pos q2.symm, if_neg q1, if_pos q2, ← q2, Int.mul_sub, Int.mul_zero]
      · rw [if_neg (Ne.symm q1), if_neg (Ne.symm q2), if_neg q1, if_neg q2]; simp)
  rw [e2, su_sub, su_one (h2 j hj), su_one (h1 j hj), Int.mul_sub, Int.mul_comm, Int.mul_comm (f j)]
theorem fl_sum (h1 : ∀ j, j < J → fr j < N) (h2 : ∀ j, j < J → to j < N) : su (fun v => sp J fr to f v) N = 0 := by
  have h := fl_pot (f := f) (x := fun _ => 1) h1 h2
  have e1 : su (fun j => f j * ((fun _ => (1 : Int)) (to j) - (fun _ => (1 : Int)) (fr j))) J = su (fun _ => 0) J := su_congr (fun j _ => by simp)
  have e2 : su (fun v => (fun _ => (1 : Int)) v * sp J fr to f v) N = su (fun v => sp J fr to f v) N := su_congr (fun j _ => by simp)
  rw [e1, su_zero, e2] at h
  exact h.symm
theorem fl_dual (h1 : ∀ j, j < J → fr j < N) (h2 : ∀ j, j < J → to j < N) (hs : ∀ v, v < N → sp J fr to f v = 0) : su (fun j => f j * (x (to j) - x (fr j) - c j)) J = -(su (fun j => f j * c j) J) := by
  have e : su (fun j => f j * (x (to j) - x (fr j) - c j)) J = su (fun j => f j * (x (to j) - x (fr j)) - f j * c j) J := su_congr (fun j _ => by rw [Int.mul_sub])
  rw [e, su_sub, fl_pot h1 h2]
  have e2 : su (fun v => x v * sp J fr to f v) N = su (fun _ => 0) N := su_congr (fun v hv => by rw [hs v hv, Int.mul_zero])
  rw [e2, su_zero]; omega
theorem fl_low (h1 : ∀ j, j < J → fr j < N) (h2 : ∀ j, j < J → to j < N) (hs : ∀ v, v < N → sp J fr to f v = 0) (hb : ∀ j, j < J → -(u j) ≤ f j ∧ f j ≤ u j) : -(su (fun j => f j * c j) J) ≤ co J fr to u c x := by
  rw [← fl_dual (x := x) h1 h2 hs]
  exact su_le (fun j hj => mul_ab (hb j hj).1 (hb j hj).2)
theorem fl_eq (h1 : ∀ j, j < J → fr j < N) (h2 : ∀ j, j < J → to j < N) (hs : ∀ v, v < N → sp J fr to f v = 0) (hb : ∀ j, j < J → -(u j) ≤ f j ∧ f j ≤ u j) : co J fr to u c x = -(su (fun j => f j * c j) J) ↔ fe J fr to u c f x := by
  rw [← fl_dual (x := x) h1 h2 hs]
  constructor
  · intro e j hj
    have h := su_eq_of_le (f := fun j => f j * (x (to j) - x (fr j) - c j)) (g := fun j => u j * ab (x (to j) - x (fr j) - c j)) (n := J) (fun j hj => mul_ab (hb j hj).1 (hb j hj).2) (by unfold co at e; omega) j hj
    have := (mul_ab_eq (hb j hj).1 (hb j hj).2).mp h
    exact ⟨fun q => by have := this.1 q; omega, fun q => by have := this.2 q; omega⟩
  · intro hf
    refine (su_congr (fun j hj => ?_)).symm
    have := hf j hj
    exact (mul_ab_eq (hb j hj).1 (hb j hj).2).mpr ⟨fun q => by have := this.1 q; omega, fun q => by have := this.2 q; omega⟩
/-- what comes into a set that the flow leaves no way out of -/
theorem fl_cut {R : Nat → Bool} (h1 : ∀ j, j < J → fr j < N) (h2 : ∀ j, j < J → to j < N) (hc : ∀ j, j < J → (R (fr j) = true → R (to j) = false → f j = u j) ∧ (R (to j) = true → R (fr j) = false → f j = -(u j))) : su (fun v => if R v = true then sp J fr to f v else 0) N = -(su (fun j => if R (fr j) = R (to j) then 0 else u j) J) := by
  have h := fl_pot (f := f) (x := fun v => if R v = true then 1 else 0) h1 h2
  have e2 : su (fun v => (fun v => if R v = true then (1 : Int) else 0) v * sp J fr to f v) N = su (fun v => if R v = true then sp J fr to f v else 0) N := su_congr (fun v _ => by
    show (if R v = true then (1 : Int) else 0) * _ = _
    by_cases q : R v = true
    · rw [if_pos q, if_pos q, Int.one_mul]
    · rw [if_neg q, if_neg q, Int.zero_mul])
  rw [e2] at h
  rw [← h, ← su_neg]
  refine su_congr (fun j hj => ?_)
  have h3 := hc j hj
  show f j * ((if R (to j) = true then (1 : Int) else 0) - (if R (fr j) = true then 1 else 0)) = _
  cases q1 : R (fr j) <;> cases q2 : R (to j)
  · simp
  · rw [h3.2 q2 q1]; simp
  · rw [h3.1 q1 q2]; simp
  · simp
end FLOW
/-! SHORTEST WAYS, round after round over all ways -/
def fu (f : Nat → Int) (a : Nat) (x : Int) : Nat → Int := fun k => if k = a then x else f k
theorem fu_same {f : Nat → Int} {a : Nat} {x : Int} : fu f a x a = x := if_pos rfl
theorem fu_ne {f : Nat → Int} {a b : Nat} {x : Int} (h : b ≠ a) : fu f a x b = f b := if_neg h
abbrev bS : Type := (Nat → Int) × (Nat → Int) × Bool
def bcd (src dst : Nat → Nat) (ln : Nat → Int) (op : Nat → Bool) (e : Nat) (s : bS) : Prop := op e = true ∧ s.1 (src e) < 1000000 ∧ s.1 (src e) + ln e < s.1 (dst e)
/-- one way is looked at -/
noncomputable def rl (src dst : Nat → Nat) (ln : Nat → Int) (op : Nat → Bool) (e : Nat) (s : bS) : bS :=
  haveI := Classical.propDecidable (bcd src dst ln op e s)
  if bcd src dst ln op e s then (fu s.1 (dst e) (s.1 (src e) + ln e), fu s.2.1 (dst e) (e : Int), true) else s
noncomputable def rp (src dst : Nat → Nat) (ln : Nat → Int) (op : Nat → Bool) : Nat → bS → bS
  | 0, s => s
  | n + 1, s => rl src dst ln op n (rp src dst ln op n s)
/-- a round -/
noncomputable def rnd (A : Nat) (src dst : Nat → Nat) (ln : Nat → Int) (op : Nat → Bool) (s : bS) : bS := rp src dst ln op A (s.1, s.2.1, false)
noncomputable def rit (A : Nat) (src dst : Nat → Nat) (ln : Nat → Int) (op : Nat → Bool) : Nat → bS → bS
  | 0, s => s
  | n + 1, s => rnd A src dst ln op (rit A src dst ln op n s)
section BF
variable {N A : Nat} {src dst : Nat → Nat} {ln : Nat → Int} {op : Nat → Bool} {w0 p : Nat → Int} {K : Int}
theorem rl_pos {e : Nat} {s : bS} (h : bcd src dst ln op e s) : rl src dst ln op e s = (fu s.1 (dst e) (s.1 (src e) + ln e), fu s.2.1 (dst e) (e : Int), true) := by
  unfold rl; rw [if_pos h]
theorem rl_neg {e : Nat} {s : bS} (h : ¬ bcd src dst ln op e s) : rl src dst ln op e s = s := by
  unfold rl; rw [if_neg h]
/-- what holds all the while -/
def bfI (N A : Nat) (src dst : Nat → Nat) (ln : Nat → Int) (op : Nat → Bool) (w0 p : Nat → Int) (K : Int) (s : bS) : Prop := ∃ (rk : Nat → Nat) (T : Nat), ∀ v, v < N → rk v ≤ T ∧ (s.2.1 v = -1 → s.1 v = w0 v) ∧ (s.2.1 v ≠ -1 → s.1 v < w0 v ∧ ∃ e, e < A ∧ s.2.1 v = (e : Int) ∧ op e = true ∧ dst e = v ∧ s.1 (src e) < 1000000 ∧ s.1 (src e) + ln e ≤ s.1 v ∧ (s.1 (src e) + ln e = s.1 v → rk (src e) < rk v)) ∧ s.1 v ≤ w0 v ∧ p v - K ≤ s.1 v
theorem bfI.rl {e : Nat} {s : bS} (h1 : ∀ e, e < A → src e < N) (h2 : ∀ e, e < A → dst e < N) (hp : ∀ e, e < A → op e = true → p (dst e) ≤ p (src e) + ln e) (he : e < A) (I : bfI N A src dst ln op w0 p K s) : bfI N A src dst ln op w0 p K (rl src dst ln op e s) := by
  by_cases hc : bcd src dst ln op e s
  rotate_left
  · rw [rl_neg hc]; exact I
  rw [rl_pos hc]
  obtain ⟨rk, T, I⟩ := I
  obtain ⟨c1, c2, c3⟩ := hc
  have hpe := hp e he c1
  have hne : src e ≠ dst e := by
    intro q
    rw [q] at c3 hpe
    omega
  refine ⟨fun k => if k = dst e then T + 1 else rk k, T + 1, fun v hv => ?_⟩
  obtain ⟨i1, i2, i3, i4, i5⟩ := I v hv
  have is := I (src e) (h1 e he)
  by_cases hvd : v = dst e
  · subst hvd
    refine ⟨by simp, fun q => ?_, fun _ => ⟨?_, e, he, fu_same, c1, rfl, ?_, ?_, fun _ => ?_⟩, ?_, ?_⟩
    · have q : fu s.2.1 (dst e) (e : Int) (dst e) = -1 := q
      rw [fu_same] at q; omega
    · show fu _ _ _ _ < _
      rw [fu_same]; omega
    · show fu _ _ _ _ < _
      rw [fu_ne hne]; exact c2
    · show fu _ _ _ _ + _ ≤ fu _ _ _ _
      rw [fu_ne hne, fu_same]; exact Int.le_refl _
    · show (if src e = dst e then T + 1 else rk (src e)) < (if dst e = dst e then T + 1 else rk (dst e))
      rw [if_neg hne, if_pos rfl]
      have := is.1
      omega
    · show fu _ _ _ _ ≤ _
      rw [fu_same]; omega
    · show _ ≤ fu _ _ _ _
      rw [fu_same]
      have := is.2.2.2.2
      omega
  · have e1 : fu s.1 (dst e) (s.1 (src e) + ln e) v = s.1 v := fu_ne hvd
    have e2 : fu s.2.1 (dst e) (e : Int) v = s.2.1 v := fu_ne hvd
    refine ⟨?_, fun q => ?_, fun q => ?_, ?_, ?_⟩
    · show (if v = dst e then T + 1 else rk v) ≤ T + 1
      rw [if_neg hvd]; omega
    · show fu _ _ _ v = _
      rw [e1]
      exact i2 (by rw [← e2]; exact q)
    · obtain ⟨g0, e', g1, g2, g3, g4, g5, g6, g7⟩ := i3 (by rw [← e2]; exact q)
      refine ⟨by show fu _ _ _ v < _; rw [e1]; exact g0, e', g1, by show fu _ _ _ v = _; rw [e2]; exact g2, g3, g4, ?_⟩
      by_cases hs : src e' = dst e
      · show fu _ _ _ (src e') < _ ∧ fu _ _ _ (src e') + _ ≤ fu _ _ _ v ∧ (fu _ _ _ (src e') + _ = fu _ _ _ v → _)
        rw [e1, hs, fu_same]
        rw [hs] at g5 g6
        exact ⟨by omega, by omega, fun q => by omega⟩
      · show fu _ _ _ (src e') < _ ∧ fu _ _ _ (src e') + _ ≤ fu _ _ _ v ∧ (fu _ _ _ (src e') + _ = fu _ _ _ v → (if src e' = dst e then T + 1 else rk (src e')) < (if v = dst e then T + 1 else rk v))
        rw [e1, fu_ne hs, if_neg hs, if_neg hvd]
        exact ⟨g5, g6, g7⟩
    · show fu _ _ _ v ≤ _
      rw [e1]; exact i4
    · show _ ≤ fu _ _ _ v
      rw [e1]; exact i5
theorem bfI.rp {s : bS} (h1 : ∀ e, e < A → src e < N) (h2 : ∀ e, e < A → dst e < N) (hp : ∀ e, e < A → op e = true → p (dst e) ≤ p (src e) + ln e) (I : bfI N A src dst ln op w0 p K s) : ∀ n, n ≤ A → bfI N A src dst ln op w0 p K (rp src dst ln op n s)
  | 0, _ => I
  | n + 1, h => bfI.rl h1 h2 hp (by omega) (bfI.rp h1 h2 hp I n (by omega))
theorem bfI.ch {s : bS} {b : Bool} (I : bfI N A src dst ln op w0 p K s) : bfI N A src dst ln op w0 p K (s.1, s.2.1, b) := I
theorem bfI.rit {s : bS} (h1 : ∀ e, e < A → src e < N) (h2 : ∀ e, e < A → dst e < N) (hp : ∀ e, e < A → op e = true → p (dst e) ≤ p (src e) + ln e) (I : bfI N A src dst ln op w0 p K s) : ∀ n, bfI N A src dst ln op w0 p K (rit A src dst ln op n s)
  | 0 => I
  | n + 1 => bfI.rp h1 h2 hp (bfI.rit h1 h2 hp I n).ch A (Nat.le_refl _)
/-- nothing grows -/
theorem rl_le {e : Nat} {s : bS} (v : Nat) : (rl src dst ln op e s).1 v ≤ s.1 v := by
  by_cases hc : bcd src dst ln op e s
  · rw [rl_pos hc]
    show fu _ _ _ v ≤ _
    by_cases hv : v = dst e
    · rw [hv, fu_same]; exact Int.le_of_lt hc.2.2
    · rw [fu_ne hv]; exact Int.le_refl _
  · rw [rl_neg hc]; exact Int.le_refl _
theorem rp_le {s : bS} (v : Nat) : ∀ n, (rp src dst ln op n s).1 v ≤ s.1 v
  | 0 => Int.le_refl _
  | n + 1 => Int.le_trans (rl_le v) (rp_le v n)
/-- a round that changes nothing -/
theorem rl_ch {e : Nat} {s : bS} (h : (rl src dst ln op e s).2.2 = false) : s.2.2 = false ∧ rl src dst ln op e s = s ∧ ¬ bcd src dst ln op e s := by
  by_cases hc : bcd src dst ln op e s
  · rw [rl_pos hc] at h; cases h
  · rw [rl_neg hc] at h; exact ⟨h, rl_neg hc, hc⟩
theorem rp_ch {s : bS} : ∀ n, (rp src dst ln op n s).2.2 = false → rp src dst ln op n s = s ∧ ∀ e, e < n → ¬ bcd src dst ln op e s
  | 0, _ => ⟨rfl, fun e h => by omega⟩
  | n + 1, h => by
    obtain ⟨g1, g2, g3⟩ := rl_ch (show (rl src dst ln op n (rp src dst ln op n s)).2.2 = false from h)
    obtain ⟨k1, k2⟩ := rp_ch n g1
    refine ⟨?_, fun e he => ?_⟩
    · show rl src dst ln op n (rp src dst ln op n s) = s
      rw [g2, k1]
    · by_cases q : e = n
      · subst q; rw [k1] at g3; exact g3
      · exact k2 e (by omega)
theorem rl_lt {e : Nat} {s : bS} (h2 : dst e < N) (h : bcd src dst ln op e s) : su (rl src dst ln op e s).1 N < su s.1 N := by
  rw [rl_pos h]
  show su (fun k => if k = dst e then _ else s.1 k) N < _
  rw [su_set h2]
  have := h.2.2
  omega
theorem rp_lt {s : bS} (h2 : ∀ e, e < A → dst e < N) : ∀ n, n ≤ A → s.2.2 = false → (rp src dst ln op n s).2.2 = true → su (rp src dst ln op n s).1 N < su s.1 N
  | 0, _, h, h' => by rw [show rp src dst ln op 0 s = s from rfl, h] at h'; cases h'
  | n + 1, hn, h, h' => by
    by_cases hc : bcd src dst ln op n (rp src dst ln op n s)
    · have a := rl_lt (h2 n (by omega)) hc
      have b : su (rp src dst ln op n s).1 N ≤ su s.1 N := su_le (fun v _ => rp_le v n)
      exact Int.lt_of_lt_of_le a b
    · have e : rp src dst ln op (n + 1) s = rp src dst ln op n s := rl_neg hc
      rw [e] at h' ⊢
      exact rp_lt h2 n (by omega) h h'
/-- some round changes nothing -/
theorem bf_stops {s : bS} (h1 : ∀ e, e < A → src e < N) (h2 : ∀ e, e < A → dst e < N) (hp : ∀ e, e < A → op e = true → p (dst e) ≤ p (src e) + ln e) (I : bfI N A src dst ln op w0 p K s) : ∃ n, (rnd A src dst ln op (rit A src dst ln op n s)).2.2 = false := by
  have key : ∀ (m n : Nat), (su (rit A src dst ln op n s).1 N - su (fun v => p v - K) N).toNat ≤ m → ∃ n, (rnd A src dst ln op (rit A src dst ln op n s)).2.2 = false := by
    intro m
    induction m with
    | zero =>
      intro n hm
      refine ⟨n, ?_⟩
      cases hq : (rnd A src dst ln op (rit A src dst ln op n s)).2.2 with
      | false => rfl
      | true =>
        have a : su (rnd A src dst ln op (rit A src dst ln op n s)).1 N < su (rit A src dst ln op n s).1 N := rp_lt h2 A (Nat.le_refl _) rfl hq
        have b : su (fun v => p v - K) N ≤ su (rit A src dst ln op (n + 1) s).1 N := su_le (fun v hv => by
          obtain ⟨rk, T, I⟩ := bfI.rit h1 h2 hp I (n + 1)
          exact (I v hv).2.2.2.2)
        have c : su (rit A src dst ln op (n + 1) s).1 N = su (rnd A src dst ln op (rit A src dst ln op n s)).1 N := rfl
        omega
    | succ m ih =>
      intro n hm
      cases hq : (rnd A src dst ln op (rit A src dst ln op n s)).2.2 with
      | false => exact ⟨n, hq⟩
      | true =>
        have a : su (rnd A src dst ln op (rit A src dst ln op n s)).1 N < su (rit A src dst ln op n s).1 N := rp_lt h2 A (Nat.le_refl _) rfl hq
        refine ih (n + 1) ?_
        have c : su (rit A src dst ln op (n + 1) s).1 N = su (rnd A src dst ln op (rit A src dst ln op n s)).1 N := rfl
        omega
  exact key _ 0 (Nat.le_refl _)
/-- nothing can be shorter -/
def bfe (A : Nat) (src dst : Nat → Nat) (ln : Nat → Int) (op : Nat → Bool) (d : Nat → Int) : Prop := ∀ e, e < A → op e = true → d (src e) < 1000000 → d (dst e) ≤ d (src e) + ln e
theorem rnd_fe {s : bS} (h : (rnd A src dst ln op s).2.2 = false) : bfe A src dst ln op s.1 ∧ (rnd A src dst ln op s).1 = s.1 ∧ (rnd A src dst ln op s).2.1 = s.2.1 := by
  obtain ⟨k1, k2⟩ := rp_ch A h
  refine ⟨fun e he ho hd => ?_, by show (rp src dst ln op A _).1 = _; rw [k1], by show (rp src dst ln op A _).2.1 = _; rw [k1]⟩
  apply Classical.byContradiction
  intro q
  exact k2 e he ⟨ho, hd, by show s.1 _ + _ < s.1 _; omega⟩
/-- the end of all rounds bounds them all -/
def bfD (N A : Nat) (src dst : Nat → Nat) (ln : Nat → Int) (op : Nat → Bool) (w0 D : Nat → Int) (R : Nat → Nat) : Prop := bfe A src dst ln op D ∧ ∀ v, v < N → D v ≤ w0 v ∧ (D v < w0 v → ∃ e, e < A ∧ op e = true ∧ dst e = v ∧ D (src e) < 1000000 ∧ D v = D (src e) + ln e ∧ R (src e) < R v)
theorem bf_D {s : bS} (h1 : ∀ e, e < A → src e < N) (h2 : ∀ e, e < A → dst e < N) (hp : ∀ e, e < A → op e = true → p (dst e) ≤ p (src e) + ln e) (I : bfI N A src dst ln op w0 p K s) : ∃ D R, bfD N A src dst ln op w0 D R := by
  obtain ⟨n, hn⟩ := bf_stops h1 h2 hp I
  obtain ⟨f1, -, -⟩ := rnd_fe hn
  obtain ⟨rk, T, J⟩ := bfI.rit h1 h2 hp I n
  refine ⟨(rit A src dst ln op n s).1, rk, f1, fun v hv => ?_⟩
  obtain ⟨i1, i2, i3, i4, i5⟩ := J v hv
  refine ⟨i4, fun q => ?_⟩
  obtain ⟨g0, e, g1, g2, g3, g4, g5, g6, g7⟩ := i3 (fun z => by have := i2 z; omega)
  have g8 := f1 e g1 g3 g5
  rw [g4] at g8
  exact ⟨e, g1, g3, g4, g5, by omega, g7 (by omega)⟩
theorem bfD.ge_rl {D : Nat → Int} {R : Nat → Nat} {e : Nat} {s : bS} (h1 : src e < N) (h2 : dst e < N) (hD : bfD N A src dst ln op w0 D R) (he : e < A) (h : ∀ v, v < N → D v ≤ s.1 v) : ∀ v, v < N → D v ≤ (rl src dst ln op e s).1 v := by
  intro v hv
  by_cases hc : bcd src dst ln op e s
  · rw [rl_pos hc]
    show _ ≤ fu _ _ _ v
    by_cases hvd : v = dst e
    · rw [hvd, fu_same]
      have a := h _ h1
      have b := hD.1 e he hc.1 (by have := hc.2.1; omega)
      omega
    · rw [fu_ne hvd]; exact h v hv
  · rw [rl_neg hc]; exact h v hv
theorem bfD.ge_rp {D : Nat → Int} {R : Nat → Nat} {s : bS} (h1 : ∀ e, e < A → src e < N) (h2 : ∀ e, e < A → dst e < N) (hD : bfD N A src dst ln op w0 D R) (h : ∀ v, v < N → D v ≤ s.1 v) : ∀ n, n ≤ A → ∀ v, v < N → D v ≤ (rp src dst ln op n s).1 v
  | 0, _ => h
  | n + 1, hn => bfD.ge_rl (h1 n (by omega)) (h2 n (by omega)) hD (by omega) (bfD.ge_rp h1 h2 hD h n (by omega))
theorem bfD.ge_rit {D : Nat → Int} {R : Nat → Nat} {s : bS} (h1 : ∀ e, e < A → src e < N) (h2 : ∀ e, e < A → dst e < N) (hD : bfD N A src dst ln op w0 D R) (h : ∀ v, v < N → D v ≤ s.1 v) : ∀ n, ∀ v, v < N → D v ≤ (rit A src dst ln op n s).1 v
  | 0 => h
  | n + 1 => bfD.ge_rp h1 h2 hD (s := ((rit A src dst ln op n s).1, (rit A src dst ln op n s).2.1, false)) (bfD.ge_rit h1 h2 hD h n) A (Nat.le_refl _)
/-- a node whose forerunner is settled is settled by the round -/
theorem bfD.settle {D : Nat → Int} {R : Nat → Nat} {s : bS} {e : Nat} (h1 : ∀ e, e < A → src e < N) (h2 : ∀ e, e < A → dst e < N) (hD : bfD N A src dst ln op w0 D R) (h : ∀ v, v < N → D v ≤ s.1 v) (ho : op e = true) (hM : D (src e) < 1000000) (hd : D (dst e) = D (src e) + ln e) (hs : s.1 (src e) = D (src e)) : ∀ n, n ≤ A → e < n → (rp src dst ln op n s).1 (dst e) = D (dst e)
  | 0, _, h => by omega
  | n + 1, hn, hen => by
    have g1 := bfD.ge_rp h1 h2 hD h (n + 1) hn (dst e) (h2 e (by omega))
    by_cases q : e = n
    · subst q
      have a := rp_le (src := src) (dst := dst) (ln := ln) (op := op) (s := s) (src e) e
      have b := bfD.ge_rp h1 h2 hD h e (by omega) (src e) (h1 e (by omega))
      have ge : (rp src dst ln op (e + 1) s).1 (dst e) ≤ D (dst e) := by
        show (rl src dst ln op e (rp src dst ln op e s)).1 (dst e) ≤ _
        by_cases hc : bcd src dst ln op e (rp src dst ln op e s)
        · rw [rl_pos hc]
          show fu _ _ _ (dst e) ≤ _
          rw [fu_same]; omega
        · rw [rl_neg hc]
          apply Classical.byContradiction
          intro z
          exact hc ⟨ho, by omega, by omega⟩
      omega
    · have ih := bfD.settle h1 h2 hD h ho hM hd hs n (by omega) (by omega)
      have a := rl_le (src := src) (dst := dst) (ln := ln) (op := op) (e := n) (s := rp src dst ln op n s) (dst e)
      have c : (rp src dst ln op (n + 1) s).1 (dst e) = (rl src dst ln op n (rp src dst ln op n s)).1 (dst e) := rfl
      omega
/-- how many nodes stand before v -/
def rc (N : Nat) (R : Nat → Nat) (v : Nat) : Int := su (fun w => if R w < R v then 1 else 0) N
theorem rc_lt {R : Nat → Nat} {a v : Nat} (ha : a < N) (h : R a < R v) : rc N R a + 1 ≤ rc N R v := by
  have h1 := su_split (f := fun w => if R w < R v then (1 : Int) else 0) ha
  have h2 : su (fun w => if R w < R a then (1 : Int) else 0) N ≤ su (fun k => if k = a then 0 else (if R k < R v then (1 : Int) else 0)) N := su_le (fun k hk => by
    by_cases q : k = a
    · rw [q, if_pos rfl, if_neg (by omega)]; exact Int.le_refl _
    · rw [if_neg q]
      split
      · rw [if_pos (by omega)]; exact Int.le_refl _
      · split <;> omega)
  have h3 : (if R a < R v then (1 : Int) else 0) = 1 := if_pos h
  rw [h3] at h1
  show su _ N + 1 ≤ su _ N
  omega
theorem su_const1 : ∀ {n : Nat}, su (fun _ => 1) n = n
  | 0 => rfl
  | n + 1 => by rw [su, su_const1]; omega
theorem rc_le {R : Nat → Nat} {v : Nat} (hv : v < N) : 0 ≤ rc N R v ∧ rc N R v + 1 ≤ N := by
  refine ⟨su_nonneg (fun k _ => by split <;> omega), ?_⟩
  have h1 := su_split (f := fun w => if R w < R v then (1 : Int) else 0) hv
  have h2 := su_split (f := fun _ => (1 : Int)) hv
  rw [su_const1] at h2
  have h3 : su (fun k => if k = v then 0 else (if R k < R v then (1 : Int) else 0)) N ≤ su (fun k => if k = v then (0 : Int) else 1) N := su_le (fun k _ => by
    split
    · exact Int.le_refl _
    · split <;> omega)
  have h4 : (if R v < R v then (1 : Int) else 0) = 0 := if_neg (by omega)
  rw [h4] at h1
  show su _ N + 1 ≤ _
  omega
theorem bfD.after {D : Nat → Int} {R : Nat → Nat} {s : bS} (h1 : ∀ e, e < A → src e < N) (h2 : ∀ e, e < A → dst e < N) (hD : bfD N A src dst ln op w0 D R) (h0 : ∀ v, v < N → s.1 v = w0 v) : ∀ (i v : Nat), v < N → rc N R v ≤ i → (rit A src dst ln op i s).1 v = D v := by
  have hge := bfD.ge_rit h1 h2 hD (s := s) (fun v hv => by rw [h0 v hv]; exact (hD.2 v hv).1)
  have hle : ∀ (n v : Nat), (rit A src dst ln op n s).1 v ≤ s.1 v := by
    intro n
    induction n with
    | zero => intro v; exact Int.le_refl _
    | succ n ih => intro v; exact Int.le_trans (rp_le v A) (ih v)
  intro i
  induction i with
  | zero =>
    intro v hv hr
    have a := (hD.2 v hv).1
    have b := hge 0 v hv
    have c := hle 0 v
    rcases lt_ge (D v) (w0 v) with q | q
    · obtain ⟨e, g1, g2, g3, g4, g5, g6⟩ := (hD.2 v hv).2 q
      have := rc_lt (N := N) (h1 e g1) g6
      have := (rc_le (R := R) (h1 e g1)).1
      omega
    · rw [h0 v hv] at c
      omega
  | succ i ih =>
    intro v hv hr
    have a := (hD.2 v hv).1
    have b := hge (i + 1) v hv
    have c := hle (i + 1) v
    rcases lt_ge (D v) (w0 v) with q | q
    · obtain ⟨e, g1, g2, g3, g4, g5, g6⟩ := (hD.2 v hv).2 q
      have k1 := rc_lt (N := N) (h1 e g1) g6
      have k2 := ih (src e) (h1 e g1) (by omega)
      have := bfD.settle h1 h2 hD (s := ((rit A src dst ln op i s).1, (rit A src dst ln op i s).2.1, false)) (hge i) g2 g4 (by rw [g3]; exact g5) k2 A (Nat.le_refl _) g1
      rw [g3] at this
      exact this
    · rw [h0 v hv] at c
      omega
/-- after N + 1 rounds, or one that changes nothing, nothing can be shorter -/
theorem bf_end {s : bS} (h1 : ∀ e, e < A → src e < N) (h2 : ∀ e, e < A → dst e < N) (hp : ∀ e, e < A → op e = true → p (dst e) ≤ p (src e) + ln e) (I : bfI N A src dst ln op w0 p K s) (h0 : ∀ v, v < N → s.1 v = w0 v) {n : Nat} (hn : (n = N + 1) ∨ (1 ≤ n ∧ (rit A src dst ln op n s).2.2 = false)) : bfe A src dst ln op (rit A src dst ln op n s).1 := by
  rcases hn with hn | ⟨hn, hc⟩
  · obtain ⟨D, R, hD⟩ := bf_D h1 h2 hp I
    have key : ∀ v, v < N → (rit A src dst ln op n s).1 v = D v := fun v hv => bfD.after h1 h2 hD h0 n v hv (by have := (rc_le (R := R) hv).2; omega)
    intro e he ho hd
    rw [key _ (h1 e he)] at hd ⊢
    rw [key _ (h2 e he)]
    exact hD.1 e he ho hd
  · obtain ⟨m, rfl⟩ : ∃ m, n = m + 1 := ⟨n - 1, by omega⟩
    obtain ⟨g1, g2, -⟩ := rnd_fe (show (rnd A src dst ln op (rit A src dst ln op m s)).2.2 = false from hc)
    show bfe A src dst ln op (rnd A src dst ln op (rit A src dst ln op m s)).1
    rw [g2]
    exact g1
/-- all the while nothing goes below where it ends -/
theorem bf_low {s : bS} {L : Int} (h1 : ∀ e, e < A → src e < N) (h2 : ∀ e, e < A → dst e < N) (hp : ∀ e, e < A → op e = true → p (dst e) ≤ p (src e) + ln e) (I : bfI N A src dst ln op w0 p K s) (h0 : ∀ v, v < N → s.1 v = w0 v) (hw : ∀ v, v < N → 0 ≤ w0 v) (hL0 : 0 ≤ L) (hL : ∀ e, e < A → -L ≤ ln e) : ∀ (n k : Nat), k ≤ A → ∀ v, v < N → -(L * N) ≤ (rp src dst ln op k ((rit A src dst ln op n s).1, (rit A src dst ln op n s).2.1, false)).1 v := by
  obtain ⟨D, R, hD⟩ := bf_D h1 h2 hp I
  have hDl : ∀ (m : Nat) (v : Nat), v < N → R v ≤ m → -(L * rc N R v) ≤ D v := by
    intro m
    induction m with
    | zero =>
      intro v hv hm
      rcases lt_ge (D v) (w0 v) with q | q
      · obtain ⟨e, g1, g2, g3, g4, g5, g6⟩ := (hD.2 v hv).2 q
        omega
      · have a := hw v hv
        have b := Int.mul_nonneg hL0 (rc_le (R := R) hv).1
        omega
    | succ m ih =>
      intro v hv hm
      rcases lt_ge (D v) (w0 v) with q | q
      · obtain ⟨e, g1, g2, g3, g4, g5, g6⟩ := (hD.2 v hv).2 q
        have a := ih (src e) (h1 e g1) (by omega)
        have b := hL e g1
        have c := Int.mul_le_mul_of_nonneg_left (rc_lt (N := N) (h1 e g1) g6) hL0
        rw [Int.mul_add, Int.mul_one] at c
        omega
      · have a := hw v hv
        have b := Int.mul_nonneg hL0 (rc_le (R := R) hv).1
        omega
  intro n k hk v hv
  have a := bfD.ge_rp h1 h2 hD (s := ((rit A src dst ln op n s).1, (rit A src dst ln op n s).2.1, false)) (bfD.ge_rit h1 h2 hD (s := s) (fun v hv => by rw [h0 v hv]; exact (hD.2 v hv).1) n) k hk v hv
  have b := hDl (R v) v hv (Nat.le_refl _)
  have c := Int.mul_le_mul_of_nonneg_left (show rc N R v ≤ N by have := (rc_le (R := R) hv).2; omega) hL0
  omega
end BF
