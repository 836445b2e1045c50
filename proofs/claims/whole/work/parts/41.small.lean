/-! WHAT METHODS DO: small ones -/
theorem zw_nat {n : Nat} (h : n ≤ 2147483647) : zw (n : Int) = n := zw_id (by omega) (by omega)
/-- answers are the same if their numbers are -/
theorem zsame {ov : Option zV} {S : zS} {h h' : zH} (e : ∀ o k, h o k = h' o k) : (some (ov, S, h) : Option (Option zV × zS × zH)) = some (ov, S, h') := by
  have : h = h' := by
    funext o k
    exact e o k
  rw [this]
/-- FringeBenchModel.in -/
theorem s_in {S : zS} {h : zH} {a b c : Int} : Zx 138 0 [zI a, zI b, zI c] [] S h = some (some (zI (if zw b ≤ zw a ∧ zw a ≤ zw c then 1 else 0)), S, h) := by
  rw [b138_0]
  by_cases h1 : zw a < zw b
  · rw [if_pos h1, b138_8, b138_9 (Or.inl rfl), if_neg (by omega)]
  · rw [if_neg h1]
    by_cases h2 : zw c < zw a
    · rw [if_pos h2, b138_8, b138_9 (Or.inl rfl), if_neg (by omega)]
    · rw [if_neg h2, b138_9 (Or.inr rfl), if_pos (by omega)]
/-- FringeBenchModel.plain -/
theorem s_plain {S : zS} {h : zH} {a : Int} : Zx 139 0 [zI a] [] S h = some (some (zI (if 0 ≤ zw a then a else -a)), S, h) := by
  rw [b139_0]
  by_cases h1 : 0 ≤ zw a
  · rw [if_pos h1, b139_6, if_pos h1]
  · rw [if_neg h1, b139_6, if_neg h1]
/-- Arrays.fill -/
theorem s_fill_loop {S : zS} {o n : Nat} {rs : List (Option Nat)} {v : Int} (hc : zC S o = (100, n, rs)) (hn : n ≤ 2147483647) : ∀ (d i : Nat) (h : zH), i + d = n → Zx 242 5 [zR o, zI v, zI (i : Int), zI (n : Int)] [] S h = some (none, S, fun o' k => if o' = o ∧ i ≤ k ∧ k < n then v else h o' k) := by
  intro d
  induction d with
  | zero =>
    intro i h hi
    have e1 := zw_nat (n := i) (by omega)
    have e2 := zw_nat hn
    rw [b242_5 hc hn (fun _ => by omega) (fun q => by rw [e1, e2] at q; omega), if_pos (by rw [e1, e2]; omega)]
    exact zsame fun o' k => by rw [if_neg (by omega)]
  | succ d ih =>
    intro i h hi
    have e1 := zw_nat (n := i) (by omega)
    have e2 := zw_nat hn
    rw [b242_5 hc hn (fun _ => by omega) (fun _ => by omega), if_neg (by rw [e1, e2]; omega)]
    have := ih (i + 1) (zu h o i v) (by omega)
    rw [show ((i : Int) + 1) = ((i + 1 : Nat) : Int) by omega, show ((i : Int)).toNat = i by omega, this]
    refine zsame fun o' k => ?_
    by_cases h1 : o' = o ∧ i + 1 ≤ k ∧ k < n
    · rw [if_pos h1, if_pos (by omega)]
    · rw [if_neg h1]
      unfold zu
      by_cases h2 : o' = o ∧ k = i
      · rw [if_pos h2, if_pos (by omega)]
      · rw [if_neg h2, if_neg (by omega)]
theorem s_fill {S : zS} {h : zH} {o n : Nat} {rs : List (Option Nat)} {v : Int} (hc : zC S o = (100, n, rs)) (hn : n ≤ 2147483647) : Zx 242 0 [zR o, zI v, zN, zN] [] S h = some (none, S, fun o' k => if o' = o ∧ k < n then v else h o' k) := by
  rw [b242_0 hc hn]
  refine (s_fill_loop hc hn n 0 h (by omega)).trans (zsame fun o' k => ?_)
  by_cases h1 : o' = o ∧ k < n
  · rw [if_pos h1, if_pos (by omega)]
  · rw [if_neg h1, if_neg (by omega)]
/-- FringeBench.wipe -/
theorem s_wipe_loop {S : zS} {o n : Nat} {rs : List (Option Nat)} (hc : zC S o = (102, n, rs)) (hn : n ≤ 2147483647) : ∀ (d i : Nat) (h : zH), i + d = n → Zx 103 2 [zR o, zI (i : Int)] [] S h = some (none, S, fun o' k => if o' = o ∧ i ≤ k ∧ k < n then 0 else h o' k) := by
  intro d
  induction d with
  | zero =>
    intro i h hi
    have e1 := zw_nat (n := i) (by omega)
    have e2 := zw_nat hn
    rw [b103_2 hc hn (fun _ => by omega) (fun q => by rw [e1, e2] at q; omega), if_pos (by rw [e1, e2]; omega)]
    exact zsame fun o' k => by rw [if_neg (by omega)]
  | succ d ih =>
    intro i h hi
    have e1 := zw_nat (n := i) (by omega)
    have e2 := zw_nat hn
    rw [b103_2 hc hn (fun _ => by omega) (fun _ => by omega), if_neg (by rw [e1, e2]; omega)]
    have := ih (i + 1) (zu h o i 0) (by omega)
    rw [show ((i : Int) + 1) = ((i + 1 : Nat) : Int) by omega, show ((i : Int)).toNat = i by omega, this]
    refine zsame fun o' k => ?_
    by_cases h1 : o' = o ∧ i + 1 ≤ k ∧ k < n
    · rw [if_pos h1, if_pos (by omega)]
    · rw [if_neg h1]
      unfold zu
      by_cases h2 : o' = o ∧ k = i
      · rw [if_pos h2, if_pos (by omega)]
      · rw [if_neg h2, if_neg (by omega)]
theorem s_wipe {S : zS} {h : zH} {o n : Nat} {rs : List (Option Nat)} (hc : zC S o = (102, n, rs)) (hn : n ≤ 2147483647) : Zx 103 0 [zR o, zN] [] S h = some (none, S, fun o' k => if o' = o ∧ k < n then 0 else h o' k) := by
  rw [b103_0 hc hn]
  refine (s_wipe_loop hc hn n 0 h (by omega)).trans (zsame fun o' k => ?_)
  by_cases h1 : o' = o ∧ k < n
  · rw [if_pos h1, if_pos (by omega)]
  · rw [if_neg h1, if_neg (by omega)]
/-- FringeBenchModel.lesser -/
theorem s_lesser {S : zS} {h : zH} {a b : Int} : Zx 140 0 [zI a, zI b] [] S h = some (some (zI (if zw b ≤ zw a then b else a)), S, h) := by
  rw [b140_0]
  by_cases h1 : zw b ≤ zw a
  · rw [if_pos h1, b140_6, if_pos h1]
  · rw [if_neg h1, b140_6, if_neg h1]
