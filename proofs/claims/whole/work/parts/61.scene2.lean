/-! WHAT THE CLASS'S SCENE DOES: counts, searches, frames -/
section SCN
variable {S : zS} {h : zH} {o W H N : Nat} {T : Nat → Bool} {F G : Nat → Int}
/-- the first of n that p holds for; -1 for none -/
def fst (p : Nat → Bool) : Nat → Int
  | 0 => -1
  | n + 1 => if fst p n = -1 then (if p n = true then (n : Int) else -1) else fst p n
theorem fst_none {p : Nat → Bool} : ∀ {n : Nat}, (∀ k, k < n → p k = false) → fst p n = -1
  | 0, _ => rfl
  | n + 1, h => by rw [fst, fst_none (fun k hk => h k (by omega)), if_pos rfl, h n (by omega)]; rfl
theorem fst_lt {p : Nat → Bool} : ∀ {n : Nat}, fst p n < n
  | 0 => by show (-1 : Int) < 0; decide
  | n + 1 => by
    have := fst_lt (p := p) (n := n)
    rw [fst]
    split
    · split <;> omega
    · omega
theorem fst_some {p : Nat → Bool} {k : Nat} (hp : p k = true) (hl : ∀ i, i < k → p i = false) : ∀ {n : Nat}, k < n → fst p n = k
  | 0, h => by omega
  | n + 1, h => by
    rw [fst]
    by_cases q : k = n
    · subst q
      rw [fst_none hl, if_pos rfl, if_pos hp]
    · rw [fst_some hp hl (n := n) (by omega), if_neg (by omega)]
theorem fst_cases (p : Nat → Bool) (n : Nat) : (fst p n = -1 ∧ ∀ k, k < n → p k = false) ∨ ∃ k, k < n ∧ fst p n = k ∧ p k = true ∧ ∀ i, i < k → p i = false := by
  induction n with
  | zero => exact Or.inl ⟨rfl, fun k h => by omega⟩
  | succ n ih =>
    rcases ih with ⟨h1, h2⟩ | ⟨k, h1, h2, h3, h4⟩
    · cases q : p n with
      | true => exact Or.inr ⟨n, by omega, by rw [fst, h1, if_pos rfl, if_pos q], q, h2⟩
      | false => exact Or.inl ⟨by rw [fst, h1, if_pos rfl, q]; rfl, fun k hk => by
          by_cases z : k = n
          · subst z; exact q
          · exact h2 k (by omega)⟩
    · exact Or.inr ⟨k, by omega, by rw [fst, h2, if_neg (by omega)], h3, h4⟩
/-- Scene.sumOfPhases -/
theorem s_sph (hL : LX5 S o) (hS : ScC h o W H N T F G) (hN : N ≤ 25) : Zx 70 0 [zR o, zN, zN] [] S h = some (some (zI (su (fun k => if T k = true then F k else 0) N)), S, h) := by
  have s2 := hS.2.2.1
  rw [b70_0 hL]
  refine (z_chain (N := N) (X := fun i => Zx 70 4 [zR o, zI (su (fun k => if T k = true then F k else 0) i), zI (i : Int)] [] S h) (fun i hi => ?_)).trans ?_
  · have ht := hS.th hi
    show Zx 70 4 _ _ _ _ = Zx 70 4 _ _ _ _
    rw [b70_4 hL (by intros; omega) (by intros; omega) (by intros; omega) (by intros; omega), s2, zw_nat (by omega), zw_nat (by omega), if_neg (by omega), Int.toNat_natCast, b70_20 hL, b70_20 hL, su, (hS.2.2.2 i hi).2.1]
    cases q : T i
    · rw [if_pos (ht.mpr q)]; simp
    · rw [if_neg (fun z => by rw [ht.mp z] at q; cases q)]; simp
  · show Zx 70 4 _ _ _ _ = _
    rw [b70_4 hL (by intros; omega) (by rw [s2]; intro q; exact absurd (Int.le_refl _) q) (by intros; omega) (by rw [s2]; intro q; exact absurd (Int.le_refl _) q), s2, if_pos (Int.le_refl _)]
/-- Scene.areBeside -/
theorem s_abs (hL : LX5 S o) (hS : ScC h o W H N T F G) (hw : wfS W H N T F G) {a : Nat} {b : Int} (ha : a < N) (hb : -1 ≤ b ∧ b ≤ 25) : Zx 67 0 [zR o, zI (a : Int), zI b, zN] [] S h = some (some (zI (if bs W N a 0 = b ∨ bs W N a 1 = b ∨ bs W N a 2 = b ∨ bs W N a 3 = b then 1 else 0)), S, h) := by
  have hN := hw.2.2.2.1
  have bd : ∀ s, -1 ≤ bs W N a s ∧ bs W N a s ≤ 60 := fun s => by
    have := hw.1
    unfold bs
    split
    · split <;> omega
    · split
      · split <;> omega
      · split
        · split <;> omega
        · split <;> omega
  have eb : zw b = b := zw_id (by omega) (by omega)
  have es : ∀ s, zw (bs W N a s) = bs W N a s := fun s => zw_id (by have := bd s; omega) (by have := bd s; omega)
  have step : ∀ s : Nat, s < 4 → Zx 67 2 [zR o, zI (a : Int), zI b, zI (s : Int)] [] S h = if bs W N a s = b then some (some (zI 1), S, h) else Zx 67 2 [zR o, zI (a : Int), zI b, zI ((s + 1 : Nat) : Int)] [] S h := by
    intro s hs
    rw [b67_2 hL, zw_nat (by omega), if_neg (by omega), b67_8 hL hL (s_bes hL hS hw ha hs), eb, es]
    by_cases q : bs W N a s = b
    · rw [if_neg (fun z => z q), if_pos q]
    · rw [if_pos q, if_neg q]; rfl
  rw [b67_0 hL]
  have e0 := step 0 (by omega)
  have e1 := step 1 (by omega)
  have e2 := step 2 (by omega)
  have e3 := step 3 (by omega)
  have e4 : Zx 67 2 [zR o, zI (a : Int), zI b, zI ((4 : Nat) : Int)] [] S h = some (some (zI 0), S, h) := by
    rw [b67_2 hL, zw_nat (by omega), if_pos (by omega)]
  refine e0.trans ?_
  by_cases q0 : bs W N a 0 = b
  · rw [if_pos q0, if_pos (Or.inl q0)]
  rw [if_neg q0]
  refine e1.trans ?_
  by_cases q1 : bs W N a 1 = b
  · rw [if_pos q1, if_pos (Or.inr (Or.inl q1))]
  rw [if_neg q1]
  refine e2.trans ?_
  by_cases q2 : bs W N a 2 = b
  · rw [if_pos q2, if_pos (Or.inr (Or.inr (Or.inl q2)))]
  rw [if_neg q2]
  refine e3.trans ?_
  by_cases q3 : bs W N a 3 = b
  · rw [if_pos q3, if_pos (Or.inr (Or.inr (Or.inr q3)))]
  rw [if_neg q3]
  refine e4.trans ?_
  rw [if_neg (fun z => by rcases z with z | z | z | z <;> contradiction)]
/-- Scene.sizeOf -/
theorem s_sof (hL : LX5 S o) (hS : ScC h o W H N T F G) (hN : N ≤ 25) {pf : Nat → Int} {p : Int} (hp : ∀ k, k < N → T k = true → h (o + 4) k = pf k ∧ -1 ≤ pf k ∧ pf k ≤ 25) (hpp : -1 ≤ p ∧ p ≤ 25) : Zx 75 0 [zR o, zI p, zN, zN] [] S h = some (some (zI (su (fun k => if T k = true ∧ pf k = p then 1 else 0) N)), S, h) := by
  have s2 := hS.2.2.1
  have ep : zw p = p := zw_id (by omega) (by omega)
  rw [b75_0 hL]
  refine (z_chain (N := N) (X := fun i => Zx 75 4 [zR o, zI p, zI (su (fun k => if T k = true ∧ pf k = p then 1 else 0) i), zI (i : Int)] [] S h) (fun i hi => ?_)).trans ?_
  · have ht := hS.th hi
    show Zx 75 4 _ _ _ _ = Zx 75 4 _ _ _ _
    rw [b75_4 hL (by intros; omega) (by intros; omega) (by intros; omega) (by intros; omega), s2, zw_nat (by omega), zw_nat (by omega), if_neg (by omega), Int.toNat_natCast, b75_20 hL, b75_20 hL, su, ep]
    cases q : T i
    · rw [if_pos (ht.mpr q)]; simp
    · obtain ⟨g1, g2, g3⟩ := hp i hi q
      rw [if_neg (fun z => by rw [ht.mp z] at q; cases q), g1, zw_id (by omega) (by omega)]
      by_cases z : pf i = p
      · rw [if_neg (fun w => w z), if_pos ⟨rfl, z⟩]; rfl
      · rw [if_pos z, if_neg (fun w => z w.2)]; simp
  · show Zx 75 4 _ _ _ _ = _
    rw [b75_4 hL (by intros; omega) (by rw [s2]; intro q; exact absurd (Int.le_refl _) q) (by intros; omega) (by rw [s2]; intro q; exact absurd (Int.le_refl _) q), s2, if_pos (Int.le_refl _)]
/-- Scene.leastPixelOf -/
theorem s_lpo (hL : LX5 S o) (hS : ScC h o W H N T F G) (hN : N ≤ 25) {pf : Nat → Int} {p : Int} (hp : ∀ k, k < N → T k = true → h (o + 4) k = pf k ∧ -1 ≤ pf k ∧ pf k ≤ 25) (hpp : -1 ≤ p ∧ p ≤ 25) : Zx 76 0 [zR o, zI p, zN] [] S h = some (some (zI (fst (fun k => T k && decide (pf k = p)) N)), S, h) := by
  have s2 := hS.2.2.1
  have ep : zw p = p := zw_id (by omega) (by omega)
  have step : ∀ i, i < N → Zx 76 2 [zR o, zI p, zI (i : Int)] [] S h = if (T i && decide (pf i = p)) = true then some (some (zI (i : Int)), S, h) else Zx 76 2 [zR o, zI p, zI ((i + 1 : Nat) : Int)] [] S h := by
    intro i hi
    have ht := hS.th hi
    rw [b76_2 hL (by intros; omega) (by intros; omega) (by intros; omega) (by intros; omega), s2, zw_nat (by omega), zw_nat (by omega), if_neg (by omega), Int.toNat_natCast, b76_19 hL, ep]
    cases q : T i
    · rw [if_pos (ht.mpr q)]; simp
    · obtain ⟨g1, g2, g3⟩ := hp i hi q
      rw [if_neg (fun z => by rw [ht.mp z] at q; cases q), g1, zw_id (by omega) (by omega)]
      by_cases z : pf i = p
      · rw [if_neg (fun w => w z)]; simp [z]
      · rw [if_pos z]; simp [z]
  rw [b76_0 hL]
  have ch : ∀ m, m ≤ N → (∀ k, k < m → (T k && decide (pf k = p)) = false) → Zx 76 2 [zR o, zI p, zI ((0 : Nat) : Int)] [] S h = Zx 76 2 [zR o, zI p, zI (m : Int)] [] S h := fun m hm hk =>
    z_chain (N := m) (X := fun i => Zx 76 2 [zR o, zI p, zI (i : Int)] [] S h) (fun i hi => by
      have := step i (by omega)
      rw [hk i hi] at this
      exact this)
  rcases fst_cases (fun k => T k && decide (pf k = p)) N with ⟨h1, h2⟩ | ⟨k, h1, h2, h3, h4⟩
  · rw [h1]
    refine (ch N (Nat.le_refl _) h2).trans ?_
    rw [b76_2 hL (by intros; omega) (by rw [s2]; intro q; exact absurd (Int.le_refl _) q) (by intros; omega) (by rw [s2]; intro q; exact absurd (Int.le_refl _) q), s2, if_pos (Int.le_refl _)]
  · rw [h2]
    refine (ch k (by omega) h4).trans ?_
    rw [step k h1, if_pos h3]
/-- Scene.pixelThere -/
theorem s_pth (hL : LX5 S o) (hS : ScC h o W H N T F G) (hN : N ≤ 25) {m : Nat} (hm : m ≤ 25) : Zx 84 0 [zR o, zI (m : Int), zN, zN] [] S h = some (some (zI (fst (fun k => T k && decide (su (fun i => if T i = true then 1 else 0) k = m)) N)), S, h) := by
  have s2 := hS.2.2.1
  have cb : ∀ k, 0 ≤ su (fun i => if T i = true then (1 : Int) else 0) k ∧ su (fun i => if T i = true then (1 : Int) else 0) k ≤ k := by
    intro k
    induction k with
    | zero => exact ⟨Int.le_refl _, Int.le_refl _⟩
    | succ k ih =>
      rw [su]
      split <;> omega
  have step : ∀ i, i < N → (∀ k, k < i → (T k && decide (su (fun i => if T i = true then (1 : Int) else 0) k = m)) = false) → su (fun i => if T i = true then (1 : Int) else 0) i ≤ m → Zx 84 4 [zR o, zN, zI ((m : Int) - su (fun i => if T i = true then 1 else 0) i), zI (i : Int)] [] S h = if (T i && decide (su (fun i => if T i = true then (1 : Int) else 0) i = m)) = true then some (some (zI (i : Int)), S, h) else Zx 84 4 [zR o, zN, zI ((m : Int) - su (fun i => if T i = true then 1 else 0) (i + 1)), zI ((i + 1 : Nat) : Int)] [] S h := by
    intro i hi hk hle
    have ht := hS.th hi
    have hc := cb i
    rw [b84_4 hL (by intros; omega) (by intros; omega), s2, zw_nat (by omega), zw_nat (by omega), if_neg (by omega), Int.toNat_natCast, b84_18 hL, b84_18 hL, su]
    cases q : T i
    · rw [if_pos (ht.mpr q)]; simp
    · rw [if_neg (fun z => by rw [ht.mp z] at q; cases q), zw_id (by omega) (by omega)]
      by_cases z : su (fun i => if T i = true then (1 : Int) else 0) i = m
      · rw [if_neg (fun w => w (by omega))]; simp [z]
      · rw [if_pos (by omega)]
        have e : (m : Int) - su (fun i => if T i = true then (1 : Int) else 0) i + (-1) = (m : Int) - (su (fun i => if T i = true then (1 : Int) else 0) i + 1) := by omega
        rw [e]
        simp [z]
  have le : ∀ i, i ≤ N → (∀ k, k < i → (T k && decide (su (fun i => if T i = true then (1 : Int) else 0) k = m)) = false) → su (fun i => if T i = true then (1 : Int) else 0) i ≤ m := by
    intro i
    induction i with
    | zero => intro _ _; show (0 : Int) ≤ m; omega
    | succ i ih =>
      intro hi hk
      have a := ih (by omega) (fun k hk2 => hk k (by omega))
      have b := hk i (by omega)
      rw [su]
      cases q : T i
      · simp; exact a
      · rw [q] at b
        simp at b
        simp
        omega
  rw [b84_0 hL]
  have ch : ∀ j, j ≤ N → (∀ k, k < j → (T k && decide (su (fun i => if T i = true then (1 : Int) else 0) k = m)) = false) → Zx 84 4 [zR o, zN, zI (m : Int), zI 0] [] S h = Zx 84 4 [zR o, zN, zI ((m : Int) - su (fun i => if T i = true then 1 else 0) j), zI (j : Int)] [] S h := fun j hj hk => by
    have := z_chain (N := j) (X := fun i => Zx 84 4 [zR o, zN, zI ((m : Int) - su (fun i => if T i = true then 1 else 0) i), zI (i : Int)] [] S h) (fun i hi => by
      have := step i (by omega) (fun k hk2 => hk k (by omega)) (le i (by omega) (fun k hk2 => hk k (by omega)))
      rw [hk i hi] at this
      exact this)
    rw [← this]
    show _ = Zx 84 4 [zR o, zN, zI ((m : Int) - 0), zI 0] [] S h
    rw [Int.sub_zero]
  rcases fst_cases (fun k => T k && decide (su (fun i => if T i = true then 1 else 0) k = m)) N with ⟨h1, h2⟩ | ⟨k, h1, h2, h3, h4⟩
  · rw [h1]
    refine (ch N (Nat.le_refl _) h2).trans ?_
    rw [b84_4 hL (by intros; omega) (by rw [s2]; intro q; exact absurd (Int.le_refl _) q), s2, if_pos (Int.le_refl _)]
  · rw [h2]
    refine (ch k (by omega) h4).trans ?_
    rw [step k h1 h4 (le k (by omega) h4), if_pos h3]
end SCN
