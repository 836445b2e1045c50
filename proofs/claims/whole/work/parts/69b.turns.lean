/-! THE CLASS'S HEIGHTS: findTurns, solve -/
def h9 (o : Nat) (A : Nat → Int) (h : zH) : zH := fun x k => if x = o + 9 then A k else h x k
section P_h9
variable {o : Nat} {xx : Int} {A : Nat → Int} {h : zH} {k v : Nat}
theorem h9_9 : h9 o A h (o + 9) k = A k := by
  unfold h9
  rw [if_pos rfl]
theorem h9_o {y : Nat} (g : y ≠ o + 9) : h9 o A h y k = h y k := by
  unfold h9
  rw [if_neg (by omega)]
theorem zu_h9_9 : zu (h9 o A h) (o + 9) v xx = h9 o (fu A v xx) h := by
  funext y k
  by_cases q1 : y = o + 9
  · subst q1
    rw [h9_9]
    by_cases q2 : k = v
    · rw [show zu (h9 o A h) (o + 9) v xx (o + 9) k = xx from if_pos ⟨rfl, q2⟩, q2, fu_same]
    · rw [show zu (h9 o A h) (o + 9) v xx (o + 9) k = h9 o A h (o + 9) k from if_neg (fun z => q2 z.2), fu_ne q2, h9_9]
  · rw [show zu (h9 o A h) (o + 9) v xx y k = h9 o A h y k from if_neg (fun z => q1 z.1)]
    unfold h9
    simp only [if_neg q1]
end P_h9
def h10 (o : Nat) (A : Nat → Int) (h : zH) : zH := fun x k => if x = o + 10 then A k else h x k
section P_h10
variable {o : Nat} {xx : Int} {A : Nat → Int} {h : zH} {k v : Nat}
theorem h10_10 : h10 o A h (o + 10) k = A k := by
  unfold h10
  rw [if_pos rfl]
theorem h10_o {y : Nat} (g : y ≠ o + 10) : h10 o A h y k = h y k := by
  unfold h10
  rw [if_neg (by omega)]
theorem zu_h10_10 : zu (h10 o A h) (o + 10) v xx = h10 o (fu A v xx) h := by
  funext y k
  by_cases q1 : y = o + 10
  · subst q1
    rw [h10_10]
    by_cases q2 : k = v
    · rw [show zu (h10 o A h) (o + 10) v xx (o + 10) k = xx from if_pos ⟨rfl, q2⟩, q2, fu_same]
    · rw [show zu (h10 o A h) (o + 10) v xx (o + 10) k = h10 o A h (o + 10) k from if_neg (fun z => q2 z.2), fu_ne q2, h10_10]
  · rw [show zu (h10 o A h) (o + 10) v xx y k = h10 o A h y k from if_neg (fun z => q1 z.1)]
    unfold h10
    simp only [if_neg q1]
end P_h10
section FTU
variable {S : zS} {h : zH} {o W H N : Nat} {T : Nat → Bool} {F G : Nat → Int}
theorem s_ft9 {f d b : Nat → Int} {z : Int} (hL : LX0 S o) (hH : HsC h o W H N T F G z f) (hwf : wfS W H N T F G) : ∃ A : Nat → Int, Zx 9 50 [zR o, zI 0, zN, zI 0, zN] [] S (hw o d b h) = some (none, S, h9 o A (hw o d b h)) ∧ ∀ k, k < N → T k = true → A k = tw N W T F k - d k := by
  obtain ⟨hS, -, hk, -⟩ := hH
  have hss := hS
  obtain ⟨s0, s1, s2, sk⟩ := hss
  have hN := hwf.2.2.2.1
  have n2 : ∀ A, h9 o A (hw o d b h) (o + 1) 2 = (N : Int) := fun A => by rw [h9_o (by omega), hw_o (by omega) (by omega)]; exact s2
  refine ⟨fun k => if k < N ∧ T k = true then tw N W T F k - d k else h (o + 9) k, ?_, fun k hk tk => if_pos ⟨hk, tk⟩⟩
  have e0 : hw o d b h = h9 o (fun k => if k < 0 ∧ T k = true then tw N W T F k - d k else h (o + 9) k) (hw o d b h) := by
    funext x k
    by_cases q : x = o + 9
    · subst q
      rw [h9_9, hw_o (by omega) (by omega)]
      exact (if_neg (fun z => Nat.not_lt_zero _ z.1)).symm
    · rw [h9_o q]
  conv => lhs; rw [e0]
  refine (z_chain (N := N) (X := fun i => Zx 9 50 [zR o, zI 0, zN, zI (i : Int), zN] [] S (h9 o (fun k => if k < i ∧ T k = true then tw N W T F k - d k else h (o + 9) k) (hw o d b h))) (fun i hi => ?_)).trans ?_
  · show Zx 9 50 _ _ _ _ = Zx 9 50 _ _ _ _
    have ht : zw (zb1 (h (o + 2) i)) = 0 ↔ T i = false := hS.th hi
    have hf : h (o + 3) i = F i := (sk i hi).2.1
    have fin : ∀ A' : Nat → Int, (∀ k, A' k = if k < i + 1 ∧ T k = true then tw N W T F k - d k else h (o + 9) k) → Zx 9 98 [zR o, zI 0, zN, zI (i : Int), zN] [] S (h9 o A' (hw o d b h)) = Zx 9 50 [zR o, zI 0, zN, zI ((i + 1 : Nat) : Int), zN] [] S (h9 o (fun k => if k < i + 1 ∧ T k = true then tw N W T F k - d k else h (o + 9) k) (hw o d b h)) := fun A' hA => by
      rw [b9_98 hL, show A' = _ from funext hA]
      rfl
    rw [b9_50 hL (by intros; omega) (by intros; omega) (by intros; omega) (by intros; omega) (by intros; omega) (by intros; omega) (by intros; omega) (by intros; omega) (by intros; omega) (by intros; omega) (by intros; omega) (by intros; omega) (by intros; omega) (by intros; omega), n2, zw_nat (by omega), zw_nat (by omega), if_neg (by omega), Int.toNat_natCast, h9_o (y := o + 2) (by omega), hw_o (x := o + 2) (by omega) (by omega)]
    by_cases q : T i = true
    · obtain ⟨-, e6⟩ := hk i hi q
      obtain ⟨te, tb⟩ := tw_e hwf hi q
      have f := hwf.f i hi q
      rw [if_neg (fun z => by rw [ht.mp z] at q; cases q), if_pos zw0, h9_o (y := o + 6) (by omega), hw_o (x := o + 6) (by omega) (by omega), h9_o (y := o + 3) (by omega), hw_o (x := o + 3) (by omega) (by omega), h9_o (y := o + 17) (by omega), hw_d, e6, hf, zw_id (by omega) (by omega), zu_h9_9]
      refine fin _ (fun k => ?_)
      by_cases c : k = i
      · subst c
        rw [fu_same, if_pos ⟨by omega, q⟩]
        rfl
      · rw [fu_ne c]
        show (if k < i ∧ T k = true then _ else _) = _
        by_cases c2 : k < i ∧ T k = true
        · rw [if_pos c2, if_pos ⟨by omega, c2.2⟩]
        · rw [if_neg c2, if_neg (fun z => c2 ⟨by omega, z.2⟩)]
    · rw [if_pos (ht.mpr (Bool.eq_false_iff.mpr q))]
      refine fin _ (fun k => ?_)
      by_cases c2 : k < i ∧ T k = true
      · rw [if_pos c2, if_pos ⟨by omega, c2.2⟩]
      · rw [if_neg c2, if_neg (fun z => c2 ⟨by
          have z1 := z.1
          by_cases c3 : k = i
          · rw [c3] at z; exact absurd z.2 q
          · omega, z.2⟩)]
  · show Zx 9 50 _ _ _ _ = _
    have ab : ∀ {Q : Prop}, ¬ (zw (h9 o (fun k => if k < N ∧ T k = true then tw N W T F k - d k else h (o + 9) k) (hw o d b h) (o + 1) 2) ≤ zw (N : Int)) → Q := fun g => by rw [n2] at g; exact absurd (Int.le_refl _) g
    rw [b9_50 hL (fun g => ab g) (fun g => ab g) (fun g => ab g) (fun g => ab g) (fun g => ab g) (fun g => ab g) (fun g => ab g) (fun g => ab g) (fun g => ab g) (fun g => ab g) (fun g => ab g) (fun g => ab g) (fun g => ab g) (fun g => ab g), n2, if_pos (Int.le_refl _)]
theorem s_ft10 {f d b : Nat → Int} {z : Int} (hL : LX0 S o) (hH : HsC h o W H N T F G z f) (hwf : wfS W H N T F G) : ∃ A : Nat → Int, Zx 9 50 [zR o, zI 1, zN, zI 0, zN] [] S (hw o d b h) = some (none, S, h10 o A (hw o d b h)) ∧ ∀ k, k < N → T k = true → A k = tw N W T F k + d k := by
  obtain ⟨hS, -, hk, -⟩ := hH
  have hss := hS
  obtain ⟨s0, s1, s2, sk⟩ := hss
  have hN := hwf.2.2.2.1
  have n2 : ∀ A, h10 o A (hw o d b h) (o + 1) 2 = (N : Int) := fun A => by rw [h10_o (by omega), hw_o (by omega) (by omega)]; exact s2
  refine ⟨fun k => if k < N ∧ T k = true then tw N W T F k + d k else h (o + 10) k, ?_, fun k hk tk => if_pos ⟨hk, tk⟩⟩
  have e0 : hw o d b h = h10 o (fun k => if k < 0 ∧ T k = true then tw N W T F k + d k else h (o + 10) k) (hw o d b h) := by
    funext x k
    by_cases q : x = o + 10
    · subst q
      rw [h10_10, hw_o (by omega) (by omega)]
      exact (if_neg (fun z => Nat.not_lt_zero _ z.1)).symm
    · rw [h10_o q]
  conv => lhs; rw [e0]
  refine (z_chain (N := N) (X := fun i => Zx 9 50 [zR o, zI 1, zN, zI (i : Int), zN] [] S (h10 o (fun k => if k < i ∧ T k = true then tw N W T F k + d k else h (o + 10) k) (hw o d b h))) (fun i hi => ?_)).trans ?_
  · show Zx 9 50 _ _ _ _ = Zx 9 50 _ _ _ _
    have ht : zw (zb1 (h (o + 2) i)) = 0 ↔ T i = false := hS.th hi
    have hf : h (o + 3) i = F i := (sk i hi).2.1
    have fin : ∀ A' : Nat → Int, (∀ k, A' k = if k < i + 1 ∧ T k = true then tw N W T F k + d k else h (o + 10) k) → Zx 9 98 [zR o, zI 1, zN, zI (i : Int), zN] [] S (h10 o A' (hw o d b h)) = Zx 9 50 [zR o, zI 1, zN, zI ((i + 1 : Nat) : Int), zN] [] S (h10 o (fun k => if k < i + 1 ∧ T k = true then tw N W T F k + d k else h (o + 10) k) (hw o d b h)) := fun A' hA => by
      rw [b9_98 hL, show A' = _ from funext hA]
      rfl
    rw [b9_50 hL (by intros; omega) (by intros; omega) (by intros; omega) (by intros; omega) (by intros; omega) (by intros; omega) (by intros; omega) (by intros; omega) (by intros; omega) (by intros; omega) (by intros; omega) (by intros; omega) (by intros; omega) (by intros; omega), n2, zw_nat (by omega), zw_nat (by omega), if_neg (by omega), Int.toNat_natCast, h10_o (y := o + 2) (by omega), hw_o (x := o + 2) (by omega) (by omega)]
    by_cases q : T i = true
    · obtain ⟨-, e6⟩ := hk i hi q
      obtain ⟨te, tb⟩ := tw_e hwf hi q
      have f := hwf.f i hi q
      rw [if_neg (fun z => by rw [ht.mp z] at q; cases q), if_neg (show ¬ zw 1 = 0 by decide), h10_o (y := o + 6) (by omega), hw_o (x := o + 6) (by omega) (by omega), h10_o (y := o + 3) (by omega), hw_o (x := o + 3) (by omega) (by omega), h10_o (y := o + 17) (by omega), hw_d, e6, hf, zw_id (by omega) (by omega), zu_h10_10]
      refine fin _ (fun k => ?_)
      by_cases c : k = i
      · subst c
        rw [fu_same, if_pos ⟨by omega, q⟩]
        rfl
      · rw [fu_ne c]
        show (if k < i ∧ T k = true then _ else _) = _
        by_cases c2 : k < i ∧ T k = true
        · rw [if_pos c2, if_pos ⟨by omega, c2.2⟩]
        · rw [if_neg c2, if_neg (fun z => c2 ⟨by omega, z.2⟩)]
    · rw [if_pos (ht.mpr (Bool.eq_false_iff.mpr q))]
      refine fin _ (fun k => ?_)
      by_cases c2 : k < i ∧ T k = true
      · rw [if_pos c2, if_pos ⟨by omega, c2.2⟩]
      · rw [if_neg c2, if_neg (fun z => c2 ⟨by
          have z1 := z.1
          by_cases c3 : k = i
          · rw [c3] at z; exact absurd z.2 q
          · omega, z.2⟩)]
  · show Zx 9 50 _ _ _ _ = _
    have ab : ∀ {Q : Prop}, ¬ (zw (h10 o (fun k => if k < N ∧ T k = true then tw N W T F k + d k else h (o + 10) k) (hw o d b h) (o + 1) 2) ≤ zw (N : Int)) → Q := fun g => by rw [n2] at g; exact absurd (Int.le_refl _) g
    rw [b9_50 hL (fun g => ab g) (fun g => ab g) (fun g => ab g) (fun g => ab g) (fun g => ab g) (fun g => ab g) (fun g => ab g) (fun g => ab g) (fun g => ab g) (fun g => ab g) (fun g => ab g) (fun g => ab g) (fun g => ab g) (fun g => ab g), n2, if_pos (Int.le_refl _)]

theorem isP.le {q : Nat → Int} {m : Nat} {ρ : Nat → Nat} (h : isP N W T q m ρ) : ∀ p, p < m → p ≤ ρ p
  | 0, _ => Nat.zero_le _
  | p + 1, hp => by
    have := isP.le h p (by omega)
    have := h.2.2.1 p (p + 1) (by omega) hp
    omega
/-- where the ways begin -/
theorem s_ft0 {f : Nat → Int} {z : Int} {g : Int} (hL : LX0 S o) (hH : HsC h o W H N T F G z f) (hwf : wfS W H N T F G) : ∃ d : Nat → Int, Zx 9 0 [zR o, zI g, zN, zN, zN] [] S h = Zx 9 47 [zR o, zI g, zN, zN, zN] [zI g, zR o] S (hw o d (h (o + 18)) h) ∧ ∀ k, k < N → (isR N W T k → d k = 0) ∧ (¬ isR N W T k → d k = 1000000) := by
  obtain ⟨hS, -, hk, -⟩ := hH
  have hss := hS
  obtain ⟨s0, s1, s2, sk⟩ := hss
  have hN := hwf.2.2.2.1
  obtain ⟨ρ, hP⟩ := pP_isP (N := N) (W := W) (T := T)
  have mN : pM N W T ≤ N := by
    by_cases c : pM N W T = 0
    · omega
    · have a := hP.le (pM N W T - 1) (by omega)
      have b := (hP.2.1 (pM N W T - 1) (by omega)).1
      omega
  have n2 : ∀ d b, hw o d b h (o + 1) 2 = (N : Int) := fun d b => (hw_o (by omega) (by omega)).trans s2
  have key : ∀ i, i ≤ N → ∃ (c : Nat) (d : Nat → Int), (c ≤ pM N W T ∧ (∀ p, p < c → ρ p < i) ∧ (c < pM N W T → i ≤ ρ c)) ∧ (∀ k, k < i → (isR N W T k → d k = 0) ∧ (¬ isR N W T k → d k = 1000000)) ∧ Zx 9 0 [zR o, zI g, zN, zN, zN] [] S h = Zx 9 4 [zR o, zI g, zI (c : Int), zI (i : Int), zN] [] S (hw o d (h (o + 18)) h) := by
    intro i
    induction i with
    | zero =>
      intro _
      refine ⟨0, h (o + 17), ⟨Nat.zero_le _, fun p hp => absurd hp (Nat.not_lt_zero p), fun _ => Nat.zero_le _⟩, fun k hk => absurd hk (Nat.not_lt_zero k), ?_⟩
      rw [b9_0 hL]
      show _ = Zx 9 4 _ _ _ (hw o _ _ h)
      rw [hw_self]
      rfl
    | succ i ih =>
      intro hi
      obtain ⟨c, d, ⟨c1, c2, c3⟩, hd, e⟩ := ih (by omega)
      have iN : i < N := by omega
      have ht : zw (zb1 (h (o + 2) i)) = 0 ↔ T i = false := hS.th iN
      -- a pixel that begins a part, and one that does not
      have yes : isR N W T i → T i = true ∧ pP N W T i = (c : Int) ∧ c < pM N W T := by
        intro r
        obtain ⟨p, p1, p2⟩ := (isR_rho (q := fun _ => 0) hP).mp r
        have pc : p = c := by
          by_cases q1 : p < c
          · have := c2 p q1; omega
          · by_cases q2 : p = c
            · exact q2
            · have := c3 (by omega)
              have := hP.2.2.1 c p (by omega) p1
              omega
        subst pc
        refine ⟨r.2.1, ?_, p1⟩
        rw [← p2]
        exact (hP.2.1 p p1).2.2
      have no : T i = true → pP N W T i = (c : Int) → isR N W T i := by
        intro ti pi
        obtain ⟨p, p1, p2, p3, -⟩ := hP.2.2.2 i iN ti
        have : p = c := by omega
        subst this
        have := c3 p1
        exact (isR_rho (q := fun _ => 0) hP).mpr ⟨p, p1, by omega⟩
      have nexty : isR N W T i → (c + 1 ≤ pM N W T ∧ (∀ p, p < c + 1 → ρ p < i + 1) ∧ (c + 1 < pM N W T → i + 1 ≤ ρ (c + 1))) := by
        intro r
        obtain ⟨y1, y2, y3⟩ := yes r
        obtain ⟨p, p1, p2⟩ := (isR_rho (q := fun _ => 0) hP).mp r
        have pc : p = c := by
          have := (hP.2.1 p p1).2.2
          rw [p2, y2] at this
          omega
        subst pc
        refine ⟨y3, fun x hx => ?_, fun hx => ?_⟩
        · by_cases q : x = p
          · subst q; omega
          · have := c2 x (by omega); omega
        · have := hP.2.2.1 p (p + 1) (by omega) hx
          omega
      have nextn : ¬ isR N W T i → (c ≤ pM N W T ∧ (∀ p, p < c → ρ p < i + 1) ∧ (c < pM N W T → i + 1 ≤ ρ c)) := by
        intro r
        refine ⟨c1, fun x hx => by have := c2 x hx; omega, fun hx => ?_⟩
        have a := c3 hx
        have b : ρ c ≠ i := fun q => r ((isR_rho (q := fun _ => 0) hP).mpr ⟨c, hx, q⟩)
        omega
      have ran : T i = true → 0 ≤ pP N W T i ∧ pP N W T i < 26 := by
        intro ti
        obtain ⟨p, p1, p2, -⟩ := hP.2.2.2 i iN ti
        omega
      have row := b9_4 (S := S) (h := hw o d (h (o + 18)) h) (l0 := o) (l1 := g) (l2 := (c : Int)) (l3 := (i : Int)) hL (by intros; omega) (by intros; omega) (by intros; omega) (by intros; omega)
      rw [n2, zw_nat (by omega), zw_nat (by omega), if_neg (by omega), Int.toNat_natCast, show hw o d (h (o + 18)) h (o + 2) i = h (o + 2) i from hw_o (by omega) (by omega), show hw o d (h (o + 18)) h (o + 5) i = h (o + 5) i from hw_o (by omega) (by omega), zw_nat (n := c) (by omega)] at row
      have dd : ∀ v : Int, ((isR N W T i → v = 0) ∧ (¬ isR N W T i → v = 1000000)) → ∀ k, k < i + 1 → (isR N W T k → fu d i v k = 0) ∧ (¬ isR N W T k → fu d i v k = 1000000) := fun v hv k hk2 => by
        by_cases q : k = i
        · subst q; rw [fu_same]; exact hv
        · rw [fu_ne q]; exact hd k (by omega)
      by_cases r : isR N W T i
      · obtain ⟨y1, y2, y3⟩ := yes r
        obtain ⟨k5, -⟩ := hk i iN y1
        refine ⟨c + 1, fu d i 0, nexty r, dd 0 ⟨fun _ => rfl, fun z => absurd r z⟩, ?_⟩
        rw [e, row, if_neg (fun z => by rw [ht.mp z] at y1; cases y1), k5, y2, zw_nat (by omega), if_neg (fun z => z rfl), b9_25 hL, if_neg (by decide), b9_34 hL hL.c17 (by omega) (by intros; omega) (by intros; omega), if_neg (by decide), b9_41 hL, Int.toNat_natCast]
        exact congrArg (fun X => Zx 9 4 [zR o, zI g, zI ((c : Int) + 1), zI ((i : Int) + 1), zN] [] S X) zu_hw_d
      · refine ⟨c, fu d i 1000000, nextn r, dd 1000000 ⟨fun z => absurd z r, fun _ => rfl⟩, ?_⟩
        have t25 : Zx 9 25 [zR o, zI g, zI (c : Int), zI (i : Int), zN] [zI 0] S (hw o d (h (o + 18)) h) = Zx 9 4 [zR o, zI g, zI (c : Int), zI ((i + 1 : Nat) : Int), zN] [] S (hw o (fu d i 1000000) (h (o + 18)) h) := by
          rw [b9_25 hL, if_pos zw0, b9_34 hL hL.c17 (by omega) (by intros; omega) (by intros; omega), if_pos zw0, b9_41 hL, Int.toNat_natCast, Int.add_zero]
          exact congrArg (fun X => Zx 9 4 [zR o, zI g, zI (c : Int), zI ((i : Int) + 1), zN] [] S X) zu_hw_d
        rw [e, row]
        by_cases q : T i = true
        · obtain ⟨k5, -⟩ := hk i iN q
          have rn := ran q
          rw [if_neg (fun z => by rw [ht.mp z] at q; cases q), k5, zw_id (by omega) (by omega), if_pos (fun z => r (no q z)), b9_24 hL, t25]
        · rw [if_pos (ht.mpr (Bool.eq_false_iff.mpr q)), b9_24 hL, t25]
  obtain ⟨c, d, -, hd, e⟩ := key N (Nat.le_refl _)
  refine ⟨d, ?_, hd⟩
  rw [e, b9_4 hL (by intros; omega) (by rw [n2]; intro q; exact absurd (Int.le_refl _) q) (by intros; omega) (by rw [n2]; intro q; exact absurd (Int.le_refl _) q), n2, if_pos (Int.le_refl _)]
theorem HsC.cg {h' : zH} {f : Nat → Int} {z : Int} (hH : HsC h o W H N T F G z f) (e : ∀ x k, o ≤ x → x ≤ o + 15 → x ≠ o + 9 → x ≠ o + 10 → h' x k = h x k) : HsC h' o W H N T F G z f := by
  obtain ⟨⟨s0, s1, s2, sk⟩, a2, a3, a4, a5, ⟨j1, j2, j3, j4, j5⟩, a7, a8, a9⟩ := hH
  refine ⟨⟨?_, ?_, ?_, fun k hk => ?_⟩, ?_, fun k hk tk => ?_, ?_, a5, ⟨?_, j2, ?_, j4, fun j hj => ?_⟩, fun j hj => ?_, a8, a9⟩
  · rw [e _ _ (by omega) (by omega) (by omega) (by omega)]; exact s0
  · rw [e _ _ (by omega) (by omega) (by omega) (by omega)]; exact s1
  · rw [e _ _ (by omega) (by omega) (by omega) (by omega)]; exact s2
  · rw [e _ _ (by omega) (by omega) (by omega) (by omega), e _ _ (by omega) (by omega) (by omega) (by omega), e _ _ (by omega) (by omega) (by omega) (by omega)]; exact sk k hk
  · rw [e _ _ (by omega) (by omega) (by omega) (by omega)]; exact a2
  · rw [e _ _ (by omega) (by omega) (by omega) (by omega), e _ _ (by omega) (by omega) (by omega) (by omega)]; exact a3 k hk tk
  · rw [e _ _ (by omega) (by omega) (by omega) (by omega)]; exact a4
  · rw [e _ _ (by omega) (by omega) (by omega) (by omega)]; exact j1
  · rw [e _ _ (by omega) (by omega) (by omega) (by omega)]; exact j3
  · rw [e _ _ (by omega) (by omega) (by omega) (by omega), e _ _ (by omega) (by omega) (by omega) (by omega), e _ _ (by omega) (by omega) (by omega) (by omega), e _ _ (by omega) (by omega) (by omega) (by omega)]; exact j5 j hj
  · rw [e _ _ (by omega) (by omega) (by omega) (by omega)]; exact a7 j hj
/-- Heights.findTurns: the greatest -/
theorem s_ftg {f : Nat → Int} {z : Int} (hL : LX0 S o) (hH : HsC h o W H N T F G z f) (hwf : wfS W H N T F G) : ∃ (x : Nat → Int) (h' : zH), Zx 9 0 [zR o, zI 1, zN, zN, zN] [] S h = some (none, S, h') ∧ HsC h' o W H N T F G z f ∧ isG N W T F G x ∧ (∀ k, k < N → T k = true → h' (o + 10) k = x k ∧ -30000 ≤ x k ∧ x k ≤ 30000) ∧ (∀ k, h' (o + 9) k = h (o + 9) k) ∧ ∀ x k, (x < o ∨ o + 18 < x) → h' x k = h x k := by
  obtain ⟨d, e1, hd⟩ := s_ft0 (g := 1) hL hH hwf
  have hH' := hH
  obtain ⟨-, -, -, -, -, jo, jf, a8, p, hp⟩ := hH
  have w0e : hw o d (h (o + 18)) h (o + 17) = d := funext fun k => hw_d
  obtain ⟨d2, b2, rk, e7, FF⟩ := s_spr (h := hw o d (h (o + 18)) h) (q := 1) hL (JoC_hw jo) (FlC_hw jf) (Or.inl ⟨rfl, rfl, rfl⟩) (fun v hv => by
    rw [w0e]
    by_cases r : isR N W T v
    · exact Or.inl ((hd v hv).1 r)
    · exact Or.inr ((hd v hv).2 r)) hp
  rw [w0e] at FF
  have e7' : Zx 7 0 [zR o, zI 1, zN, zN, zN, zN, zN] [] S (hw o d (h (o + 18)) h) = some (none, S, hw o d2 b2 h) := e7.trans (by rw [show hw o d2 b2 (hw o d (h (o + 18)) h) = hw o d2 b2 h from hw_hw])
  obtain ⟨bg, bd⟩ := best_up hwf (fun j hj => (jf j hj).2) a8 hp FF (fun v hv r => (hd v hv).1 r) (fun v hv z0 => by
    apply Classical.byContradiction
    intro r
    have := (hd v hv).2 r
    omega)
  obtain ⟨A, e2, eA⟩ := s_ft10 (d := d2) (b := b2) hL hH' hwf
  have fin : Zx 9 0 [zR o, zI 1, zN, zN, zN] [] S h = some (none, S, h10 o A (hw o d2 b2 h)) := by
    rw [e1, b9_47 hL hL e7']
    exact e2
  refine ⟨_, _, fin, ?_, bg, fun k hk tk => ?_, fun k => ?_, fun x k hx => ?_⟩
  · exact hH'.cg (fun x k h1 h2 h3 h4 => by rw [h10_o h4, show hw o d2 b2 h x k = h x k from hw_o (by omega) (by omega)])
  · have tb := (tw_e hwf hk tk).2
    have db := FF.bound (L := 1000) (asrc_lt (fun j hj => by have := sc_at hwf hj; omega) (fun j hj => (sc_at hwf hj).2.1)) (by omega) (aln_le (fun j hj => (scc_e hwf hj).2)) k hk (bd k hk tk)
    have hN := hwf.2.2.2.1
    refine ⟨by rw [h10_10]; exact eA k hk tk, ?_⟩
    show -30000 ≤ tw N W T F k + d2 k ∧ tw N W T F k + d2 k ≤ 30000
    omega
  · rw [h10_o (by omega), show hw o d2 b2 h (o + 9) k = h (o + 9) k from hw_o (by omega) (by omega)]
  · rw [h10_o (by omega), show hw o d2 b2 h x k = h x k from hw_o (by omega) (by omega)]
/-- Heights.findTurns: the least -/
theorem s_ftl {f : Nat → Int} {z : Int} (hL : LX0 S o) (hH : HsC h o W H N T F G z f) (hwf : wfS W H N T F G) : ∃ (x : Nat → Int) (h' : zH), Zx 9 0 [zR o, zI 0, zN, zN, zN] [] S h = some (none, S, h') ∧ HsC h' o W H N T F G z f ∧ isL N W T F G x ∧ (∀ k, k < N → T k = true → h' (o + 9) k = x k ∧ -30000 ≤ x k ∧ x k ≤ 30000) ∧ (∀ k, h' (o + 10) k = h (o + 10) k) ∧ ∀ x k, (x < o ∨ o + 18 < x) → h' x k = h x k := by
  obtain ⟨d, e1, hd⟩ := s_ft0 (g := 0) hL hH hwf
  have hH' := hH
  obtain ⟨-, -, -, -, -, jo, jf, a8, p, hp⟩ := hH
  have w0e : hw o d (h (o + 18)) h (o + 17) = d := funext fun k => hw_d
  have hp' : fe (scJ N W T) (sct N W T) (scf N W T) (scu N W T G) (scc N W T F) f (fun k => -(p k)) := fe_rev.mpr (by
    have : (fun k => -((fun k => -(p k)) k)) = p := by funext k; show -(-(p k)) = p k; omega
    rw [this]
    exact hp)
  obtain ⟨d2, b2, rk, e7, FF⟩ := s_spr (h := hw o d (h (o + 18)) h) (q := 0) hL (JoC_hw jo) (FlC_hw jf) (Or.inr ⟨rfl, rfl, rfl⟩) (fun v hv => by
    rw [w0e]
    by_cases r : isR N W T v
    · exact Or.inl ((hd v hv).1 r)
    · exact Or.inr ((hd v hv).2 r)) hp'
  rw [w0e] at FF
  have e7' : Zx 7 0 [zR o, zI 0, zN, zN, zN, zN, zN] [] S (hw o d (h (o + 18)) h) = some (none, S, hw o d2 b2 h) := e7.trans (by rw [show hw o d2 b2 (hw o d (h (o + 18)) h) = hw o d2 b2 h from hw_hw])
  obtain ⟨bg, bd⟩ := best_dn hwf (fun j hj => (jf j hj).2) a8 hp FF (fun v hv r => (hd v hv).1 r) (fun v hv z0 => by
    apply Classical.byContradiction
    intro r
    have := (hd v hv).2 r
    omega)
  obtain ⟨A, e2, eA⟩ := s_ft9 (d := d2) (b := b2) hL hH' hwf
  have fin : Zx 9 0 [zR o, zI 0, zN, zN, zN] [] S h = some (none, S, h9 o A (hw o d2 b2 h)) := by
    rw [e1, b9_47 hL hL e7']
    exact e2
  refine ⟨_, _, fin, ?_, bg, fun k hk tk => ?_, fun k => ?_, fun x k hx => ?_⟩
  · exact hH'.cg (fun x k h1 h2 h3 h4 => by rw [h9_o h3, show hw o d2 b2 h x k = h x k from hw_o (by omega) (by omega)])
  · have tb := (tw_e hwf hk tk).2
    have db := FF.bound (L := 1000) (asrc_lt (fun j hj => (sc_at hwf hj).2.1) (fun j hj => by have := sc_at hwf hj; omega)) (by omega) (aln_le (fun j hj => (scc_e hwf hj).2)) k hk (bd k hk tk)
    have hN := hwf.2.2.2.1
    refine ⟨by rw [h9_9]; exact eA k hk tk, ?_⟩
    show -30000 ≤ tw N W T F k - d2 k ∧ tw N W T F k - d2 k ≤ 30000
    omega
  · rw [h9_o (by omega), show hw o d2 b2 h (o + 10) k = h (o + 10) k from hw_o (by omega) (by omega)]
  · rw [h9_o (by omega), show hw o d2 b2 h x k = h x k from hw_o (by omega) (by omega)]
/-- what solve leaves -/
def SvC (h : zH) (o W H N : Nat) (T : Nat → Bool) (F G : Nat → Int) (z : Int) (tl tg : Nat → Int) : Prop := (∃ f, HsC h o W H N T F G z f) ∧ isL N W T F G tl ∧ isG N W T F G tg ∧ ∀ k, k < N → T k = true → h (o + 9) k = tl k ∧ h (o + 10) k = tg k ∧ (-30000 ≤ tl k ∧ tl k ≤ 30000) ∧ -30000 ≤ tg k ∧ tg k ≤ 30000
/-- Heights.solve -/
theorem s_slv (hL : LX0 S o) (hS : ScC h (o + 1) W H N T F G) (hwf : wfS W H N T F G) : ∃ (z : Int) (tl tg : Nat → Int) (h' : zH), Zx 1 0 [zR o] [] S h = some (none, S, h') ∧ SvC h' o W H N T F G z tl tg ∧ ∀ x k, (x < o ∨ o + 18 < x) → h' x k = h x k := by
  obtain ⟨z, f, h1, e1, H1, fr1⟩ := s_fco hL hS hwf
  obtain ⟨tg, h2, e2, H2, g2, c2, -, fr2⟩ := s_ftg hL H1 hwf
  obtain ⟨tl, h3, e3, H3, g3, c3, d3, fr3⟩ := s_ftl hL H2 hwf
  refine ⟨z, tl, tg, h3, ?_, ⟨⟨f, H3⟩, g3, g2, fun k hk tk => ⟨(c3 k hk tk).1, by rw [d3, (c2 k hk tk).1], (c3 k hk tk).2, (c2 k hk tk).2⟩⟩, fun x k hx => by rw [fr3 x k hx, fr2 x k hx, fr1 x k hx]⟩
  rw [b1_0 hL, b1_1 hL hL e1, b1_5 hL hL e2, b1_8 hL e3]
end FTU
