/-! THE CLASS'S SCENE: a greater phase -/
section RAI
variable {S : zS} {h : zH} {o W H N : Nat} {T : Nat → Bool} {F G : Nat → Int}
/-- a phase one more; whether a difference wraps -/
def nxp (x : Int) : Int := if x = 399 then 0 else x + 1
def wrs (N W : Nat) (T : Nat → Bool) (F : Nat → Int) (a : Nat) : Nat → Bool
  | 0 => false
  | s + 1 => wrs N W T F a s || (!decide (bs W N a s = -1) && T (bs W N a s).toNat && !decide (pdif a (bs W N a s).toNat (nxp (F a)) (F (bs W N a s).toNat) = pdif a (bs W N a s).toNat (F a) (F (bs W N a s).toNat) - 1))
theorem wfS_fu {a : Nat} {v : Int} (hwf : wfS W H N T F G) (hv : 0 ≤ v ∧ v < 400) : wfS W H N T (fu F a v) G := by
  obtain ⟨a1, a2, a3, a4, a5⟩ := hwf
  refine ⟨a1, a2, a3, a4, fun k hk => ?_⟩
  by_cases q : k = a
  · rw [q, fu_same]
    exact ⟨by omega, fun _ => hv.1, (a5 k hk).2.2.1 |> fun z => by rw [← q]; exact z, by rw [← q]; exact (a5 k hk).2.2.2⟩
  · rw [fu_ne q]
    exact a5 k hk
theorem ScC_fu {a : Nat} {v : Int} (hS : ScC h o W H N T F G) : ScC (zu h (o + 2) a v) o W H N T (fu F a v) G := by
  obtain ⟨a1, a2, a3, a4⟩ := hS
  refine ⟨by rw [zu_off (Or.inl (by omega))]; exact a1, by rw [zu_off (Or.inl (by omega))]; exact a2, by rw [zu_off (Or.inl (by omega))]; exact a3, fun k hk => ?_⟩
  rw [zu_off (y := o + 1) (Or.inl (by omega)), zu_off (y := o + 3) (Or.inl (by omega))]
  refine ⟨(a4 k hk).1, ?_, (a4 k hk).2.2⟩
  by_cases q : k = a
  · rw [q, zu_eq, fu_same]
  · rw [zu_off (Or.inr q), fu_ne q]
    exact (a4 k hk).2.1
theorem s_rai (hL : LX5 S o) (hS : ScC h o W H N T F G) (hwf : wfS W H N T F G) {a : Nat} (ha : a < N) (ta : T a = true) : Zx 82 0 [zR o, zI (a : Int), zN, zN, zN, zN, zN, zN] [] S h = some (some (zI (chI (wrs N W T F a 4))), S, zu h (o + 2) a (nxp (F a))) := by
  have hN := hwf.2.2.2.1
  have fa := hwf.f a ha ta
  have ea : h (o + 2) a = F a := (hS.2.2.2 a ha).2.1
  have nx : 0 ≤ nxp (F a) ∧ nxp (F a) < 400 := by unfold nxp; split <;> omega
  have et : Int.tmod (zw (F a + 1)) 400 = nxp (F a) := by
    rw [zw_id (by omega) (by omega)]
    unfold nxp
    by_cases q : F a = 399
    · rw [if_pos q, q]; rfl
    · rw [if_neg q]; exact Int.tmod_eq_of_lt (by omega) (by omega)
  have self : h = zu h (o + 2) a (F a) := by
    funext x k
    by_cases q : x = o + 2 ∧ k = a
    · rw [q.1, q.2, zu_eq, ea]
    · rw [zu_off (by
        by_cases c : x = o + 2
        · exact Or.inr (fun z => q ⟨c, z⟩)
        · exact Or.inl c)]
  have key : ∀ s, s ≤ 4 → ∃ v : Int, (v = F a ∨ v = nxp (F a)) ∧ Zx 82 0 [zR o, zI (a : Int), zN, zN, zN, zN, zN, zN] [] S h = Zx 82 15 [zR o, zI (a : Int), zI (F a), zI (nxp (F a)), zI (chI (wrs N W T F a s)), zI (s : Int), zN, zN] [] S (zu h (o + 2) a v) := by
    intro s
    induction s with
    | zero =>
      intro _
      refine ⟨F a, Or.inl rfl, ?_⟩
      rw [b82_0 hL (by intros; omega) (by intros; omega), Int.toNat_natCast, ea, et, ← self]
      rfl
    | succ s ih =>
      intro hs
      obtain ⟨v, hv, e⟩ := ih (by omega)
      have vr : 0 ≤ v ∧ v < 400 := by rcases hv with rfl | rfl <;> omega
      obtain ⟨b1, b2, b3⟩ := bs_in (s := s) hwf.1 hwf.2.2.1 ha (by omega)
      have zb := zw_id (z := bs W N a s) (by omega) (by omega)
      have b5 : ¬ zw (bs W N a s) = -1 → 0 ≤ bs W N a s := fun g => by rw [zb] at g; exact b3 g
      have b6 : bs W N a s < 25 := by omega
      have tb : bs W N a s ≠ -1 → (zw (zb1 (zu h (o + 2) a v (o + 1) (bs W N a s).toNat)) = 0 ↔ T (bs W N a s).toNat = false) := fun g => (ScC_fu (a := a) (v := v) hS).th (by have := b3 g; omega)
      have e56 : ∀ w X, Zx 82 56 [zR o, zI (a : Int), zI (F a), zI (nxp (F a)), zI w, zI (s : Int), zN, zN] [] S X = Zx 82 15 [zR o, zI (a : Int), zI (F a), zI (nxp (F a)), zI w, zI ((s + 1 : Nat) : Int), zN, zN] [] S X := fun w X => by rw [b82_56 hL]; rfl
      have row : Zx 82 15 [zR o, zI (a : Int), zI (F a), zI (nxp (F a)), zI (chI (wrs N W T F a s)), zI (s : Int), zN, zN] [] S (zu h (o + 2) a v) = Zx 82 21 [zR o, zI (a : Int), zI (F a), zI (nxp (F a)), zI (chI (wrs N W T F a s)), zI (s : Int), zN, zN] [zI (s : Int), zI (a : Int), zR o] S (zu h (o + 2) a v) := by
        rw [b82_15 hL (by intros; omega) (by intros; omega) (fun _ => by cases wrs N W T F a s; exact Or.inl rfl; exact Or.inr rfl), zw_nat (by omega), if_neg (by omega)]
      rw [e, row, b82_21 hL hL (s_bes hL (ScC_fu hS) (wfS_fu hwf vr) ha (by omega)) (fun g => b5 g) (fun _ => b6) (by intros; omega) (by intros; omega), zb, Int.toNat_natCast, wrs]
      by_cases q1 : bs W N a s = -1
      · refine ⟨v, hv, ?_⟩
        rw [if_pos q1, e56, decide_eq_true q1, Bool.not_true, Bool.false_and, Bool.false_and, Bool.or_false]
      rw [if_neg q1, decide_eq_false q1, Bool.not_false, Bool.true_and]
      by_cases q2 : T (bs W N a s).toNat = true
      rotate_left
      · refine ⟨v, hv, ?_⟩
        rw [if_pos ((tb q1).mpr (Bool.eq_false_iff.mpr q2)), e56, Bool.eq_false_iff.mpr q2, Bool.false_and, Bool.or_false]
      have b4 := b3 q1
      obtain ⟨b, eb⟩ : ∃ b : Nat, bs W N a s = (b : Int) := ⟨(bs W N a s).toNat, by omega⟩
      have bd := (bs_bsd (b := b) hwf.1 hwf.2.2.1 ha).mpr ⟨s, by omega, eb⟩
      have bN := bd.1
      have nab : b ≠ a := fun z => by rw [z, bsd_ne] at bd; exact Bool.noConfusion bd.2
      have q2' : T b = true := by rw [eb, Int.toNat_natCast] at q2; exact q2
      rw [if_neg (fun z => by rw [(tb q1).mp z] at q2; cases q2), eb, Int.toNat_natCast, q2', Bool.true_and, zu_zu]
      have fb := hwf.2.2.2.2 b bN
      have sd : ∀ w : Int, 0 ≤ w ∧ w < 400 → Zx 68 0 [zR o, zI (a : Int), zI (b : Int), zN] [] S (zu h (o + 2) a w) = some (some (zI (pdif a b w (F b))), S, zu h (o + 2) a w) := fun w hw => by
        have fb2 : zu h (o + 2) a w (o + 2) b = F b := by rw [zu_off (Or.inr nab)]; exact (hS.2.2.2 b bN).2.1
        have := s_sdif (h := zu h (o + 2) a w) hL (a := a) (b := b) (by omega) (by omega) (by rw [zu_eq]; omega) (by rw [zu_eq]; omega) (by rw [fb2]; exact fb.1.1) (by rw [fb2]; exact fb.1.2)
        rw [zu_eq, fb2] at this
        exact this
      have p1 := pdif_in (a := a) (b := b) (x := F a) (y := F b) (by omega) fb.1
      have p2 := pdif_in (a := a) (b := b) (x := nxp (F a)) (y := F b) (by omega) fb.1
      refine ⟨nxp (F a), Or.inr rfl, ?_⟩
      rw [b82_39 hL hL (sd (F a) fa) (by intros; omega) (by intros; omega), Int.toNat_natCast, zu_zu, b82_49 hL hL (sd (nxp (F a)) nx), zw_id (by omega) (by omega), zw_id (by omega) (by omega), e56, e56]
      by_cases q3 : pdif a b (nxp (F a)) (F b) = pdif a b (F a) (F b) - 1
      · rw [if_pos q3, decide_eq_true q3, Bool.not_true, Bool.or_false]
      · rw [if_neg q3, decide_eq_false q3, Bool.not_false, Bool.or_true]
        rfl
  obtain ⟨v, -, e⟩ := key 4 (Nat.le_refl _)
  rw [e, b82_15 hL (by intros; omega) (by intros; omega) (fun _ => by cases wrs N W T F a 4; exact Or.inl rfl; exact Or.inr rfl), if_pos (by decide), Int.toNat_natCast, zu_zu]
end RAI
