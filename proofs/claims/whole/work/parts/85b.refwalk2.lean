/-! THE REFERENCE: the whole walk -/
section RWB
variable {n : Nat} {h : zH} {W H N : Nat} {T : Nat → Bool} {F G : Nat → Int} {P : Nat → Bool} {ρ : Nat → Nat}
abbrev wS0 (N W : Nat) (T : Nat → Bool) (F : Nat → Int) (i : Nat) : wS := wst N W T F (fun _ => false, fun _ => 0, 0, fun _ => 0) i
def brI (N W : Nat) (T P : Nat → Bool) (p : Nat) : Prop := (∀ k, P k = true → k < N ∧ T k = true) ∧ ∀ k, k < N → T k = true → (P k = true ↔ pP N W T k < (p : Int))
def wrI (N W : Nat) (T P : Nat → Bool) (ρ : Nat → Nat) (p : Nat) : Prop := (∀ k, P k = true → k < N ∧ T k = true ∧ pP N W T k ≤ (p : Int)) ∧ (∀ k, k < N → T k = true → pP N W T k < (p : Int) → P k = true) ∧ P (ρ p) = true
abbrev wrF (N W : Nat) (T P : Nat → Bool) (p : Nat) : Int := fst (fun k => decide ((if T k = true then pP N W T k else -1) = (p : Int) ∧ P k = false ∧ wfr N W P k ≠ -1)) N
theorem br_next (hP : isP N W T (pP N W T) (pM N W T) ρ) {p : Nat} (I : brI N W T P p) (hp : p < pM N W T) : wnx N W T P = (ρ p : Int) ∧ wfr N W P (ρ p) = -1 := by
  obtain ⟨a1, a2, a3, a4⟩ := hP
  obtain ⟨r1, r2, r3⟩ := a2 p hp
  have nP : P (ρ p) = false := by
    cases z : P (ρ p)
    · rfl
    · have := (I.2 _ r1 r2).mp z; omega
  have nf : wfr N W P (ρ p) = -1 := by
    by_cases c : wfr N W P (ρ p) = -1
    · exact c
    · obtain ⟨j, j1, j2, j3, j4⟩ := wfr_some c
      have tj := (I.1 j j3).2
      have := (I.2 j j1 tj).mp j3
      rw [a1 j (ρ p) j1 r1 tj r2 j4] at this
      omega
  refine ⟨?_, nf⟩
  rcases wnx_cases (N := N) (W := W) (T := T) (P := P) with ⟨c1, c2⟩ | ⟨k, k1, k2, k3, k4, k5⟩
  · rw [c2 _ r1 r2] at nP; cases nP
  · have kp : ¬ pP N W T k < (p : Int) := fun z => by rw [(I.2 k k1 k3).mpr z] at k4; cases k4
    rcases k5 with ⟨e1, e2⟩ | ⟨e1, e2⟩
    · obtain ⟨j, j1, j2, j3, j4⟩ := wfr_some e1
      have tj := (I.1 j j3).2
      have := (I.2 j j1 tj).mp j3
      rw [a1 j k j1 k1 tj k3 j4] at this
      exact absurd this kp
    · obtain ⟨p', b1, b2, b3, -⟩ := a4 k k1 k3
      have : ¬ ρ p < k := fun z => by rw [e2 _ z r2] at nP; cases nP
      have : ρ p ≤ ρ p' := by
        by_cases z : p < p'
        · have := a3 p p' z b1; omega
        · have : p = p' := by omega
          rw [this]; exact Nat.le_refl _
      rw [k2]
      omega
theorem root_fst (hP : isP N W T (pP N W T) (pM N W T) ρ) {p : Nat} (hp : p < pM N W T) : fst (fun k => decide ((if T k = true then pP N W T k else -1) = (p : Int))) N = (ρ p : Int) := by
  obtain ⟨a1, a2, a3, a4⟩ := hP
  obtain ⟨r1, r2, r3⟩ := a2 p hp
  refine fst_some (decide_eq_true (by rw [if_pos r2]; exact r3)) (fun i hi => decide_eq_false (fun z => ?_)) r1
  by_cases ti : T i = true
  · rw [if_pos ti] at z
    obtain ⟨p', b1, b2, b3, -⟩ := a4 i (by omega) ti
    have : p' = p := by omega
    rw [this] at b3
    omega
  · rw [if_neg ti] at z; omega
theorem wr_next (hP : isP N W T (pP N W T) (pM N W T) ρ) {p k : Nat} (I : wrI N W T P ρ p) (e : wrF N W T P p = (k : Int)) : k < N ∧ T k = true ∧ pP N W T k = (p : Int) ∧ P k = false ∧ wfr N W P k ≠ -1 ∧ wnx N W T P = (k : Int) := by
  obtain ⟨a1, a2, a3, a4⟩ := hP
  rcases fst_cases (fun k => decide ((if T k = true then pP N W T k else -1) = (p : Int) ∧ P k = false ∧ wfr N W P k ≠ -1)) N with ⟨h1, -⟩ | ⟨k', h1, h2, h3, h4⟩
  · have : wrF N W T P p = -1 := h1
    omega
  have : wrF N W T P p = (k' : Int) := h2
  have ek : k' = k := by omega
  subst ek
  obtain ⟨c1, c2, c3⟩ := of_decide_eq_true h3
  have tk : T k' = true := by
    cases z : T k'
    · rw [z, if_neg (by decide)] at c1; omega
    · rfl
  rw [if_pos tk] at c1
  refine ⟨h1, tk, c1, c2, c3, ?_⟩
  rcases wnx_cases (N := N) (W := W) (T := T) (P := P) with ⟨d1, d2⟩ | ⟨i, k1, k2, k3, k4, k5⟩
  · rw [d2 _ h1 tk] at c2; cases c2
  · rcases k5 with ⟨e1, e2⟩ | ⟨e1, e2⟩
    · obtain ⟨j, j1, j2, j3, j4⟩ := wfr_some e1
      obtain ⟨-, tj, pj⟩ := I.1 j j3
      have ep := a1 j i j1 k1 tj k3 j4
      have pi : pP N W T i = (p : Int) := by
        by_cases z : pP N W T i < (p : Int)
        · rw [I.2.1 i k1 k3 z] at k4; cases k4
        · omega
      have n1 : ¬ i < k' := fun z => by
        have := h4 i z
        rw [decide_eq_true (by rw [if_pos k3]; exact ⟨pi, k4, e1⟩)] at this
        cases this
      have n2 : ¬ k' < i := fun z => c3 (e2 k' z tk c2)
      rw [k2]; omega
    · exact absurd (e1 k' h1 tk c2) c3
theorem wr_end (hP : isP N W T (pP N W T) (pM N W T) ρ) {p : Nat} (I : wrI N W T P ρ p) (hp : p < pM N W T) (e : wrF N W T P p = -1) : brI N W T P (p + 1) := by
  obtain ⟨a1, a2, a3, a4⟩ := hP
  have no : ∀ k, k < N → ¬ ((if T k = true then pP N W T k else -1) = (p : Int) ∧ P k = false ∧ wfr N W P k ≠ -1) := by
    rcases fst_cases (fun k => decide ((if T k = true then pP N W T k else -1) = (p : Int) ∧ P k = false ∧ wfr N W P k ≠ -1)) N with ⟨-, h2⟩ | ⟨k', h1, h2, -, -⟩
    · exact fun k hk => of_decide_eq_false (h2 k hk)
    · have : wrF N W T P p = (k' : Int) := h2
      omega
  have one : ∀ a b, a < N → b < N → T a = true → T b = true → bsd W a b = true → P a = true → P b = true := fun a b ha hb ta tb bb pa => by
    cases z : P b
    · exfalso
      have ea := (I.1 a pa).2.2
      have ep := a1 a b ha hb ta tb bb
      by_cases c : pP N W T b < (p : Int)
      · rw [I.2.1 b hb tb c] at z; cases z
      · refine no b hb ⟨by rw [if_pos tb]; omega, z, fun w => ?_⟩
        exact (wfr_none.mp w) a ha ⟨pa, bb⟩
    · rfl
  refine ⟨fun k hk => ⟨(I.1 k hk).1, (I.1 k hk).2.1⟩, fun k hk tk => ⟨fun z => by have := (I.1 k z).2.2; omega, fun z => ?_⟩⟩
  by_cases c : pP N W T k < (p : Int)
  · exact I.2.1 k hk tk c
  · obtain ⟨p', b1, b2, b3, b4⟩ := a4 k hk tk
    have : p' = p := by omega
    subst this
    refine b4 P (fun a b ha hb ta tb bb => ?_) I.2.2
    cases za : P a <;> cases zb : P b
    · rfl
    · rw [one b a hb ha tb ta (by rw [bsd_sym]; exact bb) zb] at za; cases za
    · rw [one a b ha hb ta tb bb za] at zb; cases zb
    · rfl
theorem wS0_go {i k : Nat} (e : wnx N W T (wS0 N W T F i).1 = (k : Int)) : wS0 N W T F (i + 1) = wgo N W F k (wS0 N W T F i) := by
  show (if wnx N W T (wS0 N W T F i).1 = -1 then wS0 N W T F i else wgo N W F (wnx N W T (wS0 N W T F i).1).toNat (wS0 N W T F i)) = _
  rw [e, if_neg (by omega), Int.toNat_natCast]
theorem wk_put {g : zH} {w : Nat → Int} {k : Nat} {v : Int} (hK : WkC g N P w) : WkC (zu (zu g 228 k v) 229 k 1) N (fun j => P j || decide (j = k)) (fu w k v) := fun j hj => by
  by_cases c : j = k
  · subst c
    refine ⟨?_, fun _ => ?_⟩
    · show zb1 (zu (zu g 228 j v) 229 j 1 229 j) = if (P j || decide (j = j)) = true then 1 else 0
      rw [zu_eq, decide_eq_true rfl, Bool.or_true, if_pos rfl]; decide
    · rw [zu_off (by omega), zu_eq, fu_same]
  · refine ⟨?_, fun q => ?_⟩
    · show zb1 (zu (zu g 228 k v) 229 k 1 229 j) = if (P j || decide (j = k)) = true then 1 else 0
      rw [zu_off (by omega), zu_off (by omega), decide_eq_false c, Bool.or_false]
      exact (hK j hj).1
    · (try dsimp only at q)
      rw [decide_eq_false c, Bool.or_false] at q
      rw [zu_off (by omega), zu_off (by omega), fu_ne c]
      exact (hK j hj).2 q
theorem unw_lt {k : Nat} (hk : k < N) (hP : P k = false) : su (fun j => if (P j || decide (j = k)) = true then (0 : Int) else 1) N + 1 ≤ su (fun j => if P j = true then (0 : Int) else 1) N := by
  have s := su_set (f := fun j => if P j = true then (0 : Int) else 1) (n := N) (a := k) (x := 0) hk
  (try dsimp only at s)
  rw [hP, if_neg (by decide)] at s
  have e : su (fun j => if (P j || decide (j = k)) = true then (0 : Int) else 1) N = su (fun j => if j = k then 0 else if P j = true then (0 : Int) else 1) N := su_congr (fun j _ => by
    (try dsimp only)
    by_cases c : j = k
    · rw [if_pos c, decide_eq_true c, Bool.or_true, if_pos rfl]
    · rw [if_neg c, decide_eq_false c, Bool.or_false])
  rw [e, s]
  omega
theorem wr_loop (hP : isP N W T (pP N W T) (pM N W T) ρ) (hR : RfC h W H N T F G) (hC : PaC h N W T) (hw : wfS W H N T F G) {p : Nat} (hp : p < pM N W T) (hp25 : p < 25) : ∀ (m i : Nat) (g : zH), su (fun j => if (wS0 N W T F i).1 j = true then (0 : Int) else 1) N ≤ (m : Int) → WkC g N (wS0 N W T F i).1 (wS0 N W T F i).2.2.2 → wrI N W T (wS0 N W T F i).1 ρ p → (∀ x k, x ≠ 228 → x ≠ 229 → g x k = h x k) → ∃ (i' : Nat) (g' : zH), Zx 184 39 [zR 202, zI (p : Int), zN, zI (wrF N W T (wS0 N W T F i).1 p), zN, zN] [] (Z0 n) g = Zx 184 14 [zR 202, zI ((p + 1 : Nat) : Int), zN, zN, zN, zN] [] (Z0 n) g' ∧ WkC g' N (wS0 N W T F i').1 (wS0 N W T F i').2.2.2 ∧ brI N W T (wS0 N W T F i').1 (p + 1) ∧ ∀ x k, x ≠ 228 → x ≠ 229 → g' x k = h x k
  | m, i, g, hm, hK, I, fr => by
    by_cases c : wrF N W T (wS0 N W T F i).1 p = -1
    · refine ⟨i, g, ?_, hK, wr_end hP I hp c, fr⟩
      rw [c, b184_39, if_pos zwm1]
      rfl
    · obtain ⟨k, ek⟩ : ∃ k : Nat, wrF N W T (wS0 N W T F i).1 p = (k : Int) := by
        rcases fst_cases (fun k => decide ((if T k = true then pP N W T k else -1) = (p : Int) ∧ (wS0 N W T F i).1 k = false ∧ wfr N W (wS0 N W T F i).1 k ≠ -1)) N with ⟨h1, -⟩ | ⟨k', h1, h2, -, -⟩
        · exact absurd h1 c
        · exact ⟨k', h2⟩
      obtain ⟨k1, k2, k3, k4, k5, k6⟩ := wr_next hP I ek
      have hRg : RfC g W H N T F G := hR.cg (fun x k q => fr x k (by omega) (by omega))
      have hCg : PaC g N W T := hC.cg (fun x k q => fr x k (by omega) (by omega))
      have go := wS0_go (F := F) k6
      have go' : wgo N W F k (wS0 N W T F i) = (fun j => (wS0 N W T F i).1 j || decide (j = k), fu (wS0 N W T F i).2.1 k ((wS0 N W T F i).2.1 (wfr N W (wS0 N W T F i).1 k).toNat), (wS0 N W T F i).2.2.1, fu (wS0 N W T F i).2.2.2 k ((wS0 N W T F i).2.2.2 (wfr N W (wS0 N W T F i).1 k).toNat + pdif (wfr N W (wS0 N W T F i).1 k).toNat k (F (wfr N W (wS0 N W T F i).1 k).toNat) (F k))) := by
        unfold wgo
        rw [if_neg k5]
      rw [go'] at go
      have e1 : (wS0 N W T F (i + 1)).1 = fun j => (wS0 N W T F i).1 j || decide (j = k) := by rw [go]
      have e2 : (wS0 N W T F (i + 1)).2.2.2 = fu (wS0 N W T F i).2.2.2 k ((wS0 N W T F i).2.2.2 (wfr N W (wS0 N W T F i).1 k).toNat + pdif (wfr N W (wS0 N W T F i).1 k).toNat k (F (wfr N W (wS0 N W T F i).1 k).toNat) (F k)) := by rw [go]
      have hK2 := wk_put (k := k) (v := (wS0 N W T F i).2.2.2 (wfr N W (wS0 N W T F i).1 k).toNat + pdif (wfr N W (wS0 N W T F i).1 k).toNat k (F (wfr N W (wS0 N W T F i).1 k).toNat) (F k)) hK
      rw [← e1, ← e2] at hK2
      have fr2 : ∀ x j, x ≠ 228 → x ≠ 229 → (zu (zu g 228 k ((wS0 N W T F i).2.2.2 (wfr N W (wS0 N W T F i).1 k).toNat + pdif (wfr N W (wS0 N W T F i).1 k).toNat k (F (wfr N W (wS0 N W T F i).1 k).toNat) (F k))) 229 k 1) x j = h x j := fun x j q1 q2 => by rw [zu_off (by omega), zu_off (by omega)]; exact fr x j q1 q2
      have ul := unw_lt k1 k4
      have nn : 0 ≤ su (fun j => if ((wS0 N W T F i).1 j || decide (j = k)) = true then (0 : Int) else 1) N := su_nonneg (fun j _ => by (try dsimp only); split <;> omega)
      have I2 : wrI N W T (wS0 N W T F (i + 1)).1 ρ p := by
        rw [e1]
        refine ⟨fun j hj => ?_, fun j hj tj pj => ?_, ?_⟩ <;> (try dsimp only at *)
        · rw [Bool.or_eq_true, decide_eq_true_eq] at hj
          rcases hj with hj | hj
          · exact I.1 j hj
          · rw [hj]; exact ⟨k1, k2, by omega⟩
        · rw [I.2.1 j hj tj pj]; rfl
        · rw [I.2.2]; rfl
      cases m with
      | zero => omega
      | succ m =>
        obtain ⟨i', g', f1, f2, f3, f4⟩ := wr_loop hP hR hC hw hp hp25 m (i + 1) _ (by rw [e1]; (try dsimp only); omega) hK2 I2 fr2
        refine ⟨i', g', ?_, f2, f3, f4⟩
        rw [ek, m_wk1 hRg hK hw k1 k5, b184_87 (m_ntw (hR.cg (fun x k q => fr2 x k (by omega) (by omega))) (hC.cg (fun x k q => fr2 x k (by omega) (by omega))) hK2 hw hp25)]
        exact f1
/-- FringeBenchModel.walk -/
theorem m_wlk (hR : RfC h W H N T F G) (hC : PaC h N W T) (hw : wfS W H N T F G) : ∃ g : zH, Zx 184 0 [zR 202, zN, zN, zN, zN, zN] [] (Z0 n) h = some (none, Z0 n, g) ∧ (∀ k, k < N → T k = true → g 228 k = pW N W T F k) ∧ ∀ x k, x ≠ 228 → x ≠ 229 → g x k = h x k := by
  have h25 := hw.2.2.2.1
  obtain ⟨ρ, hP⟩ := pP_isP (N := N) (W := W) (T := T)
  have m25 : pM N W T ≤ 25 := by
    by_cases c : pM N W T = 0
    · omega
    · obtain ⟨r1, r2, r3⟩ := hP.2.1 0 (by omega)
      exact (pP_in hw r1 r2).2.2
  obtain ⟨g0, e0, a1, a2⟩ := z_inv (N := 25) (X := fun i (g : zH) => Zx 184 2 [zR 202, zI (i : Int), zN, zN, zN, zN] [] (Z0 n) g) (I := fun i g => (∀ k, k < i → g 229 k = 0) ∧ ∀ x k, x ≠ 229 → g x k = h x k) (s := h) ⟨fun k q => absurd q (Nat.not_lt_zero k), fun x k _ => rfl⟩ (fun i g hi Ig => by
    refine ⟨zu g 229 i 0, ?_, fun k hk => ?_, fun x k q => ?_⟩
    · show Zx 184 2 _ _ _ _ = Zx 184 2 _ _ _ _
      rw [b184_2 (by intros; omega) (by intros; omega), zw_nat (by omega), if_neg (by omega), Int.toNat_natCast]
      rfl
    · by_cases c : k = i
      · rw [c, zu_eq]
      · rw [zu_off (by omega)]; exact Ig.1 k (by omega)
    · rw [zu_off (by omega)]; exact Ig.2 x k q)
  obtain ⟨⟨g, i⟩, e1, i1, i2, i3⟩ := z_inv (N := pM N W T) (X := fun p (s : zH × Nat) => Zx 184 14 [zR 202, zI (p : Int), zN, zN, zN, zN] [] (Z0 n) s.1) (I := fun p s => WkC s.1 N (wS0 N W T F s.2).1 (wS0 N W T F s.2).2.2.2 ∧ brI N W T (wS0 N W T F s.2).1 p ∧ ∀ x k, x ≠ 228 → x ≠ 229 → s.1 x k = h x k) (s := ((g0, 0) : zH × Nat)) ⟨fun k hk => ⟨by
      show zb1 (g0 229 k) = if false = true then 1 else 0
      rw [a1 k (by omega)]; rfl, fun q => Bool.noConfusion q⟩, ⟨fun k q => Bool.noConfusion q, fun k hk tk => ⟨fun q => Bool.noConfusion q, fun q => by
      have := (pP_in hw hk tk).1
      omega⟩⟩, fun x k _ q => a2 x k q⟩ (fun p s hp Is => by
    obtain ⟨g, i⟩ := s
    obtain ⟨i1, i2, i3⟩ := Is
    (try dsimp only at i1 i2 i3 ⊢)
    have hRg : RfC g W H N T F G := hR.cg (fun x k q => i3 x k (by omega) (by omega))
    have hCg : PaC g N W T := hC.cg (fun x k q => i3 x k (by omega) (by omega))
    obtain ⟨n1, n2⟩ := br_next hP i2 hp
    obtain ⟨r1, r2, r3⟩ := hP.2.1 p hp
    have rf := root_fst hP hp
    have ro := m_roo (n := n) (h := g) (p := (p : Int)) (q := fun k => if T k = true then pP N W T k else -1) hRg.2.2.1 h25 ⟨by omega, by omega⟩ (fun k hk => ⟨hCg.2 k hk, by
      (try dsimp only)
      by_cases tk : T k = true
      · rw [if_pos tk]
        have := pP_in hw hk tk
        exact ⟨by omega, by omega⟩
      · rw [if_neg tk]; exact ⟨by omega, by omega⟩⟩)
    rw [rf] at ro
    have st : Zx 184 14 [zR 202, zI (p : Int), zN, zN, zN, zN] [] (Z0 n) g = Zx 184 37 [zR 202, zI (p : Int), zN, zN, zN, zN] [zI (p : Int), zR 202] (Z0 n) (zu (zu g 228 (ρ p) (F (ρ p))) 229 (ρ p) 1) := by
      rw [b184_14, hCg.1, zw_nat (by omega), zw_nat (by omega), if_neg (by omega), b184_20 ro (by intros; omega) (by intros; omega) (by intros; omega) (by intros; omega) (by intros; omega) (by intros; omega), Int.toNat_natCast, (hRg.2.2.2.1 _ r1).2.1]
    have go := wS0_go (F := F) n1
    have go' : wgo N W F (ρ p) (wS0 N W T F i) = (fun j => (wS0 N W T F i).1 j || decide (j = ρ p), fu (wS0 N W T F i).2.1 (ρ p) ((wS0 N W T F i).2.2.1 : Int), (wS0 N W T F i).2.2.1 + 1, fu (wS0 N W T F i).2.2.2 (ρ p) (F (ρ p))) := by
      unfold wgo
      rw [if_pos n2]
    rw [go'] at go
    have e1 : (wS0 N W T F (i + 1)).1 = fun j => (wS0 N W T F i).1 j || decide (j = ρ p) := by rw [go]
    have e2 : (wS0 N W T F (i + 1)).2.2.2 = fu (wS0 N W T F i).2.2.2 (ρ p) (F (ρ p)) := by rw [go]
    have hK2 := wk_put (k := ρ p) (v := F (ρ p)) i1
    rw [← e1, ← e2] at hK2
    have fr2 : ∀ x j, x ≠ 228 → x ≠ 229 → (zu (zu g 228 (ρ p) (F (ρ p))) 229 (ρ p) 1) x j = h x j := fun x j q1 q2 => by rw [zu_off (by omega), zu_off (by omega)]; exact i3 x j q1 q2
    have I2 : wrI N W T (wS0 N W T F (i + 1)).1 ρ p := by
      rw [e1]
      refine ⟨fun j hj => ?_, fun j hj tj pj => ?_, ?_⟩ <;> (try dsimp only at *)
      · rw [Bool.or_eq_true, decide_eq_true_eq] at hj
        rcases hj with hj | hj
        · obtain ⟨b1, b2⟩ := i2.1 j hj
          have := (i2.2 j b1 b2).mp hj
          exact ⟨b1, b2, by omega⟩
        · rw [hj]; exact ⟨r1, r2, by omega⟩
      · rw [(i2.2 j hj tj).mpr pj]; rfl
      · rw [decide_eq_true rfl, Bool.or_true]
    have nn : 0 ≤ su (fun j => if (wS0 N W T F (i + 1)).1 j = true then (0 : Int) else 1) N := su_nonneg (fun j _ => by (try dsimp only); split <;> omega)
    obtain ⟨i', g', f1, f2, f3, f4⟩ := wr_loop (n := n) hP hR hC hw hp (by omega) (su (fun j => if (wS0 N W T F (i + 1)).1 j = true then (0 : Int) else 1) N).toNat (i + 1) _ (by omega) hK2 I2 fr2
    refine ⟨(g', i'), ?_, f2, f3, f4⟩
    rw [st, b184_37 (m_ntw (hR.cg (fun x k q => fr2 x k (by omega) (by omega))) (hC.cg (fun x k q => fr2 x k (by omega) (by omega))) hK2 hw (by omega))]
    exact f1)
  (try dsimp only at e1 i1 i2 i3)
  have fin : Zx 184 0 [zR 202, zN, zN, zN, zN, zN] [] (Z0 n) h = some (none, Z0 n, g) := by
    rw [b184_0]
    refine e0.trans ?_
    show Zx 184 2 _ _ _ _ = _
    rw [b184_2 (fun q => absurd (by decide) q) (fun q => absurd (by decide) q), if_pos (by decide)]
    refine e1.trans ?_
    have e32 : g 202 32 = (pM N W T : Int) := (i3 _ _ (by omega) (by omega)).trans hC.1
    rw [b184_14, e32, if_pos (Int.le_refl _)]
  refine ⟨g, fin, fun k hk tk => ?_, i3⟩
  have done : ∀ j, j < N → T j = true → (wS0 N W T F i).1 j = true := fun j hj tj => (i2.2 j hj tj).mpr (pP_in hw hj tj).2.1
  have stop : wnx N W T (wS0 N W T F i).1 = -1 := by
    rcases wnx_cases (N := N) (W := W) (T := T) (P := (wS0 N W T F i).1) with ⟨c, -⟩ | ⟨k', c1, c2, c3, c4, -⟩
    · exact c
    · rw [done k' c1 c3] at c4; cases c4
  have stopN : wnx N W T (wS0 N W T F N).1 = -1 := by
    rcases wnx_cases (N := N) (W := W) (T := T) (P := (wS0 N W T F N).1) with ⟨c, -⟩ | ⟨k', c1, c2, c3, c4, -⟩
    · exact c
    · rw [wst_all c1 c3] at c4; cases c4
  have same : wS0 N W T F i = wS0 N W T F N := by
    by_cases c : i ≤ N
    · have := wst_stop stop (N - i)
      rw [show i + (N - i) = N by omega] at this
      exact this.symm
    · have := wst_stop stopN (i - N)
      rw [show N + (i - N) = i by omega] at this
      exact this
  rw [(i1 k hk).2 (done k hk tk), same]
  rfl
end RWB
