/-! THE CLASS'S SCENE: drawn phases -/
def h2 (o : Nat) (A : Nat → Int) (h : zH) : zH := fun x k => if x = o + 2 then A k else h x k
section P_h2
variable {o : Nat} {xx : Int} {A : Nat → Int} {h : zH} {k v : Nat}
theorem h2_2 : h2 o A h (o + 2) k = A k := by
  unfold h2
  rw [if_pos rfl]
theorem h2_o {y : Nat} (g : y ≠ o + 2) : h2 o A h y k = h y k := by
  unfold h2
  rw [if_neg (by omega)]
theorem zu_h2_2 : zu (h2 o A h) (o + 2) v xx = h2 o (fu A v xx) h := by
  funext y k
  by_cases q1 : y = o + 2
  · subst q1
    rw [h2_2]
    by_cases q2 : k = v
    · rw [show zu (h2 o A h) (o + 2) v xx (o + 2) k = xx from if_pos ⟨rfl, q2⟩, q2, fu_same]
    · rw [show zu (h2 o A h) (o + 2) v xx (o + 2) k = h2 o A h (o + 2) k from if_neg (fun z => q2 z.2), fu_ne q2, h2_2]
  · rw [show zu (h2 o A h) (o + 2) v xx y k = h2 o A h y k from if_neg (fun z => q1 z.1)]
    unfold h2
    simp only [if_neg q1]
end P_h2
/-- the numbers drawn -/
def drs (x : Int) : Nat → Int
  | 0 => x
  | i + 1 => drs x i * 1103515245 + 12345
def cnT (N : Nat) (T : Nat → Bool) : Int := su (fun k => if T k = true then 1 else 0) N
def drn (x n : Int) (i : Nat) : Int := Int.tmod (zw (zushr (drs x i) 16)) n
def drp (N : Nat) (T : Nat → Bool) (x : Int) (i : Nat) : Int := fst (fun k => T k && decide (su (fun i => if T i = true then 1 else 0) k = drn x (cnT N T) (2 * i + 1))) N
def drF (N : Nat) (T : Nat → Bool) (x : Int) (F : Nat → Int) : Nat → Nat → Int
  | 0 => F
  | i + 1 => if drp N T x i = -1 then drF N T x F i else fu (drF N T x F i) (drp N T x i).toNat (Int.tmod (zw (drF N T x F i (drp N T x i).toNat + drn x 400 (2 * i + 2))) 400)
theorem zushr_in (x : Int) : 0 ≤ zushr x 16 ∧ zushr x 16 < 65536 := by
  have e : zushr x 16 = x % 4294967296 / 65536 := by
    unfold zushr
    rw [show (2 : Int) ^ ((16 : Int) % 32).toNat = 65536 by decide]
  rw [e]
  omega
theorem drn_in {x n : Int} {i : Nat} (h : 0 < n) : 0 ≤ drn x n i ∧ drn x n i < n := by
  have z := zushr_in (drs x i)
  unfold drn
  rw [zw_id (by omega) (by omega)]
  exact ⟨Int.tmod_nonneg _ z.1, Int.tmod_lt_of_pos _ h⟩
section DRW
variable {S : zS} {h : zH} {o W H N : Nat} {T : Nat → Bool} {F G : Nat → Int} {x : Int}
theorem cnT_in : ∀ n, 0 ≤ cnT n T ∧ cnT n T ≤ n
  | 0 => ⟨Int.le_refl _, Int.le_refl _⟩
  | n + 1 => by
    have := cnT_in n
    unfold cnT at *
    rw [su]
    split <;> omega
theorem drF_wf (hwf : wfS W H N T F G) : ∀ i, wfS W H N T (drF N T x F i) G
  | 0 => hwf
  | i + 1 => by
    have ih := drF_wf hwf i
    rw [drF]
    by_cases q : drp N T x i = -1
    · rw [if_pos q]; exact ih
    · rw [if_neg q]
      rcases fst_cases (fun k => T k && decide (su (fun i => if T i = true then 1 else 0) k = drn x (cnT N T) (2 * i + 1))) N with ⟨g, -⟩ | ⟨k, k1, k2, k3, -⟩
      · exact absurd g q
      · rw [Bool.and_eq_true] at k3
        have e : (drp N T x i).toNat = k := by unfold drp; rw [k2]; exact Int.toNat_natCast k
        have f := ih.f k k1 k3.1
        have d := drn_in (x := x) (n := 400) (i := 2 * i + 2) (by omega)
        rw [e, zw_id (by omega) (by omega)]
        exact wfS_fu ih ⟨Int.tmod_nonneg _ (by omega), Int.tmod_lt_of_pos _ (by omega)⟩
theorem ScC_h2 {A : Nat → Int} (hS : ScC h o W H N T F G) (hA : ∀ k, k < N → A k = F k) {F' : Nat → Int} (hF : ∀ k, k < N → A k = F' k) : ScC (h2 o A h) o W H N T F' G := by
  obtain ⟨a1, a2, a3, a4⟩ := hS
  refine ⟨by rw [h2_o (by omega)]; exact a1, by rw [h2_o (by omega)]; exact a2, by rw [h2_o (by omega)]; exact a3, fun k hk => ?_⟩
  rw [h2_o (y := o + 1) (by omega), h2_o (y := o + 3) (by omega), h2_2]
  exact ⟨(a4 k hk).1, hF k hk, (a4 k hk).2.2⟩
/-- Scene.draw -/
theorem s_drw {m : Nat} (hL : LX5 S o) (hS : ScC h o W H N T F G) (hwf : wfS W H N T F G) (hm : m ≤ 100) (hn : cnT N T ≠ 0) : ∃ A : Nat → Int, Zx 83 0 [zR o, zI x, zI (m : Int), zN, zN, zN, zN, zN] [] S h = some (none, S, h2 o A h) ∧ ∀ k, k < N → A k = drF N T x F m k := by
  have hN := hwf.2.2.2.1
  have cn := cnT_in (T := T) N
  have zc := zw_id (z := cnT N T) (by omega) (by omega)
  have start : Zx 83 0 [zR o, zI x, zI (m : Int), zN, zN, zN, zN, zN] [] S h = Zx 83 10 [zR o, zN, zI (m : Int), zI (cnT N T), zI x, zI 0, zN, zN] [] S h := by
    rw [b83_0 hL, b83_1 hL hL (s_cth hL hS hN)]
    exact if_pos (show ¬ zw (cnT N T) = 0 by rw [zc]; exact hn)
  have all : ∀ i, i ≤ m → ∃ A : Nat → Int, Zx 83 0 [zR o, zI x, zI (m : Int), zN, zN, zN, zN, zN] [] S h = Zx 83 10 [zR o, zN, zI (m : Int), zI (cnT N T), zI (drs x (2 * i)), zI (i : Int), zN, zN] [] S (h2 o A h) ∧ ∀ k, k < N → A k = drF N T x F i k := by
    intro i
    induction i with
    | zero =>
      intro _
      refine ⟨h (o + 2), ?_, fun k hk => (hS.2.2.2 k hk).2.1⟩
      rw [start, show h2 o (h (o + 2)) h = h from funext fun y => funext fun k => by
        by_cases q : y = o + 2
        · rw [q, h2_2]
        · rw [h2_o q]]
      rfl
    | succ i ih =>
      intro hi
      obtain ⟨A, e, hA⟩ := ih (by omega)
      have hwi := drF_wf hwf (x := x) i
      have hSA : ScC (h2 o A h) o W H N T (drF N T x F i) G := by
        obtain ⟨a1, a2, a3, a4⟩ := hS
        refine ⟨by rw [h2_o (by omega)]; exact a1, by rw [h2_o (by omega)]; exact a2, by rw [h2_o (by omega)]; exact a3, fun k hk => ?_⟩
        rw [h2_o (y := o + 1) (by omega), h2_o (y := o + 3) (by omega), h2_2]
        exact ⟨(a4 k hk).1, hA k hk, (a4 k hk).2.2⟩
      have d1 := drn_in (x := x) (n := cnT N T) (i := 2 * i + 1) (by omega)
      have d2 := drn_in (x := x) (n := 400) (i := 2 * i + 2) (by omega)
      have pt := s_pth (m := (drn x (cnT N T) (2 * i + 1)).toNat) hL hSA hN (by omega)
      rw [show (((drn x (cnT N T) (2 * i + 1)).toNat : Nat) : Int) = drn x (cnT N T) (2 * i + 1) by omega] at pt
      have pt' : Zx 84 0 [zR o, zI (drn x (cnT N T) (2 * i + 1)), zN, zN] [] S (h2 o A h) = some (some (zI (drp N T x i)), S, h2 o A h) := pt
      have row : Zx 83 10 [zR o, zN, zI (m : Int), zI (cnT N T), zI (drs x (2 * i)), zI (i : Int), zN, zN] [] S (h2 o A h) = Zx 83 25 [zR o, zN, zI (m : Int), zI (cnT N T), zI (drs x (2 * i + 1)), zI (i : Int), zN, zN] [zI (drn x (cnT N T) (2 * i + 1)), zR o] S (h2 o A h) := by
        rw [b83_10 hL (fun _ => by rw [zc]; exact hn), zw_nat (by omega), zw_nat (by omega), if_neg (by omega), zc]
        rfl
      have e54 : ∀ y X, Zx 83 54 [zR o, zN, zI (m : Int), zI (cnT N T), zI y, zI (i : Int), zN, zN] [] S X = Zx 83 10 [zR o, zN, zI (m : Int), zI (cnT N T), zI y, zI ((i + 1 : Nat) : Int), zN, zN] [] S X := fun y X => by rw [b83_54 hL]; rfl
      rcases fst_cases (fun k => T k && decide (su (fun i => if T i = true then 1 else 0) k = drn x (cnT N T) (2 * i + 1))) N with ⟨g, -⟩ | ⟨k, k1, k2, k3, -⟩
      · have g' : drp N T x i = -1 := g
        have z1 := zwm1
        refine ⟨A, ?_, fun k hk => by rw [drF, if_pos g']; exact hA k hk⟩
        rw [e, row, b83_25 hL hL pt' (by rw [g']; intro c; exact absurd z1 c) (by rw [g']; intro c; exact absurd z1 c) (by rw [g']; intro c; exact absurd z1 c) (by rw [g']; intro c; exact absurd z1 c), g', zwm1, if_pos rfl, e54]
        rfl
      · have k2' : drp N T x i = (k : Int) := k2
        rw [Bool.and_eq_true] at k3
        have f := hwi.f k k1 k3.1
        have k0 : (0 : Int) ≤ (k : Int) := by omega
        have k25 : (k : Int) < 25 := by omega
        refine ⟨fu A k (Int.tmod (zw (A k + drn x 400 (2 * i + 2))) 400), ?_, fun j hj => ?_⟩
        · rw [k2'] at pt'
          rw [e, row, b83_25 hL hL pt' (fun _ => k0) (fun _ => k25) (fun _ => k0) (fun _ => k25), zw_nat (by omega), if_neg (by omega), e54, Int.toNat_natCast, h2_2, zu_h2_2]
          rfl
        · rw [drF, k2', if_neg (by omega), Int.toNat_natCast]
          by_cases q : j = k
          · rw [q, fu_same, fu_same, hA k k1]
          · rw [fu_ne q, fu_ne q]
            exact hA j hj
  obtain ⟨A, e, hA⟩ := all m (Nat.le_refl _)
  refine ⟨A, ?_, hA⟩
  rw [e, b83_10 hL (fun g => absurd (Int.le_refl _) g), if_pos (Int.le_refl _)]
end DRW
