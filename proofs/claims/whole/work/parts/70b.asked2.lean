/-! THE CLASS'S HEIGHTS: what is asked of them, further -/
/-- Math.max -/
theorem s_max {S : zS} {h : zH} {a b : Int} (ha : zint a) (hb : zint b) : Zx 240 0 [zI a, zI b] [] S h = some (some (zI (if a < b then b else a)), S, h) := by
  rw [b240_0, ha.e, hb.e]
  split <;> rw [b240_6]
/-- Math.abs -/
theorem s_abI {S : zS} {h : zH} {a : Int} (ha : zint a) : Zx 239 0 [zI a] [] S h = some (some (zI (ab a)), S, h) := by
  rw [b239_0, ha.e]
  unfold ab
  split <;> rw [b239_6]
section HT2
variable {S : zS} {h : zH} {o W H N : Nat} {T : Nat → Bool} {F G : Nat → Int} {z : Int} {tl tg : Nat → Int}
/-- what leaps at a pixel cost; the roughest -/
def cst (N W : Nat) (T : Nat → Bool) (F G tl : Nat → Int) (k n : Nat) : Int := su (fun j => if scf N W T j = k ∨ sct N W T j = k then ab (lea F tl (scf N W T j) (sct N W T j)) * scu N W T G j else 0) n
def rgh (N W : Nat) (T : Nat → Bool) (F G tl : Nat → Int) : Nat → Int × Int
  | 0 => (-1, 0)
  | k + 1 => if (rgh N W T F G tl k).2 < cst N W T F G tl k (scJ N W T) then ((k : Int), cst N W T F G tl k (scJ N W T)) else rgh N W T F G tl k
theorem ab_u {x u : Int} (hx : -70000 ≤ x ∧ x ≤ 70000) (hu : 1 ≤ u ∧ u ≤ 9) : 0 ≤ ab x * u ∧ ab x * u ≤ 630000 := by
  have n := ab_nn x
  have l : ab x ≤ 70000 := ab_le.mpr hx
  rcases (show u = 1 ∨ u = 2 ∨ u = 3 ∨ u = 4 ∨ u = 5 ∨ u = 6 ∨ u = 7 ∨ u = 8 ∨ u = 9 by omega) with rfl | rfl | rfl | rfl | rfl | rfl | rfl | rfl | rfl <;> omega
theorem cst_in (hV : SvC h o W H N T F G z tl tg) (hwf : wfS W H N T F G) {k : Nat} : ∀ n, n ≤ scJ N W T → 0 ≤ cst N W T F G tl k n ∧ cst N W T F G tl k n ≤ 630000 * n
  | 0, _ => ⟨Int.le_refl _, by show (0 : Int) ≤ _; omega⟩
  | n + 1, hn => by
    obtain ⟨a, b⟩ := cst_in hV hwf (k := k) n (by omega)
    obtain ⟨a1, a2, a3, a4, a5⟩ := sc_at hwf (show n < scJ N W T by omega)
    have li := lea_in hV hwf (show scf N W T n < N by omega) a3 a2 a4
    have m := ab_u li (scu_in hwf (show n < scJ N W T by omega))
    unfold cst at *
    rw [su]
    split <;> omega
theorem rgh_in (hV : SvC h o W H N T F G z tl tg) (hwf : wfS W H N T F G) : ∀ n, n ≤ 25 → -1 ≤ (rgh N W T F G tl n).1 ∧ (rgh N W T F G tl n).1 < 25 ∧ 0 ≤ (rgh N W T F G tl n).2 ∧ (rgh N W T F G tl n).2 ≤ 25200000
  | 0, _ => by
    show -1 ≤ (-1 : Int) ∧ (-1 : Int) < 25 ∧ (0 : Int) ≤ 0 ∧ (0 : Int) ≤ 25200000
    omega
  | n + 1, hn => by
    have i := rgh_in hV hwf n (by omega)
    have c := cst_in hV hwf (k := n) (scJ N W T) (Nat.le_refl _)
    have J40 : scJ N W T ≤ 40 := jl_40 (T := T) hwf.1 hwf.2.1 hwf.2.2.1
    rw [rgh]
    split
    · dsimp only; omega
    · exact i
/-- Heights.roughest -/
theorem s_rou (hL : LX0 S o) (hV : SvC h o W H N T F G z tl tg) (hwf : wfS W H N T F G) : Zx 18 0 [zR o, zN, zN, zN, zN, zN] [] S h = some (some (zI (rgh N W T F G tl N).1), S, h) := by
  have hN := hwf.2.2.2.1
  obtain ⟨j1, j2, j3, j4, j5⟩ := hV.jo
  have s2 := hV.sc.2.2.1
  have J40 : scJ N W T ≤ 40 := jl_40 (T := T) hwf.1 hwf.2.1 hwf.2.2.1
  rw [b18_0 hL]
  refine (z_chain (N := N) (X := fun k => Zx 18 6 [zR o, zI (rgh N W T F G tl k).1, zI (rgh N W T F G tl k).2, zI (k : Int), zN, zN] [] S h) (fun k hk => ?_)).trans ?_
  · have ri := rgh_in hV hwf k (by omega)
    have cJ := cst_in hV hwf (k := k) (scJ N W T) (Nat.le_refl _)
    show Zx 18 6 _ _ _ _ = Zx 18 6 _ _ _ _
    rw [b18_6 hL, s2, zw_nat (by omega), zw_nat (by omega), if_neg (by omega)]
    have inner := z_chain (N := scJ N W T) (X := fun j => Zx 18 15 [zR o, zI (rgh N W T F G tl k).1, zI (rgh N W T F G tl k).2, zI (k : Int), zI (cst N W T F G tl k j), zI (j : Int)] [] S h) (fun j hj => by
      obtain ⟨k1, k2, k3, k4, k5, k6, k7, k8, k9⟩ := j5 j hj
      obtain ⟨a1, a2, a3, a4, a5⟩ := sc_at hwf hj
      have li := lea_in hV hwf k5 a3 k6 a4
      have al : 0 ≤ ab (lea F tl (scf N W T j) (sct N W T j)) := ab_nn _
      show Zx 18 15 _ _ _ _ = Zx 18 15 _ _ _ _
      have e31 : Zx 18 31 [zR o, zI (rgh N W T F G tl k).1, zI (rgh N W T F G tl k).2, zI (k : Int), zI (cst N W T F G tl k j), zI (j : Int)] [] S h = Zx 18 15 [zR o, zI (rgh N W T F G tl k).1, zI (rgh N W T F G tl k).2, zI (k : Int), zI (cst N W T F G tl k j + ab (lea F tl (scf N W T j) (sct N W T j)) * scu N W T G j), zI ((j + 1 : Nat) : Int)] [] S h := by
        rw [b18_31 hL (by intros; omega) (by intros; omega) (by intros; omega) (by intros; omega), Int.toNat_natCast, k1, k2, b18_41 hL hL (s_lea hL hV hwf k5 a3 k6 a4), b18_42 hL (s_abI ⟨by omega, by omega⟩) (by intros; omega) (by intros; omega), b18_50 hL, Int.toNat_natCast, k4]
        rfl
      rw [b18_15 hL (by intros; omega) (by intros; omega) (by intros; omega) (by intros; omega), j3, zw_nat (by omega), zw_nat (by omega), if_neg (by omega), Int.toNat_natCast, k1, k2, zw_nat (by omega), zw_nat (by omega), zw_nat (by omega), e31, b18_50 hL]
      have ec : cst N W T F G tl k (j + 1) = cst N W T F G tl k j + (if scf N W T j = k ∨ sct N W T j = k then ab (lea F tl (scf N W T j) (sct N W T j)) * scu N W T G j else 0) := rfl
      rw [ec]
      by_cases q1 : scf N W T j = k
      · rw [if_pos (by omega), if_pos (Or.inl q1)]
      · rw [if_neg (by omega)]
        by_cases q2 : sct N W T j = k
        · rw [if_neg (by omega), if_pos (Or.inr q2)]
        · rw [if_pos (by omega), if_neg (by omega), Int.add_zero]; rfl)
    refine Eq.trans inner ?_
    show Zx 18 15 _ _ _ _ = _
    rw [b18_15 hL (by intros; omega) (by rw [j3]; intro q; exact absurd (Int.le_refl _) q) (by intros; omega) (by rw [j3]; intro q; exact absurd (Int.le_refl _) q), j3, if_pos (Int.le_refl _), zw_id (z := cst N W T F G tl k (scJ N W T)) (by omega) (by omega), zw_id (z := (rgh N W T F G tl k).2) (by omega) (by omega), b18_59 hL, b18_59 hL, rgh]
    by_cases q : (rgh N W T F G tl k).2 < cst N W T F G tl k (scJ N W T)
    · rw [if_neg (by omega), if_pos q]; rfl
    · rw [if_pos (by omega), if_neg q]; rfl
  · show Zx 18 6 _ _ _ _ = _
    rw [b18_6 hL, s2, if_pos (Int.le_refl _)]
/-- lowest and highest of a part -/
def plo (N W : Nat) (T : Nat → Bool) (F tl : Nat → Int) (p : Int) : Nat → Int
  | 0 => 2147483647
  | k + 1 => if T k = true ∧ pP N W T k = p then (if hgt F tl k < plo N W T F tl p k then hgt F tl k else plo N W T F tl p k) else plo N W T F tl p k
def phi (N W : Nat) (T : Nat → Bool) (F tl : Nat → Int) (p : Int) : Nat → Int
  | 0 => -2147483648
  | k + 1 => if T k = true ∧ pP N W T k = p then (if phi N W T F tl p k < hgt F tl k then hgt F tl k else phi N W T F tl p k) else phi N W T F tl p k
theorem pP_in (hwf : wfS W H N T F G) {k : Nat} (hk : k < N) (tk : T k = true) : 0 ≤ pP N W T k ∧ pP N W T k < pM N W T ∧ pM N W T ≤ 25 := by
  have hN := hwf.2.2.2.1
  obtain ⟨ρ, hP⟩ := pP_isP (N := N) (W := W) (T := T)
  obtain ⟨p, p1, p2, -⟩ := hP.2.2.2 k hk tk
  have a := hP.le (pM N W T - 1) (by omega)
  have b := (hP.2.1 (pM N W T - 1) (by omega)).1
  omega
theorem plo_in (hV : SvC h o W H N T F G z tl tg) (hwf : wfS W H N T F G) {p : Int} : ∀ n, n ≤ N → (plo N W T F tl p n = 2147483647 ∧ ∀ k, k < n → ¬ (T k = true ∧ pP N W T k = p)) ∨ (-12000000 ≤ plo N W T F tl p n ∧ plo N W T F tl p n ≤ 12000400)
  | 0, _ => Or.inl ⟨rfl, fun k hk => absurd hk (Nat.not_lt_zero k)⟩
  | n + 1, hn => by
    have i := plo_in hV hwf (p := p) n (by omega)
    rw [plo]
    by_cases q : T n = true ∧ pP N W T n = p
    · have r := hV.hin hwf (show n < N by omega) q.1
      rw [if_pos q]
      right
      rcases i with ⟨i1, -⟩ | i
      · rw [i1, if_pos (by omega)]; exact r
      · split <;> omega
    · rw [if_neg q]
      rcases i with ⟨i1, i2⟩ | i
      · refine Or.inl ⟨i1, fun k hk => ?_⟩
        by_cases c : k = n
        · rw [c]; exact q
        · exact i2 k (by omega)
      · exact Or.inr i
theorem phi_in (hV : SvC h o W H N T F G z tl tg) (hwf : wfS W H N T F G) {p : Int} : ∀ n, n ≤ N → (phi N W T F tl p n = -2147483648 ∧ ∀ k, k < n → ¬ (T k = true ∧ pP N W T k = p)) ∨ (-12000000 ≤ phi N W T F tl p n ∧ phi N W T F tl p n ≤ 12000400)
  | 0, _ => Or.inl ⟨rfl, fun k hk => absurd hk (Nat.not_lt_zero k)⟩
  | n + 1, hn => by
    have i := phi_in hV hwf (p := p) n (by omega)
    rw [phi]
    by_cases q : T n = true ∧ pP N W T n = p
    · have r := hV.hin hwf (show n < N by omega) q.1
      rw [if_pos q]
      right
      rcases i with ⟨i1, -⟩ | i
      · rw [i1, if_pos (by omega)]; exact r
      · split <;> omega
    · rw [if_neg q]
      rcases i with ⟨i1, i2⟩ | i
      · refine Or.inl ⟨i1, fun k hk => ?_⟩
        by_cases c : k = n
        · rw [c]; exact q
        · exact i2 k (by omega)
      · exact Or.inr i
/-- Heights.lowestOf -/
theorem s_plo (hL : LX0 S o) (hV : SvC h o W H N T F G z tl tg) (hwf : wfS W H N T F G) {p : Int} (hp : zint p) : Zx 19 0 [zR o, zI p, zN, zN] [] S h = some (some (zI (plo N W T F tl p N)), S, h) := by
  have hN := hwf.2.2.2.1
  have hS := hV.sc
  have s2 := hS.2.2.1
  rw [b19_0 hL]
  refine (z_chain (N := N) (X := fun i => Zx 19 4 [zR o, zI p, zI (plo N W T F tl p i), zI (i : Int)] [] S h) (fun i hi => ?_)).trans ?_
  · have ht : zw (zb1 (h (o + 2) i)) = 0 ↔ T i = false := hS.th hi
    show Zx 19 4 _ _ _ _ = Zx 19 4 _ _ _ _
    rw [b19_4 hL (by intros; omega) (by intros; omega) (by intros; omega) (by intros; omega), s2, zw_nat (by omega), zw_nat (by omega), if_neg (by omega), Int.toNat_natCast, plo, hp.e]
    by_cases q : T i = true
    · have e5 := (hV.pw hi q).1
      have pr := pP_in hwf hi q
      rw [if_neg (fun g => by rw [ht.mp g] at q; cases q), e5, zw_id (z := pP N W T i) (by omega) (by omega)]
      by_cases c : pP N W T i = p
      · have r := hV.hin hwf hi q
        have li := plo_in hV hwf (p := p) i (by omega)
        rw [if_neg (fun g => g c), b19_25 hL hL (s_hgt hL hV hwf hi q), b19_26 hL (s_min ⟨by omega, by omega⟩ ⟨by omega, by omega⟩), b19_28 hL, if_pos (show T i = true ∧ pP N W T i = p from ⟨q, c⟩)]
        rfl
      · rw [if_pos c, b19_28 hL, if_neg (fun g => c g.2)]; rfl
    · rw [if_pos (ht.mpr (Bool.eq_false_iff.mpr q)), b19_28 hL, if_neg (fun g => q g.1)]; rfl
  · show Zx 19 4 _ _ _ _ = _
    rw [b19_4 hL (by intros; omega) (by rw [s2]; intro q; exact absurd (Int.le_refl _) q) (by intros; omega) (by rw [s2]; intro q; exact absurd (Int.le_refl _) q), s2, if_pos (Int.le_refl _)]
/-- Heights.highestOf -/
theorem s_phi (hL : LX0 S o) (hV : SvC h o W H N T F G z tl tg) (hwf : wfS W H N T F G) {p : Int} (hp : zint p) : Zx 20 0 [zR o, zI p, zN, zN] [] S h = some (some (zI (phi N W T F tl p N)), S, h) := by
  have hN := hwf.2.2.2.1
  have hS := hV.sc
  have s2 := hS.2.2.1
  rw [b20_0 hL]
  refine (z_chain (N := N) (X := fun i => Zx 20 4 [zR o, zI p, zI (phi N W T F tl p i), zI (i : Int)] [] S h) (fun i hi => ?_)).trans ?_
  · have ht : zw (zb1 (h (o + 2) i)) = 0 ↔ T i = false := hS.th hi
    show Zx 20 4 _ _ _ _ = Zx 20 4 _ _ _ _
    rw [b20_4 hL (by intros; omega) (by intros; omega) (by intros; omega) (by intros; omega), s2, zw_nat (by omega), zw_nat (by omega), if_neg (by omega), Int.toNat_natCast, phi, hp.e]
    by_cases q : T i = true
    · have e5 := (hV.pw hi q).1
      have pr := pP_in hwf hi q
      rw [if_neg (fun g => by rw [ht.mp g] at q; cases q), e5, zw_id (z := pP N W T i) (by omega) (by omega)]
      by_cases c : pP N W T i = p
      · have r := hV.hin hwf hi q
        have li := phi_in hV hwf (p := p) i (by omega)
        rw [if_neg (fun g => g c), b20_25 hL hL (s_hgt hL hV hwf hi q), b20_26 hL (s_max ⟨by omega, by omega⟩ ⟨by omega, by omega⟩), b20_28 hL, if_pos (show T i = true ∧ pP N W T i = p from ⟨q, c⟩)]
        rfl
      · rw [if_pos c, b20_28 hL, if_neg (fun g => c g.2)]; rfl
    · rw [if_pos (ht.mpr (Bool.eq_false_iff.mpr q)), b20_28 hL, if_neg (fun g => q g.1)]; rfl
  · show Zx 20 4 _ _ _ _ = _
    rw [b20_4 hL (by intros; omega) (by rw [s2]; intro q; exact absurd (Int.le_refl _) q) (by intros; omega) (by rw [s2]; intro q; exact absurd (Int.le_refl _) q), s2, if_pos (Int.le_refl _)]
/-- Heights.greatestHigh -/
def pgh (N W : Nat) (T : Nat → Bool) (F tl : Nat → Int) : Nat → Int
  | 0 => 0
  | p + 1 => if pgh N W T F tl p < phi N W T F tl (p : Int) N - plo N W T F tl (p : Int) N then phi N W T F tl (p : Int) N - plo N W T F tl (p : Int) N else pgh N W T F tl p
theorem phl_in (hV : SvC h o W H N T F G z tl tg) (hwf : wfS W H N T F G) {p : Nat} (hp : p < pM N W T) : (-12000000 ≤ plo N W T F tl (p : Int) N ∧ plo N W T F tl (p : Int) N ≤ 12000400) ∧ -12000000 ≤ phi N W T F tl (p : Int) N ∧ phi N W T F tl (p : Int) N ≤ 12000400 := by
  obtain ⟨ρ, hP⟩ := pP_isP (N := N) (W := W) (T := T)
  obtain ⟨r1, r2, r3⟩ := hP.2.1 p hp
  refine ⟨?_, ?_⟩
  · rcases plo_in hV hwf (p := (p : Int)) N (Nat.le_refl _) with ⟨-, i⟩ | i
    · exact absurd ⟨r2, r3⟩ (i _ r1)
    · exact i
  · rcases phi_in hV hwf (p := (p : Int)) N (Nat.le_refl _) with ⟨-, i⟩ | i
    · exact absurd ⟨r2, r3⟩ (i _ r1)
    · exact i
theorem pgh_in (hV : SvC h o W H N T F G z tl tg) (hwf : wfS W H N T F G) : ∀ n, n ≤ pM N W T → 0 ≤ pgh N W T F tl n ∧ pgh N W T F tl n ≤ 24000400
  | 0, _ => ⟨Int.le_refl _, by show (0 : Int) ≤ _; omega⟩
  | n + 1, hn => by
    have i := pgh_in hV hwf n (by omega)
    have r := phl_in hV hwf (p := n) (by omega)
    rw [pgh]
    split <;> omega
theorem s_pgh (hL : LX0 S o) (hV : SvC h o W H N T F G z tl tg) (hwf : wfS W H N T F G) : Zx 21 0 [zR o, zN, zN] [] S h = some (some (zI (pgh N W T F tl (pM N W T))), S, h) := by
  have hM : pM N W T ≤ 25 := by
    have hN := hwf.2.2.2.1
    obtain ⟨ρ, hP⟩ := pP_isP (N := N) (W := W) (T := T)
    by_cases c : pM N W T = 0
    · omega
    · have a := hP.le (pM N W T - 1) (by omega)
      have b := (hP.2.1 (pM N W T - 1) (by omega)).1
      omega
  have m6 : h (o + 1) 6 = (pM N W T : Int) := by
    obtain ⟨⟨f, hH⟩, -⟩ := hV
    exact hH.2.1
  rw [b21_0 hL]
  refine (z_chain (N := pM N W T) (X := fun p => Zx 21 4 [zR o, zI (pgh N W T F tl p), zI (p : Int)] [] S h) (fun p hp => ?_)).trans ?_
  · have r := phl_in hV hwf hp
    have i := pgh_in hV hwf p (by omega)
    show Zx 21 4 _ _ _ _ = Zx 21 4 _ _ _ _
    rw [b21_4 hL, m6, zw_nat (by omega), zw_nat (by omega), if_neg (by omega), b21_12 hL hL (s_phi hL hV hwf ⟨by omega, by omega⟩), b21_15 hL hL (s_plo hL hV hwf ⟨by omega, by omega⟩), b21_17 hL (s_max ⟨by omega, by omega⟩ ⟨by omega, by omega⟩), pgh]
    rfl
  · show Zx 21 4 _ _ _ _ = _
    rw [b21_4 hL, m6, if_pos (Int.le_refl _)]
/-- Heights.mirroredSum -/
theorem s_msu (hL : LX0 S o) (hV : SvC h o W H N T F G z tl tg) (hwf : wfS W H N T F G) {x y : Nat} (hx : x < W) (hy : y < H) (t1 : T (y * W + x) = true) (t2 : T (y * W + (W - 1 - x)) = true) : Zx 11 0 [zR o, zI (x : Int), zI (y : Int), zN] [] S h = some (some (zI (hgt F tl (y * W + x) + hgt F tl (y * W + (W - 1 - x)))), S, h) := by
  have hN := hwf.2.2.1
  have s0 := hV.sc.1
  have p1 := pix_lt hx hy
  have p2 := pix_lt (x := W - 1 - x) (show W - 1 - x < W by omega) hy
  have i1 : (y : Int) * (W : Int) + (x : Int) = ((y * W + x : Nat) : Int) := by rw [Int.natCast_add, Int.natCast_mul]
  have i2 : (y : Int) * (W : Int) + (W : Int) - 1 - (x : Int) = ((y * W + (W - 1 - x) : Nat) : Int) := by rw [Int.natCast_add, Int.natCast_mul]; omega
  rw [b11_0 hL, s0, i1, b11_10 hL hL (s_hgt hL hV hwf (by omega) t1), s0, i2, b11_21 hL (s_hgt hL hV hwf (by omega) t2)]
end HT2
