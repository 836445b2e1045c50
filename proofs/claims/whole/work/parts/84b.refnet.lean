/-! THE REFERENCE: the net of a step -/
def rm (h : zH) (a b : Nat) : Int := h 224 (27 * a + b)
def adr (h : zH) (a b : Nat) (y : Int) : zH := zu h 224 (27 * a + b) (h 224 (27 * a + b) + y)
def chr (h : zH) (k : Nat) (y : Int) : zH := if y ≤ 0 then adr h k 26 (-y) else adr h 25 k y
/-- the reference's parts -/
def PaC (h : zH) (N W : Nat) (T : Nat → Bool) : Prop := h 202 32 = (pM N W T : Int) ∧ ∀ k, k < N → h 217 k = if T k = true then pP N W T k else -1
theorem PaC.cg {N W : Nat} {T : Nat → Bool} {h h' : zH} (hP : PaC h N W T) (e : ∀ x k, (x = 202 ∧ k = 32) ∨ x = 217 → h' x k = h x k) : PaC h' N W T := ⟨by rw [e _ _ (by omega)]; exact hP.1, fun k hk => by rw [e _ _ (by omega)]; exact hP.2 k hk⟩
theorem TuC.cg {N : Nat} {T : Nat → Bool} {x : Nat → Int} {B : Int} {h h' : zH} (hT : TuC h N T x B) (e : ∀ k, h' 222 k = h 222 k) : TuC h' N T x B := fun k hk tk => by rw [e]; exact hT k hk tk
section NET
variable {n : Nat} {h : zH} {W H N : Nat} {T : Nat → Bool} {F G : Nat → Int}
theorem adr_eq {a b a' b' : Nat} {y : Int} (hb : b < 27) (hb' : b' < 27) : rm (adr h a b y) a' b' = rm h a' b' + if a' = a ∧ b' = b then y else 0 := by
  unfold rm adr
  by_cases c : a' = a ∧ b' = b
  · obtain ⟨rfl, rfl⟩ := c
    rw [zu_eq, if_pos ⟨rfl, rfl⟩]
  · rw [zu_off (by omega), if_neg c]; omega
theorem adr_off {a b x k : Nat} {y : Int} (hx : x ≠ 224) : adr h a b y x k = h x k := by
  unfold adr
  rw [zu_off (by omega)]
theorem chr_off {k x i : Nat} {y : Int} (hx : x ≠ 224) : chr h k y x i = h x i := by
  unfold chr
  split
  · exact adr_off hx
  · exact adr_off hx
theorem cut_adr {a b : Nat} {y : Int} {R : Nat → Bool} (ha : a < 27) (hb : b < 27) : cutc 27 (rm (adr h a b y)) R = cutc 27 (rm h) R + if R a = true ∧ R b = false then y else 0 := by
  unfold cutc
  have e1 : ∀ i, i < 27 → su (fun j => if R i = true ∧ R j = false then rm (adr h a b y) i j else 0) 27 = if i = a then su (fun j => if R a = true ∧ R j = false then rm h a j else 0) 27 + (if R a = true ∧ R b = false then y else 0) else su (fun j => if R i = true ∧ R j = false then rm h i j else 0) 27 := fun i _ => by
    by_cases c : i = a
    · subst c
      rw [if_pos rfl]
      have s := su_set (f := fun j => if R i = true ∧ R j = false then rm h i j else 0) (n := 27) (a := b) (x := (if R i = true ∧ R b = false then rm h i b + y else 0)) hb
      (try dsimp only at s)
      have s2 : su (fun j => if R i = true ∧ R j = false then rm (adr h i b y) i j else 0) 27 = su (fun k => if k = b then (if R i = true ∧ R b = false then rm h i b + y else 0) else (if R i = true ∧ R k = false then rm h i k else 0)) 27 := su_congr (fun j hj => by
        (try dsimp only)
        by_cases d : j = b
        · subst d
          rw [if_pos rfl, adr_eq hb hb, if_pos (show i = i ∧ j = j from ⟨rfl, rfl⟩)]
        · rw [if_neg d, adr_eq hb hj, if_neg (show ¬ (i = i ∧ j = b) from fun z => d z.2), Int.add_zero])
      rw [s2, s]
      split <;> omega
    · rw [if_neg c]
      refine su_congr (fun j hj => ?_)
      (try dsimp only)
      rw [adr_eq hb hj, if_neg (show ¬ (i = a ∧ j = b) from fun z => c z.1), Int.add_zero]
  rw [su_congr e1, su_set (f := fun i => su (fun j => if R i = true ∧ R j = false then rm h i j else 0) 27) ha]
  omega
theorem m_add {a b : Nat} {y : Int} (ha : a < 27) (hb : b < 27) : Zx 175 0 [zR 202, zI (a : Int), zI (b : Int), zI y] [] (Z0 n) h = some (none, Z0 n, adr h a b y) := by
  rw [b175_0 (by intros; omega) (by intros; omega) (by intros; omega) (by intros; omega), show ((27 : Int) * (a : Int) + (b : Int)).toNat = 27 * a + b by omega]
  rfl
theorem m_cha {k : Nat} {y : Int} (hk : k < 25) (hy : zint y) : Zx 176 0 [zR 202, zI (k : Int), zI y] [] (Z0 n) h = some (none, Z0 n, chr h k y) := by
  rw [b176_0, hy.e]
  unfold chr
  by_cases c : y ≤ 0
  · rw [if_pos c, if_pos c, b176_13 (show Zx 175 0 [zR 202, zI (k : Int), zI 26, zI (-y)] [] (Z0 n) h = _ from m_add (a := k) (b := 26) (by omega) (by omega)), b176_14]
  · rw [if_neg c, if_neg c, b176_6 (show Zx 175 0 [zR 202, zI 25, zI (k : Int), zI y] [] (Z0 n) h = _ from m_add (a := 25) (b := k) (by omega) (by omega)), b176_14]
theorem chr_bd {k a b : Nat} {y B : Int} (hk : k < 25) (hb : b < 27) (hB : 0 ≤ rm h a b ∧ rm h a b ≤ B) (hy : -9 ≤ y ∧ y ≤ 9) : 0 ≤ rm (chr h k y) a b ∧ rm (chr h k y) a b ≤ B + 9 := by
  unfold chr
  split
  · rw [adr_eq (by omega) hb]; split <;> omega
  · rw [adr_eq (by omega) hb]; split <;> omega
theorem cut_chr {k : Nat} {y : Int} {R : Nat → Bool} (hk : k < 25) (h1 : R 25 = true) (h2 : R 26 = false) : cutc 27 (rm (chr h k y)) R = cutc 27 (rm h) R + if R k = true then (if y ≤ 0 then -y else 0) else (if y ≤ 0 then 0 else y) := by
  unfold chr
  by_cases c : y ≤ 0
  · rw [if_pos c, cut_adr (by omega) (by omega), if_pos c, if_pos c, h2]
    cases R k
    · rw [if_neg (by decide), if_neg (by decide)]
    · rw [if_pos ⟨rfl, rfl⟩, if_pos rfl]
  · rw [if_neg c, cut_adr (by omega) (by omega), if_neg c, if_neg c, h1]
    cases R k
    · rw [if_pos ⟨rfl, rfl⟩, if_neg (by decide)]
    · rw [if_neg (by decide), if_pos rfl]
/-- what one joint's step costs: first less none, and the rest -/
theorem ab_st {u d y : Int} (hu : 1 ≤ u ∧ u ≤ 9) (hy : y = 1 ∨ y = -1) : (-9 ≤ u * ab (d - y) - u * ab d ∧ u * ab (d - y) - u * ab d ≤ 9) ∧ 0 ≤ u * ab (d - y) + u * ab (d + y) - 2 * (u * ab d) ∧ u * ab (d - y) + u * ab (d + y) - 2 * (u * ab d) ≤ 18 := by
  have e1 : u * ab (d - y) - u * ab d = u * (ab (d - y) - ab d) := by rw [Int.mul_sub]
  have e2 : u * ab (d - y) + u * ab (d + y) - 2 * (u * ab d) = u * (ab (d - y) + ab (d + y) - 2 * ab d) := by
    rw [Int.mul_sub, Int.mul_add, Int.mul_left_comm]
  have q1 : ab (d - y) - ab d = 1 ∨ ab (d - y) - ab d = -1 := by
    have a := ab_e (d - y)
    have b := ab_e d
    omega
  have q2 : ab (d - y) + ab (d + y) - 2 * ab d = 0 ∨ ab (d - y) + ab (d + y) - 2 * ab d = 2 := by
    have a := ab_e (d - y)
    have b := ab_e d
    have c := ab_e (d + y)
    omega
  rw [e1, e2]
  refine ⟨?_, ?_⟩
  · rcases q1 with q | q <;> rw [q] <;> omega
  · rcases q2 with q | q <;> rw [q] <;> omega
def jst (N W : Nat) (T : Nat → Bool) (F G x : Nat → Int) (y : Int) (h : zH) (j : Nat) : zH := adr (chr (chr h (scf N W T j) (scu N W T G j * ab (lpx N W T F x j - y) - scu N W T G j * ab (lpx N W T F x j))) (sct N W T j) (scu N W T G j * ab (lpx N W T F x j) - scu N W T G j * ab (lpx N W T F x j - y))) (scf N W T j) (sct N W T j) (scu N W T G j * ab (lpx N W T F x j - y) + scu N W T G j * ab (lpx N W T F x j + y) - 2 * (scu N W T G j * ab (lpx N W T F x j)))
theorem lpx_stp {x : Nat → Int} {A : Nat → Bool} {y : Int} {j : Nat} : lpx N W T F (stp x A y) j = lpx N W T F x j + (if A (sct N W T j) = true then y else 0) - (if A (scf N W T j) = true then y else 0) := by
  unfold lpx stp
  split <;> split <;> omega
theorem jst_cut {x : Nat → Int} {y : Int} {R : Nat → Bool} {j : Nat} (hw : wfS W H N T F G) (hj : j < scJ N W T) (hy : y = 1 ∨ y = -1) (h1 : R 25 = true) (h2 : R 26 = false) : cutc 27 (rm (jst N W T F G x y h j)) R = cutc 27 (rm h) R + (ab (scu N W T G j * ab (lpx N W T F x j - y) - scu N W T G j * ab (lpx N W T F x j)) + scu N W T G j * ab (lpx N W T F (stp x (fun v => !R v) y) j) - scu N W T G j * ab (lpx N W T F x j)) := by
  obtain ⟨a1, a2, a3, a4, a5⟩ := sc_at hw hj
  have h25 := hw.2.2.2.1
  unfold jst
  rw [cut_adr (by omega) (by omega), cut_chr (by omega) h1 h2, cut_chr (by omega) h1 h2, lpx_stp]
  (try dsimp only)
  have ce := ab_e (scu N W T G j * ab (lpx N W T F x j - y) - scu N W T G j * ab (lpx N W T F x j))
  cases R (scf N W T j) <;> cases R (sct N W T j)
  · simp only [Bool.not_true, Bool.not_false, if_true, if_false, true_and, and_true, false_and, and_false, reduceCtorEq, Int.add_zero, Int.sub_zero, Int.add_sub_cancel]
    split <;> split <;> omega
  · simp only [Bool.not_true, Bool.not_false, if_true, if_false, true_and, and_true, false_and, and_false, reduceCtorEq, Int.add_zero, Int.sub_zero, Int.add_sub_cancel]
    split <;> split <;> omega
  · simp only [Bool.not_true, Bool.not_false, if_true, if_false, true_and, and_true, false_and, and_false, reduceCtorEq, Int.add_zero, Int.sub_zero, Int.add_sub_cancel]
    split <;> split <;> omega
  · simp only [Bool.not_true, Bool.not_false, if_true, if_false, true_and, and_true, false_and, and_false, reduceCtorEq, Int.add_zero, Int.sub_zero, Int.add_sub_cancel]
    split <;> split <;> omega
theorem jst_bd {x : Nat → Int} {y B : Int} {j a b : Nat} (hw : wfS W H N T F G) (hj : j < scJ N W T) (hy : y = 1 ∨ y = -1) (hb : b < 27) (hB : 0 ≤ rm h a b ∧ rm h a b ≤ B) : 0 ≤ rm (jst N W T F G x y h j) a b ∧ rm (jst N W T F G x y h j) a b ≤ B + 36 := by
  obtain ⟨a1, a2, a3, a4, a5⟩ := sc_at hw hj
  have h25 := hw.2.2.2.1
  have s := ab_st (d := lpx N W T F x j) (y := y) (scu_in (G := G) hw hj) hy
  have c1 := chr_bd (h := h) (k := scf N W T j) (a := a) (b := b) (y := scu N W T G j * ab (lpx N W T F x j - y) - scu N W T G j * ab (lpx N W T F x j)) (B := B) (by omega) hb hB (by omega)
  have c2 := chr_bd (k := sct N W T j) (a := a) (b := b) (y := scu N W T G j * ab (lpx N W T F x j) - scu N W T G j * ab (lpx N W T F x j - y)) (B := B + 9) (by omega) hb c1 (by omega)
  unfold jst
  rw [adr_eq (by omega) hb]
  split <;> omega
theorem jst_off {x : Nat → Int} {y : Int} {j a k : Nat} (ha : a ≠ 224) : jst N W T F G x y h j a k = h a k := by
  unfold jst
  rw [adr_off ha, chr_off ha, chr_off ha]
/-- one joint in layNet -/
theorem m_jst {x : Nat → Int} {y : Int} {j : Nat} (hC : CpC h N W T F G) (hw : wfS W H N T F G) (hT : TuC h N T x 1100000) (hj : j < scJ N W T) (hy : y = 1 ∨ y = -1) : Zx 177 40 [zR 202, zI y, zI (j : Int), zN, zN, zN, zN] [] (Z0 n) h = Zx 177 40 [zR 202, zI y, zI ((j + 1 : Nat) : Int), zN, zN, zN, zN] [] (Z0 n) (jst N W T F G x y h j) := by
  obtain ⟨a1, a2, a3, a4, a5⟩ := sc_at hw hj
  obtain ⟨c1, c2, c3, c4⟩ := hC.2 j hj
  have h25 := hw.2.2.2.1
  have j40 : scJ N W T ≤ 40 := jl_40 hw.1 hw.2.1 hw.2.2.1
  have l := lpx_in hw hT hj
  have s := ab_st (d := lpx N W T F x j) (y := y) (scu_in (G := G) hw hj) hy
  rw [b177_40, hC.1, zw_nat (by omega), zw_nat (by omega), if_neg (by omega), b177_46 (m_lea hC hw hT hj) (by intros; omega) (by intros; omega), Int.toNat_natCast, c4, b177_53 (m_pla ⟨by omega, by omega⟩) (by intros; omega) (by intros; omega), Int.toNat_natCast, c4, b177_63 (m_pla ⟨by omega, by omega⟩) (by intros; omega) (by intros; omega), Int.toNat_natCast, c4, b177_73 (m_pla ⟨by omega, by omega⟩) (by intros; omega) (by intros; omega), Int.toNat_natCast, c1, b177_84 (m_cha (by omega) ⟨by omega, by omega⟩) (by intros; omega) (by intros; omega), Int.toNat_natCast, chr_off (by omega), c2, b177_93 (m_cha (by omega) ⟨by omega, by omega⟩) (by intros; omega) (by intros; omega) (by intros; omega) (by intros; omega), Int.toNat_natCast, chr_off (by omega), chr_off (by omega), chr_off (by omega), chr_off (by omega), c1, c2, b177_110 (m_add (by omega) (by omega))]
  rfl
end NET
