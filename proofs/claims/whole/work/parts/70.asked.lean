/-! THE CLASS'S HEIGHTS: what is asked of them -/
section HTS
variable {S : zS} {h : zH} {o W H N : Nat} {T : Nat → Bool} {F G : Nat → Int} {z : Int} {tl tg : Nat → Int}
/-- height, leap -/
def hgt (F tl : Nat → Int) (k : Nat) : Int := F k + 400 * tl k
def lea (F tl : Nat → Int) (a b : Nat) : Int := tl b - tl a + ofv F a b
theorem SvC.sc (hV : SvC h o W H N T F G z tl tg) : ScC h (o + 1) W H N T F G := by
  obtain ⟨⟨f, hH⟩, -⟩ := hV
  exact hH.1
theorem SvC.jo (hV : SvC h o W H N T F G z tl tg) : JoC h o N (scJ N W T) (scf N W T) (sct N W T) (scu N W T G) (scc N W T F) := by
  obtain ⟨⟨f, hH⟩, -⟩ := hV
  exact hH.2.2.2.2.2.1
theorem SvC.pw (hV : SvC h o W H N T F G z tl tg) {k : Nat} (hk : k < N) (tk : T k = true) : h (o + 5) k = pP N W T k ∧ h (o + 6) k = pW N W T F k := by
  obtain ⟨⟨f, hH⟩, -⟩ := hV
  exact hH.2.2.1 k hk tk
theorem SvC.hin (hV : SvC h o W H N T F G z tl tg) (hwf : wfS W H N T F G) {k : Nat} (hk : k < N) (tk : T k = true) : -12000000 ≤ hgt F tl k ∧ hgt F tl k ≤ 12000400 := by
  have a := (hV.2.2.2 k hk tk).2.2.1
  have b := hwf.f k hk tk
  unfold hgt
  omega
/-- Heights.heightOf -/
theorem s_hgt (hL : LX0 S o) (hV : SvC h o W H N T F G z tl tg) (hwf : wfS W H N T F G) {k : Nat} (hk : k < N) (tk : T k = true) : Zx 10 0 [zR o, zI (k : Int)] [] S h = some (some (zI (hgt F tl k)), S, h) := by
  have hN := hwf.2.2.2.1
  have a := (hV.2.2.2 k hk tk).1
  have b : h (o + 3) k = F k := (hV.sc.2.2.2 k hk).2.1
  rw [b10_0 hL (by intros; omega) (by intros; omega) (by intros; omega) (by intros; omega), Int.toNat_natCast, a, b]
  rfl
/-- Heights.leapOf -/
theorem s_lea (hL : LX0 S o) (hV : SvC h o W H N T F G z tl tg) (hwf : wfS W H N T F G) {a b : Nat} (ha : a < N) (ta : T a = true) (hb : b < N) (tb : T b = true) : Zx 12 0 [zR o, zI (a : Int), zI (b : Int)] [] S h = some (some (zI (lea F tl a b)), S, h) := by
  have hN := hwf.2.2.2.1
  have sk := hV.sc.2.2.2
  have wk := hwf.2.2.2.2
  have fa : h (o + 1 + 2) a = F a := (sk a ha).2.1
  have fb : h (o + 1 + 2) b = F b := (sk b hb).2.1
  have sd := s_sdif (h := h) (o := o + 1) hL.scene (a := a) (b := b) (by omega) (by omega) (by rw [fa]; exact (wk a ha).1.1) (by rw [fa]; exact (wk a ha).1.2) (by rw [fb]; exact (wk b hb).1.1) (by rw [fb]; exact (wk b hb).1.2)
  rw [fa, fb] at sd
  rw [b12_0 hL, b12_2 hL hL (s_hgt hL hV hwf hb tb), b12_5 hL hL (s_hgt hL hV hwf ha ta), b12_11 hL.scene sd]
  have e := ofv_e (F := F) (a := a) (b := b)
  have r1 := hV.hin hwf ha ta
  have r2 := hV.hin hwf hb tb
  have p := pdif_in (a := a) (b := b) (x := F a) (y := F b) (wk a ha).1 (wk b hb).1
  have v : hgt F tl b - hgt F tl a - pdif a b (F a) (F b) = 400 * lea F tl a b := by
    rw [e]
    unfold hgt lea
    omega
  rw [zw_id (by omega) (by omega), v, Int.mul_tdiv_cancel_left _ (by decide)]
theorem lea_in (hV : SvC h o W H N T F G z tl tg) (hwf : wfS W H N T F G) {a b : Nat} (ha : a < N) (ta : T a = true) (hb : b < N) (tb : T b = true) : -70000 ≤ lea F tl a b ∧ lea F tl a b ≤ 70000 := by
  have e := ofv_e (F := F) (a := a) (b := b)
  have p := pdif_in (a := a) (b := b) (x := F a) (y := F b) (hwf.2.2.2.2 a ha).1 (hwf.2.2.2.2 b hb).1
  have fa := hwf.f a ha ta
  have fb := hwf.f b hb tb
  have r1 := (hV.2.2.2 a ha ta).2.2.1
  have r2 := (hV.2.2.2 b hb tb).2.2.1
  unfold lea
  omega
/-- Heights.countLeaps -/
theorem s_cle (hL : LX0 S o) (hV : SvC h o W H N T F G z tl tg) (hwf : wfS W H N T F G) : Zx 13 0 [zR o, zN, zN] [] S h = some (some (zI (su (fun j => if lea F tl (scf N W T j) (sct N W T j) ≠ 0 then 1 else 0) (scJ N W T))), S, h) := by
  have hN := hwf.2.2.2.1
  obtain ⟨j1, j2, j3, j4, j5⟩ := hV.jo
  rw [b13_0 hL]
  refine (z_chain (N := scJ N W T) (X := fun i => Zx 13 4 [zR o, zI (su (fun j => if lea F tl (scf N W T j) (sct N W T j) ≠ 0 then 1 else 0) i), zI (i : Int)] [] S h) (fun i hi => ?_)).trans ?_
  · obtain ⟨k1, k2, k3, k4, k5, k6, k7, k8, k9⟩ := j5 i hi
    obtain ⟨a1, a2, a3, a4, a5⟩ := sc_at hwf hi
    have li := lea_in hV hwf k5 a3 k6 a4
    show Zx 13 4 _ _ _ _ = Zx 13 4 _ _ _ _
    rw [b13_4 hL (by intros; omega) (by intros; omega) (by intros; omega) (by intros; omega), j3, zw_nat (by omega), zw_nat (by omega), if_neg (by omega), Int.toNat_natCast, k1, k2, b13_17 hL hL (s_lea hL hV hwf k5 a3 k6 a4), b13_20 hL, b13_20 hL, zw_id (by omega) (by omega), su]
    by_cases q : lea F tl (scf N W T i) (sct N W T i) = 0
    · rw [if_pos q, if_neg (fun g => g q), Int.add_zero]; rfl
    · rw [if_neg q, if_pos q]; rfl
  · show Zx 13 4 _ _ _ _ = _
    rw [b13_4 hL (by intros; omega) (by rw [j3]; intro q; exact absurd (Int.le_refl _) q) (by intros; omega) (by rw [j3]; intro q; exact absurd (Int.le_refl _) q), j3, if_pos (Int.le_refl _)]
/-- Heights.countWrong -/
theorem s_cwr (hL : LX0 S o) (hV : SvC h o W H N T F G z tl tg) (hwf : wfS W H N T F G) : Zx 14 0 [zR o, zN, zN] [] S h = some (some (zI (su (fun k => if T k = true ∧ pW N W T F k ≠ hgt F tl k then 1 else 0) N)), S, h) := by
  have hN := hwf.2.2.2.1
  have hS := hV.sc
  have s2 := hS.2.2.1
  rw [b14_0 hL]
  refine (z_chain (N := N) (X := fun i => Zx 14 4 [zR o, zI (su (fun k => if T k = true ∧ pW N W T F k ≠ hgt F tl k then 1 else 0) i), zI (i : Int)] [] S h) (fun i hi => ?_)).trans ?_
  · have ht : zw (zb1 (h (o + 2) i)) = 0 ↔ T i = false := hS.th hi
    show Zx 14 4 _ _ _ _ = Zx 14 4 _ _ _ _
    rw [b14_4 hL (by intros; omega) (by intros; omega) (by intros; omega) (by intros; omega), s2, zw_nat (by omega), zw_nat (by omega), if_neg (by omega), Int.toNat_natCast, su]
    by_cases q : T i = true
    · have p := hV.pw hi q
      have r := hV.hin hwf hi q
      have pw := (pW_in (W := W) hN hwf.f hi q).2
      rw [if_neg (fun g => by rw [ht.mp g] at q; cases q), b14_22 hL hL (s_hgt hL hV hwf hi q), p.2, zw_id (by omega) (by omega), zw_id (by omega) (by omega), b14_25 hL, b14_25 hL]
      by_cases c : pW N W T F i = hgt F tl i
      · rw [if_pos c, if_neg (fun g => g.2 c), Int.add_zero]; rfl
      · rw [if_neg c, if_pos ⟨q, c⟩]; rfl
    · rw [if_pos (ht.mpr (Bool.eq_false_iff.mpr q)), b14_25 hL, if_neg (fun g => q g.1), Int.add_zero]; rfl
  · show Zx 14 4 _ _ _ _ = _
    rw [b14_4 hL (by intros; omega) (by rw [s2]; intro q; exact absurd (Int.le_refl _) q) (by intros; omega) (by rw [s2]; intro q; exact absurd (Int.le_refl _) q), s2, if_pos (Int.le_refl _)]
/-- Heights.countSure -/
theorem s_csu (hL : LX0 S o) (hV : SvC h o W H N T F G z tl tg) (hwf : wfS W H N T F G) : Zx 15 0 [zR o, zN, zN] [] S h = some (some (zI (su (fun k => if T k = true ∧ tg k = tl k then 1 else 0) N)), S, h) := by
  have hN := hwf.2.2.2.1
  have hS := hV.sc
  have s2 := hS.2.2.1
  rw [b15_0 hL]
  refine (z_chain (N := N) (X := fun i => Zx 15 4 [zR o, zI (su (fun k => if T k = true ∧ tg k = tl k then 1 else 0) i), zI (i : Int)] [] S h) (fun i hi => ?_)).trans ?_
  · have ht : zw (zb1 (h (o + 2) i)) = 0 ↔ T i = false := hS.th hi
    show Zx 15 4 _ _ _ _ = Zx 15 4 _ _ _ _
    rw [b15_4 hL (by intros; omega) (by intros; omega) (by intros; omega) (by intros; omega) (by intros; omega) (by intros; omega), s2, zw_nat (by omega), zw_nat (by omega), if_neg (by omega), Int.toNat_natCast, su, b15_25 hL, b15_25 hL]
    by_cases q : T i = true
    · obtain ⟨p1, p2, p3, p4⟩ := hV.2.2.2 i hi q
      rw [if_neg (fun g => by rw [ht.mp g] at q; cases q), p1, p2, zw_id (by omega) (by omega), zw_id (by omega) (by omega)]
      by_cases c : tg i = tl i
      · rw [if_neg (fun g => g c), if_pos ⟨q, c⟩]; rfl
      · rw [if_pos c, if_neg (fun g => c g.2), Int.add_zero]; rfl
    · rw [if_pos (ht.mpr (Bool.eq_false_iff.mpr q)), if_neg (fun g => q g.1), Int.add_zero]; rfl
  · show Zx 15 4 _ _ _ _ = _
    rw [b15_4 hL (by intros; omega) (by rw [s2]; intro q; exact absurd (Int.le_refl _) q) (by intros; omega) (by rw [s2]; intro q; exact absurd (Int.le_refl _) q) (by intros; omega) (by rw [s2]; intro q; exact absurd (Int.le_refl _) q), s2, if_pos (Int.le_refl _)]
/-- Heights.countAbove -/
theorem s_cab (hL : LX0 S o) (hV : SvC h o W H N T F G z tl tg) (hwf : wfS W H N T F G) {y : Int} (hy : zint y) : Zx 16 0 [zR o, zI y, zN, zN] [] S h = some (some (zI (su (fun k => if T k = true ∧ y < hgt F tl k then 1 else 0) N)), S, h) := by
  have hN := hwf.2.2.2.1
  have hS := hV.sc
  have s2 := hS.2.2.1
  rw [b16_0 hL]
  refine (z_chain (N := N) (X := fun i => Zx 16 4 [zR o, zI y, zI (su (fun k => if T k = true ∧ y < hgt F tl k then 1 else 0) i), zI (i : Int)] [] S h) (fun i hi => ?_)).trans ?_
  · have ht : zw (zb1 (h (o + 2) i)) = 0 ↔ T i = false := hS.th hi
    show Zx 16 4 _ _ _ _ = Zx 16 4 _ _ _ _
    rw [b16_4 hL (by intros; omega) (by intros; omega), s2, zw_nat (by omega), zw_nat (by omega), if_neg (by omega), Int.toNat_natCast, su]
    by_cases q : T i = true
    · have r := hV.hin hwf hi q
      rw [if_neg (fun g => by rw [ht.mp g] at q; cases q), b16_17 hL hL (s_hgt hL hV hwf hi q), zw_id (by omega) (by omega), hy.e, b16_21 hL, b16_21 hL]
      by_cases c : y < hgt F tl i
      · rw [if_neg (by omega), if_pos ⟨q, c⟩]; rfl
      · rw [if_pos (by omega), if_neg (fun g => c g.2), Int.add_zero]; rfl
    · rw [if_pos (ht.mpr (Bool.eq_false_iff.mpr q)), b16_21 hL, if_neg (fun g => q g.1), Int.add_zero]; rfl
  · show Zx 16 4 _ _ _ _ = _
    rw [b16_4 hL (by intros; omega) (by rw [s2]; intro q; exact absurd (Int.le_refl _) q), s2, if_pos (Int.le_refl _)]
end HTS
