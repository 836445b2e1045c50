/-! ONE SOLUTION FOR EACH SCENE; the reference's readers -/
noncomputable def czo (N W : Nat) (T : Nat → Bool) (F G : Nat → Int) : Int := Classical.epsilon (fun z => isC N W T F G z)
noncomputable def ctl (N W : Nat) (T : Nat → Bool) (F G : Nat → Int) : Nat → Int := Classical.epsilon (fun x => isL N W T F G x)
noncomputable def ctg (N W : Nat) (T : Nat → Bool) (F G : Nat → Int) : Nat → Int := Classical.epsilon (fun x => isG N W T F G x)
section CAN
variable {S : zS} {n : Nat} {h : zH} {o W H N : Nat} {T : Nat → Bool} {F G : Nat → Int} {z : Int} {tl tg : Nat → Int}
theorem cz_C (hw : wfS W H N T F G) : isC N W T F G (czo N W T F G) := by
  obtain ⟨f, p, hb, hs, hp⟩ := sc_flow hw
  exact Classical.epsilon_spec (p := fun z => isC N W T F G z) ⟨_, (isC_flow hw hb hs hp).1⟩
theorem ct_L (hw : wfS W H N T F G) : isL N W T F G (ctl N W T F G) := by
  obtain ⟨x, h, -⟩ := ex_L hw
  exact Classical.epsilon_spec (p := fun x => isL N W T F G x) ⟨x, h⟩
theorem ct_G (hw : wfS W H N T F G) : isG N W T F G (ctg N W T F G) := by
  obtain ⟨x, h, -⟩ := ex_G hw
  exact Classical.epsilon_spec (p := fun x => isG N W T F G x) ⟨x, h⟩
def SvK (h : zH) (o W H N : Nat) (T : Nat → Bool) (F G : Nat → Int) : Prop := SvC h o W H N T F G (czo N W T F G) (ctl N W T F G) (ctg N W T F G)
def RtK (h : zH) (W H N : Nat) (T : Nat → Bool) (F G : Nat → Int) : Prop := RtC h W H N T F G (czo N W T F G) (ctl N W T F G) (ctg N W T F G)
theorem SvC.cn (hw : wfS W H N T F G) (hV : SvC h o W H N T F G z tl tg) : SvK h o W H N T F G := by
  obtain ⟨⟨f, hf⟩, l, g, c⟩ := hV
  have ez : z = czo N W T F G := hf.2.2.2.2.1.uniq (cz_C hw)
  refine ⟨⟨f, by rw [← ez]; exact hf⟩, ct_L hw, ct_G hw, fun k hk tk => ?_⟩
  rw [(ct_L hw).uniq l hk tk, (ct_G hw).uniq g hk tk]
  exact c k hk tk
theorem RtC.cn (hw : wfS W H N T F G) (hV : RtC h W H N T F G z tl tg) : RtK h W H N T F G := by
  obtain ⟨a, b, c, d, e, f, l, g, u, v⟩ := hV
  refine ⟨a, b, c, d, by rw [e]; exact f.uniq (cz_C hw), cz_C hw, ct_L hw, ct_G hw, fun k hk tk => ?_, fun k hk tk => ?_⟩
  · rw [(ct_L hw).uniq l hk tk]; exact u k hk tk
  · rw [(ct_G hw).uniq g hk tk]; exact v k hk tk
theorem SvC.cg2 {h' : zH} (hV : SvC h o W H N T F G z tl tg) (e : ∀ x k, o ≤ x → x ≤ o + 15 → h' x k = h x k) : SvC h' o W H N T F G z tl tg := by
  obtain ⟨⟨f, hf⟩, l, g, c⟩ := hV
  refine ⟨⟨f, hf.cg (fun x k a b _ _ => e x k a b)⟩, l, g, fun k hk tk => ?_⟩
  rw [e _ _ (by omega) (by omega), e _ _ (by omega) (by omega)]
  exact c k hk tk
theorem SvC.cost (hV : SvC h o W H N T F G z tl tg) : h o 1 = z := by
  obtain ⟨⟨f, hf⟩, -⟩ := hV
  exact hf.2.2.2.1
theorem SvC.pm (hV : SvC h o W H N T F G z tl tg) : h (o + 1) 6 = (pM N W T : Int) := by
  obtain ⟨⟨f, hf⟩, -⟩ := hV
  exact hf.2.1
theorem pM25 (hw : wfS W H N T F G) : pM N W T ≤ 25 := by
  obtain ⟨ρ, hP⟩ := pP_isP (N := N) (W := W) (T := T)
  by_cases c : pM N W T = 0
  · omega
  · obtain ⟨r1, r2, r3⟩ := hP.2.1 0 (by omega)
    exact (pP_in hw r1 r2).2.2
theorem RtC.hin (hV : RtC h W H N T F G z tl tg) (hw : wfS W H N T F G) {k : Nat} (hk : k < N) (tk : T k = true) : -500000000 ≤ hgt F tl k ∧ hgt F tl k ≤ 500000000 := by
  have t := hV.2.2.2.2.2.2.2.2.1 k hk tk
  have f := (hw.2.2.2.2 k hk).1
  unfold hgt
  omega
/-- FringeBenchModel.heightOf -/
theorem m_hgt (hV : RtC h W H N T F G z tl tg) (hw : wfS W H N T F G) {k : Nat} (hk : k < N) (tk : T k = true) : Zx 183 0 [zR 202, zI (k : Int)] [] (Z0 n) h = some (some (zI (hgt F tl k)), Z0 n, h) := by
  have h25 := hw.2.2.2.1
  rw [b183_0 (by intros; omega) (by intros; omega) (by intros; omega) (by intros; omega), Int.toNat_natCast, (hV.1.2.2.2.1 k hk).2.1, (hV.2.2.2.2.2.2.2.2.1 k hk tk).1]
  rfl
/-- the cell of a pixel's part -/
theorem RtC.po (hV : RtC h W H N T F G z tl tg) (hw : wfS W H N T F G) {k : Nat} (hk : k < N) : h 217 k = (if T k = true then pP N W T k else -1) ∧ zw (h 217 k) = (if T k = true then pP N W T k else -1) := by
  have e := hV.2.1.2 k hk
  refine ⟨e, ?_⟩
  rw [e]
  by_cases tk : T k = true
  · rw [if_pos tk]
    have := pP_in hw hk tk
    exact zw_id (by omega) (by omega)
  · rw [if_neg tk]; exact zwm1
theorem not_t {b : Bool} (h : ¬ b = true) : b = false := by
  cases b
  · rfl
  · exact absurd rfl h
/-- FringeBenchModel.wrong -/
theorem m_wro (hV : RtC h W H N T F G z tl tg) (hw : wfS W H N T F G) : Zx 186 0 [zR 202, zN, zN] [] (Z0 n) h = some (some (zI (su (fun k => if T k = true ∧ pW N W T F k ≠ hgt F tl k then 1 else 0) N)), Z0 n, h) := by
  have h25 := hw.2.2.2.1
  have e23 := hV.1.2.2.1
  rw [b186_0]
  refine (z_chain (N := N) (X := fun k => Zx 186 4 [zR 202, zI (su (fun k => if T k = true ∧ pW N W T F k ≠ hgt F tl k then 1 else 0) k), zI (k : Int)] [] (Z0 n) h) (fun k hk => ?_)).trans ?_
  · show Zx 186 4 _ _ _ _ = Zx 186 4 _ _ _ _
    have th := hV.1.th hk
    rw [b186_4 (by intros; omega) (by intros; omega) (by intros; omega) (by intros; omega), e23, zw_nat (by omega), zw_nat (by omega), if_neg (by omega), Int.toNat_natCast]
    by_cases c : zw (zb1 (h 216 k)) = 0
    · rw [if_pos c, b186_24, b186_25, su, if_neg (show ¬ (T k = true ∧ _) from fun q => by rw [th.mp c] at q; exact Bool.noConfusion q.1)]
      rfl
    · have tk : T k = true := by
        cases q : T k
        · exact absurd (th.mpr q) c
        · rfl
      have pw := pW_in (N := N) (W := W) (T := T) (F := F) h25 hw.f hk tk
      have hh := hV.hin hw hk tk
      rw [if_neg c, b186_20 (m_hgt hV hw hk tk), hV.2.2.2.1 k hk tk, zw_id (z := pW N W T F k) (by omega) (by omega), zw_id (z := hgt F tl k) (by omega) (by omega)]
      by_cases d : pW N W T F k = hgt F tl k
      · rw [if_pos d, b186_24, b186_25, su, if_neg (show ¬ (T k = true ∧ pW N W T F k ≠ hgt F tl k) from fun q => q.2 d)]
        rfl
      · rw [if_neg d, b186_25, su, if_pos (show T k = true ∧ pW N W T F k ≠ hgt F tl k from ⟨tk, d⟩)]
        rfl
  · show Zx 186 4 _ _ _ _ = _
    rw [b186_4 (by rw [e23]; intro q; exact absurd (Int.le_refl _) q) (by rw [e23]; intro q; exact absurd (Int.le_refl _) q) (by rw [e23]; intro q; exact absurd (Int.le_refl _) q) (by rw [e23]; intro q; exact absurd (Int.le_refl _) q), e23, if_pos (Int.le_refl _)]
/-- FringeBenchModel.leapsThere -/
theorem m_lth (hV : RtC h W H N T F G z tl tg) (hw : wfS W H N T F G) : Zx 188 0 [zR 202, zN, zN] [] (Z0 n) h = some (some (zI (su (fun j => if lea F tl (scf N W T j) (sct N W T j) ≠ 0 then 1 else 0) (scJ N W T))), Z0 n, h) := by
  have j40 : scJ N W T ≤ 40 := jl_40 hw.1 hw.2.1 hw.2.2.1
  have e33 := hV.2.2.1.1
  rw [b188_0]
  refine (z_chain (N := scJ N W T) (X := fun k => Zx 188 4 [zR 202, zI (su (fun j => if lea F tl (scf N W T j) (sct N W T j) ≠ 0 then 1 else 0) k), zI (k : Int)] [] (Z0 n) h) (fun k hk => ?_)).trans ?_
  · show Zx 188 4 _ _ _ _ = Zx 188 4 _ _ _ _
    have l := lpx_in hw hV.2.2.2.2.2.2.2.2.1 hk
    rw [b188_4, e33, zw_nat (by omega), zw_nat (by omega), if_neg (by omega), b188_11 (m_lea hV.2.2.1 hw hV.2.2.2.2.2.2.2.2.1 hk), zw_id (z := lpx N W T F tl k) (by omega) (by omega)]
    have el : lpx N W T F tl k = lea F tl (scf N W T k) (sct N W T k) := rfl
    rw [el]
    by_cases d : lea F tl (scf N W T k) (sct N W T k) = 0
    · rw [if_pos d, b188_16, su, if_neg (show ¬ (lea F tl (scf N W T k) (sct N W T k) ≠ 0) from fun q => q d)]
      rfl
    · rw [if_neg d, b188_16, su, if_pos (show lea F tl (scf N W T k) (sct N W T k) ≠ 0 from d)]
      rfl
  · show Zx 188 4 _ _ _ _ = _
    rw [b188_4, e33, if_pos (Int.le_refl _)]
/-- FringeBenchModel.sure -/
theorem m_sur (hV : RtC h W H N T F G z tl tg) (hw : wfS W H N T F G) : Zx 189 0 [zR 202, zN, zN] [] (Z0 n) h = some (some (zI (su (fun k => if T k = true ∧ tg k = tl k then 1 else 0) N)), Z0 n, h) := by
  have h25 := hw.2.2.2.1
  have e23 := hV.1.2.2.1
  rw [b189_0]
  refine (z_chain (N := N) (X := fun k => Zx 189 4 [zR 202, zI (su (fun k => if T k = true ∧ tg k = tl k then 1 else 0) k), zI (k : Int)] [] (Z0 n) h) (fun k hk => ?_)).trans ?_
  · show Zx 189 4 _ _ _ _ = Zx 189 4 _ _ _ _
    have th := hV.1.th hk
    rw [b189_4 (by intros; omega) (by intros; omega) (by intros; omega) (by intros; omega) (by intros; omega) (by intros; omega), e23, zw_nat (by omega), zw_nat (by omega), if_neg (by omega), Int.toNat_natCast]
    by_cases c : zw (zb1 (h 216 k)) = 0
    · rw [if_pos c, b189_25, b189_26, su, if_neg (show ¬ (T k = true ∧ _) from fun q => by rw [th.mp c] at q; exact Bool.noConfusion q.1)]
      rfl
    · have tk : T k = true := by
        cases q : T k
        · exact absurd (th.mpr q) c
        · rfl
      have a := hV.2.2.2.2.2.2.2.2.1 k hk tk
      have b := hV.2.2.2.2.2.2.2.2.2 k hk tk
      rw [if_neg c, a.1, b.1, zw_id (z := tl k) (by omega) (by omega), zw_id (z := tg k) (by omega) (by omega)]
      by_cases d : tg k = tl k
      · rw [if_neg (fun q => q d), b189_26, su, if_pos (show T k = true ∧ tg k = tl k from ⟨tk, d⟩)]
        rfl
      · rw [if_pos d, b189_25, b189_26, su, if_neg (show ¬ (T k = true ∧ tg k = tl k) from fun q => d q.2)]
        rfl
  · show Zx 189 4 _ _ _ _ = _
    rw [b189_4 (by rw [e23]; intro q; exact absurd (Int.le_refl _) q) (by rw [e23]; intro q; exact absurd (Int.le_refl _) q) (by rw [e23]; intro q; exact absurd (Int.le_refl _) q) (by rw [e23]; intro q; exact absurd (Int.le_refl _) q) (by rw [e23]; intro q; exact absurd (Int.le_refl _) q) (by rw [e23]; intro q; exact absurd (Int.le_refl _) q), e23, if_pos (Int.le_refl _)]
/-- FringeBenchModel.rough -/
theorem cstR_in (hV : RtC h W H N T F G z tl tg) (hw : wfS W H N T F G) {k : Nat} : ∀ m, m ≤ scJ N W T → 0 ≤ cst N W T F G tl k m ∧ cst N W T F G tl k m ≤ 20000000 * (m : Int)
  | 0, _ => ⟨Int.le_refl _, Int.le_refl _⟩
  | m + 1, hm => by
    have i := cstR_in hV hw (k := k) m (by omega)
    have l := lab_in hw hV.2.2.2.2.2.2.2.2.1 (j := m) (by omega)
    have e : cst N W T F G tl k (m + 1) = cst N W T F G tl k m + if scf N W T m = k ∨ sct N W T m = k then ab (lea F tl (scf N W T m) (sct N W T m)) * scu N W T G m else 0 := rfl
    have el : ab (lea F tl (scf N W T m) (sct N W T m)) * scu N W T G m = scu N W T G m * ab (lpx N W T F tl m) := Int.mul_comm _ _
    rw [e, el]
    split <;> omega
theorem rghR_in (hV : RtC h W H N T F G z tl tg) (hw : wfS W H N T F G) : ∀ k, k ≤ N → (-1 ≤ (rgh N W T F G tl k).1 ∧ (rgh N W T F G tl k).1 < 25) ∧ 0 ≤ (rgh N W T F G tl k).2 ∧ (rgh N W T F G tl k).2 ≤ 800000000
  | 0, _ => ⟨⟨Int.le_refl _, by show (-1 : Int) < 25; omega⟩, Int.le_refl _, by show (0 : Int) ≤ 800000000; omega⟩
  | k + 1, hk => by
    have h25 := hw.2.2.2.1
    have i := rghR_in hV hw k (by omega)
    have j40 : scJ N W T ≤ 40 := jl_40 hw.1 hw.2.1 hw.2.2.1
    have c := cstR_in hV hw (k := k) _ (Nat.le_refl _)
    unfold rgh
    by_cases q : (rgh N W T F G tl k).2 < cst N W T F G tl k (scJ N W T)
    · rw [if_pos q]
      show (-1 ≤ (k : Int) ∧ (k : Int) < 25) ∧ 0 ≤ cst N W T F G tl k (scJ N W T) ∧ cst N W T F G tl k (scJ N W T) ≤ 800000000
      omega
    · rw [if_neg q]; exact i
theorem m_rog (hV : RtC h W H N T F G z tl tg) (hw : wfS W H N T F G) : Zx 190 0 [zR 202, zN, zN, zN, zN, zN] [] (Z0 n) h = some (some (zI (rgh N W T F G tl N).1), Z0 n, h) := by
  have h25 := hw.2.2.2.1
  have e23 := hV.1.2.2.1
  have e33 := hV.2.2.1.1
  have j40 : scJ N W T ≤ 40 := jl_40 hw.1 hw.2.1 hw.2.2.1
  rw [b190_0]
  refine (z_chain (N := N) (X := fun k => Zx 190 6 [zR 202, zI (rgh N W T F G tl k).1, zI (rgh N W T F G tl k).2, zI (k : Int), zN, zN] [] (Z0 n) h) (fun k hk => ?_)).trans ?_
  · show Zx 190 6 _ _ _ _ = Zx 190 6 _ _ _ _
    have ri := rghR_in hV hw k (by omega)
    have ci := cstR_in hV hw (k := k) _ (Nat.le_refl _)
    have e := z_chain (N := scJ N W T) (X := fun j => Zx 190 14 [zR 202, zI (rgh N W T F G tl k).1, zI (rgh N W T F G tl k).2, zI (k : Int), zI (cst N W T F G tl k j), zI (j : Int)] [] (Z0 n) h) (fun j hj => by
      obtain ⟨a1, a2, a3, a4, a5⟩ := sc_at hw hj
      obtain ⟨c1, c2, c3, c4⟩ := hV.2.2.1.2 j hj
      have l := lpx_in hw hV.2.2.2.2.2.2.2.2.1 hj
      have ec : cst N W T F G tl k (j + 1) = cst N W T F G tl k j + if scf N W T j = k ∨ sct N W T j = k then ab (lea F tl (scf N W T j) (sct N W T j)) * scu N W T G j else 0 := rfl
      have el : ab (lea F tl (scf N W T j) (sct N W T j)) * scu N W T G j = scu N W T G j * ab (lpx N W T F tl j) := Int.mul_comm _ _
      have add : Zx 190 31 [zR 202, zI (rgh N W T F G tl k).1, zI (rgh N W T F G tl k).2, zI (k : Int), zN, zI (j : Int)] [zI (cst N W T F G tl k j)] (Z0 n) h = Zx 190 14 [zR 202, zI (rgh N W T F G tl k).1, zI (rgh N W T F G tl k).2, zI (k : Int), zI (cst N W T F G tl k j + scu N W T G j * ab (lpx N W T F tl j)), zI ((j + 1 : Nat) : Int)] [] (Z0 n) h := by
        rw [b190_31 (by intros; omega) (by intros; omega), Int.toNat_natCast, c4, b190_37 (m_lea hV.2.2.1 hw hV.2.2.2.2.2.2.2.2.1 hj), b190_38 (m_pla ⟨by omega, by omega⟩), b190_42]
        rfl
      show Zx 190 14 _ _ _ _ = Zx 190 14 [zR 202, zI (rgh N W T F G tl k).1, zI (rgh N W T F G tl k).2, zI (k : Int), zI (cst N W T F G tl k (j + 1)), zI ((j + 1 : Nat) : Int)] [] (Z0 n) h
      rw [ec, el, b190_14 (by intros; omega) (by intros; omega) (by intros; omega) (by intros; omega), e33, zw_nat (by omega), zw_nat (by omega), if_neg (by omega), Int.toNat_natCast, c1, c2, zw_nat (n := scf N W T j) (by omega), zw_nat (n := sct N W T j) (by omega), zw_nat (n := k) (by omega)]
      by_cases d1 : scf N W T j = k
      · rw [if_pos (show (scf N W T j : Int) = (k : Int) by omega), add, if_pos (Or.inl d1)]
      · rw [if_neg (show ¬ (scf N W T j : Int) = (k : Int) by omega)]
        by_cases d2 : sct N W T j = k
        · rw [if_neg (show ¬ ¬ (sct N W T j : Int) = (k : Int) by omega), add, if_pos (Or.inr d2)]
        · rw [if_pos (show ¬ (sct N W T j : Int) = (k : Int) by omega), b190_42, if_neg (fun q => by rcases q with q | q; exact d1 q; exact d2 q)]
          rfl)
    have e' : Zx 190 14 [zR 202, zI (rgh N W T F G tl k).1, zI (rgh N W T F G tl k).2, zI (k : Int), zI 0, zI 0] [] (Z0 n) h = Zx 190 14 [zR 202, zI (rgh N W T F G tl k).1, zI (rgh N W T F G tl k).2, zI (k : Int), zI (cst N W T F G tl k (scJ N W T)), zI (scJ N W T : Int)] [] (Z0 n) h := e
    have er : rgh N W T F G tl (k + 1) = if (rgh N W T F G tl k).2 < cst N W T F G tl k (scJ N W T) then ((k : Int), cst N W T F G tl k (scJ N W T)) else rgh N W T F G tl k := rfl
    rw [b190_6, e23, zw_nat (by omega), zw_nat (by omega), if_neg (by omega), e', b190_14 (by rw [e33]; intro q; exact absurd (Int.le_refl _) q) (by rw [e33]; intro q; exact absurd (Int.le_refl _) q) (by rw [e33]; intro q; exact absurd (Int.le_refl _) q) (by rw [e33]; intro q; exact absurd (Int.le_refl _) q), e33, if_pos (Int.le_refl _), zw_id (z := cst N W T F G tl k (scJ N W T)) (by omega) (by omega), zw_id (z := (rgh N W T F G tl k).2) (by omega) (by omega), er]
    by_cases c : (rgh N W T F G tl k).2 < cst N W T F G tl k (scJ N W T)
    · rw [if_neg (show ¬ cst N W T F G tl k (scJ N W T) ≤ (rgh N W T F G tl k).2 by omega), if_pos c, b190_52, zw_id (z := cst N W T F G tl k (scJ N W T)) (by omega) (by omega), zw_id (z := (rgh N W T F G tl k).2) (by omega) (by omega), if_neg (show ¬ cst N W T F G tl k (scJ N W T) ≤ (rgh N W T F G tl k).2 by omega), b190_59]
      rfl
    · rw [if_pos (show cst N W T F G tl k (scJ N W T) ≤ (rgh N W T F G tl k).2 by omega), if_neg c, b190_52, zw_id (z := cst N W T F G tl k (scJ N W T)) (by omega) (by omega), zw_id (z := (rgh N W T F G tl k).2) (by omega) (by omega), if_pos (show cst N W T F G tl k (scJ N W T) ≤ (rgh N W T F G tl k).2 by omega), b190_59]
      rfl
  · show Zx 190 6 _ _ _ _ = _
    rw [b190_6, e23, if_pos (Int.le_refl _)]
end CAN
