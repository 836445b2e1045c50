/-! RULES: things made (constructors) -/
section ZMK
variable {k i pc len a b m' : Nat} {z : Int} {ts : List (Int × Nat)} {mask : List Bool} {L L' st r : List zV} {S : zS} {h : zH} {o n ci f kd ix q : Nat} {rs : List (Option Nat)} {x y w : Int} {v : zV}
theorem zmake_of {nr : Nat} (hv : (zvalidS S && L.all (zvalid S.length) && st.all (zvalid S.length)) = true ∧ S.length < 1000000) : zmake kd n nr i L st S h = some (.inl (i + 1, L, zR S.length :: st, S ++ [(kd, n, List.replicate nr none)], zhn h S.length)) := by
  unfold zmake znext
  rw [if_pos hv]; rfl
theorem Zx_new (he : ztb k i = some (pc, len, .new ix, a, b, z, ts, mask)) (hz : zkill mask L = L') (hv : (zvalidS S && L'.all (zvalid S.length) && st.all (zvalid S.length)) = true ∧ S.length < 1000000) : Zx k i L st S h = Zx k (i + 1) L' (zR S.length :: st) (S ++ [(a, b, List.replicate b none)]) (zhn h S.length) := by
  refine Zx_next he ?_
  show zmake a b b i (zkill mask L) st S h = _
  rw [hz]; exact zmake_of hv
theorem Zx_newa {at_ : Jvm.ClassFile.ArrayType} (he : ztb k i = some (pc, len, .newarray at_, kd, b, z, ts, mask)) (hz : zkill mask L = L') (hk : kd < 104) (hx : zidx x 100000 = some n) (hv : (zvalidS S && L'.all (zvalid S.length) && st.all (zvalid S.length)) = true ∧ S.length < 1000000) : Zx k i L (zI x :: st) S h = Zx k (i + 1) L' (zR S.length :: st) (S ++ [(kd, n, [])]) (zhn h S.length) := by
  refine Zx_next he ?_
  show znewa kd i (zkill mask L) (zI x :: st) S h = _
  rw [hz]
  unfold znewa
  dsimp only
  rw [hx]
  dsimp only
  rw [if_pos hk]
  exact zmake_of hv
theorem Zx_newq (he : ztb k i = some (pc, len, .anewarray ix, kd, b, z, ts, mask)) (hz : zkill mask L = L') (hk : ¬ kd < 104) (hx : zidx x 100000 = some n) (hv : (zvalidS S && L'.all (zvalid S.length) && st.all (zvalid S.length)) = true ∧ S.length < 1000000) : Zx k i L (zI x :: st) S h = Zx k (i + 1) L' (zR S.length :: st) (S ++ [(kd, n, List.replicate n none)]) (zhn h S.length) := by
  refine Zx_next he ?_
  show znewa kd i (zkill mask L) (zI x :: st) S h = _
  rw [hz]
  unfold znewa
  dsimp only
  rw [hx]
  dsimp only
  rw [if_neg hk]
  exact zmake_of hv
theorem Zx_putR (he : ztb k i = some (pc, len, .putfield ix, ci, f, z, ts, mask)) (hz : zkill mask L = L') (hc : zC S o = (ci, n, rs)) (ht : zty (zTys ci f) = 3) : Zx k i L (zR q :: zR o :: r) S h = Zx k (i + 1) L' r (zrset S o f (some q)) h := by
  refine Zx_next he ?_
  show zput ci f i (zkill mask L) (zR q :: zR o :: r) S h = _
  rw [hz]
  unfold zput znext
  simp only [hc, if_true, ht]
theorem Zx_aast {j : Nat} (he : ztb k i = some (pc, len, .aastore, kd, b, z, ts, mask)) (hz : zkill mask L = L') (hc : zC S o = (kd, n, rs)) (hj : zidx x n = some j) (hq : kd = 104 ∧ (zC S q).1 = 7 ∨ kd = 105 ∧ (zC S q).1 = 2 ∨ kd = 106 ∧ (zC S q).1 = 8 ∨ kd = 107 ∧ (zC S q).1 = 0) : Zx k i L (zR q :: zI x :: zR o :: r) S h = Zx k (i + 1) L' r (zrset S o j (some q)) h := by
  refine Zx_next he ?_
  show zast kd i (zkill mask L) (zR q :: zI x :: zR o :: r) S h = _
  rw [hz]
  unfold zast znext
  simp only [hc, if_true, hj, if_pos hq]
theorem Zx_ci {as st' A st2 : List zV} {S1 : zS} {h1 : zH} (he : ztb k i = some (pc, len, .invokespecial ix, m', b, z, ts, mask)) (hz : zkill mask L = L') (hne : ¬ m' = 10000) (g1 : st[b - 1]? = some (zR o)) (g2 : st.take b = as) (g3 : st.drop b = st') (g4 : b ≤ st.length) (g5 : zwds st' ≤ 8) (g6 : zwds as ≤ znl m') (g7 : zent (znl m') as.reverse = A) (hr : Zx m' 0 A [] S h = some (none, S1, h1)) (hv : S1.length = S.length ∨ (L'.all (zvalid S.length) && st'.all (zvalid S.length)) = true) (g8 : st' = st2) : Zx k i L st S h = Zx k (i + 1) L' st2 S1 h1 := by
  subst g8; subst g7; subst g2; subst g3
  refine Zx_call he ?_ g6 hr hv
  show (if m' = 10000 then _ else zcallI m' b (zkill mask L) st) = _
  rw [hz, if_neg hne]
  unfold zcallI zcall
  rw [g1]
  dsimp only
  rw [if_pos ⟨g4, g5⟩]
/-- lists with an object last made, and what it makes behind it -/
theorem zC_mid {S1 : zS} {l : zS} {d : Nat} {c : Nat × Nat × List (Option Nat)} (h : l[d]? = some c) : zC (S1 ++ l) (S1.length + d) = c := by
  unfold zC
  rw [List.getD_eq_getElem?_getD, List.getElem?_append_right (by omega), show S1.length + d - S1.length = d by omega, h]; rfl
theorem zrset_mid {S1 : zS} {l : zS} {d f : Nat} {c : Nat × Nat × List (Option Nat)} {v : Option Nat} (h : l[d]? = some c) : zrset (S1 ++ l) (S1.length + d) f v = S1 ++ l.set d (c.1, c.2.1, c.2.2.set f v) := by
  unfold zrset
  rw [zC_mid h]
  have e := List.set_append_right (S1.length + d) (c.1, c.2.1, c.2.2.set f v) (s := S1) (t := l) (Nat.le_add_right _ _)
  rw [Nat.add_sub_cancel_left] at e
  exact e
end ZMK
