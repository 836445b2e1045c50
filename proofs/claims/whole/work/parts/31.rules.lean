/-! RULES: what an instruction does to the value of a run -/
theorem zkill_idem : ∀ (bs : List Bool) (L : List zV), zkill bs (zkill bs L) = zkill bs L
  | [], L => by simp [zkill]
  | true :: bs, [] => by simp [zkill]
  | false :: bs, [] => by simp [zkill]
  | true :: bs, v :: vs => by simp [zkill, zkill_idem bs vs]
  | false :: bs, v :: vs => by simp [zkill, zkill_idem bs vs]
section ZRULE
variable {k i pc len a b m' : Nat} {z : Int} {ts : List (Int × Nat)} {mask : List Bool} {L L' st r : List zV} {S : zS} {h : zH} {o n ci f kd ix : Nat} {rs : List (Option Nat)} {x y w : Int} {v : zV}
theorem Zx_norm {en : zE} (he : ztb k i = some en) : Zx k i L st S h = Zx k i (zkill en.2.2.2.2.2.2.2 L) st S h := Zx_kill he (zkill_idem _ _).symm
theorem Zx_nm {ins : Jvm.ClassFile.Instr} (he : ztb k i = some (pc, len, ins, a, b, z, ts, mask)) (hz : zkill mask L = L') : Zx k i L st S h = Zx k i L' st S h := by
  subst hz
  exact Zx_kill he (zkill_idem _ _).symm
def zgv (ci f : Nat) (h : zH) (o : Nat) (rs : List (Option Nat)) : Option zV := match zty (zTys ci f) with
  | 0 => some (zI (h o f))
  | 1 => some (zL (h o f))
  | 2 => some (zI (zb1 (h o f)))
  | 3 => (rs.getD f none).map zR
  | _ => none
theorem Zx_get (he : ztb k i = some (pc, len, .getfield ix, ci, f, z, ts, mask)) (hz : zkill mask L = L') (hc : zC S o = (ci, n, rs)) (hv : zgv ci f h o rs = some v) : Zx k i L (zR o :: r) S h = Zx k (i + 1) L' (v :: r) S h := by
  refine Zx_next he ?_
  show zget ci f i (zkill mask L) (zR o :: r) S h = _
  rw [hz]
  unfold zget znext
  simp only [hc, if_true]
  unfold zgv at hv
  split at hv
  · rename_i ht; rw [ht]; cases hv; rfl
  · rename_i ht; rw [ht]; cases hv; rfl
  · rename_i ht; rw [ht]; cases hv; rfl
  · rename_i ht
    rw [ht]
    cases hg : rs.getD f none with
    | none => rw [hg] at hv; cases hv
    | some q => rw [hg] at hv; cases hv; rfl
  · cases hv
theorem Zx_put (he : ztb k i = some (pc, len, .putfield ix, ci, f, z, ts, mask)) (hz : zkill mask L = L') (hc : zC S o = (ci, n, rs)) (ht : zty (zTys ci f) = 0) : Zx k i L (zI x :: zR o :: r) S h = Zx k (i + 1) L' r S (zu h o f x) := by
  refine Zx_next he ?_
  show zput ci f i (zkill mask L) (zI x :: zR o :: r) S h = _
  rw [hz]
  unfold zput znext
  simp only [hc, if_true, ht]
theorem Zx_putL (he : ztb k i = some (pc, len, .putfield ix, ci, f, z, ts, mask)) (hz : zkill mask L = L') (hc : zC S o = (ci, n, rs)) (ht : zty (zTys ci f) = 1) : Zx k i L (zL x :: zR o :: r) S h = Zx k (i + 1) L' r S (zu h o f x) := by
  refine Zx_next he ?_
  show zput ci f i (zkill mask L) (zL x :: zR o :: r) S h = _
  rw [hz]
  unfold zput znext
  simp only [hc, if_true, ht]
theorem Zx_putB (he : ztb k i = some (pc, len, .putfield ix, ci, f, z, ts, mask)) (hz : zkill mask L = L') (hc : zC S o = (ci, n, rs)) (ht : zty (zTys ci f) = 2) (hx : x = 0 ∨ x = 1) : Zx k i L (zI x :: zR o :: r) S h = Zx k (i + 1) L' r S (zu h o f x) := by
  refine Zx_next he ?_
  show zput ci f i (zkill mask L) (zI x :: zR o :: r) S h = _
  rw [hz]
  unfold zput znext
  simp only [hc, if_true, ht, if_pos hx]
theorem zidx_of (h1 : 0 ≤ x) (h2 : x < (n : Int)) (hn : n ≤ 2147483647) : zidx x n = some x.toNat := by
  have e := zw_id (z := x) (by omega) (by omega)
  unfold zidx
  rw [e, if_pos ⟨h1, h2⟩]
def zav (kd : Nat) (h : zH) (o j : Nat) (rs : List (Option Nat)) : Option zV := match kd with
  | 100 => some (zI (h o j))
  | 101 => some (zI (zb8 (h o j)))
  | 102 => some (zI (zb1 (h o j)))
  | 103 => some (zL (h o j))
  | _ => (rs.getD j none).map zR
theorem zald_of (hc : zC S o = (kd, n, rs)) (h1 : 0 ≤ x) (h2 : x < (n : Int)) (hn : n ≤ 2147483647) (hv : zav kd h o x.toNat rs = some v) : zald kd i L (zI x :: zR o :: r) S h = some (.inl (i + 1, L, v :: r, S, h)) := by
  unfold zald znext
  simp only [hc, if_true, zidx_of h1 h2 hn]
  unfold zav at hv
  split at hv
  · cases hv; rfl
  · cases hv; rfl
  · cases hv; rfl
  · cases hv; rfl
  · rename_i n1 n2 n3 n4
    cases hg : rs.getD x.toNat none with
    | none => rw [hg] at hv; cases hv
    | some q =>
      rw [hg] at hv
      cases hv
      split
      · rename_i q1; exact absurd rfl n1
      · rename_i q1; exact absurd rfl n2
      · rename_i q1; exact absurd rfl n3
      · rename_i q1; exact absurd rfl n4
      · rfl
theorem Zx_iald (he : ztb k i = some (pc, len, .iaload, 100, b, z, ts, mask)) (hz : zkill mask L = L') (hc : zC S o = (100, n, rs)) (hn : n ≤ 2147483647) (h1 : 0 ≤ x) (h2 : x < (n : Int)) {j : Nat} (hj : x.toNat = j) : Zx k i L (zI x :: zR o :: r) S h = Zx k (i + 1) L' (zI (h o j) :: r) S h := by
  subst hj
  refine Zx_next he ?_
  rw [show zkill (pc, len, Jvm.ClassFile.Instr.iaload, 100, b, z, ts, mask).2.2.2.2.2.2.2 L = L' from hz]
  exact zald_of hc h1 h2 hn rfl
theorem Zx_bald (he : ztb k i = some (pc, len, .baload, 101, b, z, ts, mask)) (hz : zkill mask L = L') (hc : zC S o = (101, n, rs)) (hn : n ≤ 2147483647) (h1 : 0 ≤ x) (h2 : x < (n : Int)) {j : Nat} (hj : x.toNat = j) : Zx k i L (zI x :: zR o :: r) S h = Zx k (i + 1) L' (zI (zb8 (h o j)) :: r) S h := by
  subst hj
  refine Zx_next he ?_
  rw [show zkill (pc, len, Jvm.ClassFile.Instr.baload, 101, b, z, ts, mask).2.2.2.2.2.2.2 L = L' from hz]
  exact zald_of hc h1 h2 hn rfl
theorem Zx_zald (he : ztb k i = some (pc, len, .baload, 102, b, z, ts, mask)) (hz : zkill mask L = L') (hc : zC S o = (102, n, rs)) (hn : n ≤ 2147483647) (h1 : 0 ≤ x) (h2 : x < (n : Int)) {j : Nat} (hj : x.toNat = j) : Zx k i L (zI x :: zR o :: r) S h = Zx k (i + 1) L' (zI (zb1 (h o j)) :: r) S h := by
  subst hj
  refine Zx_next he ?_
  rw [show zkill (pc, len, Jvm.ClassFile.Instr.baload, 102, b, z, ts, mask).2.2.2.2.2.2.2 L = L' from hz]
  exact zald_of hc h1 h2 hn rfl
theorem Zx_lald (he : ztb k i = some (pc, len, .laload, 103, b, z, ts, mask)) (hz : zkill mask L = L') (hc : zC S o = (103, n, rs)) (hn : n ≤ 2147483647) (h1 : 0 ≤ x) (h2 : x < (n : Int)) {j : Nat} (hj : x.toNat = j) : Zx k i L (zI x :: zR o :: r) S h = Zx k (i + 1) L' (zL (h o j) :: r) S h := by
  subst hj
  refine Zx_next he ?_
  rw [show zkill (pc, len, Jvm.ClassFile.Instr.laload, 103, b, z, ts, mask).2.2.2.2.2.2.2 L = L' from hz]
  exact zald_of hc h1 h2 hn rfl
theorem Zx_aald {q : Nat} (he : ztb k i = some (pc, len, .aaload, kd, b, z, ts, mask)) (hz : zkill mask L = L') (hk : 104 ≤ kd ∧ kd < 108) (hc : zC S o = (kd, n, rs)) (hn : n ≤ 2147483647) (h1 : 0 ≤ x) (h2 : x < (n : Int)) (hq : rs.getD x.toNat none = some q) : Zx k i L (zI x :: zR o :: r) S h = Zx k (i + 1) L' (zR q :: r) S h := by
  refine Zx_next he ?_
  rw [show zkill (pc, len, Jvm.ClassFile.Instr.aaload, kd, b, z, ts, mask).2.2.2.2.2.2.2 L = L' from hz]
  refine zald_of hc h1 h2 hn ?_
  have e : zav kd h o x.toNat rs = (rs.getD x.toNat none).map zR := by
    rcases (show kd = 104 ∨ kd = 105 ∨ kd = 106 ∨ kd = 107 by omega) with rfl | rfl | rfl | rfl <;> rfl
  rw [e, hq]; rfl
theorem zast_of (hc : zC S o = (kd, n, rs)) (h1 : 0 ≤ x) (h2 : x < (n : Int)) (hn : n ≤ 2147483647) (hk : 100 ≤ kd ∧ kd < 103) : zast kd i L (zI y :: zI x :: zR o :: r) S h = some (.inl (i + 1, L, r, S, zu h o x.toNat y)) := by
  unfold zast znext
  simp only [hc, if_true, zidx_of h1 h2 hn, if_pos hk]
theorem Zx_iast (he : ztb k i = some (pc, len, .iastore, 100, b, z, ts, mask)) (hz : zkill mask L = L') (hc : zC S o = (100, n, rs)) (hn : n ≤ 2147483647) (h1 : 0 ≤ x) (h2 : x < (n : Int)) {j : Nat} (hj : x.toNat = j) : Zx k i L (zI y :: zI x :: zR o :: r) S h = Zx k (i + 1) L' r S (zu h o j y) := by
  subst hj
  refine Zx_next he ?_
  rw [show zkill (pc, len, Jvm.ClassFile.Instr.iastore, 100, b, z, ts, mask).2.2.2.2.2.2.2 L = L' from hz]
  exact zast_of (kd := 100) hc h1 h2 hn (by decide)
theorem Zx_bast (he : ztb k i = some (pc, len, .bastore, kd, b, z, ts, mask)) (hz : zkill mask L = L') (hc : zC S o = (kd, n, rs)) (hk : 101 ≤ kd ∧ kd < 103) (hn : n ≤ 2147483647) (h1 : 0 ≤ x) (h2 : x < (n : Int)) {j : Nat} (hj : x.toNat = j) : Zx k i L (zI y :: zI x :: zR o :: r) S h = Zx k (i + 1) L' r S (zu h o j y) := by
  subst hj
  refine Zx_next he ?_
  rw [show zkill (pc, len, Jvm.ClassFile.Instr.bastore, kd, b, z, ts, mask).2.2.2.2.2.2.2 L = L' from hz]
  exact zast_of (kd := kd) hc h1 h2 hn ⟨by omega, hk.2⟩
theorem Zx_last (he : ztb k i = some (pc, len, .lastore, 103, b, z, ts, mask)) (hz : zkill mask L = L') (hc : zC S o = (103, n, rs)) (hn : n ≤ 2147483647) (h1 : 0 ≤ x) (h2 : x < (n : Int)) {j : Nat} (hj : x.toNat = j) : Zx k i L (zL y :: zI x :: zR o :: r) S h = Zx k (i + 1) L' r S (zu h o j y) := by
  subst hj
  refine Zx_next he ?_
  rw [show zkill (pc, len, Jvm.ClassFile.Instr.lastore, 103, b, z, ts, mask).2.2.2.2.2.2.2 L = L' from hz]
  show zast 103 i L' (zL y :: zI x :: zR o :: r) S h = _
  unfold zast znext
  simp only [hc, if_true, zidx_of h1 h2 hn]
theorem Zx_alen (he : ztb k i = some (pc, len, .arraylength, kd, b, z, ts, mask)) (hz : zkill mask L = L') (hk : 100 ≤ kd ∧ kd < 108) (hc : zC S o = (kd, n, rs)) : Zx k i L (zR o :: r) S h = Zx k (i + 1) L' (zI (n : Int) :: r) S h := by
  refine Zx_next he ?_
  show zlen kd i (zkill mask L) (zR o :: r) S h = _
  rw [hz]
  unfold zlen znext
  dsimp only
  rw [if_pos (show kd = 108 ∧ o = 0 ∨ (zC S o).1 = kd ∧ 100 ≤ kd ∧ kd < 108 from Or.inr ⟨by rw [hc], hk⟩), hc]
theorem Zx_sld (he : ztb k i = some (pc, len, .iaload, 108, b, z, ts, mask)) (hz : zkill mask L = L') (hc : zC S 0 = (108, n, rs)) (hn : n ≤ 2147483647) (h1 : 0 ≤ x) (h2 : x < (n : Int)) {j : Nat} (hj : x.toNat = j) : Zx k i L (zI x :: zR 0 :: r) S h = Zx k (i + 1) L' (zI (h 0 j) :: r) S h := by
  subst hj
  refine Zx_next he ?_
  show zsld i (zkill mask L) (zI x :: zR 0 :: r) S h = _
  rw [hz]
  unfold zsld znext
  simp only [hc, zidx_of h1 h2 hn]
theorem Zx_slen (he : ztb k i = some (pc, len, .arraylength, 108, b, z, ts, mask)) (hz : zkill mask L = L') (hc : zC S 0 = (108, n, rs)) : Zx k i L (zR 0 :: r) S h = Zx k (i + 1) L' (zI (n : Int) :: r) S h := by
  refine Zx_next he ?_
  show zlen 108 i (zkill mask L) (zR 0 :: r) S h = _
  rw [hz]
  unfold zlen znext
  dsimp only
  rw [if_pos (show 108 = 108 ∧ 0 = 0 ∨ (zC S 0).1 = 108 ∧ 100 ≤ 108 ∧ 108 < 108 from Or.inl ⟨rfl, rfl⟩), hc]
theorem Zx_div (he : ztb k i = some (pc, len, .idiv, a, b, z, ts, mask)) (hz : zkill mask L = L') (hb : ¬ zw y = 0) (hw : zw y = w) : Zx k i L (zI y :: zI x :: r) S h = Zx k (i + 1) L' (zI (Int.tdiv (zw x) w) :: r) S h := by
  subst hw
  refine Zx_next he ?_
  show zdiv Int.tdiv i (zkill mask L) (zI y :: zI x :: r) S h = _
  rw [hz]
  unfold zdiv znext
  simp only [if_neg hb]
theorem Zx_rem (he : ztb k i = some (pc, len, .irem, a, b, z, ts, mask)) (hz : zkill mask L = L') (hb : ¬ zw y = 0) (hw : zw y = w) : Zx k i L (zI y :: zI x :: r) S h = Zx k (i + 1) L' (zI (Int.tmod (zw x) w) :: r) S h := by
  subst hw
  refine Zx_next he ?_
  show zdiv Int.tmod i (zkill mask L) (zI y :: zI x :: r) S h = _
  rw [hz]
  unfold zdiv znext
  simp only [if_neg hb]
/-- a condition as a proposition -/
def zcp (c : Jvm.ClassFile.Cond) (a b : Int) : Prop := zcond c a b = true
theorem Zx_cond {X Y : Option (Option zV × zS × zH)} {P : Prop} [Decidable P] {c : Jvm.ClassFile.Cond} {off : Int} (he : ztb k i = some (pc, len, .if_icmp c off, a, b, z, ts, mask)) (hz : zkill mask L = L') (hP : zcond c (zw x) (zw y) = decide P) (hT : P → Zx k a L' r S h = X) (hF : ¬ P → Zx k (i + 1) L' r S h = Y) : Zx k i L (zI y :: zI x :: r) S h = if P then X else Y := by
  by_cases hp : P
  · rw [if_pos hp, ← hT hp]
    refine Zx_next he ?_
    show zcmp c a i (zkill mask L) (zI y :: zI x :: r) S h = _
    rw [hz]
    unfold zcmp zbranch znext
    simp only [hP, decide_eq_true hp, if_true]
  · rw [if_neg hp, ← hF hp]
    refine Zx_next he ?_
    show zcmp c a i (zkill mask L) (zI y :: zI x :: r) S h = _
    rw [hz]
    unfold zcmp zbranch znext
    simp [hP, hp]
theorem Zx_cond0 {X Y : Option (Option zV × zS × zH)} {P : Prop} [Decidable P] {c : Jvm.ClassFile.Cond} {off : Int} (he : ztb k i = some (pc, len, .ifCond c off, a, b, z, ts, mask)) (hz : zkill mask L = L') (hP : zcond c (zw x) 0 = decide P) (hT : P → Zx k a L' r S h = X) (hF : ¬ P → Zx k (i + 1) L' r S h = Y) : Zx k i L (zI x :: r) S h = if P then X else Y := by
  by_cases hp : P
  · rw [if_pos hp, ← hT hp]
    refine Zx_next he ?_
    show zif c a i (zkill mask L) (zI x :: r) S h = _
    rw [hz]
    unfold zif zbranch znext
    simp only [hP, decide_eq_true hp, if_true]
  · rw [if_neg hp, ← hF hp]
    refine Zx_next he ?_
    show zif c a i (zkill mask L) (zI x :: r) S h = _
    rw [hz]
    unfold zif zbranch znext
    simp [hP, hp]
theorem Zx_retB (he : ztb k i = some (pc, len, .ireturn, 1, b, z, ts, mask)) (hx : x = 0 ∨ x = 1) : Zx k i L [zI x] S h = some (some (zI x), S, h) := by
  refine Zx_ret he ?_
  show (if 1 = 0 ∨ x = 0 ∨ x = 1 then zback (some (zI x)) else none) = _
  rw [if_pos (Or.inr hx)]; rfl
/-- no such method -/
theorem Zx_out {k i : Nat} {L st : List zV} {S : zS} {h : zH} (hq : ztb k i = none) : Zx k i L st S h = none := Zx_none (fun f => by
  cases f with
  | zero => rfl
  | succ f => rw [zex, hq])
/-- a call of an instance's method that makes nothing -/
theorem Zx_cv {as st' A st2 : List zV} {ov : Option zV} {h1 : zH} (he : ztb k i = some (pc, len, .invokevirtual ix, m', b, z, ts, mask)) (hz : zkill mask L = L') (g1 : st[b - 1]? = some (zR o)) (hc : zC S o = (ci, n, rs)) (hci : (ci : Int) = z) (g2 : st.take b = as) (g3 : st.drop b = st') (g4 : b ≤ st.length) (g5 : zwds st' ≤ 8) (g6 : zwds as ≤ znl m') (g7 : zent (znl m') as.reverse = A) (hr : Zx m' 0 A [] S h = some (ov, S, h1)) (g8 : ov.toList ++ st' = st2) : Zx k i L st S h = Zx k (i + 1) L' st2 S h1 := by
  subst g8; subst g7; subst g2; subst g3
  refine Zx_call he ?_ g6 hr (Or.inl rfl)
  have n1 : ¬ m' = 10002 := fun q => by
    rw [q, Zx_out (zmi_out (by decide))] at hr
    cases hr
  have n2 : ¬ m' = 10003 := fun q => by
    rw [q, Zx_out (zmi_out (by decide))] at hr
    cases hr
  show (if m' = 10002 then zsln i (zkill mask L) st S h else if m' = 10003 then zsch i (zkill mask L) st S h else zcallV m' b z (zkill mask L) st S) = _
  rw [if_neg n1, if_neg n2, hz]
  unfold zcallV zcall
  rw [g1]
  dsimp only
  rw [hc, if_pos hci, if_pos ⟨g4, g5⟩]
theorem Zx_cs {as st' A st2 : List zV} {ov : Option zV} {h1 : zH} (he : ztb k i = some (pc, len, .invokestatic ix, m', b, z, ts, mask)) (hz : zkill mask L = L') (hne : ¬ m' = 10001) (g2 : st.take b = as) (g3 : st.drop b = st') (g4 : b ≤ st.length) (g5 : zwds st' ≤ 8) (g6 : zwds as ≤ znl m') (g7 : zent (znl m') as.reverse = A) (hr : Zx m' 0 A [] S h = some (ov, S, h1)) (g8 : ov.toList ++ st' = st2) : Zx k i L st S h = Zx k (i + 1) L' st2 S h1 := by
  subst g8; subst g7; subst g2; subst g3
  refine Zx_call he ?_ g6 hr (Or.inl rfl)
  show (if m' = 10001 then zcopy i (zkill mask L) st S h else zcall m' b (zkill mask L) st) = _
  rw [hz, if_neg hne]
  unfold zcall
  rw [if_pos ⟨g4, g5⟩]
theorem Zx_copy {o1 o2 n1 n2 a1 a2 a3 : Nat} {r1 r2 : List (Option Nat)} (he : ztb k i = some (pc, len, .invokestatic ix, 10001, b, z, ts, mask)) (hz : zkill mask L = L') (hc1 : zC S o1 = (kd, n1, r1)) (hc2 : zC S o2 = (kd, n2, r2)) (hk : kd = 100 ∨ kd = 101) (h1 : 0 ≤ zw x) (h2 : 0 ≤ zw y) (h3 : 0 ≤ zw w) (h4 : zw x + zw w ≤ (n1 : Int)) (h5 : zw y + zw w ≤ (n2 : Int)) (e1 : (zw x).toNat = a1) (e2 : (zw y).toNat = a2) (e3 : (zw w).toNat = a3) : Zx k i L [zI w, zI y, zR o2, zI x, zR o1] S h = Zx k (i + 1) L' [] S (zcpy h o1 a1 o2 a2 a3) := by
  subst e1; subst e2; subst e3
  refine Zx_next he ?_
  show (if 10001 = 10001 then zcopy i (zkill mask L) [zI w, zI y, zR o2, zI x, zR o1] S h else zcall 10001 b (zkill mask L) [zI w, zI y, zR o2, zI x, zR o1]) = _
  rw [if_pos rfl, hz]
  unfold zcopy znext
  dsimp only
  rw [if_pos ⟨by rw [hc1, hc2], by rw [hc1]; exact hk, h1, h2, h3, by rw [hc1]; exact h4, by rw [hc2]; exact h5⟩]
end ZRULE
