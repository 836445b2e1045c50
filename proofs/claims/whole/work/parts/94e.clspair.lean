/-! PAIRS: the class's fours -/
section CPA
variable {S : zS} {h : zH} {W H N : Nat} {T : Nat → Bool} {F G : Nat → Int} {κ : Int}
theorem fq_arn (hκ : κ ≠ -9 ∧ κ ≠ -100) {x y : Int} : arn W H T F x y 1 1 = κ ↔ four1 W H T F x y = κ := by
  unfold four1
  by_cases c : arn W H T F x y 1 1 = -100
  · rw [if_pos c, c]
    exact ⟨fun z => absurd z.symm hκ.2, fun z => absurd z.symm hκ.1⟩
  · rw [if_neg c]
theorem s_mn {a b : Int} (ha : zint a) (hb : zint b) : Zx 241 0 [zI a, zI b] [] S h = some (some (zI (mn a b)), S, h) := by
  rw [s_min ha hb]
  have : (if b < a then b else a) = mn a b := by
    unfold mn
    split <;> split <;> omega
  rw [this]
def CoC (u : zH) (W H la lb lc : Nat) (l : List Nat) : Prop := ∀ j, j < l.length → u la j = ((l.getD j 0 % W : Nat) : Int) ∧ u lb j = ((l.getD j 0 / W : Nat) : Int) ∧ u lc j = ed W H (l.getD j 0)
theorem CoC.cg {u u' : zH} {la lb lc : Nat} {l : List Nat} (hC : CoC u W H la lb lc l) (e : ∀ x k, (x = la ∨ x = lb ∨ x = lc) → u' x k = u x k) : CoC u' W H la lb lc l := fun j hj => by
  rw [e _ _ (Or.inl rfl), e _ _ (Or.inr (Or.inl rfl)), e _ _ (Or.inr (Or.inr rfl))]
  exact hC j hj
theorem ScC.cg9 {h' : zH} {o : Nat} (hS : ScC h o W H N T F G) (e : ∀ x k, o ≤ x → x ≤ o + 3 → h' x k = h x k) : ScC h' o W H N T F G := by
  obtain ⟨a, b, c, d⟩ := hS
  refine ⟨by rw [e _ _ (by omega) (by omega)]; exact a, by rw [e _ _ (by omega) (by omega)]; exact b, by rw [e _ _ (by omega) (by omega)]; exact c, fun k hk => ?_⟩
  rw [e _ _ (by omega) (by omega), e _ _ (by omega) (by omega), e _ _ (by omega) (by omega)]
  exact d k hk
theorem fl_15 (hw : wfS W H N T F G) (hκ : κ ≠ -9) {y x : Nat} (hy : y < H - 1) (hx : x < W - 1) : (fl W H T F κ (y * W + x)).length ≤ 15 := by
  obtain ⟨⟨w1, w2⟩, ⟨w3, w4⟩, w5, w6, -⟩ := id hw
  have c := fl_cnt hw hκ y (by omega) x (by omega)
  have b1 : ∀ (z m : Nat), su (fun x => if four1 W H T F (x : Int) (z : Int) = κ then 1 else 0) m ≤ 1 * m := fun z m => (su_bd (B := 1) (f := fun x : Nat => if four1 W H T F (x : Int) (z : Int) = κ then 1 else 0) m (fun i _ => by split <;> omega)).2
  have b1' : ∀ (z m : Nat), 0 ≤ su (fun x : Nat => if four1 W H T F (x : Int) (z : Int) = κ then (1 : Int) else 0) m := fun z m => su_nonneg (fun i _ => by split <;> omega)
  have b2 := (su_bd (B := 4) (f := fun z : Nat => su (fun x => if four1 W H T F (x : Int) (z : Int) = κ then 1 else 0) (W - 1)) y (fun i _ => by
    have q := b1 i (W - 1)
    have q' := b1' i (W - 1)
    omega)).2
  have b3 := b1 y x
  omega
/-- Pairing.collect -/
theorem s_col {o la lb lc : Nat} {r1 r2 r3 : List (Option Nat)} (hL : LX5 S o) (ca : zC S la = (100, 16, r1)) (cb : zC S lb = (100, 16, r2)) (cc : zC S lc = (100, 16, r3)) (hd : la ≠ lb ∧ la ≠ lc ∧ lb ≠ lc) (ho : o + 3 < la ∧ o + 3 < lb ∧ o + 3 < lc) (hS : ScC h o W H N T F G) (hw : wfS W H N T F G) (hκ : κ = 1 ∨ κ = -1) : ∃ h', Zx 24 0 [zR o, zI κ, zR la, zR lb, zR lc, zN, zN, zN] [] S h = some (some (zI ((fl W H T F κ N).length : Int)), S, h') ∧ CoC h' W H la lb lc (fl W H T F κ N) ∧ ∀ x i, x ≠ la → x ≠ lb → x ≠ lc → h' x i = h x i := by
  obtain ⟨⟨w1, w2⟩, ⟨w3, w4⟩, w5, w6, wk⟩ := id hw
  have k9 : κ ≠ -9 := by omega
  have zκ : zw κ = κ := zw_id (by omega) (by omega)
  obtain ⟨h1, e1, C1, f1⟩ := z_inv (N := H - 1) (X := fun y (u : zH) => Zx 24 4 [zR o, zI κ, zR la, zR lb, zR lc, zI ((fl W H T F κ (y * W)).length : Int), zI (y : Int), zN] [] S u) (I := fun y u => CoC u W H la lb lc (fl W H T F κ (y * W)) ∧ ∀ x i, x ≠ la → x ≠ lb → x ≠ lc → u x i = h x i) (s := h) ⟨fun j hj => by rw [Nat.zero_mul] at hj; exact absurd hj (Nat.not_lt_zero j), fun _ _ _ _ _ => rfl⟩ (fun y u hy Iu => by
    have r1 : u o 1 = (H : Int) := by rw [Iu.2 _ _ (by omega) (by omega) (by omega)]; exact hS.2.1
    obtain ⟨u', e, C', f'⟩ := z_inv (N := W - 1) (X := fun x (u : zH) => Zx 24 12 [zR o, zI κ, zR la, zR lb, zR lc, zI ((fl W H T F κ (y * W + x)).length : Int), zI (y : Int), zI (x : Int)] [] S u) (I := fun x u => CoC u W H la lb lc (fl W H T F κ (y * W + x)) ∧ ∀ x i, x ≠ la → x ≠ lb → x ≠ lc → u x i = h x i) (s := u) Iu (fun x u hx Iu => by
      obtain ⟨C, f⟩ := Iu
      have Su : ScC u o W H N T F G := hS.cg9 (fun z k a b => f z k (by omega) (by omega) (by omega))
      have km : (y * W + x) % W = x := by rw [Nat.mul_comm, Nat.mul_add_mod]; exact Nat.mod_eq_of_lt (by omega)
      have kd : (y * W + x) / W = y := by rw [Nat.mul_comm, Nat.mul_add_div (by omega), Nat.div_eq_of_lt (by omega), Nat.add_zero]
      have l15 := fl_15 hw k9 hy hx
      have ar := arn_in hw (x := (x : Int)) (y := (y : Int)) (w := 1) (v := 1)
      have st := b24_12 (S := S) (h := u) (l0 := o) (l1 := κ) (l2 := la) (l3 := lb) (l4 := lc) (l5 := ((fl W H T F κ (y * W + x)).length : Int)) (l6 := (y : Int)) (l7 := (x : Int)) hL ca (by omega) cb (by omega) cc (by omega)
      rw [Su.1, zw_id (z := (W : Int) - 1) (by omega) (by omega), zw_nat (n := x) (by omega), if_neg (by omega), zw_nat (n := (fl W H T F κ (y * W + x)).length) (by omega), if_neg (by omega), b24_26 hL ca (by omega) cb (by omega) cc (by omega) hL (s_arn hL Su hw (x := (x : Int)) (y := (y : Int)) (w := 1) (v := 1) ⟨by omega, by omega⟩ ⟨by omega, by omega⟩ ⟨by omega, by omega⟩ ⟨by omega, by omega⟩) (by intros; omega) (by intros; omega) (by intros; omega) (by intros; omega), zw_id (z := arn W H T F (x : Int) (y : Int) 1 1) (by omega) (by omega), zκ] at st
      by_cases c : arn W H T F (x : Int) (y : Int) 1 1 = κ
      · have q : fq W H T F κ (y * W + x) = true := by
          unfold fq; rw [km, kd]; exact decide_eq_true ((fq_arn ⟨by omega, by omega⟩).mp c)
        have es := fl_s q
        have g1 : ∀ (w : zH), (∀ z k, z ≠ la → z ≠ lb → w z k = u z k) → w o 0 = (W : Int) ∧ w o 1 = (H : Int) := fun w e => ⟨by rw [e _ _ (by omega) (by omega)]; exact Su.1, by rw [e _ _ (by omega) (by omega)]; exact Su.2.1⟩
        have m1 : mn ((x : Int) + 1) ((y : Int) + 1) ≤ 100 ∧ 0 ≤ mn ((x : Int) + 1) ((y : Int) + 1) := by unfold mn; split <;> omega
        have m2 : mn ((W : Int) - 1 - (x : Int)) ((H : Int) - 1 - (y : Int)) ≤ 100 ∧ 0 ≤ mn ((W : Int) - 1 - (x : Int)) ((H : Int) - 1 - (y : Int)) := by unfold mn; split <;> omega
        obtain ⟨p1, p2⟩ := g1 (zu (zu u la (fl W H T F κ (y * W + x)).length (x : Int)) lb (fl W H T F κ (y * W + x)).length (y : Int)) (fun z k a b => by rw [zu_off (by omega), zu_off (by omega)])
        rw [if_neg (fun z => z c), Int.toNat_natCast, b24_45 hL ca (by omega) cb (by omega) cc (by omega) cc (by omega) (s_mn ⟨by omega, by omega⟩ ⟨by omega, by omega⟩), p1, p2, b24_58 hL ca (by omega) cb (by omega) cc (by omega) cc (by omega) (s_mn ⟨by omega, by omega⟩ ⟨by omega, by omega⟩), b24_59 hL ca (by omega) cb (by omega) cc (by omega) cc (by omega) (s_mn ⟨by omega, by omega⟩ ⟨by omega, by omega⟩) (by omega) (by omega), Int.toNat_natCast, b24_62 hL ca (by omega) cb (by omega) cc (by omega)] at st
        refine ⟨_, st.trans (by rw [← Nat.add_assoc, es, List.length_append]; rfl), fun j hj => ?_, fun z k a b c => by rw [zu_off (by omega), zu_off (by omega), zu_off (by omega)]; exact f z k a b c⟩
        rw [← Nat.add_assoc, es] at hj ⊢
        rw [List.length_append] at hj
        have hj : j < (fl W H T F κ (y * W + x)).length + 1 := hj
        by_cases z : j = (fl W H T F κ (y * W + x)).length
        · rw [z, getD_last, zu_off (by omega), zu_off (by omega), zu_eq, zu_off (by omega), zu_eq, zu_eq, km, kd]
          refine ⟨rfl, rfl, ?_⟩
          unfold ed
          rw [km, kd]
        · rw [getD_snoc (by omega), zu_off (by omega), zu_off (by omega), zu_off (by omega), zu_off (by omega), zu_off (by omega), zu_off (by omega), zu_off (by omega), zu_off (by omega), zu_off (by omega)]
          exact C j (by omega)
      · have q : fq W H T F κ (y * W + x) = false := by
          unfold fq; rw [km, kd]; exact decide_eq_false (fun z => c ((fq_arn ⟨by omega, by omega⟩).mpr z))
        have es := fl_n q
        rw [if_pos c, b24_62 hL ca (by omega) cb (by omega) cc (by omega)] at st
        exact ⟨u, st.trans (by rw [← Nat.add_assoc, es]; rfl), by rw [← Nat.add_assoc, es]; exact C, f⟩)
    have er := fl_row hw k9 (y := y)
    refine ⟨u', ?_, by rw [er]; exact C', f'⟩
    have r0 : u' o 0 = (W : Int) := by rw [f' _ _ (by omega) (by omega) (by omega)]; exact hS.1
    show Zx 24 4 _ _ _ _ = Zx 24 4 [zR o, zI κ, zR la, zR lb, zR lc, zI ((fl W H T F κ ((y + 1) * W)).length : Int), zI ((y + 1 : Nat) : Int), zN] [] S u'
    rw [b24_4 hL ca (by omega) cb (by omega) cc (by omega), r1, zw_id (z := (H : Int) - 1) (by omega) (by omega), zw_nat (n := y) (by omega), if_neg (by omega)]
    refine e.trans ?_
    show Zx 24 12 [zR o, zI κ, zR la, zR lb, zR lc, zI ((fl W H T F κ (y * W + (W - 1))).length : Int), zI (y : Int), zI ((W - 1 : Nat) : Int)] [] S u' = _
    rw [b24_12 hL ca (by omega) cb (by omega) cc (by omega), r0, zw_id (z := (W : Int) - 1) (by omega) (by omega), zw_nat (n := W - 1) (by omega), if_pos (by omega), er]
    rfl)
  have r1 : h1 o 1 = (H : Int) := by rw [f1 _ _ (by omega) (by omega) (by omega)]; exact hS.2.1
  have ee := fl_end hw k9
  refine ⟨h1, ?_, by rw [ee]; exact C1, f1⟩
  have e1' : Zx 24 4 [zR o, zI κ, zR la, zR lb, zR lc, zI 0, zI 0, zN] [] S h = Zx 24 4 [zR o, zI κ, zR la, zR lb, zR lc, zI ((fl W H T F κ ((H - 1) * W)).length : Int), zI ((H - 1 : Nat) : Int), zN] [] S h1 := by
    have : (fl W H T F κ (0 * W)).length = 0 := by rw [Nat.zero_mul]; rfl
    have e2 : Zx 24 4 [zR o, zI κ, zR la, zR lb, zR lc, zI ((fl W H T F κ (0 * W)).length : Int), zI ((0 : Nat) : Int), zN] [] S h = Zx 24 4 [zR o, zI κ, zR la, zR lb, zR lc, zI ((fl W H T F κ ((H - 1) * W)).length : Int), zI ((H - 1 : Nat) : Int), zN] [] S h1 := e1
    rw [this] at e2
    exact e2
  rw [b24_0 hL ca (by omega) cb (by omega) cc (by omega), e1', b24_4 hL ca (by omega) cb (by omega) cc (by omega), r1, zw_id (z := (H : Int) - 1) (by omega) (by omega), zw_nat (n := H - 1) (by omega), if_pos (by omega), ee]
end CPA
