/-! THE SMALL MACHINE IS SOUND: what a step on the heap was; one step -/
section ZIN
variable {i : Nat} {L st : List zV} {S : zS} {h : zH} {j : Nat} {L' st' : List zV} {S' : zS} {h' : zH}
theorem zget_inv {ci k : Nat} (hs : zget ci k i L st S h = some (.inl (j, L', st', S', h'))) : ∃ o v r, st = zR o :: r ∧ (zC S o).1 = ci ∧ j = i + 1 ∧ L' = L ∧ st' = v :: r ∧ S' = S ∧ h' = h ∧ ∀ ad : Nat → Nat, zt ad v = zFv ad (zty (zTys ci k)) (h o k) ((zC S o).2.2.getD k none) := by
  unfold zget znext at hs
  split at hs
  · split at hs
    · rename_i hk
      split at hs
      · rename_i ht
        cases hs
        exact ⟨_, _, _, rfl, hk, rfl, rfl, rfl, rfl, rfl, fun ad => by rw [ht]; rfl⟩
      · rename_i ht
        cases hs
        exact ⟨_, _, _, rfl, hk, rfl, rfl, rfl, rfl, rfl, fun ad => by rw [ht]; rfl⟩
      · rename_i ht
        cases hs
        exact ⟨_, _, _, rfl, hk, rfl, rfl, rfl, rfl, rfl, fun ad => by rw [ht]; rfl⟩
      · rename_i ht
        split at hs
        · rename_i q hq
          cases hs
          exact ⟨_, _, _, rfl, hk, rfl, rfl, rfl, rfl, rfl, fun ad => by rw [ht, hq]; rfl⟩
        · cases hs
      · cases hs
    · cases hs
  · cases hs
theorem zput_inv {ci k : Nat} (hs : zput ci k i L st S h = some (.inl (j, L', st', S', h'))) : ∃ o v, st = v :: zR o :: st' ∧ (zC S o).1 = ci ∧ j = i + 1 ∧ L' = L ∧
    ((∃ z, v = zI z ∧ zty (zTys ci k) = 0 ∧ S' = S ∧ h' = zu h o k z) ∨ (∃ z, v = zL z ∧ zty (zTys ci k) = 1 ∧ S' = S ∧ h' = zu h o k z) ∨ (∃ z, v = zI z ∧ zty (zTys ci k) = 2 ∧ (z = 0 ∨ z = 1) ∧ S' = S ∧ h' = zu h o k z) ∨ (∃ q, v = zR q ∧ zty (zTys ci k) = 3 ∧ S' = zrset S o k (some q) ∧ h' = h)) := by
  unfold zput znext at hs
  split at hs
  · split at hs
    · rename_i hk
      split at hs
      · rename_i ht
        cases hs
        exact ⟨_, _, rfl, hk, rfl, rfl, Or.inl ⟨_, rfl, ht, rfl, rfl⟩⟩
      · rename_i ht
        cases hs
        exact ⟨_, _, rfl, hk, rfl, rfl, Or.inr (Or.inl ⟨_, rfl, ht, rfl, rfl⟩)⟩
      · rename_i ht
        split at hs
        · rename_i hz
          cases hs
          exact ⟨_, _, rfl, hk, rfl, rfl, Or.inr (Or.inr (Or.inl ⟨_, rfl, ht, hz, rfl, rfl⟩))⟩
        · cases hs
      · rename_i ht
        cases hs
        exact ⟨_, _, rfl, hk, rfl, rfl, Or.inr (Or.inr (Or.inr ⟨_, rfl, ht, rfl, rfl⟩))⟩
      · cases hs
    · cases hs
  · cases hs
theorem zald_inv {kd : Nat} (hs : zald kd i L st S h = some (.inl (j, L', st', S', h'))) : ∃ x o a v r, st = zI x :: zR o :: r ∧ (zC S o).1 = kd ∧ zidx x (zC S o).2.1 = some a ∧ j = i + 1 ∧ L' = L ∧ st' = v :: r ∧ S' = S ∧ h' = h ∧
    ((kd = 100 ∧ v = zI (h o a)) ∨ (kd = 101 ∧ v = zI (zb8 (h o a))) ∨ (kd = 102 ∧ v = zI (zb1 (h o a))) ∨ (kd = 103 ∧ v = zL (h o a)) ∨ (kd ≠ 100 ∧ kd ≠ 101 ∧ kd ≠ 102 ∧ kd ≠ 103 ∧ ∃ q, v = zR q ∧ (zC S o).2.2.getD a none = some q)) := by
  unfold zald znext at hs
  split at hs
  · split at hs
    · rename_i hk
      split at hs
      · cases hs
      · rename_i a ha
        split at hs
        · cases hs
          exact ⟨_, _, _, _, _, rfl, hk, ha, rfl, rfl, rfl, rfl, rfl, Or.inl ⟨rfl, rfl⟩⟩
        · cases hs
          exact ⟨_, _, _, _, _, rfl, hk, ha, rfl, rfl, rfl, rfl, rfl, Or.inr (Or.inl ⟨rfl, rfl⟩)⟩
        · cases hs
          exact ⟨_, _, _, _, _, rfl, hk, ha, rfl, rfl, rfl, rfl, rfl, Or.inr (Or.inr (Or.inl ⟨rfl, rfl⟩))⟩
        · cases hs
          exact ⟨_, _, _, _, _, rfl, hk, ha, rfl, rfl, rfl, rfl, rfl, Or.inr (Or.inr (Or.inr (Or.inl ⟨rfl, rfl⟩)))⟩
        · rename_i n1 n2 n3 n4
          split at hs
          · rename_i q hq
            cases hs
            exact ⟨_, _, _, _, _, rfl, hk, ha, rfl, rfl, rfl, rfl, rfl, Or.inr (Or.inr (Or.inr (Or.inr ⟨n1, n2, n3, n4, _, rfl, hq⟩)))⟩
          · cases hs
    · cases hs
  · cases hs
theorem zsld_inv (hs : zsld i L st S h = some (.inl (j, L', st', S', h'))) : ∃ x a r, st = zI x :: zR 0 :: r ∧ zidx x (zC S 0).2.1 = some a ∧ j = i + 1 ∧ L' = L ∧ st' = zI (h 0 a) :: r ∧ S' = S ∧ h' = h := by
  unfold zsld znext at hs
  split at hs
  · split at hs
    · cases hs
    · rename_i a ha
      cases hs
      exact ⟨_, _, _, rfl, ha, rfl, rfl, rfl, rfl, rfl⟩
  · cases hs
theorem zlen_inv {kd : Nat} (hs : zlen kd i L st S h = some (.inl (j, L', st', S', h'))) : ∃ o r, st = zR o :: r ∧ (kd = 108 ∧ o = 0 ∨ (zC S o).1 = kd ∧ 100 ≤ kd ∧ kd < 108) ∧ j = i + 1 ∧ L' = L ∧ st' = zI (zC S o).2.1 :: r ∧ S' = S ∧ h' = h := by
  unfold zlen znext at hs
  split at hs
  · split at hs
    · rename_i hk
      cases hs
      exact ⟨_, _, rfl, hk, rfl, rfl, rfl, rfl, rfl⟩
    · cases hs
  · cases hs
theorem zast_inv {kd : Nat} (hs : zast kd i L st S h = some (.inl (j, L', st', S', h'))) : ∃ v x o a, st = v :: zI x :: zR o :: st' ∧ (zC S o).1 = kd ∧ zidx x (zC S o).2.1 = some a ∧ j = i + 1 ∧ L' = L ∧
    ((∃ z, v = zI z ∧ 100 ≤ kd ∧ kd < 103 ∧ S' = S ∧ h' = zu h o a z) ∨ (∃ z, v = zL z ∧ kd = 103 ∧ S' = S ∧ h' = zu h o a z) ∨ (∃ q, v = zR q ∧ (kd = 104 ∧ (zC S q).1 = 7 ∨ kd = 105 ∧ (zC S q).1 = 2 ∨ kd = 106 ∧ (zC S q).1 = 8 ∨ kd = 107 ∧ (zC S q).1 = 0) ∧ S' = zrset S o a (some q) ∧ h' = h)) := by
  unfold zast znext at hs
  split at hs
  · split at hs
    · rename_i hk
      split at hs
      · cases hs
      · rename_i a ha
        split at hs
        · split at hs
          · rename_i hz
            cases hs
            exact ⟨_, _, _, _, rfl, hk, ha, rfl, rfl, Or.inl ⟨_, rfl, hz.1, hz.2, rfl, rfl⟩⟩
          · cases hs
        · split at hs
          · rename_i hz
            cases hs
            exact ⟨_, _, _, _, rfl, hk, ha, rfl, rfl, Or.inr (Or.inl ⟨_, rfl, hz, rfl, rfl⟩)⟩
          · cases hs
        · split at hs
          · rename_i hz
            cases hs
            exact ⟨_, _, _, _, rfl, hk, ha, rfl, rfl, Or.inr (Or.inr ⟨_, rfl, hz, rfl, rfl⟩)⟩
          · cases hs
        · cases hs
    · cases hs
  · cases hs
theorem zmake_inv {kd n nr : Nat} (hs : zmake kd n nr i L st S h = some (.inl (j, L', st', S', h'))) : zvalidS S = true ∧ L.all (zvalid S.length) = true ∧ st.all (zvalid S.length) = true ∧ S.length < 1000000 ∧ j = i + 1 ∧ L' = L ∧ st' = zR S.length :: st ∧ S' = S ++ [(kd, n, List.replicate nr none)] ∧ h' = zhn h S.length := by
  unfold zmake znext at hs
  split at hs
  · rename_i hv
    simp only [Bool.and_eq_true] at hv
    cases hs
    exact ⟨hv.1.1.1, hv.1.1.2, hv.1.2, hv.2, rfl, rfl, rfl, rfl, rfl⟩
  · cases hs
theorem znewa_inv {kd : Nat} (hs : znewa kd i L st S h = some (.inl (j, L', st', S', h'))) : ∃ x n r, st = zI x :: r ∧ zidx x 100000 = some n ∧ zmake kd n (if kd < 104 then 0 else n) i L r S h = some (.inl (j, L', st', S', h')) := by
  unfold znewa at hs
  split at hs
  · split at hs
    · rename_i n hn
      exact ⟨_, n, _, rfl, hn, hs⟩
    · cases hs
  · cases hs
theorem zsln_inv (hs : zsln i L st S h = some (.inl (j, L', st', S', h'))) : ∃ k r, k < 12 ∧ zwds r ≤ 8 ∧ st = zR (1000000 + k) :: r ∧ j = i + 1 ∧ L' = L ∧ st' = zI (zsl k) :: r ∧ S' = S ∧ h' = h := by
  unfold zsln znext at hs
  split at hs
  · rename_i o r
    split at hs
    · rename_i hk
      cases hs
      exact ⟨o - 1000000, _, by omega, hk.2.2, by rw [show 1000000 + (o - 1000000) = o by omega], rfl, rfl, rfl, rfl, rfl⟩
    · cases hs
  · cases hs
theorem zsch_inv (hs : zsch i L st S h = some (.inl (j, L', st', S', h'))) : ∃ k x a r, k < 12 ∧ zwds r ≤ 8 ∧ st = zI x :: zR (1000000 + k) :: r ∧ zidx x (zsl k) = some a ∧ j = i + 1 ∧ L' = L ∧ st' = zI (zsc k a) :: r ∧ S' = S ∧ h' = h := by
  unfold zsch znext at hs
  split at hs
  · rename_i x o r
    split at hs
    · rename_i hk
      split at hs
      · cases hs
      · rename_i a ha
        cases hs
        exact ⟨o - 1000000, _, _, _, by omega, hk.2.2, by rw [show 1000000 + (o - 1000000) = o by omega], ha, rfl, rfl, rfl, rfl, rfl⟩
    · cases hs
  · cases hs
theorem zcopy_inv (hs : zcopy i L st S h = some (.inl (j, L', st', S', h'))) : ∃ z y o2 x o1, st = [zI z, zI y, zR o2, zI x, zR o1] ∧ (zC S o1).1 = (zC S o2).1 ∧ ((zC S o1).1 = 100 ∨ (zC S o1).1 = 101) ∧ 0 ≤ zw x ∧ 0 ≤ zw y ∧ 0 ≤ zw z ∧ zw x + zw z ≤ (zC S o1).2.1 ∧ zw y + zw z ≤ (zC S o2).2.1 ∧ j = i + 1 ∧ L' = L ∧ st' = [] ∧ S' = S ∧ h' = zcpy h o1 (zw x).toNat o2 (zw y).toNat (zw z).toNat := by
  unfold zcopy znext at hs
  split at hs
  · split at hs
    · rename_i hk
      cases hs
      exact ⟨_, _, _, _, _, rfl, hk.1, hk.2.1, hk.2.2.1, hk.2.2.2.1, hk.2.2.2.2.1, hk.2.2.2.2.2.1, hk.2.2.2.2.2.2, rfl, rfl, rfl, rfl, rfl⟩
    · cases hs
  · cases hs
end ZIN
theorem zs_lt {x : Int} {n j : Nat} (hn : n ≤ 6) (h : zidx x n = some j) : Int32.ofInt x < Int32.ofNat n := by
  obtain ⟨h1, h2, h3⟩ := zidx_some h
  have e : Int32.ofNat n = Int32.ofInt n := rfl
  have e2 : zw (n : Int) = n := by
    unfold zw
    exact Int.bmod_eq_of_le (by omega) (by omega)
  rw [e, zt_lt, e2]
  exact h2
section ZSTR
variable {p : Program} {l : Launch} {e : Env} {R : Room} {s : State} {m : MethodId} {args : Array Value} {below : List Frame} {meth : Method} {c : Code} {H : Heap} {locs : List Loc} {cells slots : Nat} {Q : State → Prop}
variable {ls : Array Slot} {ad : Nat → Nat} {D : va_G} {ca : Nat → ClassId} {A : Nat → Prop} {H0 : Heap} {S : zS} {h : zH} {cc : ByteArray} {pc : Nat} {rest : List Value}
/-- behind a call that leaves all old cells as they are -/
theorem zI_.same_old {H1 : Heap} {locs1 : List Loc} (I : zI_ D ca A H0 s ad S h H locs) (hk : ∀ q : Nat, q < H.size → ¬ zNo q → H1[q]? = H[q]?) (hS : va_S A H0 H1 locs1) : zI_ D ca A H0 s ad S h H1 locs1 := by
  obtain ⟨iP, iD, iK, iS, iA, iO, iX⟩ := I
  exact ⟨fun k q hq => (iP k q hq).kept (hk q.1 (iP k q hq).lt (fun z => z)), iD, iK, hS, iA, iO, iX⟩
theorem zs_at (I : zI_ D ca A H0 s ad S h H locs) {k : Nat} (hk : k < 12) : ∃ v, zSg (ad (1000000 + k)) v (zsl k) (fun j => .int (Int32.ofInt (zsc k j))) zNo s H := by
  obtain ⟨iP, iD, iK, iS, iA, iO, iX⟩ := I
  obtain ⟨⟨v, h1⟩, -⟩ := iX.2.2 k hk
  exact ⟨v, (h1.kept (fun a h2 h3 => iS.2.1 a h2 h3)).narrow (fun _ z => z.elim)⟩
theorem zh_sln {own : String} {ix k nL : Nat} (hx : p.tables.exec = Jvm.exec) (hb : c.code = cc) (hml : c.maxLocals = nL) (hls : ls.size = nL) (hts : ∀ w ∈ zGw, w.before args s = true) (hown : s.vm.findClass own = some m.cls) (I : zI_ D ca A H0 s ad S h H locs) (hk : k < 12) (hw : Cond.methodLink own ix yJ0_length_8abf5 ∈ zGw) (hfr : 2 ≤ R.frames) (hlo : 40 ≤ R.locals) (hwd : (rest.map fun v => v.category).sum ≤ 8) (hcells : cells ≤ R.cells) (hslots : slots ≤ R.slots) (hdg : decode cc pc = .ok (.invokevirtual ix, 3))
    (kk : ∀ (H1 : Heap) (locs1 : List Loc), zI_ D ca A H0 s ad S h H1 locs1 → W p l e R s m args below meth c H1 locs1 cells slots Q (F0 m (pc + 3) ls (.int (Int32.ofInt (zsl k)) :: rest))) : W p l e R s m args below meth c H locs cells slots Q (F0 m pc ls (.ref (ad (1000000 + k)) :: rest)) := by
  obtain ⟨v, hG⟩ := zs_at I hk
  refine va_calli (S := Unit) (va_runV (Ts := zGw) (nL := nL) (n := 0) (C := RJ0) (b := ad (1000000 + k)) (As := []) (rest := rest) ⟨hx, hb, hml, hown, hts⟩ (cj_length l (ad (1000000 + k)) v (zsl k) _) ⟨callB_of 0 hts (zjG1 (lw_ct3 39 rfl rfl)) rfl rfl rfl (hts _ (lw_ct1 14 rfl rfl)) (hts _ hw) ⟨by decide +kernel, by decide +kernel, by decide +kernel⟩ ⟨hfr, by show 8 + (1 + 11) + 20 ≤ _; omega⟩, hts _ (lw_ct3 37 rfl rfl), hts _ (lw_ct3 38 rfl rfl)⟩ ⟨zjBl, hG.recv, fun U hU hW => ⟨rfl, by show zSg _ v _ _ zNo U U.heap; rw [hU]; exact hG.moved hW.alike⟩⟩ rfl rfl hls rfl (lv_room hwd) hdg ⟨hcells, hslots⟩) I.2.2.2.1 (fun q _ h => h.elim) (fun q h => h.elim) (fun r u t H1 locs1 ht hvm hr1 hB hz1 hk1 hS1 => ?_)
  have e1 := zs_lenv k hk
  rw [hr1, e1]
  exact kk H1 locs1 (I.same_old hk1 hS1)
theorem zh_sch {own : String} {ix k a nL : Nat} {x : Int} (hx : p.tables.exec = Jvm.exec) (hb : c.code = cc) (hml : c.maxLocals = nL) (hls : ls.size = nL) (hts : ∀ w ∈ zGw, w.before args s = true) (hown : s.vm.findClass own = some m.cls) (I : zI_ D ca A H0 s ad S h H locs) (hk : k < 12) (hj : zidx x (zsl k) = some a) (hw : Cond.methodLink own ix yJ0_charAt_5068e ∈ zGw) (hfr : 4 ≤ R.frames) (hlo : 85 ≤ R.locals) (hwd : (rest.map fun v => v.category).sum ≤ 8) (hcells : cells ≤ R.cells) (hslots : slots ≤ R.slots) (hdg : decode cc pc = .ok (.invokevirtual ix, 3))
    (kk : ∀ (H1 : Heap) (locs1 : List Loc), zI_ D ca A H0 s ad S h H1 locs1 → W p l e R s m args below meth c H1 locs1 cells slots Q (F0 m (pc + 3) ls (.int (Int32.ofInt (zsc k a)) :: rest))) : W p l e R s m args below meth c H locs cells slots Q (F0 m pc ls (.int (Int32.ofInt x) :: .ref (ad (1000000 + k)) :: rest)) := by
  obtain ⟨v, hG⟩ := zs_at I hk
  obtain ⟨g1, g2, g3⟩ := zidx_in hj
  obtain ⟨z1, z2, z3⟩ := zidx_some hj
  have hs6 := zs_small k hk
  have hi : ¬ Int32.ofInt x < 0 := fun q => g1 (Or.inl q)
  have hlt : Int32.ofInt x < Int32.ofNat (zsl k) := zs_lt hs6 hj
  refine va_calli (S := Unit) (va_runV (Ts := zGw) (nL := nL) (n := 1) (C := RJ0) (b := ad (1000000 + k)) (As := [.int (Int32.ofInt x)]) (rest := rest) ⟨hx, hb, hml, hown, hts⟩ (cj_charAt l (ad (1000000 + k)) v (zsl k) _ (Int32.ofInt x) (Int32.ofInt (zsc k a)) hi hlt g1 (by rw [g2])) ⟨callB_of 1 hts (zjG1 (lw_ct3 49 rfl rfl)) rfl rfl rfl (hts _ (lw_ct1 14 rfl rfl)) (hts _ hw) ⟨by decide +kernel, by decide +kernel, by decide +kernel⟩ ⟨hfr, by show 8 + (2 + 11) + 64 ≤ _; omega⟩, hts _ (lw_ct3 47 rfl rfl), hts _ (lw_ct3 48 rfl rfl)⟩ ⟨zjBl, hG.recv, fun U hU hW => ⟨rfl, by show zSg _ v _ _ zNo U U.heap; rw [hU]; exact hG.moved hW.alike⟩⟩ rfl rfl hls rfl (lv_room hwd) hdg ⟨hcells, hslots⟩) I.2.2.2.1 (fun q _ h => h.elim) (fun q h => h.elim) (fun r u t H1 locs1 ht hvm hr1 hB hz1 hk1 hS1 => ?_)
  have e1 := zs_chv k hk a g3
  rw [hr1, e1]
  exact kk H1 locs1 (I.same_old hk1 hS1)
end ZSTR
/-- elements in all -/
def zcs (S : zS) : Nat := (S.map fun c => c.2.1).sum
theorem zcs_app {S : zS} {c : Nat × Nat × List (Option Nat)} : zcs (S ++ [c]) = zcs S + c.2.1 := by
  simp [zcs]
theorem zcs_rset {S : zS} {o k : Nat} {v : Option Nat} : zcs (zrset S o k v) = zcs S := by
  have h : (zrset S o k v).map (fun c => c.2.1) = S.map (fun c => c.2.1) := by
    unfold zrset
    apply List.ext_getElem?
    intro i
    rw [List.getElem?_map, List.getElem?_map, List.getElem?_set]
    by_cases hi : o = i
    · subst hi
      by_cases ho : o < S.length
      · rw [if_pos rfl, if_pos ho]
        unfold zC
        rw [List.getD_eq_getElem?_getD, List.getElem?_eq_getElem ho]; rfl
      · rw [if_pos rfl, if_neg ho, List.getElem?_eq_none (by omega)]
    · rw [if_neg hi]
  unfold zcs; rw [h]
/-- the words of the JDK that a step may want -/
theorem zw_copy : Cond.native arraycopyName ∈ zGw ∧ Cond.static arraycopyName ∈ zGw ∧ Cond.initialized "java/lang/System" ∈ zGw := ⟨lw_ct3 148 rfl rfl, lw_ct3 147 rfl rfl, lw_ct1 18 rfl rfl⟩
theorem zw_init : Cond.instanceMethod Lib.objectInit ∈ zGw ∧ Cond.code Lib.objectInit ⟨#[0xb1]⟩ 1 none ∈ zGw := ⟨lw_ct1 25 rfl rfl, lw_ct1 26 rfl rfl⟩
