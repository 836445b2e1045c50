/-! THE SMALL MACHINE IS SOUND: one step (laid by wip/whole/zstep.py) -/
theorem zsip {n : Int} (h : -32768 ≤ n ∧ n ≤ 32767) : (Int16.ofInt n).toInt32 = Int32.ofInt n := by
  rw [← Int32.toInt_inj, Int16.toInt_toInt32, Int16.toInt_ofInt_of_le (by omega) (by omega), Int32.toInt_ofInt_of_le (by omega) (by omega)]
/-- what a switch by keys finds is where the table says -/
theorem zlook {k pc0 : Nat} {x d : Int} {a : Nat} : ∀ {ps : List (Int × Int)} {ts : List (Int × Nat)}, ps.map (fun q => (q.1, (pc0 : Int) + q.2)) = ts.map (fun q => (q.1, (zpc k q.2 : Int))) → (pc0 : Int) + d = (zpc k a : Int) → (pc0 : Int) + Op.lookupswitch.offset ps d x = (zpc k (zfind x ts a) : Int)
  | [], [], _, hd => hd
  | [], _ :: _, h, _ => by simp at h
  | _ :: _, [], h, _ => by simp at h
  | p :: ps, t :: ts, h, hd => by
    simp only [List.map_cons, List.cons.injEq, Prod.mk.injEq] at h
    obtain ⟨⟨h1, h2⟩, h3⟩ := h
    obtain ⟨a1, o1⟩ := p
    rw [Op.lookupswitch.offset_cons, zfind]
    by_cases hq : a1 = x
    · rw [if_pos hq, if_pos (by rw [← h1]; exact hq)]; exact h2
    · rw [if_neg hq, if_neg (by rw [← h1]; exact hq)]; exact zlook h3 hd
theorem zwds_map0 {ad : Nat → Nat} : ∀ as : List zV, ((as.map (zt ad)).map fun v => v.category).sum = zwds as
  | [] => rfl
  | v :: vs => by
    have ih := zwds_map0 (ad := ad) vs
    unfold zwds at ih ⊢
    simp only [List.map_cons, List.sum_cons, ih, zt_cat]
set_option maxHeartbeats 4000000 in
theorem zstep {p : Program} {l : Launch} {e : Env} {R : Room} {s : State} {m : MethodId} {args : Array Value} {below : List Frame} {meth : Method} {c : Code} {H : Heap} {locs : List Loc} {cells slots : Nat} {Q : State → Prop} {ls : Array Slot} {ad : Nat → Nat} {D : va_G} {ca : Nat → ClassId} {A : Nat → Prop} {H0 : Heap}
    {k i : Nat} {en : zE} {L st : List zV} {S : zS} {h : zH} {j : Nat} {L' st' : List zV} {S' : zS} {h' : zH}
    (hx : p.tables.exec = Jvm.exec) (hb : c.code = (zmi k).2.1) (hown : s.vm.findClass (zmi k).2.2.2.2.1 = some m.cls) (hts : ∀ w ∈ zGw, w.before args s = true) (hml : c.maxLocals = znl k) (hin : (zmi k).2.2.2.2.2.1 = 2 → meth.name = "<init>")
    (he : ztb k i = some en) (hc : zchk k i en = true) (hw : zWd k en) (hL : L.length = znl k) (I : zI_ D ca A H0 s ad S h H locs) (hl : zLs ad L ls) (hs : zstp en i L st S h = some (.inl (j, L', st', S', h')))
    (hcells : cells + (S'.length - S.length) ≤ R.cells) (hslots : slots + (zcs S' - zcs S) ≤ R.slots) (hfr : (zmi k).2.2.2.2.2.2.1 ≤ R.frames) (hlo : (zmi k).2.2.2.2.2.2.2.1 ≤ R.locals)
    (kk : ∀ (ad' : Nat → Nat) (H' : Heap) (locs' : List Loc) (ls' : Array Slot), (∀ o, o < S.length ∨ S'.length ≤ o → ad' o = ad o) → zI_ D ca A H0 s ad' S' h' H' locs' → zLs ad' L' ls' → W p l e R s m args below meth c H' locs' (cells + (S'.length - S.length)) (slots + (zcs S' - zcs S)) Q (F0 m (zpc k j) ls' (st'.map (zt ad')))) :
    W p l e R s m args below meth c H locs cells slots Q (F0 m (zpc k i) ls (st.map (zt ad))) := by
  have hd := zchk_dec he hc
  have hpc := zpc_of he
  rw [hpc] at hd ⊢
  have hc2 : zchk2 k i en = true := by
    simp only [zchk, Bool.and_eq_true] at hc
    exact hc.2
  have kk0 : S' = S → h' = h → ∀ ls', zLs ad L' ls' → W p l e R s m args below meth c H locs cells slots Q (F0 m (zpc k j) ls' (st'.map (zt ad))) := by
    rintro rfl rfl ls' hl'
    have := kk ad H locs ls' (fun _ _ => rfl) I hl'
    simpa using this
  have kkw : S'.length = S.length → zcs S' = zcs S → ∀ H1 locs1, zI_ D ca A H0 s ad S' h' H1 locs1 → L' = L → W p l e R s m args below meth c H1 locs1 cells slots Q (F0 m (zpc k j) ls (st'.map (zt ad))) := by
    intro e1 e2 H1 locs1 I1 e3
    have := kk ad H1 locs1 ls (fun _ _ => rfl) I1 (by rw [e3]; exact hl)
    rw [e1, e2] at this
    simpa using this
  obtain ⟨pc0, len, ins, a, b, z, ts, mask⟩ := en
  cases ins with
  | aload x =>
    have hc2 : (decide (len = 2) && decide (zpc k (i + 1) = pc0 + len)) = true := hc2
    simp only [Bool.and_eq_true, decide_eq_true_eq] at hc2
    obtain ⟨hlen, hnx⟩ := hc2
    subst hlen
    have hs : zload i x 2 L st S h = _ := hs
    obtain ⟨v, h1, h2, rfl, rfl, rfl, rfl, rfl, h3⟩ := zload_inv hs
    rcases h3 with ⟨h3, -⟩ | ⟨h3, -⟩ | ⟨-, o, rfl⟩
    · cases h3
    · cases h3
    · exact zs_aload hx hb hd hl h1 (hnx ▸ kk0 rfl rfl ls hl)
  | aload_n x =>
    have hc2 : (decide (len = 1) && decide (zpc k (i + 1) = pc0 + len)) = true := hc2
    simp only [Bool.and_eq_true, decide_eq_true_eq] at hc2
    obtain ⟨hlen, hnx⟩ := hc2
    subst hlen
    have hs : zload i x 2 L st S h = _ := hs
    obtain ⟨v, h1, h2, rfl, rfl, rfl, rfl, rfl, h3⟩ := zload_inv hs
    rcases h3 with ⟨h3, -⟩ | ⟨h3, -⟩ | ⟨-, o, rfl⟩
    · cases h3
    · cases h3
    · exact zs_aload_n hx hb hd hl h1 (hnx ▸ kk0 rfl rfl ls hl)
  | iload x =>
    have hc2 : (decide (len = 2) && decide (zpc k (i + 1) = pc0 + len)) = true := hc2
    simp only [Bool.and_eq_true, decide_eq_true_eq] at hc2
    obtain ⟨hlen, hnx⟩ := hc2
    subst hlen
    have hs : zload i x 0 L st S h = _ := hs
    obtain ⟨v, h1, h2, rfl, rfl, rfl, rfl, rfl, h3⟩ := zload_inv hs
    rcases h3 with ⟨-, o, rfl⟩ | ⟨h3, -⟩ | ⟨h3, -⟩
    · exact zs_iload hx hb hd hl h1 (hnx ▸ kk0 rfl rfl ls hl)
    · cases h3
    · cases h3
  | iload_n x =>
    have hc2 : (decide (len = 1) && decide (zpc k (i + 1) = pc0 + len)) = true := hc2
    simp only [Bool.and_eq_true, decide_eq_true_eq] at hc2
    obtain ⟨hlen, hnx⟩ := hc2
    subst hlen
    have hs : zload i x 0 L st S h = _ := hs
    obtain ⟨v, h1, h2, rfl, rfl, rfl, rfl, rfl, h3⟩ := zload_inv hs
    rcases h3 with ⟨-, o, rfl⟩ | ⟨h3, -⟩ | ⟨h3, -⟩
    · exact zs_iload_n hx hb hd hl h1 (hnx ▸ kk0 rfl rfl ls hl)
    · cases h3
    · cases h3
  | lload x =>
    have hc2 : (decide (len = 2) && decide (zpc k (i + 1) = pc0 + len)) = true := hc2
    simp only [Bool.and_eq_true, decide_eq_true_eq] at hc2
    obtain ⟨hlen, hnx⟩ := hc2
    subst hlen
    have hs : zload i x 1 L st S h = _ := hs
    obtain ⟨v, h1, h2, rfl, rfl, rfl, rfl, rfl, h3⟩ := zload_inv hs
    rcases h3 with ⟨h3, -⟩ | ⟨-, o, rfl⟩ | ⟨h3, -⟩
    · cases h3
    · exact zs_lload hx hb hd hl h1 (hnx ▸ kk0 rfl rfl ls hl)
    · cases h3
  | lload_n x =>
    have hc2 : (decide (len = 1) && decide (zpc k (i + 1) = pc0 + len)) = true := hc2
    simp only [Bool.and_eq_true, decide_eq_true_eq] at hc2
    obtain ⟨hlen, hnx⟩ := hc2
    subst hlen
    have hs : zload i x 1 L st S h = _ := hs
    obtain ⟨v, h1, h2, rfl, rfl, rfl, rfl, rfl, h3⟩ := zload_inv hs
    rcases h3 with ⟨h3, -⟩ | ⟨-, o, rfl⟩ | ⟨h3, -⟩
    · cases h3
    · exact zs_lload_n hx hb hd hl h1 (hnx ▸ kk0 rfl rfl ls hl)
    · cases h3
  | istore x =>
    have hc2 : (decide (len = 2) && decide (zpc k (i + 1) = pc0 + len)) = true := hc2
    simp only [Bool.and_eq_true, decide_eq_true_eq] at hc2
    obtain ⟨hlen, hnx⟩ := hc2
    subst hlen
    have hs : zstore i x 0 L st S h = _ := hs
    obtain ⟨v, rfl, rfl, rfl, rfl, h3⟩ := zstore_inv hs
    rcases h3 with ⟨-, ⟨z1, rfl⟩, h4, rfl⟩ | ⟨h3, -⟩ | ⟨h3, -⟩
    · exact zs_istore hx hb hd hl h4 fun ls1 hl1 => hnx ▸ kk0 rfl rfl ls1 hl1
    · cases h3
    · cases h3
  | istore_n x =>
    have hc2 : (decide (len = 1) && decide (zpc k (i + 1) = pc0 + len)) = true := hc2
    simp only [Bool.and_eq_true, decide_eq_true_eq] at hc2
    obtain ⟨hlen, hnx⟩ := hc2
    subst hlen
    have hs : zstore i x 0 L st S h = _ := hs
    obtain ⟨v, rfl, rfl, rfl, rfl, h3⟩ := zstore_inv hs
    rcases h3 with ⟨-, ⟨z1, rfl⟩, h4, rfl⟩ | ⟨h3, -⟩ | ⟨h3, -⟩
    · exact zs_istore_n hx hb hd hl h4 fun ls1 hl1 => hnx ▸ kk0 rfl rfl ls1 hl1
    · cases h3
    · cases h3
  | lstore x =>
    have hc2 : (decide (len = 2) && decide (zpc k (i + 1) = pc0 + len)) = true := hc2
    simp only [Bool.and_eq_true, decide_eq_true_eq] at hc2
    obtain ⟨hlen, hnx⟩ := hc2
    subst hlen
    have hs : zstore i x 1 L st S h = _ := hs
    obtain ⟨v, rfl, rfl, rfl, rfl, h3⟩ := zstore_inv hs
    rcases h3 with ⟨h3, -⟩ | ⟨-, ⟨z1, rfl⟩, h4, rfl⟩ | ⟨h3, -⟩
    · cases h3
    · exact zs_lstore hx hb hd hl h4 fun ls1 hl1 => hnx ▸ kk0 rfl rfl ls1 hl1
    · cases h3
  | lstore_n x =>
    have hc2 : (decide (len = 1) && decide (zpc k (i + 1) = pc0 + len)) = true := hc2
    simp only [Bool.and_eq_true, decide_eq_true_eq] at hc2
    obtain ⟨hlen, hnx⟩ := hc2
    subst hlen
    have hs : zstore i x 1 L st S h = _ := hs
    obtain ⟨v, rfl, rfl, rfl, rfl, h3⟩ := zstore_inv hs
    rcases h3 with ⟨h3, -⟩ | ⟨-, ⟨z1, rfl⟩, h4, rfl⟩ | ⟨h3, -⟩
    · cases h3
    · exact zs_lstore_n hx hb hd hl h4 fun ls1 hl1 => hnx ▸ kk0 rfl rfl ls1 hl1
    · cases h3
  | astore x =>
    have hc2 : (decide (len = 2) && decide (zpc k (i + 1) = pc0 + len)) = true := hc2
    simp only [Bool.and_eq_true, decide_eq_true_eq] at hc2
    obtain ⟨hlen, hnx⟩ := hc2
    subst hlen
    have hs : zstore i x 2 L st S h = _ := hs
    obtain ⟨v, rfl, rfl, rfl, rfl, h3⟩ := zstore_inv hs
    rcases h3 with ⟨h3, -⟩ | ⟨h3, -⟩ | ⟨-, ⟨z1, rfl⟩, h4, rfl⟩
    · cases h3
    · cases h3
    · exact zs_astore hx hb hd hl h4 fun ls1 hl1 => hnx ▸ kk0 rfl rfl ls1 hl1
  | astore_n x =>
    have hc2 : (decide (len = 1) && decide (zpc k (i + 1) = pc0 + len)) = true := hc2
    simp only [Bool.and_eq_true, decide_eq_true_eq] at hc2
    obtain ⟨hlen, hnx⟩ := hc2
    subst hlen
    have hs : zstore i x 2 L st S h = _ := hs
    obtain ⟨v, rfl, rfl, rfl, rfl, h3⟩ := zstore_inv hs
    rcases h3 with ⟨h3, -⟩ | ⟨h3, -⟩ | ⟨-, ⟨z1, rfl⟩, h4, rfl⟩
    · cases h3
    · cases h3
    · exact zs_astore_n hx hb hd hl h4 fun ls1 hl1 => hnx ▸ kk0 rfl rfl ls1 hl1
  | iconst n =>
    have hc2 : (decide (len = 1) && decide (zpc k (i + 1) = pc0 + len)) = true := hc2
    simp only [Bool.and_eq_true, decide_eq_true_eq] at hc2
    obtain ⟨hlen, hnx⟩ := hc2
    subst hlen
    have hs : zpush (zI n) i L st S h = _ := hs
    obtain ⟨rfl, rfl, rfl, rfl, rfl⟩ := zpush_inv hs
    exact lv_iconst hx hb hd rfl (hnx ▸ kk0 rfl rfl ls hl)
  | bipush n =>
    have hc2 : (decide (len = 2) && decide (zpc k (i + 1) = pc0 + len)) = true := hc2
    simp only [Bool.and_eq_true, decide_eq_true_eq] at hc2
    obtain ⟨hlen, hnx⟩ := hc2
    subst hlen
    have hs : zpush (zI n) i L st S h = _ := hs
    obtain ⟨rfl, rfl, rfl, rfl, rfl⟩ := zpush_inv hs
    exact lv_bipush hx hb hd (zbip hw) (hnx ▸ kk0 rfl rfl ls hl)
  | sipush n =>
    have hc2 : (decide (len = 3) && decide (zpc k (i + 1) = pc0 + len)) = true := hc2
    simp only [Bool.and_eq_true, decide_eq_true_eq] at hc2
    obtain ⟨hlen, hnx⟩ := hc2
    subst hlen
    have hs : zpush (zI n) i L st S h = _ := hs
    obtain ⟨rfl, rfl, rfl, rfl, rfl⟩ := zpush_inv hs
    exact lv_sipush hx hb hd (zsip hw) (hnx ▸ kk0 rfl rfl ls hl)
  | lconst n =>
    have hc2 : (decide (len = 1) && decide (zpc k (i + 1) = pc0 + len)) = true := hc2
    simp only [Bool.and_eq_true, decide_eq_true_eq] at hc2
    obtain ⟨hlen, hnx⟩ := hc2
    subst hlen
    have hs : zpush (zL (n : Nat)) i L st S h = _ := hs
    obtain ⟨rfl, rfl, rfl, rfl, rfl⟩ := zpush_inv hs
    exact lv_lconst hx hb hd rfl (hnx ▸ kk0 rfl rfl ls hl)
  | ldc ix =>
    have hc2 : (decide (len = 2) && decide (zpc k (i + 1) = pc0 + len)) = true := hc2
    simp only [Bool.and_eq_true, decide_eq_true_eq] at hc2
    obtain ⟨hlen, hnx⟩ := hc2
    subst hlen
    have hs : (if a = 0 then zpush (zI z) i L st S h else zpush (zR (1000000 + z.toNat)) i L st S h) = _ := hs
    split at hs
    · rename_i ha
      obtain ⟨rfl, rfl, rfl, rfl, rfl⟩ := zpush_inv hs
      have hw : Cond.constant (zmi k).2.2.2.2.1 ix (Int32.ofInt z) ∈ zGw := by
        simp only [zWd, if_pos ha] at hw
        exact hw
      exact lv_ldc hx hb hown (hts _ hw) hd (hnx ▸ kk0 rfl rfl ls hl)
    · rename_i ha
      obtain ⟨rfl, rfl, rfl, rfl, rfl⟩ := zpush_inv hs
      have hw : (zmi k).2.2.2.2.1 = RX4 ∧ z.toNat < 12 ∧ ix = zsix z.toNat := by
        simp only [zWd, if_neg ha] at hw
        exact hw
      obtain ⟨w1, w2, w3⟩ := hw
      refine va_ldcS (tx := zstt z.toNat) hx hb (own := RX4) (by rw [← w1]; exact hown) ?_ hd (hnx ▸ kk0 rfl rfl ls hl)
      rw [w3]
      exact (I.2.2.2.2.2.2.2.2 z.toNat w2).2
  | ldc_w ix =>
    have hc2 : (decide (len = 3) && decide (zpc k (i + 1) = pc0 + len)) = true := hc2
    simp only [Bool.and_eq_true, decide_eq_true_eq] at hc2
    obtain ⟨hlen, hnx⟩ := hc2
    subst hlen
    have hs : zpush (zI z) i L st S h = _ := hs
    obtain ⟨rfl, rfl, rfl, rfl, rfl⟩ := zpush_inv hs
    exact lv_ldcw hx hb hown (hts _ hw) hd (hnx ▸ kk0 rfl rfl ls hl)
  | ldc2_w ix =>
    have hc2 : (decide (len = 3) && decide (zpc k (i + 1) = pc0 + len)) = true := hc2
    simp only [Bool.and_eq_true, decide_eq_true_eq] at hc2
    obtain ⟨hlen, hnx⟩ := hc2
    subst hlen
    have hs : zpush (zL z) i L st S h = _ := hs
    obtain ⟨rfl, rfl, rfl, rfl, rfl⟩ := zpush_inv hs
    exact lv_ldc2 hx hb hown (hts _ hw) hd (hnx ▸ kk0 rfl rfl ls hl)
  | iadd =>
    have hc2 : (decide (len = 1) && decide (zpc k (i + 1) = pc0 + len)) = true := hc2
    simp only [Bool.and_eq_true, decide_eq_true_eq] at hc2
    obtain ⟨hlen, hnx⟩ := hc2
    subst hlen
    have hs : zbin (fun a b => a + b) i L st S h = _ := hs
    obtain ⟨x, y, r, rfl, rfl, rfl, rfl, rfl, rfl⟩ := zbin_inv hs
    have e := kk0 rfl rfl ls hl
    refine lv_iadd hx hb hd ?_
    rw [← Int32.ofInt_add, ← hnx]
    exact e
  | isub =>
    have hc2 : (decide (len = 1) && decide (zpc k (i + 1) = pc0 + len)) = true := hc2
    simp only [Bool.and_eq_true, decide_eq_true_eq] at hc2
    obtain ⟨hlen, hnx⟩ := hc2
    subst hlen
    have hs : zbin (fun a b => a - b) i L st S h = _ := hs
    obtain ⟨x, y, r, rfl, rfl, rfl, rfl, rfl, rfl⟩ := zbin_inv hs
    have e := kk0 rfl rfl ls hl
    refine lv_isub hx hb hd ?_
    rw [← Int32.ofInt_sub, ← hnx]
    exact e
  | imul =>
    have hc2 : (decide (len = 1) && decide (zpc k (i + 1) = pc0 + len)) = true := hc2
    simp only [Bool.and_eq_true, decide_eq_true_eq] at hc2
    obtain ⟨hlen, hnx⟩ := hc2
    subst hlen
    have hs : zbin (fun a b => a * b) i L st S h = _ := hs
    obtain ⟨x, y, r, rfl, rfl, rfl, rfl, rfl, rfl⟩ := zbin_inv hs
    have e := kk0 rfl rfl ls hl
    refine lv_imul hx hb hd ?_
    rw [← Int32.ofInt_mul, ← hnx]
    exact e
  | iand =>
    have hc2 : (decide (len = 1) && decide (zpc k (i + 1) = pc0 + len)) = true := hc2
    simp only [Bool.and_eq_true, decide_eq_true_eq] at hc2
    obtain ⟨hlen, hnx⟩ := hc2
    subst hlen
    have hs : zbin zband i L st S h = _ := hs
    obtain ⟨x, y, r, rfl, rfl, rfl, rfl, rfl, rfl⟩ := zbin_inv hs
    have e := kk0 rfl rfl ls hl
    refine lv_iand hx hb hd ?_
    rw [zn_band, ← hnx]
    exact e
  | ixor =>
    have hc2 : (decide (len = 1) && decide (zpc k (i + 1) = pc0 + len)) = true := hc2
    simp only [Bool.and_eq_true, decide_eq_true_eq] at hc2
    obtain ⟨hlen, hnx⟩ := hc2
    subst hlen
    have hs : zbin zbxor i L st S h = _ := hs
    obtain ⟨x, y, r, rfl, rfl, rfl, rfl, rfl, rfl⟩ := zbin_inv hs
    have e := kk0 rfl rfl ls hl
    refine lv_ixor hx hb hd ?_
    rw [zn_bxor, ← hnx]
    exact e
  | ishl =>
    have hc2 : (decide (len = 1) && decide (zpc k (i + 1) = pc0 + len)) = true := hc2
    simp only [Bool.and_eq_true, decide_eq_true_eq] at hc2
    obtain ⟨hlen, hnx⟩ := hc2
    subst hlen
    have hs : zbin zshl i L st S h = _ := hs
    obtain ⟨x, y, r, rfl, rfl, rfl, rfl, rfl, rfl⟩ := zbin_inv hs
    have e := kk0 rfl rfl ls hl
    refine lv_ishl hx hb hd ?_
    rw [zn_shl, ← hnx]
    exact e
  | ishr =>
    have hc2 : (decide (len = 1) && decide (zpc k (i + 1) = pc0 + len)) = true := hc2
    simp only [Bool.and_eq_true, decide_eq_true_eq] at hc2
    obtain ⟨hlen, hnx⟩ := hc2
    subst hlen
    have hs : zbin zshr i L st S h = _ := hs
    obtain ⟨x, y, r, rfl, rfl, rfl, rfl, rfl, rfl⟩ := zbin_inv hs
    have e := kk0 rfl rfl ls hl
    refine lv_ishr hx hb hd ?_
    rw [zn_shr, ← hnx]
    exact e
  | ladd =>
    have hc2 : (decide (len = 1) && decide (zpc k (i + 1) = pc0 + len)) = true := hc2
    simp only [Bool.and_eq_true, decide_eq_true_eq] at hc2
    obtain ⟨hlen, hnx⟩ := hc2
    subst hlen
    have hs : zbinL (fun a b => a + b) i L st S h = _ := hs
    obtain ⟨x, y, r, rfl, rfl, rfl, rfl, rfl, rfl⟩ := zbinL_inv hs
    have e := kk0 rfl rfl ls hl
    refine lv_ladd hx hb hd ?_
    rw [← Int64.ofInt_add, ← hnx]
    exact e
  | lsub =>
    have hc2 : (decide (len = 1) && decide (zpc k (i + 1) = pc0 + len)) = true := hc2
    simp only [Bool.and_eq_true, decide_eq_true_eq] at hc2
    obtain ⟨hlen, hnx⟩ := hc2
    subst hlen
    have hs : zbinL (fun a b => a - b) i L st S h = _ := hs
    obtain ⟨x, y, r, rfl, rfl, rfl, rfl, rfl, rfl⟩ := zbinL_inv hs
    have e := kk0 rfl rfl ls hl
    refine lv_lsub hx hb hd ?_
    rw [← Int64.ofInt_sub, ← hnx]
    exact e
  | lmul =>
    have hc2 : (decide (len = 1) && decide (zpc k (i + 1) = pc0 + len)) = true := hc2
    simp only [Bool.and_eq_true, decide_eq_true_eq] at hc2
    obtain ⟨hlen, hnx⟩ := hc2
    subst hlen
    have hs : zbinL (fun a b => a * b) i L st S h = _ := hs
    obtain ⟨x, y, r, rfl, rfl, rfl, rfl, rfl, rfl⟩ := zbinL_inv hs
    have e := kk0 rfl rfl ls hl
    refine lv_lmul hx hb hd ?_
    rw [← Int64.ofInt_mul, ← hnx]
    exact e
  | lor =>
    have hc2 : (decide (len = 1) && decide (zpc k (i + 1) = pc0 + len)) = true := hc2
    simp only [Bool.and_eq_true, decide_eq_true_eq] at hc2
    obtain ⟨hlen, hnx⟩ := hc2
    subst hlen
    have hs : zbinL zlor i L st S h = _ := hs
    obtain ⟨x, y, r, rfl, rfl, rfl, rfl, rfl, rfl⟩ := zbinL_inv hs
    have e := kk0 rfl rfl ls hl
    refine lv_lor hx hb hd ?_
    rw [zn_lor, ← hnx]
    exact e
  | iushr =>
    have hc2 : (decide (len = 1) && decide (zpc k (i + 1) = pc0 + len)) = true := hc2
    simp only [Bool.and_eq_true, decide_eq_true_eq] at hc2
    obtain ⟨hlen, hnx⟩ := hc2
    subst hlen
    have hs : zbin zushr i L st S h = _ := hs
    obtain ⟨x, y, r, rfl, rfl, rfl, rfl, rfl, rfl⟩ := zbin_inv hs
    exact lv_iushr hx hb hd (zn_ushr x y) (hnx ▸ kk0 rfl rfl ls hl)
  | idiv =>
    have hc2 : (decide (len = 1) && decide (zpc k (i + 1) = pc0 + len)) = true := hc2
    simp only [Bool.and_eq_true, decide_eq_true_eq] at hc2
    obtain ⟨hlen, hnx⟩ := hc2
    subst hlen
    have hs : zdiv Int.tdiv i L st S h = _ := hs
    obtain ⟨x, y, r, rfl, hy, rfl, rfl, rfl, rfl, rfl⟩ := zdiv_inv hs
    have e := kk0 rfl rfl ls hl
    refine lv_idiv hx hb hd (fun q => hy (zt_eqz.mp q)) ?_
    rw [zdiv_of hy, ← hnx]
    exact e
  | irem =>
    have hc2 : (decide (len = 1) && decide (zpc k (i + 1) = pc0 + len)) = true := hc2
    simp only [Bool.and_eq_true, decide_eq_true_eq] at hc2
    obtain ⟨hlen, hnx⟩ := hc2
    subst hlen
    have hs : zdiv Int.tmod i L st S h = _ := hs
    obtain ⟨x, y, r, rfl, hy, rfl, rfl, rfl, rfl, rfl⟩ := zdiv_inv hs
    have e := kk0 rfl rfl ls hl
    refine lv_irem hx hb hd (fun q => hy (zt_eqz.mp q)) ?_
    rw [zrem_of hy, ← hnx]
    exact e
  | ineg =>
    have hc2 : (decide (len = 1) && decide (zpc k (i + 1) = pc0 + len)) = true := hc2
    simp only [Bool.and_eq_true, decide_eq_true_eq] at hc2
    obtain ⟨hlen, hnx⟩ := hc2
    subst hlen
    have hs : zun (fun a => -a) i L st S h = _ := hs
    obtain ⟨x, r, rfl, rfl, rfl, rfl, rfl, rfl⟩ := zun_inv hs
    have e := kk0 rfl rfl ls hl
    refine lv_ineg hx hb hd ?_
    rw [← Int32.ofInt_neg, ← hnx]
    exact e
  | i2b =>
    have hc2 : (decide (len = 1) && decide (zpc k (i + 1) = pc0 + len)) = true := hc2
    simp only [Bool.and_eq_true, decide_eq_true_eq] at hc2
    obtain ⟨hlen, hnx⟩ := hc2
    subst hlen
    have hs : zun zb8 i L st S h = _ := hs
    obtain ⟨x, r, rfl, rfl, rfl, rfl, rfl, rfl⟩ := zun_inv hs
    exact lv_i2b hx hb hd (zn_i2b x) (hnx ▸ kk0 rfl rfl ls hl)
  | i2l =>
    have hc2 : (decide (len = 1) && decide (zpc k (i + 1) = pc0 + len)) = true := hc2
    simp only [Bool.and_eq_true, decide_eq_true_eq] at hc2
    obtain ⟨hlen, hnx⟩ := hc2
    subst hlen
    have hs : (match st with
      | .inl a :: r => znext (i + 1) L (zL (zw a) :: r) S h
      | _ => none) = some (Sum.inl (j, L', st', S', h')) := hs
    split at hs
    · cases hs
      exact lv_i2l hx hb hd (zn_i2l _) (hnx ▸ kk0 rfl rfl ls hl)
    · cases hs
  | lshl =>
    have hc2 : (decide (len = 1) && decide (zpc k (i + 1) = pc0 + len)) = true := hc2
    simp only [Bool.and_eq_true, decide_eq_true_eq] at hc2
    obtain ⟨hlen, hnx⟩ := hc2
    subst hlen
    have hs : (match st with
      | .inl b :: .inr (.inl a) :: r => znext (i + 1) L (zL (a * 2 ^ (b % 64).toNat) :: r) S h
      | _ => none) = some (Sum.inl (j, L', st', S', h')) := hs
    split at hs
    · cases hs
      exact lv_lshl hx hb hd (zn_lshl _ _) (hnx ▸ kk0 rfl rfl ls hl)
    · cases hs
  | lcmp =>
    have hc2 : (decide (len = 1) && decide (zpc k (i + 1) = pc0 + len)) = true := hc2
    simp only [Bool.and_eq_true, decide_eq_true_eq] at hc2
    obtain ⟨hlen, hnx⟩ := hc2
    subst hlen
    have hs : (match st with
      | .inr (.inl b) :: .inr (.inl a) :: r => znext (i + 1) L (zI (zlcmp a b) :: r) S h
      | _ => none) = some (Sum.inl (j, L', st', S', h')) := hs
    split at hs
    · cases hs
      have e := kk0 rfl rfl ls hl
      refine W.lcmp hx hb hd ?_
      rw [zn_cmp, ← hnx]
      exact e
    · cases hs
  | dup =>
    have hc2 : (decide (len = 1) && decide (zpc k (i + 1) = pc0 + len)) = true := hc2
    simp only [Bool.and_eq_true, decide_eq_true_eq] at hc2
    obtain ⟨hlen, hnx⟩ := hc2
    subst hlen
    have hs : (match st with
      | v :: r => if zwide v then none else znext (i + 1) L (v :: v :: r) S h
      | _ => none) = some (Sum.inl (j, L', st', S', h')) := hs
    split at hs
    · split at hs
      · cases hs
      · rename_i hv
        cases hs
        exact lv_dup hx hb hd (zt_cat1 (by simpa using hv)) (hnx ▸ kk0 rfl rfl ls hl)
    · cases hs
  | dup2 =>
    have hc2 : (decide (len = 1) && decide (zpc k (i + 1) = pc0 + len)) = true := hc2
    simp only [Bool.and_eq_true, decide_eq_true_eq] at hc2
    obtain ⟨hlen, hnx⟩ := hc2
    subst hlen
    have hs : (match st with
      | v :: w :: r => if zwide v || zwide w then none else znext (i + 1) L (v :: w :: v :: w :: r) S h
      | _ => none) = some (Sum.inl (j, L', st', S', h')) := hs
    split at hs
    · split at hs
      · cases hs
      · rename_i hv
        simp only [Bool.or_eq_true, not_or, Bool.not_eq_true] at hv
        cases hs
        exact lv_dup2_11 hx hb hd (zt_cat1 hv.1) (zt_cat1 hv.2) (hnx ▸ kk0 rfl rfl ls hl)
    · cases hs
  | pop =>
    have hc2 : (decide (len = 1) && decide (zpc k (i + 1) = pc0 + len)) = true := hc2
    simp only [Bool.and_eq_true, decide_eq_true_eq] at hc2
    obtain ⟨hlen, hnx⟩ := hc2
    subst hlen
    have hs : (match st with
      | v :: r => if zwide v then none else znext (i + 1) L r S h
      | _ => none) = some (Sum.inl (j, L', st', S', h')) := hs
    split at hs
    · split at hs
      · cases hs
      · rename_i hv
        cases hs
        exact lv_pop hx hb hd (zt_cat1 (by simpa using hv)) (hnx ▸ kk0 rfl rfl ls hl)
    · cases hs
  | iinc x n =>
    simp only [zchk2, Bool.and_eq_true, Bool.or_eq_true, decide_eq_true_eq] at hc2
    obtain ⟨hlen, hnx⟩ := hc2
    have hs : ziinc x n i L st S h = _ := hs
    obtain ⟨z1, h1, rfl, rfl, rfl, rfl, rfl⟩ := ziinc_inv hs
    exact zs_iinc hx hb hlen hd hl h1 fun ls1 hl1 => hnx ▸ kk0 rfl rfl ls1 hl1
  | ifCond cd off =>
    simp only [zchk2, Bool.and_eq_true, decide_eq_true_eq] at hc2
    obtain ⟨⟨hlen, ht⟩, hnx⟩ := hc2
    subst hlen
    have hs : zif cd a i L st S h = _ := hs
    obtain ⟨x, rfl, rfl, rfl, rfl, h5⟩ := zif_inv hs
    rcases h5 with ⟨h5, rfl⟩ | ⟨h5, rfl⟩
    · exact zs_if hx hb hd ht (fun _ => kk0 rfl rfl ls hl) (fun q => by rw [h5] at q; cases q)
    · exact zs_if hx hb hd ht (fun q => by rw [h5] at q; cases q) (fun _ => hnx ▸ kk0 rfl rfl ls hl)
  | if_icmp cd off =>
    simp only [zchk2, Bool.and_eq_true, decide_eq_true_eq] at hc2
    obtain ⟨⟨hlen, ht⟩, hnx⟩ := hc2
    subst hlen
    have hs : zcmp cd a i L st S h = _ := hs
    obtain ⟨x, y, rfl, rfl, rfl, rfl, h5⟩ := zcmp_inv hs
    rcases h5 with ⟨h5, rfl⟩ | ⟨h5, rfl⟩
    · exact zs_icmp hx hb hd ht (fun _ => kk0 rfl rfl ls hl) (fun q => by rw [h5] at q; cases q)
    · exact zs_icmp hx hb hd ht (fun q => by rw [h5] at q; cases q) (fun _ => hnx ▸ kk0 rfl rfl ls hl)
  | goto off =>
    simp only [zchk2, Bool.and_eq_true, decide_eq_true_eq] at hc2
    obtain ⟨hlen, ht⟩ := hc2
    subst hlen
    have hs : znext a L st S h = _ := hs
    unfold znext at hs
    cases hs
    exact lv_goto hx hb hd ht (kk0 rfl rfl ls hl)
  | tableswitch d lo hi offs =>
    simp only [zchk2, Bool.and_eq_true, decide_eq_true_eq, List.all_eq_true, List.mem_range] at hc2
    obtain ⟨⟨⟨hd1, hsz⟩, hks⟩, hin⟩ := hc2
    have hs : zswitch a ts L st S h = _ := hs
    obtain ⟨x, rfl, rfl, rfl, rfl, rfl⟩ := zswitch_inv hs
    by_cases hr : zw x < lo ∨ hi < zw x
    · have hf : zfind (zw x) ts a = a := zfind_none fun q hq => by
        have := hks q hq
        omega
      have e := kk0 rfl rfl ls hl
      rw [hf] at e
      exact lv_tableOut hx hb hd (by rw [zw_toInt]; exact hr) hd1 e
    · have hj : ((zw x) - lo).toNat < offs.size := by omega
      have h1 := hin _ hj
      have h2 : lo + (((zw x) - lo).toNat : Int) = zw x := by omega
      cases ho : offs[((zw x) - lo).toNat]? with
      | none => rw [ho] at h1; simp at h1
      | some off =>
        rw [ho] at h1
        simp only [decide_eq_true_eq, h2] at h1
        exact lv_tableIn hx hb hd (by rw [zw_toInt]; omega) (by rw [zw_toInt]; omega) (by rw [zw_toInt]; exact ho) h1 (kk0 rfl rfl ls hl)
  | lookupswitch d ps =>
    simp only [zchk2, Bool.and_eq_true, decide_eq_true_eq] at hc2
    obtain ⟨⟨hd1, hso⟩, heq⟩ := hc2
    have hs : zswitch a ts L st S h = _ := hs
    obtain ⟨x, rfl, rfl, rfl, rfl, rfl⟩ := zswitch_inv hs
    exact lv_lookup hx hb hd hso rfl (by rw [zw_toInt]; exact zlook heq hd1) (kk0 rfl rfl ls hl)
  | getfield ix =>
    have hc2 : (decide (len = 3) && decide (zpc k (i + 1) = pc0 + len)) = true := hc2
    simp only [Bool.and_eq_true, decide_eq_true_eq] at hc2
    obtain ⟨hlen, hnx⟩ := hc2
    subst hlen
    have hs : zget a b i L st S h = _ := hs
    obtain ⟨o, v, r, rfl, hk, rfl, rfl, rfl, rfl, rfl, hv⟩ := zget_inv hs
    have e := kk0 rfl rfl ls hl
    refine zh_get hx hb hts hown I hw.1 hw.2.1 hw.2.2 hk hd ?_
    rw [← hv ad, ← hnx]
    exact e
  | putfield ix =>
    have hc2 : (decide (len = 3) && decide (zpc k (i + 1) = pc0 + len)) = true := hc2
    simp only [Bool.and_eq_true, decide_eq_true_eq] at hc2
    obtain ⟨hlen, hnx⟩ := hc2
    subst hlen
    have hs : zput a b i L st S h = _ := hs
    obtain ⟨o, v, rfl, hk, rfl, rfl, h5⟩ := zput_inv hs
    obtain ⟨o1, o2, o3, o4⟩ := I.2.2.2.2.2.1.obj hw.1 hk
    have hf : (zTn a b).2.2.2 = true → meth.name = "<init>" ∧ (zTn a b).1 = (zmi k).2.2.2.2.1 := fun q => ⟨hin (hw.2.2.2 q).1, (hw.2.2.2 q).2⟩
    rcases h5 with ⟨z1, rfl, ht, rfl, rfl⟩ | ⟨z1, rfl, ht, rfl, rfl⟩ | ⟨z1, rfl, ht, hz, rfl, rfl⟩ | ⟨q, rfl, ht, rfl, rfl⟩
    · exact zh_put0 hx hb hts hown I hw.1 hw.2.1 hw.2.2.1 hf hk hd (by cases hh : zTys a b <;> rw [hh] at ht <;> simp [zty] at ht <;> rfl) (by cases hh : zTys a b <;> rw [hh] at ht <;> simp [zty] at ht <;> rfl) rfl I.2.2.2.2.2.1 (zE_putz (z := z1) hw.1 hw.2.1 hk o3 ht) (fun o' hn => zEc_ne hn) rfl (zu_ne (by omega)) fun H1 locs1 I1 => hnx ▸ kkw rfl rfl H1 locs1 I1 rfl
    · exact zh_put0 hx hb hts hown I hw.1 hw.2.1 hw.2.2.1 hf hk hd (by cases hh : zTys a b <;> rw [hh] at ht <;> simp [zty] at ht <;> rfl) (by cases hh : zTys a b <;> rw [hh] at ht <;> simp [zty] at ht <;> rfl) rfl I.2.2.2.2.2.1 (zE_putz (z := z1) hw.1 hw.2.1 hk o3 ht) (fun o' hn => zEc_ne hn) rfl (zu_ne (by omega)) fun H1 locs1 I1 => hnx ▸ kkw rfl rfl H1 locs1 I1 rfl
    · have hb1 : zTys a b = .boolean := by cases hh : zTys a b <;> rw [hh] at ht <;> simp [zty] at ht <;> rfl
      have hz1 : ∀ r, zFv ad 2 z1 r = .int (Int32.ofInt z1) := fun r => by rcases hz with rfl | rfl <;> rfl
      have e := zE_putz (ad := ad) (ca := ca) (h := h) (z := z1) hw.1 hw.2.1 hk o3 ht
      rw [hz1] at e
      exact zh_put0 hx hb hts hown I hw.1 hw.2.1 hw.2.2.1 hf hk hd (by rw [hb1]; rcases hz with rfl | rfl <;> rfl) (by rw [hb1]; rcases hz with rfl | rfl <;> rfl) rfl I.2.2.2.2.2.1 e (fun o' hn => zEc_ne hn) rfl (zu_ne (by omega)) fun H1 locs1 I1 => hnx ▸ kkw rfl rfl H1 locs1 I1 rfl
    · exact zh_put0 hx hb hts hown I hw.1 hw.2.1 hw.2.2.1 hf hk hd (by cases hh : zTys a b <;> rw [hh] at ht <;> simp [zty] at ht <;> rfl) (by cases hh : zTys a b <;> rw [hh] at ht <;> simp [zty] at ht <;> rfl) zrset_len (I.2.2.2.2.2.1.rset o1 o2) (zE_putr (q := q) hw.1 hw.2.1 hk o3 o4 o2 ht) (fun o' hn => zEc_rset_ne hn) (zrset_ne (by omega)) rfl fun H1 locs1 I1 => hnx ▸ kkw zrset_len zcs_rset H1 locs1 I1 rfl
  | iaload =>
    have hc2 : (decide (len = 1) && decide (zpc k (i + 1) = pc0 + len)) = true := hc2
    simp only [Bool.and_eq_true, decide_eq_true_eq] at hc2
    obtain ⟨hlen, hnx⟩ := hc2
    subst hlen
    have hs : (if a = 108 then zsld i L st S h else zald a i L st S h) = _ := hs
    split at hs
    · obtain ⟨x, q, r, rfl, hq, rfl, rfl, rfl, rfl, rfl⟩ := zsld_inv hs
      exact zh_sld hx hb I hq hd (hnx ▸ kk0 rfl rfl ls hl)
    · rename_i hna
      have ha : a = 100 := hw.resolve_right hna
      subst ha
      obtain ⟨x, o, q, v, r, rfl, hk, hq, rfl, rfl, rfl, rfl, rfl, h5⟩ := zald_inv hs
      refine zh_ald (v := v) hx hb I hk hq ?_ (hnx ▸ kk0 rfl rfl ls hl)
      rcases h5 with ⟨q1, q2⟩ | ⟨q1, q2⟩ | ⟨q1, q2⟩ | ⟨q1, q2⟩ | ⟨n1, n2, n3, n4, q2⟩
      · exact Or.inl ⟨q1, q2, hd⟩
      · cases q1
      · cases q1
      · cases q1
      · exact absurd rfl n1
  | baload =>
    have hc2 : (decide (len = 1) && decide (zpc k (i + 1) = pc0 + len)) = true := hc2
    simp only [Bool.and_eq_true, decide_eq_true_eq] at hc2
    obtain ⟨hlen, hnx⟩ := hc2
    subst hlen
    have hs : zald a i L st S h = _ := hs
    obtain ⟨x, o, q, v, r, rfl, hk, hq, rfl, rfl, rfl, rfl, rfl, h5⟩ := zald_inv hs
    refine zh_ald (v := v) hx hb I hk hq ?_ (hnx ▸ kk0 rfl rfl ls hl)
    rcases h5 with ⟨q1, q2⟩ | ⟨q1, q2⟩ | ⟨q1, q2⟩ | ⟨q1, q2⟩ | ⟨n1, n2, n3, n4, q2⟩
    · exact absurd hw (by show ¬ (a = 101 ∨ a = 102); omega)
    · exact Or.inr (Or.inl ⟨q1, q2, hd⟩)
    · exact Or.inr (Or.inr (Or.inl ⟨q1, q2, hd⟩))
    · exact absurd hw (by show ¬ (a = 101 ∨ a = 102); omega)
    · exact absurd hw (by show ¬ (a = 101 ∨ a = 102); omega)
  | laload =>
    have hc2 : (decide (len = 1) && decide (zpc k (i + 1) = pc0 + len)) = true := hc2
    simp only [Bool.and_eq_true, decide_eq_true_eq] at hc2
    obtain ⟨hlen, hnx⟩ := hc2
    subst hlen
    have hw : a = 103 := hw
    have hs : zald a i L st S h = _ := hs
    obtain ⟨x, o, q, v, r, rfl, hk, hq, rfl, rfl, rfl, rfl, rfl, h5⟩ := zald_inv hs
    refine zh_ald (v := v) hx hb I hk hq ?_ (hnx ▸ kk0 rfl rfl ls hl)
    rcases h5 with ⟨q1, q2⟩ | ⟨q1, q2⟩ | ⟨q1, q2⟩ | ⟨q1, q2⟩ | ⟨n1, n2, n3, n4, q2⟩
    · omega
    · omega
    · omega
    · exact Or.inr (Or.inr (Or.inr (Or.inl ⟨q1, q2, hd⟩)))
    · omega
  | aaload =>
    have hc2 : (decide (len = 1) && decide (zpc k (i + 1) = pc0 + len)) = true := hc2
    simp only [Bool.and_eq_true, decide_eq_true_eq] at hc2
    obtain ⟨hlen, hnx⟩ := hc2
    subst hlen
    have hw : 104 ≤ a ∧ a < 108 := hw
    have hs : zald a i L st S h = _ := hs
    obtain ⟨x, o, q, v, r, rfl, hk, hq, rfl, rfl, rfl, rfl, rfl, h5⟩ := zald_inv hs
    refine zh_ald (v := v) hx hb I hk hq ?_ (hnx ▸ kk0 rfl rfl ls hl)
    rcases h5 with ⟨q1, q2⟩ | ⟨q1, q2⟩ | ⟨q1, q2⟩ | ⟨q1, q2⟩ | ⟨n1, n2, n3, n4, q2⟩
    · omega
    · omega
    · omega
    · omega
    · exact Or.inr (Or.inr (Or.inr (Or.inr ⟨hw.1, hw.2, q2, hd⟩)))
  | iastore =>
    have hc2 : (decide (len = 1) && decide (zpc k (i + 1) = pc0 + len)) = true := hc2
    simp only [Bool.and_eq_true, decide_eq_true_eq] at hc2
    obtain ⟨hlen, hnx⟩ := hc2
    subst hlen
    have hw : a = 100 := hw
    have hs : zast a i L st S h = _ := hs
    obtain ⟨v, x, o, q, rfl, hk, hq, rfl, rfl, h5⟩ := zast_inv hs
    rcases h5 with ⟨z1, rfl, g1, g2, rfl, rfl⟩ | ⟨z1, rfl, g1, rfl, rfl⟩ | ⟨q1, rfl, g1, rfl, rfl⟩
    · exact zh_ast (v := zI z1) hx hb I hk hq (Or.inl ⟨hw, rfl, hd⟩) fun H1 locs1 I1 => hnx ▸ kkw rfl rfl H1 locs1 I1 rfl
    · omega
    · omega
  | bastore =>
    have hc2 : (decide (len = 1) && decide (zpc k (i + 1) = pc0 + len)) = true := hc2
    simp only [Bool.and_eq_true, decide_eq_true_eq] at hc2
    obtain ⟨hlen, hnx⟩ := hc2
    subst hlen
    have hw : a = 101 ∨ a = 102 := hw
    have hs : zast a i L st S h = _ := hs
    obtain ⟨v, x, o, q, rfl, hk, hq, rfl, rfl, h5⟩ := zast_inv hs
    rcases h5 with ⟨z1, rfl, g1, g2, rfl, rfl⟩ | ⟨z1, rfl, g1, rfl, rfl⟩ | ⟨q1, rfl, g1, rfl, rfl⟩
    · rcases hw with hw | hw
      · exact zh_ast (v := zI z1) hx hb I hk hq (Or.inr (Or.inl ⟨hw, rfl, hd⟩)) fun H1 locs1 I1 => hnx ▸ kkw rfl rfl H1 locs1 I1 rfl
      · exact zh_ast (v := zI z1) hx hb I hk hq (Or.inr (Or.inr (Or.inl ⟨hw, rfl, hd⟩))) fun H1 locs1 I1 => hnx ▸ kkw rfl rfl H1 locs1 I1 rfl
    · omega
    · omega
  | lastore =>
    have hc2 : (decide (len = 1) && decide (zpc k (i + 1) = pc0 + len)) = true := hc2
    simp only [Bool.and_eq_true, decide_eq_true_eq] at hc2
    obtain ⟨hlen, hnx⟩ := hc2
    subst hlen
    have hw : a = 103 := hw
    have hs : zast a i L st S h = _ := hs
    obtain ⟨v, x, o, q, rfl, hk, hq, rfl, rfl, h5⟩ := zast_inv hs
    rcases h5 with ⟨z1, rfl, g1, g2, rfl, rfl⟩ | ⟨z1, rfl, g1, rfl, rfl⟩ | ⟨q1, rfl, g1, rfl, rfl⟩
    · omega
    · exact zh_ast (v := zL z1) hx hb I hk hq (Or.inr (Or.inr (Or.inr ⟨hw, rfl, hd⟩))) fun H1 locs1 I1 => hnx ▸ kkw rfl rfl H1 locs1 I1 rfl
    · omega
  | aastore =>
    have hc2 : (decide (len = 1) && decide (zpc k (i + 1) = pc0 + len)) = true := hc2
    simp only [Bool.and_eq_true, decide_eq_true_eq] at hc2
    obtain ⟨hlen, hnx⟩ := hc2
    subst hlen
    have hw : 104 ≤ a ∧ a < 108 := hw
    have hs : zast a i L st S h = _ := hs
    obtain ⟨v, x, o, q, rfl, hk, hq, rfl, rfl, h5⟩ := zast_inv hs
    rcases h5 with ⟨z1, rfl, g1, g2, rfl, rfl⟩ | ⟨z1, rfl, g1, rfl, rfl⟩ | ⟨q1, rfl, g1, rfl, rfl⟩
    · omega
    · omega
    · refine zh_aast (ci := (zC S q1).1) hx hb I hk hq ?_ rfl hd fun H1 locs1 I1 => hnx ▸ kkw zrset_len zcs_rset H1 locs1 I1 rfl
      exact g1
  | arraylength =>
    have hc2 : (decide (len = 1) && decide (zpc k (i + 1) = pc0 + len)) = true := hc2
    simp only [Bool.and_eq_true, decide_eq_true_eq] at hc2
    obtain ⟨hlen, hnx⟩ := hc2
    subst hlen
    have hs : zlen a i L st S h = _ := hs
    obtain ⟨o, r, rfl, h5, rfl, rfl, rfl, rfl, rfl⟩ := zlen_inv hs
    rcases h5 with ⟨g1, rfl⟩ | ⟨g1, g2, g3⟩
    · exact zh_slen hx hb I hd (hnx ▸ kk0 rfl rfl ls hl)
    · exact zh_len hx hb I g1 ⟨g2, g3⟩ hd (hnx ▸ kk0 rfl rfl ls hl)
  | new ix =>
    have hc2 : (decide (len = 3) && decide (zpc k (i + 1) = pc0 + len)) = true := hc2
    simp only [Bool.and_eq_true, decide_eq_true_eq] at hc2
    obtain ⟨hlen, hnx⟩ := hc2
    subst hlen
    have hs : zmake a b b i L st S h = _ := hs
    obtain ⟨v1, v2, v3, v9, rfl, rfl, rfl, rfl, rfl⟩ := zmake_inv hs
    obtain ⟨w1, w2, w3, w4, w5⟩ := hw
    have w2 : b = zNf a := w2
    subst w2
    rw [List.length_append, List.length_singleton] at hcells kk
    rw [zcs_app] at hslots kk
    rw [show S.length + 1 - S.length = 1 by omega] at hcells kk
    rw [show zcs S + zNf a - zcs S = zNf a by omega] at hslots kk
    refine zh_new hx hb hts hown I w1 w3 w4 w5 v1 v9 hcells hslots hd fun q H1 I1 => ?_
    have e := kk _ H1 locs ls (fun o ho => by rw [zad, if_neg (by omega)]) I1 (hl.grow v2)
    rw [List.map_cons, zvalid_map v3, hnx] at e
    have e1 : zt (zad ad S.length q) (zR S.length) = .ref q := by show Value.ref (zad ad S.length q S.length) = _; rw [zad, if_pos rfl]
    rw [e1] at e
    exact e
  | newarray t =>
    have hc2 : (decide (len = 2) && decide (zpc k (i + 1) = pc0 + len)) = true := hc2
    simp only [Bool.and_eq_true, decide_eq_true_eq] at hc2
    obtain ⟨hlen, hnx⟩ := hc2
    subst hlen
    have hs : znewa a i L st S h = _ := hs
    obtain ⟨w1, w2, w3, w4⟩ := hw
    obtain ⟨x, n, r, rfl, hn, hm⟩ := znewa_inv hs
    obtain ⟨v1, v2, v3, v9, rfl, rfl, rfl, rfl, rfl⟩ := zmake_inv hm
    rw [List.length_append, List.length_singleton] at hcells kk
    rw [zcs_app] at hslots kk
    simp only [Nat.add_sub_cancel_left] at hcells hslots kk
    rw [if_pos w2] at kk
    refine zh_newa hx hb hts I ⟨w1, w2⟩ w3 w4 v1 v9 hn hcells hslots hd fun q H1 I1 => ?_
    have e := kk _ H1 locs ls (fun o ho => by rw [zad, if_neg (by omega)]) I1 (hl.grow v2)
    rw [List.map_cons, zvalid_map v3, hnx] at e
    have e1 : zt (zad ad S.length q) (zR S.length) = .ref q := by show Value.ref (zad ad S.length q S.length) = _; rw [zad, if_pos rfl]
    rw [e1] at e
    exact e
  | anewarray ix =>
    have hc2 : (decide (len = 3) && decide (zpc k (i + 1) = pc0 + len)) = true := hc2
    simp only [Bool.and_eq_true, decide_eq_true_eq] at hc2
    obtain ⟨hlen, hnx⟩ := hc2
    subst hlen
    have hs : znewa a i L st S h = _ := hs
    obtain ⟨w1, w2, C, w3, w4⟩ := hw
    obtain ⟨x, n, r, rfl, hn, hm⟩ := znewa_inv hs
    obtain ⟨v1, v2, v3, v9, rfl, rfl, rfl, rfl, rfl⟩ := zmake_inv hm
    rw [List.length_append, List.length_singleton] at hcells kk
    rw [zcs_app] at hslots kk
    simp only [Nat.add_sub_cancel_left] at hcells hslots kk
    have w1 : 104 ≤ a := w1
    rw [if_neg (show ¬ a < 104 by omega)] at kk
    refine zh_newq hx hb hts hown I ⟨w1, w2⟩ w3 w4 v1 v9 hn hcells hslots hd fun q H1 I1 => ?_
    have e := kk _ H1 locs ls (fun o ho => by rw [zad, if_neg (by omega)]) I1 (hl.grow v2)
    rw [List.map_cons, zvalid_map v3, hnx] at e
    have e1 : zt (zad ad S.length q) (zR S.length) = .ref q := by show Value.ref (zad ad S.length q S.length) = _; rw [zad, if_pos rfl]
    rw [e1] at e
    exact e
  | invokestatic ix =>
    have hc2 : (decide (len = 3) && decide (zpc k (i + 1) = pc0 + len)) = true := hc2
    simp only [Bool.and_eq_true, decide_eq_true_eq] at hc2
    obtain ⟨hlen, hnx⟩ := hc2
    subst hlen
    have hs : (if a = 10001 then zcopy i L st S h else zcall a b L st) = _ := hs
    split at hs
    · rename_i ha
      have hw : Cond.methodLink (zmi k).2.2.2.2.1 ix arraycopyName ∈ zGw ∧ 1 ≤ (zmi k).2.2.2.2.2.2.1 ∧ 18 ≤ (zmi k).2.2.2.2.2.2.2.1 := by
        have hw2 := hw
        simp only [zWd, ha, if_true] at hw2
        exact hw2
      obtain ⟨z1, y, o2, x, o1, rfl, g1, g2, g3, g4, g5, g6, g7, rfl, rfl, rfl, rfl, rfl⟩ := zcopy_inv hs
      exact zh_copy hx hb (by rw [hml, ← hL]; exact hl.1.symm) hts hown I hw.1 zw_copy.1 zw_copy.2.1 zw_copy.2.2 g1 g2 g3 g4 g5 g6 g7 (by omega) (by omega) hd fun H1 locs1 I1 => hnx ▸ kkw rfl rfl H1 locs1 I1 rfl
    · unfold zcall at hs
      split at hs <;> cases hs
  | invokespecial ix =>
    have hc2 : (decide (len = 3) && decide (zpc k (i + 1) = pc0 + len)) = true := hc2
    simp only [Bool.and_eq_true, decide_eq_true_eq] at hc2
    obtain ⟨hlen, hnx⟩ := hc2
    subst hlen
    have hs : (if a = 10000 then _ else zcallI a b L st) = _ := hs
    split at hs
    · rename_i ha
      have hw : Cond.methodLink (zmi k).2.2.2.2.1 ix Lib.objectInit ∈ zGw ∧ 1 ≤ (zmi k).2.2.2.2.2.2.1 ∧ 12 ≤ (zmi k).2.2.2.2.2.2.2.1 := by
        have hw2 := hw
        simp only [zWd, ha, if_true] at hw2
        exact hw2
      split at hs
      · cases hs
        refine W.objInit hx hb hown (hts _ hw.1) (hts _ zw_init.1) (hts _ zw_init.2) rfl (by rw [hml, ← hL]; exact hl.1) rfl hd (by omega) (by show 2 * 0 + 0 + 12 ≤ _; omega) ?_
        exact hnx ▸ kk0 rfl rfl ls hl
      · cases hs
    · unfold zcallI zcall at hs
      repeat' (first | (solve | cases hs) | split at hs)
  | invokevirtual ix =>
    have hc2 : (decide (len = 3) && decide (zpc k (i + 1) = pc0 + len)) = true := hc2
    simp only [Bool.and_eq_true, decide_eq_true_eq] at hc2
    obtain ⟨hlen, hnx⟩ := hc2
    subst hlen
    have hs : (if a = 10002 then zsln i L st S h else if a = 10003 then zsch i L st S h else zcallV a b z L st S) = _ := hs
    split at hs
    · rename_i ha
      obtain ⟨k9, r, h1, h2, rfl, rfl, rfl, rfl, rfl, rfl⟩ := zsln_inv hs
      have hw : Cond.methodLink (zmi k).2.2.2.2.1 ix yJ0_length_8abf5 ∈ zGw ∧ 2 ≤ (zmi k).2.2.2.2.2.2.1 ∧ 40 ≤ (zmi k).2.2.2.2.2.2.2.1 := by
        simp only [zWd, if_pos ha] at hw
        exact hw
      refine zh_sln hx hb hml (by rw [hl.1, hL]) hts hown I h1 hw.1 (by omega) (by omega) (by rw [zwds_map0]; exact h2) (by omega) (by omega) hd (fun H1 locs1 I1 => ?_)
      have := kkw rfl rfl H1 locs1 I1 rfl
      rw [hnx] at this
      exact this
    · split at hs
      · rename_i ha0 ha
        obtain ⟨k9, x9, a9, r, h1, h2, rfl, h3, rfl, rfl, rfl, rfl, rfl⟩ := zsch_inv hs
        have hw : Cond.methodLink (zmi k).2.2.2.2.1 ix yJ0_charAt_5068e ∈ zGw ∧ 4 ≤ (zmi k).2.2.2.2.2.2.1 ∧ 85 ≤ (zmi k).2.2.2.2.2.2.2.1 := by
          simp only [zWd, if_neg ha0, if_pos ha] at hw
          exact hw
        refine zh_sch hx hb hml (by rw [hl.1, hL]) hts hown I h1 h3 hw.1 (by omega) (by omega) (by rw [zwds_map0]; exact h2) (by omega) (by omega) hd (fun H1 locs1 I1 => ?_)
        have := kkw rfl rfl H1 locs1 I1 rfl
        rw [hnx] at this
        exact this
      · unfold zcallV zcall at hs
        split at hs
        · split at hs
          · split at hs <;> cases hs
          · cases hs
        · cases hs
  | ireturn =>
    have hs : (match st with
      | [.inl z1] => if a = 0 ∨ z1 = 0 ∨ z1 = 1 then zback (some (zI z1)) else none
      | _ => none) = some (Sum.inl (j, L', st', S', h')) := hs
    split at hs
    · split at hs <;> cases hs
    · cases hs
  | lreturn =>
    have hs : (match st with
      | [.inr (.inl z1)] => zback (some (zL z1))
      | _ => none) = some (Sum.inl (j, L', st', S', h')) := hs
    split at hs <;> cases hs
  | areturn =>
    have hs : (match st with
      | [.inr (.inr (some o))] => zback (some (zR o))
      | _ => none) = some (Sum.inl (j, L', st', S', h')) := hs
    split at hs <;> cases hs
  | return_ =>
    have hs : (match st with
      | [] => zback none
      | _ => none) = some (Sum.inl (j, L', st', S', h')) := hs
    split at hs <;> cases hs
  | _ => cases hs
