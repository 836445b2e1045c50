/-! THE SMALL MACHINE IS SOUND: what steps keep; returns; calls (laid by wip/whole/zpure.py) -/
theorem zload_no {i : Nat} {k : Nat} {t : Nat} {L st : List zV} {S : zS} {h : zH} {x : Option zV ⊕ (Nat × List zV × List zV × List zV)} : ¬ zload i k t L st S h = some (.inr x) := by
  intro hs
  unfold zload znext at hs
  repeat' (first | (solve | cases hs) | split at hs)
theorem zstore_no {i : Nat} {k : Nat} {t : Nat} {L st : List zV} {S : zS} {h : zH} {x : Option zV ⊕ (Nat × List zV × List zV × List zV)} : ¬ zstore i k t L st S h = some (.inr x) := by
  intro hs
  unfold zstore znext at hs
  repeat' (first | (solve | cases hs) | split at hs)
theorem zpush_no {v : zV} {i : Nat} {L st : List zV} {S : zS} {h : zH} {x : Option zV ⊕ (Nat × List zV × List zV × List zV)} : ¬ zpush v i L st S h = some (.inr x) := by
  intro hs
  unfold zpush znext at hs
  repeat' (first | (solve | cases hs) | split at hs)
theorem zbin_no {f : Int → Int → Int} {i : Nat} {L st : List zV} {S : zS} {h : zH} {x : Option zV ⊕ (Nat × List zV × List zV × List zV)} : ¬ zbin f i L st S h = some (.inr x) := by
  intro hs
  unfold zbin znext at hs
  repeat' (first | (solve | cases hs) | split at hs)
theorem zbinL_no {f : Int → Int → Int} {i : Nat} {L st : List zV} {S : zS} {h : zH} {x : Option zV ⊕ (Nat × List zV × List zV × List zV)} : ¬ zbinL f i L st S h = some (.inr x) := by
  intro hs
  unfold zbinL znext at hs
  repeat' (first | (solve | cases hs) | split at hs)
theorem zdiv_no {f : Int → Int → Int} {i : Nat} {L st : List zV} {S : zS} {h : zH} {x : Option zV ⊕ (Nat × List zV × List zV × List zV)} : ¬ zdiv f i L st S h = some (.inr x) := by
  intro hs
  unfold zdiv znext at hs
  repeat' (first | (solve | cases hs) | split at hs)
theorem zun_no {f : Int → Int} {i : Nat} {L st : List zV} {S : zS} {h : zH} {x : Option zV ⊕ (Nat × List zV × List zV × List zV)} : ¬ zun f i L st S h = some (.inr x) := by
  intro hs
  unfold zun znext at hs
  repeat' (first | (solve | cases hs) | split at hs)
theorem zif_no {cd : Jvm.ClassFile.Cond} {t : Nat} {i : Nat} {L st : List zV} {S : zS} {h : zH} {x : Option zV ⊕ (Nat × List zV × List zV × List zV)} : ¬ zif cd t i L st S h = some (.inr x) := by
  intro hs
  unfold zif zbranch znext at hs
  repeat' (first | (solve | cases hs) | split at hs)
theorem zcmp_no {cd : Jvm.ClassFile.Cond} {t : Nat} {i : Nat} {L st : List zV} {S : zS} {h : zH} {x : Option zV ⊕ (Nat × List zV × List zV × List zV)} : ¬ zcmp cd t i L st S h = some (.inr x) := by
  intro hs
  unfold zcmp zbranch znext at hs
  repeat' (first | (solve | cases hs) | split at hs)
theorem zswitch_no {d : Nat} {ts : List (Int × Nat)} {L st : List zV} {S : zS} {h : zH} {x : Option zV ⊕ (Nat × List zV × List zV × List zV)} : ¬ zswitch d ts L st S h = some (.inr x) := by
  intro hs
  unfold zswitch znext at hs
  repeat' (first | (solve | cases hs) | split at hs)
theorem ziinc_no {k : Nat} {n : Int} {i : Nat} {L st : List zV} {S : zS} {h : zH} {x : Option zV ⊕ (Nat × List zV × List zV × List zV)} : ¬ ziinc k n i L st S h = some (.inr x) := by
  intro hs
  unfold ziinc znext at hs
  repeat' (first | (solve | cases hs) | split at hs)
theorem zget_no {ci : Nat} {k : Nat} {i : Nat} {L st : List zV} {S : zS} {h : zH} {x : Option zV ⊕ (Nat × List zV × List zV × List zV)} : ¬ zget ci k i L st S h = some (.inr x) := by
  intro hs
  unfold zget znext at hs
  repeat' (first | (solve | cases hs) | split at hs)
theorem zput_no {ci : Nat} {k : Nat} {i : Nat} {L st : List zV} {S : zS} {h : zH} {x : Option zV ⊕ (Nat × List zV × List zV × List zV)} : ¬ zput ci k i L st S h = some (.inr x) := by
  intro hs
  unfold zput znext at hs
  repeat' (first | (solve | cases hs) | split at hs)
theorem zald_no {kd : Nat} {i : Nat} {L st : List zV} {S : zS} {h : zH} {x : Option zV ⊕ (Nat × List zV × List zV × List zV)} : ¬ zald kd i L st S h = some (.inr x) := by
  intro hs
  unfold zald znext at hs
  repeat' (first | (solve | cases hs) | split at hs)
theorem zsld_no {i : Nat} {L st : List zV} {S : zS} {h : zH} {x : Option zV ⊕ (Nat × List zV × List zV × List zV)} : ¬ zsld i L st S h = some (.inr x) := by
  intro hs
  unfold zsld znext at hs
  repeat' (first | (solve | cases hs) | split at hs)
theorem zlen_no {kd : Nat} {i : Nat} {L st : List zV} {S : zS} {h : zH} {x : Option zV ⊕ (Nat × List zV × List zV × List zV)} : ¬ zlen kd i L st S h = some (.inr x) := by
  intro hs
  unfold zlen znext at hs
  repeat' (first | (solve | cases hs) | split at hs)
theorem zast_no {kd : Nat} {i : Nat} {L st : List zV} {S : zS} {h : zH} {x : Option zV ⊕ (Nat × List zV × List zV × List zV)} : ¬ zast kd i L st S h = some (.inr x) := by
  intro hs
  unfold zast znext at hs
  repeat' (first | (solve | cases hs) | split at hs)
theorem zsln_no {i : Nat} {L st : List zV} {S : zS} {h : zH} {x : Option zV ⊕ (Nat × List zV × List zV × List zV)} : ¬ zsln i L st S h = some (.inr x) := by
  intro hs
  unfold zsln znext at hs
  repeat' (first | (solve | cases hs) | split at hs)
theorem zsch_no {i : Nat} {L st : List zV} {S : zS} {h : zH} {x : Option zV ⊕ (Nat × List zV × List zV × List zV)} : ¬ zsch i L st S h = some (.inr x) := by
  intro hs
  unfold zsch znext at hs
  repeat' (first | (solve | cases hs) | split at hs)
theorem zstp_virt {i : Nat} {en : zE} {L st : List zV} {S : zS} {h : zH} {x : Option zV ⊕ (Nat × List zV × List zV × List zV)} {ix : Nat} (hs : zstp en i L st S h = some (.inr x)) (hi : en.2.2.1 = .invokevirtual ix) : en.2.2.2.1 ≠ 10002 ∧ en.2.2.2.1 ≠ 10003 := by
  unfold zstp at hs
  rw [hi] at hs
  dsimp only at hs
  constructor
  · intro q
    rw [if_pos q] at hs
    exact zsln_no hs
  · intro q
    rw [if_neg (by omega), if_pos q] at hs
    exact zsch_no hs
theorem zmake_no {kd : Nat} {n : Nat} {nr : Nat} {i : Nat} {L st : List zV} {S : zS} {h : zH} {x : Option zV ⊕ (Nat × List zV × List zV × List zV)} : ¬ zmake kd n nr i L st S h = some (.inr x) := by
  intro hs
  unfold zmake znext at hs
  repeat' (first | (solve | cases hs) | split at hs)
theorem znewa_no {kd : Nat} {i : Nat} {L st : List zV} {S : zS} {h : zH} {x : Option zV ⊕ (Nat × List zV × List zV × List zV)} : ¬ znewa kd i L st S h = some (.inr x) := by
  intro hs
  unfold znewa zmake znext at hs
  repeat' (first | (solve | cases hs) | split at hs)
theorem zcopy_no {i : Nat} {L st : List zV} {S : zS} {h : zH} {x : Option zV ⊕ (Nat × List zV × List zV × List zV)} : ¬ zcopy i L st S h = some (.inr x) := by
  intro hs
  unfold zcopy znext at hs
  repeat' (first | (solve | cases hs) | split at hs)
set_option maxHeartbeats 2000000 in
theorem zstp_pure {k i : Nat} {en : zE} {L st : List zV} {S : zS} {h : zH} {j : Nat} {L' st' : List zV} {S' : zS} {h' : zH} (hw : zWd k en) (hO : zOk S) (hs : zstp en i L st S h = some (.inl (j, L', st', S', h'))) : zOk S' ∧ zC S' 0 = zC S 0 ∧ h' 0 = h 0 ∧ S.length ≤ S'.length ∧ zcs S ≤ zcs S' ∧ L'.length = L.length := by
  obtain ⟨pc0, len, ins, a, b, z, ts, mask⟩ := en
  cases ins with
  | aload x =>
    have hs : zload i x 2 L st S h = _ := hs
    obtain ⟨v, h1, h2, rfl, rfl, rfl, rfl, rfl, -⟩ := zload_inv hs
    exact ⟨hO, rfl, rfl, Nat.le_refl _, Nat.le_refl _, rfl⟩
  | aload_n x =>
    have hs : zload i x 2 L st S h = _ := hs
    obtain ⟨v, h1, h2, rfl, rfl, rfl, rfl, rfl, -⟩ := zload_inv hs
    exact ⟨hO, rfl, rfl, Nat.le_refl _, Nat.le_refl _, rfl⟩
  | iload x =>
    have hs : zload i x 0 L st S h = _ := hs
    obtain ⟨v, h1, h2, rfl, rfl, rfl, rfl, rfl, -⟩ := zload_inv hs
    exact ⟨hO, rfl, rfl, Nat.le_refl _, Nat.le_refl _, rfl⟩
  | iload_n x =>
    have hs : zload i x 0 L st S h = _ := hs
    obtain ⟨v, h1, h2, rfl, rfl, rfl, rfl, rfl, -⟩ := zload_inv hs
    exact ⟨hO, rfl, rfl, Nat.le_refl _, Nat.le_refl _, rfl⟩
  | lload x =>
    have hs : zload i x 1 L st S h = _ := hs
    obtain ⟨v, h1, h2, rfl, rfl, rfl, rfl, rfl, -⟩ := zload_inv hs
    exact ⟨hO, rfl, rfl, Nat.le_refl _, Nat.le_refl _, rfl⟩
  | lload_n x =>
    have hs : zload i x 1 L st S h = _ := hs
    obtain ⟨v, h1, h2, rfl, rfl, rfl, rfl, rfl, -⟩ := zload_inv hs
    exact ⟨hO, rfl, rfl, Nat.le_refl _, Nat.le_refl _, rfl⟩
  | iconst n =>
    have hs : zpush (zI n) i L st S h = _ := hs
    obtain ⟨rfl, rfl, rfl, rfl, rfl⟩ := zpush_inv hs
    exact ⟨hO, rfl, rfl, Nat.le_refl _, Nat.le_refl _, rfl⟩
  | bipush n =>
    have hs : zpush (zI n) i L st S h = _ := hs
    obtain ⟨rfl, rfl, rfl, rfl, rfl⟩ := zpush_inv hs
    exact ⟨hO, rfl, rfl, Nat.le_refl _, Nat.le_refl _, rfl⟩
  | sipush n =>
    have hs : zpush (zI n) i L st S h = _ := hs
    obtain ⟨rfl, rfl, rfl, rfl, rfl⟩ := zpush_inv hs
    exact ⟨hO, rfl, rfl, Nat.le_refl _, Nat.le_refl _, rfl⟩
  | lconst n =>
    have hs : zpush (zL (n : Nat)) i L st S h = _ := hs
    obtain ⟨rfl, rfl, rfl, rfl, rfl⟩ := zpush_inv hs
    exact ⟨hO, rfl, rfl, Nat.le_refl _, Nat.le_refl _, rfl⟩
  | ldc_w ix =>
    have hs : zpush (zI z) i L st S h = _ := hs
    obtain ⟨rfl, rfl, rfl, rfl, rfl⟩ := zpush_inv hs
    exact ⟨hO, rfl, rfl, Nat.le_refl _, Nat.le_refl _, rfl⟩
  | ldc2_w ix =>
    have hs : zpush (zL z) i L st S h = _ := hs
    obtain ⟨rfl, rfl, rfl, rfl, rfl⟩ := zpush_inv hs
    exact ⟨hO, rfl, rfl, Nat.le_refl _, Nat.le_refl _, rfl⟩
  | iadd =>
    have hs : zbin (fun a b => a + b) i L st S h = _ := hs
    obtain ⟨x, y, r, rfl, rfl, rfl, rfl, rfl, rfl⟩ := zbin_inv hs
    exact ⟨hO, rfl, rfl, Nat.le_refl _, Nat.le_refl _, rfl⟩
  | isub =>
    have hs : zbin (fun a b => a - b) i L st S h = _ := hs
    obtain ⟨x, y, r, rfl, rfl, rfl, rfl, rfl, rfl⟩ := zbin_inv hs
    exact ⟨hO, rfl, rfl, Nat.le_refl _, Nat.le_refl _, rfl⟩
  | imul =>
    have hs : zbin (fun a b => a * b) i L st S h = _ := hs
    obtain ⟨x, y, r, rfl, rfl, rfl, rfl, rfl, rfl⟩ := zbin_inv hs
    exact ⟨hO, rfl, rfl, Nat.le_refl _, Nat.le_refl _, rfl⟩
  | iand =>
    have hs : zbin zband i L st S h = _ := hs
    obtain ⟨x, y, r, rfl, rfl, rfl, rfl, rfl, rfl⟩ := zbin_inv hs
    exact ⟨hO, rfl, rfl, Nat.le_refl _, Nat.le_refl _, rfl⟩
  | ixor =>
    have hs : zbin zbxor i L st S h = _ := hs
    obtain ⟨x, y, r, rfl, rfl, rfl, rfl, rfl, rfl⟩ := zbin_inv hs
    exact ⟨hO, rfl, rfl, Nat.le_refl _, Nat.le_refl _, rfl⟩
  | ishl =>
    have hs : zbin zshl i L st S h = _ := hs
    obtain ⟨x, y, r, rfl, rfl, rfl, rfl, rfl, rfl⟩ := zbin_inv hs
    exact ⟨hO, rfl, rfl, Nat.le_refl _, Nat.le_refl _, rfl⟩
  | ishr =>
    have hs : zbin zshr i L st S h = _ := hs
    obtain ⟨x, y, r, rfl, rfl, rfl, rfl, rfl, rfl⟩ := zbin_inv hs
    exact ⟨hO, rfl, rfl, Nat.le_refl _, Nat.le_refl _, rfl⟩
  | iushr =>
    have hs : zbin zushr i L st S h = _ := hs
    obtain ⟨x, y, r, rfl, rfl, rfl, rfl, rfl, rfl⟩ := zbin_inv hs
    exact ⟨hO, rfl, rfl, Nat.le_refl _, Nat.le_refl _, rfl⟩
  | ladd =>
    have hs : zbinL (fun a b => a + b) i L st S h = _ := hs
    obtain ⟨x, y, r, rfl, rfl, rfl, rfl, rfl, rfl⟩ := zbinL_inv hs
    exact ⟨hO, rfl, rfl, Nat.le_refl _, Nat.le_refl _, rfl⟩
  | lsub =>
    have hs : zbinL (fun a b => a - b) i L st S h = _ := hs
    obtain ⟨x, y, r, rfl, rfl, rfl, rfl, rfl, rfl⟩ := zbinL_inv hs
    exact ⟨hO, rfl, rfl, Nat.le_refl _, Nat.le_refl _, rfl⟩
  | lmul =>
    have hs : zbinL (fun a b => a * b) i L st S h = _ := hs
    obtain ⟨x, y, r, rfl, rfl, rfl, rfl, rfl, rfl⟩ := zbinL_inv hs
    exact ⟨hO, rfl, rfl, Nat.le_refl _, Nat.le_refl _, rfl⟩
  | lor =>
    have hs : zbinL zlor i L st S h = _ := hs
    obtain ⟨x, y, r, rfl, rfl, rfl, rfl, rfl, rfl⟩ := zbinL_inv hs
    exact ⟨hO, rfl, rfl, Nat.le_refl _, Nat.le_refl _, rfl⟩
  | idiv =>
    have hs : zdiv Int.tdiv i L st S h = _ := hs
    obtain ⟨x, y, r, rfl, hy, rfl, rfl, rfl, rfl, rfl⟩ := zdiv_inv hs
    exact ⟨hO, rfl, rfl, Nat.le_refl _, Nat.le_refl _, rfl⟩
  | irem =>
    have hs : zdiv Int.tmod i L st S h = _ := hs
    obtain ⟨x, y, r, rfl, hy, rfl, rfl, rfl, rfl, rfl⟩ := zdiv_inv hs
    exact ⟨hO, rfl, rfl, Nat.le_refl _, Nat.le_refl _, rfl⟩
  | ineg =>
    have hs : zun (fun a => -a) i L st S h = _ := hs
    obtain ⟨x, r, rfl, rfl, rfl, rfl, rfl, rfl⟩ := zun_inv hs
    exact ⟨hO, rfl, rfl, Nat.le_refl _, Nat.le_refl _, rfl⟩
  | i2b =>
    have hs : zun zb8 i L st S h = _ := hs
    obtain ⟨x, r, rfl, rfl, rfl, rfl, rfl, rfl⟩ := zun_inv hs
    exact ⟨hO, rfl, rfl, Nat.le_refl _, Nat.le_refl _, rfl⟩
  | ifCond cd off =>
    have hs : zif cd a i L st S h = _ := hs
    obtain ⟨x, rfl, rfl, rfl, rfl, h5⟩ := zif_inv hs
    exact ⟨hO, rfl, rfl, Nat.le_refl _, Nat.le_refl _, rfl⟩
  | if_icmp cd off =>
    have hs : zcmp cd a i L st S h = _ := hs
    obtain ⟨x, y, rfl, rfl, rfl, rfl, h5⟩ := zcmp_inv hs
    exact ⟨hO, rfl, rfl, Nat.le_refl _, Nat.le_refl _, rfl⟩
  | tableswitch d lo hi offs =>
    have hs : zswitch a ts L st S h = _ := hs
    obtain ⟨x, rfl, rfl, rfl, rfl, rfl⟩ := zswitch_inv hs
    exact ⟨hO, rfl, rfl, Nat.le_refl _, Nat.le_refl _, rfl⟩
  | lookupswitch d ps =>
    have hs : zswitch a ts L st S h = _ := hs
    obtain ⟨x, rfl, rfl, rfl, rfl, rfl⟩ := zswitch_inv hs
    exact ⟨hO, rfl, rfl, Nat.le_refl _, Nat.le_refl _, rfl⟩
  | getfield ix =>
    have hs : zget a b i L st S h = _ := hs
    obtain ⟨o, v, r, rfl, hk, rfl, rfl, rfl, rfl, rfl, hv⟩ := zget_inv hs
    exact ⟨hO, rfl, rfl, Nat.le_refl _, Nat.le_refl _, rfl⟩
  | baload =>
    have hs : zald a i L st S h = _ := hs
    obtain ⟨x, o, q, v, r, rfl, hk, hq, rfl, rfl, rfl, rfl, rfl, h5⟩ := zald_inv hs
    exact ⟨hO, rfl, rfl, Nat.le_refl _, Nat.le_refl _, rfl⟩
  | laload =>
    have hs : zald a i L st S h = _ := hs
    obtain ⟨x, o, q, v, r, rfl, hk, hq, rfl, rfl, rfl, rfl, rfl, h5⟩ := zald_inv hs
    exact ⟨hO, rfl, rfl, Nat.le_refl _, Nat.le_refl _, rfl⟩
  | aaload =>
    have hs : zald a i L st S h = _ := hs
    obtain ⟨x, o, q, v, r, rfl, hk, hq, rfl, rfl, rfl, rfl, rfl, h5⟩ := zald_inv hs
    exact ⟨hO, rfl, rfl, Nat.le_refl _, Nat.le_refl _, rfl⟩
  | arraylength =>
    have hs : zlen a i L st S h = _ := hs
    obtain ⟨o, r, rfl, h5, rfl, rfl, rfl, rfl, rfl⟩ := zlen_inv hs
    exact ⟨hO, rfl, rfl, Nat.le_refl _, Nat.le_refl _, rfl⟩
  | istore x =>
    have hs : zstore i x 0 L st S h = _ := hs
    obtain ⟨v, rfl, rfl, rfl, rfl, h3⟩ := zstore_inv hs
    refine ⟨hO, rfl, rfl, Nat.le_refl _, Nat.le_refl _, ?_⟩
    rcases h3 with ⟨-, -, -, rfl⟩ | ⟨-, -, -, rfl⟩ | ⟨-, -, -, rfl⟩
    · exact zset_len _ _ _
    · unfold zset2; rw [zset_len, zset_len]
    · exact zset_len _ _ _
  | istore_n x =>
    have hs : zstore i x 0 L st S h = _ := hs
    obtain ⟨v, rfl, rfl, rfl, rfl, h3⟩ := zstore_inv hs
    refine ⟨hO, rfl, rfl, Nat.le_refl _, Nat.le_refl _, ?_⟩
    rcases h3 with ⟨-, -, -, rfl⟩ | ⟨-, -, -, rfl⟩ | ⟨-, -, -, rfl⟩
    · exact zset_len _ _ _
    · unfold zset2; rw [zset_len, zset_len]
    · exact zset_len _ _ _
  | lstore x =>
    have hs : zstore i x 1 L st S h = _ := hs
    obtain ⟨v, rfl, rfl, rfl, rfl, h3⟩ := zstore_inv hs
    refine ⟨hO, rfl, rfl, Nat.le_refl _, Nat.le_refl _, ?_⟩
    rcases h3 with ⟨-, -, -, rfl⟩ | ⟨-, -, -, rfl⟩ | ⟨-, -, -, rfl⟩
    · exact zset_len _ _ _
    · unfold zset2; rw [zset_len, zset_len]
    · exact zset_len _ _ _
  | lstore_n x =>
    have hs : zstore i x 1 L st S h = _ := hs
    obtain ⟨v, rfl, rfl, rfl, rfl, h3⟩ := zstore_inv hs
    refine ⟨hO, rfl, rfl, Nat.le_refl _, Nat.le_refl _, ?_⟩
    rcases h3 with ⟨-, -, -, rfl⟩ | ⟨-, -, -, rfl⟩ | ⟨-, -, -, rfl⟩
    · exact zset_len _ _ _
    · unfold zset2; rw [zset_len, zset_len]
    · exact zset_len _ _ _
  | astore x =>
    have hs : zstore i x 2 L st S h = _ := hs
    obtain ⟨v, rfl, rfl, rfl, rfl, h3⟩ := zstore_inv hs
    refine ⟨hO, rfl, rfl, Nat.le_refl _, Nat.le_refl _, ?_⟩
    rcases h3 with ⟨-, -, -, rfl⟩ | ⟨-, -, -, rfl⟩ | ⟨-, -, -, rfl⟩
    · exact zset_len _ _ _
    · unfold zset2; rw [zset_len, zset_len]
    · exact zset_len _ _ _
  | astore_n x =>
    have hs : zstore i x 2 L st S h = _ := hs
    obtain ⟨v, rfl, rfl, rfl, rfl, h3⟩ := zstore_inv hs
    refine ⟨hO, rfl, rfl, Nat.le_refl _, Nat.le_refl _, ?_⟩
    rcases h3 with ⟨-, -, -, rfl⟩ | ⟨-, -, -, rfl⟩ | ⟨-, -, -, rfl⟩
    · exact zset_len _ _ _
    · unfold zset2; rw [zset_len, zset_len]
    · exact zset_len _ _ _
  | iinc x n =>
    have hs : ziinc x n i L st S h = _ := hs
    obtain ⟨z1, h1, rfl, rfl, rfl, rfl, rfl⟩ := ziinc_inv hs
    exact ⟨hO, rfl, rfl, Nat.le_refl _, Nat.le_refl _, zset_len _ _ _⟩
  | goto off =>
    have hs : znext a L st S h = _ := hs
    unfold znext at hs
    cases hs
    exact ⟨hO, rfl, rfl, Nat.le_refl _, Nat.le_refl _, rfl⟩
  | ldc ix =>
    have hs : (if a = 0 then zpush (zI z) i L st S h else zpush (zR (1000000 + z.toNat)) i L st S h) = _ := hs
    split at hs
    · obtain ⟨rfl, rfl, rfl, rfl, rfl⟩ := zpush_inv hs
      exact ⟨hO, rfl, rfl, Nat.le_refl _, Nat.le_refl _, rfl⟩
    · obtain ⟨rfl, rfl, rfl, rfl, rfl⟩ := zpush_inv hs
      exact ⟨hO, rfl, rfl, Nat.le_refl _, Nat.le_refl _, rfl⟩
  | i2l =>
    simp only [zstp] at hs
    unfold znext at hs
    repeat' (first | (solve | cases hs) | (solve | (cases hs; exact ⟨hO, rfl, rfl, Nat.le_refl _, Nat.le_refl _, rfl⟩)) | split at hs)
  | lshl =>
    simp only [zstp] at hs
    unfold znext at hs
    repeat' (first | (solve | cases hs) | (solve | (cases hs; exact ⟨hO, rfl, rfl, Nat.le_refl _, Nat.le_refl _, rfl⟩)) | split at hs)
  | lcmp =>
    simp only [zstp] at hs
    unfold znext at hs
    repeat' (first | (solve | cases hs) | (solve | (cases hs; exact ⟨hO, rfl, rfl, Nat.le_refl _, Nat.le_refl _, rfl⟩)) | split at hs)
  | dup =>
    simp only [zstp] at hs
    unfold znext at hs
    repeat' (first | (solve | cases hs) | (solve | (cases hs; exact ⟨hO, rfl, rfl, Nat.le_refl _, Nat.le_refl _, rfl⟩)) | split at hs)
  | dup2 =>
    simp only [zstp] at hs
    unfold znext at hs
    repeat' (first | (solve | cases hs) | (solve | (cases hs; exact ⟨hO, rfl, rfl, Nat.le_refl _, Nat.le_refl _, rfl⟩)) | split at hs)
  | pop =>
    simp only [zstp] at hs
    unfold znext at hs
    repeat' (first | (solve | cases hs) | (solve | (cases hs; exact ⟨hO, rfl, rfl, Nat.le_refl _, Nat.le_refl _, rfl⟩)) | split at hs)
  | iaload =>
    have hs : (if a = 108 then zsld i L st S h else zald a i L st S h) = _ := hs
    split at hs
    · obtain ⟨x, q, r, rfl, hq, rfl, rfl, rfl, rfl, rfl⟩ := zsld_inv hs
      exact ⟨hO, rfl, rfl, Nat.le_refl _, Nat.le_refl _, rfl⟩
    · obtain ⟨x, o, q, v, r, rfl, hk, hq, rfl, rfl, rfl, rfl, rfl, h5⟩ := zald_inv hs
      exact ⟨hO, rfl, rfl, Nat.le_refl _, Nat.le_refl _, rfl⟩
  | putfield ix =>
    have hs : zput a b i L st S h = _ := hs
    obtain ⟨o, v, rfl, hk, rfl, rfl, h5⟩ := zput_inv hs
    obtain ⟨o1, o2, -, -⟩ := hO.obj hw.1 hk
    rcases h5 with ⟨z1, -, -, rfl, rfl⟩ | ⟨z1, -, -, rfl, rfl⟩ | ⟨z1, -, -, -, rfl, rfl⟩ | ⟨q, -, -, rfl, rfl⟩
    · exact ⟨hO, rfl, zu_ne (by omega), Nat.le_refl _, Nat.le_refl _, rfl⟩
    · exact ⟨hO, rfl, zu_ne (by omega), Nat.le_refl _, Nat.le_refl _, rfl⟩
    · exact ⟨hO, rfl, zu_ne (by omega), Nat.le_refl _, Nat.le_refl _, rfl⟩
    · exact ⟨hO.rset o1 o2, zrset_ne (by omega), rfl, by rw [zrset_len]; exact Nat.le_refl _, by rw [zcs_rset]; exact Nat.le_refl _, rfl⟩
  | iastore =>
    have hw : a = 100 := hw
    have hs : zast a i L st S h = _ := hs
    obtain ⟨v, x, o, q, rfl, hk, hq, rfl, rfl, h5⟩ := zast_inv hs
    obtain ⟨o1, o2⟩ := hO.at (o := o) (by omega) (by omega)
    rcases h5 with ⟨z1, -, g1, g2, rfl, rfl⟩ | ⟨z1, -, g1, rfl, rfl⟩ | ⟨q1, -, g1, rfl, rfl⟩
    · exact ⟨hO, rfl, zu_ne (by omega), Nat.le_refl _, Nat.le_refl _, rfl⟩
    · exact ⟨hO, rfl, zu_ne (by omega), Nat.le_refl _, Nat.le_refl _, rfl⟩
    · exact ⟨hO.rset o1 o2, zrset_ne (by omega), rfl, by rw [zrset_len]; exact Nat.le_refl _, by rw [zcs_rset]; exact Nat.le_refl _, rfl⟩
  | bastore =>
    have hw : a = 101 ∨ a = 102 := hw
    have hs : zast a i L st S h = _ := hs
    obtain ⟨v, x, o, q, rfl, hk, hq, rfl, rfl, h5⟩ := zast_inv hs
    obtain ⟨o1, o2⟩ := hO.at (o := o) (by omega) (by omega)
    rcases h5 with ⟨z1, -, g1, g2, rfl, rfl⟩ | ⟨z1, -, g1, rfl, rfl⟩ | ⟨q1, -, g1, rfl, rfl⟩
    · exact ⟨hO, rfl, zu_ne (by omega), Nat.le_refl _, Nat.le_refl _, rfl⟩
    · exact ⟨hO, rfl, zu_ne (by omega), Nat.le_refl _, Nat.le_refl _, rfl⟩
    · exact ⟨hO.rset o1 o2, zrset_ne (by omega), rfl, by rw [zrset_len]; exact Nat.le_refl _, by rw [zcs_rset]; exact Nat.le_refl _, rfl⟩
  | lastore =>
    have hw : a = 103 := hw
    have hs : zast a i L st S h = _ := hs
    obtain ⟨v, x, o, q, rfl, hk, hq, rfl, rfl, h5⟩ := zast_inv hs
    obtain ⟨o1, o2⟩ := hO.at (o := o) (by omega) (by omega)
    rcases h5 with ⟨z1, -, g1, g2, rfl, rfl⟩ | ⟨z1, -, g1, rfl, rfl⟩ | ⟨q1, -, g1, rfl, rfl⟩
    · exact ⟨hO, rfl, zu_ne (by omega), Nat.le_refl _, Nat.le_refl _, rfl⟩
    · exact ⟨hO, rfl, zu_ne (by omega), Nat.le_refl _, Nat.le_refl _, rfl⟩
    · exact ⟨hO.rset o1 o2, zrset_ne (by omega), rfl, by rw [zrset_len]; exact Nat.le_refl _, by rw [zcs_rset]; exact Nat.le_refl _, rfl⟩
  | aastore =>
    have hw : 104 ≤ a ∧ a < 108 := hw
    have hs : zast a i L st S h = _ := hs
    obtain ⟨v, x, o, q, rfl, hk, hq, rfl, rfl, h5⟩ := zast_inv hs
    obtain ⟨o1, o2⟩ := hO.at (o := o) (by omega) (by omega)
    rcases h5 with ⟨z1, -, g1, g2, rfl, rfl⟩ | ⟨z1, -, g1, rfl, rfl⟩ | ⟨q1, -, g1, rfl, rfl⟩
    · exact ⟨hO, rfl, zu_ne (by omega), Nat.le_refl _, Nat.le_refl _, rfl⟩
    · exact ⟨hO, rfl, zu_ne (by omega), Nat.le_refl _, Nat.le_refl _, rfl⟩
    · exact ⟨hO.rset o1 o2, zrset_ne (by omega), rfl, by rw [zrset_len]; exact Nat.le_refl _, by rw [zcs_rset]; exact Nat.le_refl _, rfl⟩
  | new ix =>
    have hs : zmake a b b i L st S h = _ := hs
    obtain ⟨v1, v2, v3, v9, rfl, rfl, rfl, rfl, rfl⟩ := zmake_inv hs
    obtain ⟨w1, w2, w3, w4, w5⟩ := hw
    have w2 : b = zNf a := w2
    have h1 := hO.1
    refine ⟨hO.grow v9 ?_, zC_app (by omega), by funext q; simp only [zhn]; rw [if_neg (by omega)], by simp, by rw [zcs_app]; omega, rfl⟩
    exact Or.inl ⟨w1, w2, by simp; exact w2⟩
  | newarray t =>
    have hs : znewa a i L st S h = _ := hs
    obtain ⟨w1, w2, w3⟩ := hw
    obtain ⟨x, n, r, rfl, hn, hm⟩ := znewa_inv hs
    obtain ⟨v1, v2, v3, v9, rfl, rfl, rfl, rfl, rfl⟩ := zmake_inv hm
    have hn2 := (zidx_in hn).2.2
    have h1 := hO.1
    refine ⟨hO.grow v9 ?_, zC_app (by omega), by funext q; simp only [zhn]; rw [if_neg (by omega)], by simp, by rw [zcs_app]; omega, rfl⟩
    exact Or.inr (Or.inl ⟨w1, w2, by show n < _; omega⟩)
  | anewarray ix =>
    have hs : znewa a i L st S h = _ := hs
    obtain ⟨w1, w2, w3⟩ := hw
    obtain ⟨x, n, r, rfl, hn, hm⟩ := znewa_inv hs
    obtain ⟨v1, v2, v3, v9, rfl, rfl, rfl, rfl, rfl⟩ := zmake_inv hm
    have hn2 := (zidx_in hn).2.2
    have h1 := hO.1
    refine ⟨hO.grow v9 ?_, zC_app (by omega), by funext q; simp only [zhn]; rw [if_neg (by omega)], by simp, by rw [zcs_app]; omega, rfl⟩
    have w1 : 104 ≤ a := w1
    exact Or.inr (Or.inr ⟨w1, w2, by show n < _; omega, by show (List.replicate _ _).length = n; rw [List.length_replicate, if_neg (by omega)]⟩)
  | invokestatic ix =>
    have hs : (if a = 10001 then zcopy i L st S h else zcall a b L st) = _ := hs
    split at hs
    · obtain ⟨z1, y, o2, x, o1, rfl, g1, g2, g3, g4, g5, g6, g7, rfl, rfl, rfl, rfl, rfl⟩ := zcopy_inv hs
      obtain ⟨b1, b2⟩ := hO.at (o := o2) (by omega) (by omega)
      exact ⟨hO, rfl, zcpy_ne (by omega), Nat.le_refl _, Nat.le_refl _, rfl⟩
    · unfold zcall at hs
      split at hs <;> cases hs
  | invokespecial ix =>
    have hs : (if a = 10000 then _ else zcallI a b L st) = _ := hs
    split at hs
    · split at hs
      · cases hs
        exact ⟨hO, rfl, rfl, Nat.le_refl _, Nat.le_refl _, rfl⟩
      · cases hs
    · unfold zcallI zcall at hs
      repeat' (first | (solve | cases hs) | split at hs)
  | invokevirtual ix =>
    have hs : (if a = 10002 then zsln i L st S h else if a = 10003 then zsch i L st S h else zcallV a b z L st S) = _ := hs
    split at hs
    · obtain ⟨k9, r, h1, h2, rfl, rfl, rfl, rfl, rfl, rfl⟩ := zsln_inv hs
      exact ⟨hO, rfl, rfl, Nat.le_refl _, Nat.le_refl _, rfl⟩
    · split at hs
      · obtain ⟨k9, x9, a9, r, h1, h2, rfl, h3, rfl, rfl, rfl, rfl, rfl⟩ := zsch_inv hs
        exact ⟨hO, rfl, rfl, Nat.le_refl _, Nat.le_refl _, rfl⟩
      · unfold zcallV zcall at hs
        repeat' (first | (solve | cases hs) | split at hs)
  | ireturn =>
    simp only [zstp] at hs
    unfold zback at hs
    repeat' (first | (solve | cases hs) | split at hs)
  | lreturn =>
    simp only [zstp] at hs
    unfold zback at hs
    repeat' (first | (solve | cases hs) | split at hs)
  | areturn =>
    simp only [zstp] at hs
    unfold zback at hs
    repeat' (first | (solve | cases hs) | split at hs)
  | return_ =>
    simp only [zstp] at hs
    unfold zback at hs
    repeat' (first | (solve | cases hs) | split at hs)
  | _ => cases hs
/-- what comes back, by the instruction -/
def zRet (en : zE) (v : Option zV) : Prop := (en.2.2.1 = .ireturn ∧ ∃ z, v = some (zI z) ∧ (en.2.2.2.1 = 0 ∨ z = 0 ∨ z = 1)) ∨ (en.2.2.1 = .lreturn ∧ ∃ z, v = some (zL z)) ∨ (en.2.2.1 = .areturn ∧ ∃ o, v = some (zR o)) ∨ (en.2.2.1 = .return_ ∧ v = none)
set_option maxHeartbeats 2000000 in
theorem zstp_ret {i : Nat} {en : zE} {L st : List zV} {S : zS} {h : zH} {v : Option zV} (hs : zstp en i L st S h = some (.inr (.inl v))) : zRet en v ∧ st = v.toList := by
  obtain ⟨pc0, len, ins, a, b, z, ts, mask⟩ := en
  cases ins with
  | aload x =>
    have hs : zload i x 2 L st S h = _ := hs
    exact absurd hs zload_no
  | aload_n x =>
    have hs : zload i x 2 L st S h = _ := hs
    exact absurd hs zload_no
  | iload x =>
    have hs : zload i x 0 L st S h = _ := hs
    exact absurd hs zload_no
  | iload_n x =>
    have hs : zload i x 0 L st S h = _ := hs
    exact absurd hs zload_no
  | lload x =>
    have hs : zload i x 1 L st S h = _ := hs
    exact absurd hs zload_no
  | lload_n x =>
    have hs : zload i x 1 L st S h = _ := hs
    exact absurd hs zload_no
  | iconst n =>
    have hs : zpush (zI n) i L st S h = _ := hs
    exact absurd hs zpush_no
  | bipush n =>
    have hs : zpush (zI n) i L st S h = _ := hs
    exact absurd hs zpush_no
  | sipush n =>
    have hs : zpush (zI n) i L st S h = _ := hs
    exact absurd hs zpush_no
  | lconst n =>
    have hs : zpush (zL (n : Nat)) i L st S h = _ := hs
    exact absurd hs zpush_no
  | ldc_w ix =>
    have hs : zpush (zI z) i L st S h = _ := hs
    exact absurd hs zpush_no
  | ldc2_w ix =>
    have hs : zpush (zL z) i L st S h = _ := hs
    exact absurd hs zpush_no
  | iadd =>
    have hs : zbin (fun a b => a + b) i L st S h = _ := hs
    exact absurd hs zbin_no
  | isub =>
    have hs : zbin (fun a b => a - b) i L st S h = _ := hs
    exact absurd hs zbin_no
  | imul =>
    have hs : zbin (fun a b => a * b) i L st S h = _ := hs
    exact absurd hs zbin_no
  | iand =>
    have hs : zbin zband i L st S h = _ := hs
    exact absurd hs zbin_no
  | ixor =>
    have hs : zbin zbxor i L st S h = _ := hs
    exact absurd hs zbin_no
  | ishl =>
    have hs : zbin zshl i L st S h = _ := hs
    exact absurd hs zbin_no
  | ishr =>
    have hs : zbin zshr i L st S h = _ := hs
    exact absurd hs zbin_no
  | iushr =>
    have hs : zbin zushr i L st S h = _ := hs
    exact absurd hs zbin_no
  | ladd =>
    have hs : zbinL (fun a b => a + b) i L st S h = _ := hs
    exact absurd hs zbinL_no
  | lsub =>
    have hs : zbinL (fun a b => a - b) i L st S h = _ := hs
    exact absurd hs zbinL_no
  | lmul =>
    have hs : zbinL (fun a b => a * b) i L st S h = _ := hs
    exact absurd hs zbinL_no
  | lor =>
    have hs : zbinL zlor i L st S h = _ := hs
    exact absurd hs zbinL_no
  | idiv =>
    have hs : zdiv Int.tdiv i L st S h = _ := hs
    exact absurd hs zdiv_no
  | irem =>
    have hs : zdiv Int.tmod i L st S h = _ := hs
    exact absurd hs zdiv_no
  | ineg =>
    have hs : zun (fun a => -a) i L st S h = _ := hs
    exact absurd hs zun_no
  | i2b =>
    have hs : zun zb8 i L st S h = _ := hs
    exact absurd hs zun_no
  | ifCond cd off =>
    have hs : zif cd a i L st S h = _ := hs
    exact absurd hs zif_no
  | if_icmp cd off =>
    have hs : zcmp cd a i L st S h = _ := hs
    exact absurd hs zcmp_no
  | tableswitch d lo hi offs =>
    have hs : zswitch a ts L st S h = _ := hs
    exact absurd hs zswitch_no
  | lookupswitch d ps =>
    have hs : zswitch a ts L st S h = _ := hs
    exact absurd hs zswitch_no
  | getfield ix =>
    have hs : zget a b i L st S h = _ := hs
    exact absurd hs zget_no
  | baload =>
    have hs : zald a i L st S h = _ := hs
    exact absurd hs zald_no
  | laload =>
    have hs : zald a i L st S h = _ := hs
    exact absurd hs zald_no
  | aaload =>
    have hs : zald a i L st S h = _ := hs
    exact absurd hs zald_no
  | arraylength =>
    have hs : zlen a i L st S h = _ := hs
    exact absurd hs zlen_no
  | istore x =>
    have hs : zstore i x 0 L st S h = _ := hs
    exact absurd hs zstore_no
  | istore_n x =>
    have hs : zstore i x 0 L st S h = _ := hs
    exact absurd hs zstore_no
  | lstore x =>
    have hs : zstore i x 1 L st S h = _ := hs
    exact absurd hs zstore_no
  | lstore_n x =>
    have hs : zstore i x 1 L st S h = _ := hs
    exact absurd hs zstore_no
  | astore x =>
    have hs : zstore i x 2 L st S h = _ := hs
    exact absurd hs zstore_no
  | astore_n x =>
    have hs : zstore i x 2 L st S h = _ := hs
    exact absurd hs zstore_no
  | iinc x n =>
    have hs : ziinc x n i L st S h = _ := hs
    exact absurd hs ziinc_no
  | goto off =>
    have hs : znext a L st S h = _ := hs
    unfold znext at hs
    cases hs
  | ldc ix =>
    have hs : (if a = 0 then zpush (zI z) i L st S h else zpush (zR (1000000 + z.toNat)) i L st S h) = _ := hs
    split at hs
    · exact absurd hs zpush_no
    · exact absurd hs zpush_no
  | i2l =>
    simp only [zstp] at hs
    unfold znext at hs
    repeat' (first | (solve | cases hs) | split at hs)
  | lshl =>
    simp only [zstp] at hs
    unfold znext at hs
    repeat' (first | (solve | cases hs) | split at hs)
  | lcmp =>
    simp only [zstp] at hs
    unfold znext at hs
    repeat' (first | (solve | cases hs) | split at hs)
  | dup =>
    simp only [zstp] at hs
    unfold znext at hs
    repeat' (first | (solve | cases hs) | split at hs)
  | dup2 =>
    simp only [zstp] at hs
    unfold znext at hs
    repeat' (first | (solve | cases hs) | split at hs)
  | pop =>
    simp only [zstp] at hs
    unfold znext at hs
    repeat' (first | (solve | cases hs) | split at hs)
  | iaload =>
    have hs : (if a = 108 then zsld i L st S h else zald a i L st S h) = _ := hs
    split at hs
    · exact absurd hs zsld_no
    · exact absurd hs zald_no
  | putfield ix =>
    have hs : zput a b i L st S h = _ := hs
    exact absurd hs zput_no
  | iastore =>
    have hs : zast a i L st S h = _ := hs
    exact absurd hs zast_no
  | bastore =>
    have hs : zast a i L st S h = _ := hs
    exact absurd hs zast_no
  | lastore =>
    have hs : zast a i L st S h = _ := hs
    exact absurd hs zast_no
  | aastore =>
    have hs : zast a i L st S h = _ := hs
    exact absurd hs zast_no
  | new ix =>
    have hs : zmake a b b i L st S h = _ := hs
    exact absurd hs zmake_no
  | newarray t =>
    have hs : znewa a i L st S h = _ := hs
    exact absurd hs znewa_no
  | anewarray ix =>
    have hs : znewa a i L st S h = _ := hs
    exact absurd hs znewa_no
  | invokestatic ix =>
    have hs : (if a = 10001 then zcopy i L st S h else zcall a b L st) = _ := hs
    split at hs
    · exact absurd hs zcopy_no
    · unfold zcall at hs
      split at hs <;> cases hs
  | invokespecial ix =>
    have hs : (if a = 10000 then _ else zcallI a b L st) = _ := hs
    split at hs
    · unfold znext at hs
      split at hs <;> cases hs
    · unfold zcallI zcall at hs
      repeat' (first | (solve | cases hs) | split at hs)
  | invokevirtual ix =>
    have hs : (if a = 10002 then zsln i L st S h else if a = 10003 then zsch i L st S h else zcallV a b z L st S) = _ := hs
    split at hs
    · exact absurd hs zsln_no
    · split at hs
      · exact absurd hs zsch_no
      · unfold zcallV zcall at hs
        repeat' (first | (solve | cases hs) | split at hs)
  | ireturn =>
    simp only [zstp] at hs
    unfold zback at hs
    split at hs
    · split at hs
      · rename_i h1
        cases hs
        exact ⟨Or.inl ⟨rfl, _, rfl, h1⟩, rfl⟩
      · cases hs
    · cases hs
  | lreturn =>
    simp only [zstp] at hs
    unfold zback at hs
    split at hs
    · cases hs
      exact ⟨Or.inr (Or.inl ⟨rfl, _, rfl⟩), rfl⟩
    · cases hs
  | areturn =>
    simp only [zstp] at hs
    unfold zback at hs
    split at hs
    · cases hs
      exact ⟨Or.inr (Or.inr (Or.inl ⟨rfl, _, rfl⟩)), rfl⟩
    · cases hs
  | return_ =>
    simp only [zstp] at hs
    unfold zback at hs
    split at hs
    · cases hs
      exact ⟨Or.inr (Or.inr (Or.inr ⟨rfl, rfl⟩)), rfl⟩
    · cases hs
  | _ => cases hs
/-- a call, by the instruction -/
def zCall (en : zE) (S : zS) (as : List zV) : Prop := (∃ ix, en.2.2.1 = .invokestatic ix ∧ en.2.2.2.1 ≠ 10001) ∨ (∃ ix o, en.2.2.1 = .invokespecial ix ∧ en.2.2.2.1 ≠ 10000 ∧ as[en.2.2.2.2.1 - 1]? = some (zR o) ∧ 1 ≤ as.length) ∨ (∃ ix o, en.2.2.1 = .invokevirtual ix ∧ as[en.2.2.2.2.1 - 1]? = some (zR o) ∧ ((zC S o).1 : Int) = en.2.2.2.2.2.1 ∧ 1 ≤ as.length)
set_option maxHeartbeats 2000000 in
theorem zstp_call {i : Nat} {en : zE} {L st : List zV} {S : zS} {h : zH} {m' : Nat} {L' as st' : List zV} (hw1 : 1 ≤ en.2.2.2.2.1 ∨ ∀ ix, en.2.2.1 ≠ .invokevirtual ix) (hw2 : ∀ ix, en.2.2.1 = .invokespecial ix → en.2.2.2.1 ≠ 10000 → 1 ≤ en.2.2.2.2.1) (hs : zstp en i L st S h = some (.inr (.inr (m', L', as, st')))) : m' = en.2.2.2.1 ∧ L' = L ∧ st = as ++ st' ∧ as.length = en.2.2.2.2.1 ∧ zwds st' ≤ 8 ∧ zCall en S as := by
  obtain ⟨pc0, len, ins, a, b, z, ts, mask⟩ := en
  cases ins with
  | aload x =>
    have hs : zload i x 2 L st S h = _ := hs
    exact absurd hs zload_no
  | aload_n x =>
    have hs : zload i x 2 L st S h = _ := hs
    exact absurd hs zload_no
  | iload x =>
    have hs : zload i x 0 L st S h = _ := hs
    exact absurd hs zload_no
  | iload_n x =>
    have hs : zload i x 0 L st S h = _ := hs
    exact absurd hs zload_no
  | lload x =>
    have hs : zload i x 1 L st S h = _ := hs
    exact absurd hs zload_no
  | lload_n x =>
    have hs : zload i x 1 L st S h = _ := hs
    exact absurd hs zload_no
  | iconst n =>
    have hs : zpush (zI n) i L st S h = _ := hs
    exact absurd hs zpush_no
  | bipush n =>
    have hs : zpush (zI n) i L st S h = _ := hs
    exact absurd hs zpush_no
  | sipush n =>
    have hs : zpush (zI n) i L st S h = _ := hs
    exact absurd hs zpush_no
  | lconst n =>
    have hs : zpush (zL (n : Nat)) i L st S h = _ := hs
    exact absurd hs zpush_no
  | ldc_w ix =>
    have hs : zpush (zI z) i L st S h = _ := hs
    exact absurd hs zpush_no
  | ldc2_w ix =>
    have hs : zpush (zL z) i L st S h = _ := hs
    exact absurd hs zpush_no
  | iadd =>
    have hs : zbin (fun a b => a + b) i L st S h = _ := hs
    exact absurd hs zbin_no
  | isub =>
    have hs : zbin (fun a b => a - b) i L st S h = _ := hs
    exact absurd hs zbin_no
  | imul =>
    have hs : zbin (fun a b => a * b) i L st S h = _ := hs
    exact absurd hs zbin_no
  | iand =>
    have hs : zbin zband i L st S h = _ := hs
    exact absurd hs zbin_no
  | ixor =>
    have hs : zbin zbxor i L st S h = _ := hs
    exact absurd hs zbin_no
  | ishl =>
    have hs : zbin zshl i L st S h = _ := hs
    exact absurd hs zbin_no
  | ishr =>
    have hs : zbin zshr i L st S h = _ := hs
    exact absurd hs zbin_no
  | iushr =>
    have hs : zbin zushr i L st S h = _ := hs
    exact absurd hs zbin_no
  | ladd =>
    have hs : zbinL (fun a b => a + b) i L st S h = _ := hs
    exact absurd hs zbinL_no
  | lsub =>
    have hs : zbinL (fun a b => a - b) i L st S h = _ := hs
    exact absurd hs zbinL_no
  | lmul =>
    have hs : zbinL (fun a b => a * b) i L st S h = _ := hs
    exact absurd hs zbinL_no
  | lor =>
    have hs : zbinL zlor i L st S h = _ := hs
    exact absurd hs zbinL_no
  | idiv =>
    have hs : zdiv Int.tdiv i L st S h = _ := hs
    exact absurd hs zdiv_no
  | irem =>
    have hs : zdiv Int.tmod i L st S h = _ := hs
    exact absurd hs zdiv_no
  | ineg =>
    have hs : zun (fun a => -a) i L st S h = _ := hs
    exact absurd hs zun_no
  | i2b =>
    have hs : zun zb8 i L st S h = _ := hs
    exact absurd hs zun_no
  | ifCond cd off =>
    have hs : zif cd a i L st S h = _ := hs
    exact absurd hs zif_no
  | if_icmp cd off =>
    have hs : zcmp cd a i L st S h = _ := hs
    exact absurd hs zcmp_no
  | tableswitch d lo hi offs =>
    have hs : zswitch a ts L st S h = _ := hs
    exact absurd hs zswitch_no
  | lookupswitch d ps =>
    have hs : zswitch a ts L st S h = _ := hs
    exact absurd hs zswitch_no
  | getfield ix =>
    have hs : zget a b i L st S h = _ := hs
    exact absurd hs zget_no
  | baload =>
    have hs : zald a i L st S h = _ := hs
    exact absurd hs zald_no
  | laload =>
    have hs : zald a i L st S h = _ := hs
    exact absurd hs zald_no
  | aaload =>
    have hs : zald a i L st S h = _ := hs
    exact absurd hs zald_no
  | arraylength =>
    have hs : zlen a i L st S h = _ := hs
    exact absurd hs zlen_no
  | istore x =>
    have hs : zstore i x 0 L st S h = _ := hs
    exact absurd hs zstore_no
  | istore_n x =>
    have hs : zstore i x 0 L st S h = _ := hs
    exact absurd hs zstore_no
  | lstore x =>
    have hs : zstore i x 1 L st S h = _ := hs
    exact absurd hs zstore_no
  | lstore_n x =>
    have hs : zstore i x 1 L st S h = _ := hs
    exact absurd hs zstore_no
  | astore x =>
    have hs : zstore i x 2 L st S h = _ := hs
    exact absurd hs zstore_no
  | astore_n x =>
    have hs : zstore i x 2 L st S h = _ := hs
    exact absurd hs zstore_no
  | iinc x n =>
    have hs : ziinc x n i L st S h = _ := hs
    exact absurd hs ziinc_no
  | goto off =>
    have hs : znext a L st S h = _ := hs
    unfold znext at hs
    cases hs
  | ldc ix =>
    have hs : (if a = 0 then zpush (zI z) i L st S h else zpush (zR (1000000 + z.toNat)) i L st S h) = _ := hs
    split at hs
    · exact absurd hs zpush_no
    · exact absurd hs zpush_no
  | i2l =>
    simp only [zstp] at hs
    unfold znext at hs
    repeat' (first | (solve | cases hs) | split at hs)
  | lshl =>
    simp only [zstp] at hs
    unfold znext at hs
    repeat' (first | (solve | cases hs) | split at hs)
  | lcmp =>
    simp only [zstp] at hs
    unfold znext at hs
    repeat' (first | (solve | cases hs) | split at hs)
  | dup =>
    simp only [zstp] at hs
    unfold znext at hs
    repeat' (first | (solve | cases hs) | split at hs)
  | dup2 =>
    simp only [zstp] at hs
    unfold znext at hs
    repeat' (first | (solve | cases hs) | split at hs)
  | pop =>
    simp only [zstp] at hs
    unfold znext at hs
    repeat' (first | (solve | cases hs) | split at hs)
  | iaload =>
    have hs : (if a = 108 then zsld i L st S h else zald a i L st S h) = _ := hs
    split at hs
    · exact absurd hs zsld_no
    · exact absurd hs zald_no
  | putfield ix =>
    have hs : zput a b i L st S h = _ := hs
    exact absurd hs zput_no
  | iastore =>
    have hs : zast a i L st S h = _ := hs
    exact absurd hs zast_no
  | bastore =>
    have hs : zast a i L st S h = _ := hs
    exact absurd hs zast_no
  | lastore =>
    have hs : zast a i L st S h = _ := hs
    exact absurd hs zast_no
  | aastore =>
    have hs : zast a i L st S h = _ := hs
    exact absurd hs zast_no
  | new ix =>
    have hs : zmake a b b i L st S h = _ := hs
    exact absurd hs zmake_no
  | newarray t =>
    have hs : znewa a i L st S h = _ := hs
    exact absurd hs znewa_no
  | anewarray ix =>
    have hs : znewa a i L st S h = _ := hs
    exact absurd hs znewa_no
  | invokestatic ix =>
    have hs : (if a = 10001 then zcopy i L st S h else zcall a b L st) = _ := hs
    split at hs
    · exact absurd hs zcopy_no
    · rename_i ha
      unfold zcall at hs
      split at hs
      · rename_i hb
        cases hs
        exact ⟨rfl, rfl, (List.take_append_drop _ _).symm, by show (List.take b st).length = b; rw [List.length_take]; exact Nat.min_eq_left hb.1, hb.2, Or.inl ⟨ix, rfl, ha⟩⟩
      · cases hs
  | invokespecial ix =>
    have hs : (if a = 10000 then _ else zcallI a b L st) = _ := hs
    split at hs
    · unfold znext at hs
      split at hs <;> cases hs
    · rename_i ha
      unfold zcallI at hs
      split at hs
      · rename_i o ho
        unfold zcall at hs
        split at hs
        · rename_i hb
          cases hs
          have hl : b - 1 < st.length := (List.getElem?_eq_some_iff.mp ho).1
          by_cases hb0 : b = 0
          · subst hb0
            exact absurd (hw2 ix rfl ha) (Nat.not_succ_le_zero 0)
          · exact ⟨rfl, rfl, (List.take_append_drop _ _).symm, by show (List.take b st).length = b; rw [List.length_take]; exact Nat.min_eq_left hb.1, hb.2, Or.inr (Or.inl ⟨ix, o, rfl, ha, by rw [List.getElem?_take, if_pos (show b - 1 < b by omega)]; exact ho, by rw [List.length_take]; omega⟩)⟩
        · cases hs
      · cases hs
  | invokevirtual ix =>
    have hs : (if a = 10002 then zsln i L st S h else if a = 10003 then zsch i L st S h else zcallV a b z L st S) = _ := hs
    rw [if_neg (fun q => by rw [if_pos q] at hs; exact zsln_no hs)] at hs
    rw [if_neg (fun q => by rw [if_pos q] at hs; exact zsch_no hs)] at hs
    unfold zcallV at hs
    split at hs
    · rename_i o ho
      split at hs
      · rename_i hk
        unfold zcall at hs
        split at hs
        · rename_i hb
          cases hs
          have hl : b - 1 < st.length := (List.getElem?_eq_some_iff.mp ho).1
          by_cases hb0 : b = 0
          · subst hb0
            exact hw1.elim (fun q => absurd q (Nat.not_succ_le_zero 0)) (fun q => absurd rfl (q ix))
          · exact ⟨rfl, rfl, (List.take_append_drop _ _).symm, by show (List.take b st).length = b; rw [List.length_take]; exact Nat.min_eq_left hb.1, hb.2, Or.inr (Or.inr ⟨ix, o, rfl, by rw [List.getElem?_take, if_pos (show b - 1 < b by omega)]; exact ho, hk, by rw [List.length_take]; omega⟩)⟩
        · cases hs
      · cases hs
    · cases hs
  | ireturn =>
    simp only [zstp] at hs
    unfold zback at hs
    repeat' (first | (solve | cases hs) | split at hs)
  | lreturn =>
    simp only [zstp] at hs
    unfold zback at hs
    repeat' (first | (solve | cases hs) | split at hs)
  | areturn =>
    simp only [zstp] at hs
    unfold zback at hs
    repeat' (first | (solve | cases hs) | split at hs)
  | return_ =>
    simp only [zstp] at hs
    unfold zback at hs
    repeat' (first | (solve | cases hs) | split at hs)
  | _ => cases hs
