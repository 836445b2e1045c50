/-! THE SMALL MACHINE IS SOUND: what a program checks of the tables; simple steps -/
def zlenOf (ins : Jvm.ClassFile.Instr) : Nat := match ins with
  | .aload _ => 2 | .iload _ => 2 | .lload _ => 2 | .istore _ => 2 | .lstore _ => 2 | .astore _ => 2 | .bipush _ => 2 | .ldc _ => 2 | .newarray _ => 2
  | .sipush _ => 3 | .getfield _ => 3 | .putfield _ => 3 | .invokevirtual _ => 3 | .invokestatic _ => 3 | .invokespecial _ => 3 | .new _ => 3 | .anewarray _ => 3 | .ldc_w _ => 3 | .ldc2_w _ => 3
  | _ => 1
noncomputable def zchk2 (k i : Nat) (e : zE) : Bool := match e.2.2.1 with
  | .goto off => decide (e.2.1 = 3) && decide ((e.1 : Int) + off = (zpc k e.2.2.2.1 : Int))
  | .ifCond _ off => decide (e.2.1 = 3) && decide ((e.1 : Int) + off = (zpc k e.2.2.2.1 : Int)) && decide (zpc k (i + 1) = e.1 + 3)
  | .if_icmp _ off => decide (e.2.1 = 3) && decide ((e.1 : Int) + off = (zpc k e.2.2.2.1 : Int)) && decide (zpc k (i + 1) = e.1 + 3)
  | .tableswitch d lo hi offs => decide ((e.1 : Int) + d = (zpc k e.2.2.2.1 : Int)) && decide (hi - lo + 1 = (offs.size : Int)) && e.2.2.2.2.2.2.1.all (fun q => decide (lo ≤ q.1 ∧ q.1 ≤ hi)) &&
      (List.range offs.size).all (fun j => match offs[j]? with
        | some off => decide ((e.1 : Int) + off = (zpc k (zfind (lo + j) e.2.2.2.2.2.2.1 e.2.2.2.1) : Int))
        | none => false)
  | .lookupswitch d ps => decide ((e.1 : Int) + d = (zpc k e.2.2.2.1 : Int)) && (ps.toList.zip (ps.toList.drop 1)).all (fun (a, next) => a.1 < next.1) && decide (ps.toList.map (fun q => (q.1, (e.1 : Int) + q.2)) = e.2.2.2.2.2.2.1.map (fun q => (q.1, (zpc k q.2 : Int))))
  | .iinc _ _ => (decide (e.2.1 = 3) || decide (e.2.1 = 6)) && decide (zpc k (i + 1) = e.1 + e.2.1)
  | .ireturn => decide (e.2.1 = 1) && decide ((zmi k).2.2.2.1 = some .int ∧ e.2.2.2.1 = 0 ∨ (zmi k).2.2.2.1 = some .boolean ∧ e.2.2.2.1 = 1)
  | .lreturn => decide (e.2.1 = 1) && decide ((zmi k).2.2.2.1 = some .long)
  | .areturn => decide (e.2.1 = 1) && (match (zmi k).2.2.2.1 with
    | some (.object _) => true
    | some (.array _) => true
    | _ => false)
  | .return_ => decide (e.2.1 = 1) && decide ((zmi k).2.2.2.1 = none)
  | ins => decide (e.2.1 = zlenOf ins) && decide (zpc k (i + 1) = e.1 + e.2.1)
noncomputable def zchk (k i : Nat) (e : zE) : Bool := decide (decode (zmi k).2.1 e.1 = .ok (e.2.2.1, e.2.1)) && zchk2 k i e
/-- a bipush, a sipush is what it pushes -/
theorem zbip {n : Int} (h : -128 ≤ n ∧ n ≤ 127) : (Int8.ofInt n).toInt32 = Int32.ofInt n := by
  rw [← Int32.toInt_inj, Int8.toInt_toInt32, Int8.toInt_ofInt_of_le (by omega) (by omega), Int32.toInt_ofInt_of_le (by omega) (by omega)]
theorem zpc_of {k i : Nat} {e : zE} (he : ztb k i = some e) : zpc k i = e.1 := by
  unfold zpc; rw [he]
theorem zchk_dec {k i : Nat} {e : zE} (he : ztb k i = some e) (hc : zchk k i e = true) : decode (zmi k).2.1 (zpc k i) = .ok (e.2.2.1, e.2.1) := by
  rw [zpc_of he]
  simp only [zchk, Bool.and_eq_true, decide_eq_true_eq] at hc
  exact hc.1
theorem zload_inv {i k t : Nat} {L st : List zV} {S : zS} {h : zH} {j : Nat} {L' st' : List zV} {S' : zS} {h' : zH} (hs : zload i k t L st S h = some (.inl (j, L', st', S', h'))) : ∃ v, L[k]? = some v ∧ v ≠ zN ∧ j = i + 1 ∧ L' = L ∧ st' = v :: st ∧ S' = S ∧ h' = h ∧ ((t = 0 ∧ ∃ z, v = zI z) ∨ (t = 1 ∧ ∃ z, v = zL z) ∨ (t = 2 ∧ ∃ o, v = zR o)) := by
  unfold zload znext at hs
  split at hs
  · rename_i z hz
    cases hs
    exact ⟨_, hz, by simp, rfl, rfl, rfl, rfl, rfl, Or.inl ⟨rfl, _, rfl⟩⟩
  · rename_i z hz
    cases hs
    exact ⟨_, hz, by simp, rfl, rfl, rfl, rfl, rfl, Or.inr (Or.inl ⟨rfl, _, rfl⟩)⟩
  · rename_i z hz
    cases hs
    exact ⟨_, hz, by simp, rfl, rfl, rfl, rfl, rfl, Or.inr (Or.inr ⟨rfl, _, rfl⟩)⟩
  · cases hs
theorem zstore_inv {i k t : Nat} {L st : List zV} {S : zS} {h : zH} {j : Nat} {L' st' : List zV} {S' : zS} {h' : zH} (hs : zstore i k t L st S h = some (.inl (j, L', st', S', h'))) : ∃ v, st = v :: st' ∧ j = i + 1 ∧ S' = S ∧ h' = h ∧ ((t = 0 ∧ (∃ z, v = zI z) ∧ k < L.length ∧ L' = zset k v L) ∨ (t = 1 ∧ (∃ z, v = zL z) ∧ k + 1 < L.length ∧ L' = zset2 k v L) ∨ (t = 2 ∧ (∃ o, v = zR o) ∧ k < L.length ∧ L' = zset k v L)) := by
  unfold zstore znext at hs
  split at hs
  · split at hs
    · cases hs
      exact ⟨_, rfl, rfl, rfl, rfl, Or.inl ⟨rfl, ⟨_, rfl⟩, by assumption, rfl⟩⟩
    · cases hs
  · split at hs
    · cases hs
      exact ⟨_, rfl, rfl, rfl, rfl, Or.inr (Or.inl ⟨rfl, ⟨_, rfl⟩, by assumption, rfl⟩)⟩
    · cases hs
  · split at hs
    · cases hs
      exact ⟨_, rfl, rfl, rfl, rfl, Or.inr (Or.inr ⟨rfl, ⟨_, rfl⟩, by assumption, rfl⟩)⟩
    · cases hs
  · cases hs
theorem zbin_inv {f : Int → Int → Int} {i : Nat} {L st : List zV} {S : zS} {h : zH} {j : Nat} {L' st' : List zV} {S' : zS} {h' : zH} (hs : zbin f i L st S h = some (.inl (j, L', st', S', h'))) : ∃ a b r, st = zI b :: zI a :: r ∧ j = i + 1 ∧ L' = L ∧ st' = zI (f a b) :: r ∧ S' = S ∧ h' = h := by
  unfold zbin znext at hs
  split at hs
  · cases hs
    exact ⟨_, _, _, rfl, rfl, rfl, rfl, rfl, rfl⟩
  · cases hs
theorem zbinL_inv {f : Int → Int → Int} {i : Nat} {L st : List zV} {S : zS} {h : zH} {j : Nat} {L' st' : List zV} {S' : zS} {h' : zH} (hs : zbinL f i L st S h = some (.inl (j, L', st', S', h'))) : ∃ a b r, st = zL b :: zL a :: r ∧ j = i + 1 ∧ L' = L ∧ st' = zL (f a b) :: r ∧ S' = S ∧ h' = h := by
  unfold zbinL znext at hs
  split at hs
  · cases hs
    exact ⟨_, _, _, rfl, rfl, rfl, rfl, rfl, rfl⟩
  · cases hs
theorem zdiv_inv {f : Int → Int → Int} {i : Nat} {L st : List zV} {S : zS} {h : zH} {j : Nat} {L' st' : List zV} {S' : zS} {h' : zH} (hs : zdiv f i L st S h = some (.inl (j, L', st', S', h'))) : ∃ a b r, st = zI b :: zI a :: r ∧ ¬ zw b = 0 ∧ j = i + 1 ∧ L' = L ∧ st' = zI (f (zw a) (zw b)) :: r ∧ S' = S ∧ h' = h := by
  unfold zdiv znext at hs
  split at hs
  · split at hs
    · cases hs
    · cases hs
      exact ⟨_, _, _, rfl, by assumption, rfl, rfl, rfl, rfl, rfl⟩
  · cases hs
theorem zun_inv {f : Int → Int} {i : Nat} {L st : List zV} {S : zS} {h : zH} {j : Nat} {L' st' : List zV} {S' : zS} {h' : zH} (hs : zun f i L st S h = some (.inl (j, L', st', S', h'))) : ∃ a r, st = zI a :: r ∧ j = i + 1 ∧ L' = L ∧ st' = zI (f a) :: r ∧ S' = S ∧ h' = h := by
  unfold zun znext at hs
  split at hs
  · cases hs
    exact ⟨_, _, rfl, rfl, rfl, rfl, rfl, rfl⟩
  · cases hs
theorem zbranch_inv {c : Bool} {t i : Nat} {L st : List zV} {S : zS} {h : zH} {j : Nat} {L' st' : List zV} {S' : zS} {h' : zH} (hs : zbranch c t i L st S h = some (.inl (j, L', st', S', h'))) : L' = L ∧ st' = st ∧ S' = S ∧ h' = h ∧ ((c = true ∧ j = t) ∨ (c = false ∧ j = i + 1)) := by
  unfold zbranch znext at hs
  split at hs
  · cases hs
    exact ⟨rfl, rfl, rfl, rfl, Or.inl ⟨by assumption, rfl⟩⟩
  · cases hs
    exact ⟨rfl, rfl, rfl, rfl, Or.inr ⟨by simpa using ‹¬ c = true›, rfl⟩⟩
theorem zif_inv {cd : Jvm.ClassFile.Cond} {t i : Nat} {L st : List zV} {S : zS} {h : zH} {j : Nat} {L' st' : List zV} {S' : zS} {h' : zH} (hs : zif cd t i L st S h = some (.inl (j, L', st', S', h'))) : ∃ a, st = zI a :: st' ∧ L' = L ∧ S' = S ∧ h' = h ∧ ((zcond cd (zw a) 0 = true ∧ j = t) ∨ (zcond cd (zw a) 0 = false ∧ j = i + 1)) := by
  unfold zif at hs
  split at hs
  · obtain ⟨h1, h2, h3, h4, h5⟩ := zbranch_inv hs
    subst h2
    exact ⟨_, rfl, h1, h3, h4, h5⟩
  · cases hs
theorem zcmp_inv {cd : Jvm.ClassFile.Cond} {t i : Nat} {L st : List zV} {S : zS} {h : zH} {j : Nat} {L' st' : List zV} {S' : zS} {h' : zH} (hs : zcmp cd t i L st S h = some (.inl (j, L', st', S', h'))) : ∃ a b, st = zI b :: zI a :: st' ∧ L' = L ∧ S' = S ∧ h' = h ∧ ((zcond cd (zw a) (zw b) = true ∧ j = t) ∨ (zcond cd (zw a) (zw b) = false ∧ j = i + 1)) := by
  unfold zcmp at hs
  split at hs
  · obtain ⟨h1, h2, h3, h4, h5⟩ := zbranch_inv hs
    subst h2
    exact ⟨_, _, rfl, h1, h3, h4, h5⟩
  · cases hs
theorem zswitch_inv {d : Nat} {ts : List (Int × Nat)} {L st : List zV} {S : zS} {h : zH} {j : Nat} {L' st' : List zV} {S' : zS} {h' : zH} (hs : zswitch d ts L st S h = some (.inl (j, L', st', S', h'))) : ∃ a, st = zI a :: st' ∧ j = zfind (zw a) ts d ∧ L' = L ∧ S' = S ∧ h' = h := by
  unfold zswitch znext at hs
  split at hs
  · cases hs
    exact ⟨_, rfl, rfl, rfl, rfl, rfl⟩
  · cases hs
theorem ziinc_inv {k i : Nat} {n : Int} {L st : List zV} {S : zS} {h : zH} {j : Nat} {L' st' : List zV} {S' : zS} {h' : zH} (hs : ziinc k n i L st S h = some (.inl (j, L', st', S', h'))) : ∃ z, L[k]? = some (zI z) ∧ j = i + 1 ∧ L' = zset k (zI (z + n)) L ∧ st' = st ∧ S' = S ∧ h' = h := by
  unfold ziinc znext at hs
  split at hs
  · cases hs
    exact ⟨_, by assumption, rfl, rfl, rfl, rfl, rfl⟩
  · cases hs
theorem zpush_inv {v : zV} {i : Nat} {L st : List zV} {S : zS} {h : zH} {j : Nat} {L' st' : List zV} {S' : zS} {h' : zH} (hs : zpush v i L st S h = some (.inl (j, L', st', S', h'))) : j = i + 1 ∧ L' = L ∧ st' = v :: st ∧ S' = S ∧ h' = h := by
  unfold zpush znext at hs
  cases hs
  exact ⟨rfl, rfl, rfl, rfl, rfl⟩
theorem zfind_none {z : Int} : ∀ {ts : List (Int × Nat)} {d : Nat}, (∀ q ∈ ts, q.1 ≠ z) → zfind z ts d = d
  | [], d, _ => rfl
  | q :: qs, d, h => by
    rw [zfind, if_neg (h q List.mem_cons_self)]
    exact zfind_none fun q hq => h q (List.mem_cons_of_mem _ hq)
