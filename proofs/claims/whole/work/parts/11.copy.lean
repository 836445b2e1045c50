/-! THE SMALL MACHINE IS SOUND: System.arraycopy; what the words must be; one step -/
section ZHC
variable {p : Program} {l : Launch} {e : Env} {R : Room} {s : State} {m : MethodId} {args : Array Value} {below : List Frame} {meth : Method} {c : Code} {H : Heap} {locs : List Loc} {cells slots : Nat} {Q : State → Prop}
variable {cc : ByteArray} {pc : Nat} {ls : Array Slot} {ad : Nat → Nat} {rest : List Value} {D : va_G} {ca : Nat → ClassId} {A : Nat → Prop} {H0 : Heap} {S : zS} {h : zH}
theorem zcpy_ne {o1 a o2 d n o' : Nat} (hn : o' ≠ o2) : zcpy h o1 a o2 d n o' = h o' := by
  funext j
  simp [zcpy, hn]
theorem zcpy_va {α : Type} {f : Int → α} {o1 a o2 d n : Nat} : (fun i => f (zcpy h o1 a o2 d n o2 i)) = va_cpy (fun i => f (h o1 i)) (fun i => f (h o2 i)) a d n := by
  funext i
  simp only [zcpy, va_cpy, true_and]
  split <;> rfl
theorem zb8_lo (z : Int) : -128 ≤ zb8 z := Int.le_bmod (x := z) (m := 256) (by decide)
theorem zb8_hi (z : Int) : zb8 z < 128 := Int.bmod_lt (x := z) (m := 256) (by decide)
theorem zb8_fits (z : Int) : fits .byte (.int (Int32.ofInt (zb8 z))) = true := by
  have h1 := zb8_lo z
  have h2 := zb8_hi z
  show ((-128 : Int32) ≤ Int32.ofInt (zb8 z) && Int32.ofInt (zb8 z) ≤ (127 : Int32)) = true
  have e := zw_id (z := zb8 z) (by omega) (by omega)
  simp only [Bool.and_eq_true, decide_eq_true_eq, Int32.le_iff_toInt_le, zw_toInt, e]
  exact ⟨h1, by show zb8 z ≤ 127; omega⟩
theorem zh_copy {own : String} {ix o1 o2 : Nat} {x y z : Int} (hx : p.tables.exec = Jvm.exec) (hb : c.code = cc) (hml : c.maxLocals = ls.size) (hts : ∀ w ∈ zGw, w.before args s = true) (hown : s.vm.findClass own = some m.cls) (I : zI_ D ca A H0 s ad S h H locs)
    (hl : Cond.methodLink own ix arraycopyName ∈ zGw) (hw1 : Cond.native arraycopyName ∈ zGw) (hw2 : Cond.static arraycopyName ∈ zGw) (hw3 : Cond.initialized "java/lang/System" ∈ zGw)
    (hkk : (zC S o1).1 = (zC S o2).1) (hk : (zC S o1).1 = 100 ∨ (zC S o1).1 = 101) (h1 : 0 ≤ zw x) (h2 : 0 ≤ zw y) (h3 : 0 ≤ zw z) (h4 : zw x + zw z ≤ (zC S o1).2.1) (h5 : zw y + zw z ≤ (zC S o2).2.1)
    (hframes : 1 ≤ R.frames) (hlocals : 18 ≤ R.locals) (hdg : decode cc pc = .ok (.invokestatic ix, 3))
    (kk : ∀ (H1 : Heap) (locs1 : List Loc), zI_ D ca A H0 s ad S (zcpy h o1 (zw x).toNat o2 (zw y).toNat (zw z).toNat) H1 locs1 → W p l e R s m args below meth c H1 locs1 cells slots Q (F0 m (pc + 3) ls [])) : W p l e R s m args below meth c H locs cells slots Q (F0 m pc ls [.int (Int32.ofInt z), .int (Int32.ofInt y), .ref (ad o2), .int (Int32.ofInt x), .ref (ad o1)]) := by
  have I0 := I
  obtain ⟨iP, iD, iK, iS, iA, iO, iX⟩ := I
  obtain ⟨a1, a2⟩ := iO.at (o := o1) (by omega) (by omega)
  obtain ⟨b1, b2⟩ := iO.at (o := o2) (by omega) (by omega)
  have he1 := zWl_get (ad := ad) (ca := ca) (h := h) a1 a2
  have he2 := zWl_get (ad := ad) (ca := ca) (h := h) b1 b2
  have hne : ∀ o', o' ≠ o2 → zEc ad ca S (zcpy h o1 (zw x).toNat o2 (zw y).toNat (zw z).toNat) o' = zEc ad ca S h o' := fun o' hn => by
    unfold zEc; rw [zcpy_ne hn]
  have h0 : zcpy h o1 (zw x).toNat o2 (zw y).toNat (zw z).toNat 0 = h 0 := zcpy_ne (by omega)
  have n1 : ¬ Int32.ofInt x < 0 := by rw [zt_lt0]; omega
  have n2 : ¬ Int32.ofInt y < 0 := by rw [zt_lt0]; omega
  have n3 : ¬ Int32.ofInt z < 0 := by rw [zt_lt0]; omega
  have m1 : (Int32.ofInt x).toNatClampNeg + (Int32.ofInt z).toNatClampNeg ≤ (zC S o1).2.1 := by rw [zt_clamp, zt_clamp]; omega
  have m2 : (Int32.ofInt y).toNatClampNeg + (Int32.ofInt z).toNatClampNeg ≤ (zC S o2).2.1 := by rw [zt_clamp, zt_clamp]; omega
  have hlo : ((([] : List Value).map fun v => v.category).sum + (nativeFrameWords "java/lang/System" "arraycopy" 5 + 11)) ≤ R.locals := by
    have : (([] : List Value).map fun v => v.category).sum + (nativeFrameWords "java/lang/System" "arraycopy" 5 + 11) = 18 := by decide
    omega
  rcases hk with hk | hk
  · have hk2 : (zC S o2).1 = 100 := by omega
    rw [zEc_arr (by decide) hk] at he1
    rw [zEc_arr (by decide) hk2] at he2
    refine va_copyi hx hb hml hown (hts _ hl) (hts _ hw1) (hts _ hw2) (hts _ hw3) iK iP iD iS (o1 - 1) (o2 - 1) 0 0 (ty := .int) he1 he2 (zTl_get ca (t := 0) (by decide)) (zTl_get ca (t := 0) (by decide)) rfl n1 n2 n3 m1 m2 (fun i _ => rfl) hframes hlo hdg fun H1 locs1 hP hD hS => kk H1 locs1 (I0.write b1 rfl iO ?_ hne rfl h0 hP hD hS)
    rw [zEc_arr (by decide) hk2, zt_clamp, zt_clamp, zt_clamp]
    show _ = (Sum.inl (_, _, Sum.inl (fun i => Int32.ofInt (zcpy h o1 (zw x).toNat o2 (zw y).toNat (zw z).toNat o2 i))) : va_E)
    rw [zcpy_va]
  · have hk2 : (zC S o2).1 = 101 := by omega
    rw [zEc_arr (by decide) hk] at he1
    rw [zEc_arr (by decide) hk2] at he2
    refine va_copyi hx hb hml hown (hts _ hl) (hts _ hw1) (hts _ hw2) (hts _ hw3) iK iP iD iS (o1 - 1) (o2 - 1) 1 1 (ty := .byte) he1 he2 (zTl_get ca (t := 1) (by decide)) (zTl_get ca (t := 1) (by decide)) rfl n1 n2 n3 m1 m2 (fun i _ => zb8_fits _) hframes hlo hdg fun H1 locs1 hP hD hS => kk H1 locs1 (I0.write b1 rfl iO ?_ hne rfl h0 hP hD hS)
    rw [zEc_arr (by decide) hk2, zt_clamp, zt_clamp, zt_clamp]
    show _ = (Sum.inl (_, _, Sum.inl (fun i => Int32.ofInt (zb8 (zcpy h o1 (zw x).toNat o2 (zw y).toNat (zw z).toNat o2 i)))) : va_E)
    rw [zcpy_va (f := fun z => Int32.ofInt (zb8 z))]
end ZHC
/-- what the tables say of a method m with n parameters: kind 0 an instance's, 1 static, 2 a constructor -/
def zMok (m n kd : Nat) : Prop := zpc m 0 = 0 ∧ (zmi m).2.2.2.2.2.1 = kd ∧ Cond.code (zmi m).1 (zmi m).2.1 (zmi m).2.2.1 (zmi m).2.2.2.1 ∈ zGw ∧ Cond.initialized (zmi m).1.cls ∈ zGw ∧ (zmi m).2.2.2.2.1 = (zmi m).1.cls ∧ plainFor (zmi m).1 = true ∧
  ((zmi m).1.cls ≠ "java/lang/invoke/MethodHandle" ∧ (zmi m).1.cls ≠ "java/lang/invoke/VarHandle" ∧ (parseMethodDescriptor (zmi m).1.desc).map (fun d => d.parameters.length) = some n) ∧
  (kd = 0 → Cond.instanceMethod (zmi m).1 ∈ zGw ∧ Cond.selects (zmi m).1.cls (zmi m).1 (zmi m).1 ∈ zGw) ∧ (kd = 1 → Cond.static (zmi m).1 ∈ zGw) ∧ (kd = 2 → Cond.instanceMethod (zmi m).1 ∈ zGw ∧ (zmi m).1.name = "<init>" ∧ (zmi m).2.2.2.1 = none)
/-- there is room for m in a frame of k -/
def zRoom (k m : Nat) : Prop := (zmi m).2.2.2.2.2.2.1 + 1 ≤ (zmi k).2.2.2.2.2.2.1 ∧ 8 + ((zmi m).2.2.1 + 11) + (zmi m).2.2.2.2.2.2.2.1 ≤ (zmi k).2.2.2.2.2.2.2.1
/-- what the tables must say of an instruction of method k -/
def zWd (k : Nat) (e : zE) : Prop := match e.2.2.1 with
  | .getfield ix => e.2.2.2.1 < 11 ∧ e.2.2.2.2.1 < zNf e.2.2.2.1 ∧ Cond.fieldLink (zmi k).2.2.2.2.1 ix (zTn e.2.2.2.1 e.2.2.2.2.1).1 (zTn e.2.2.2.1 e.2.2.2.2.1).2.1 (zTn e.2.2.2.1 e.2.2.2.2.1).2.2.1 ∈ zGw
  | .putfield ix => e.2.2.2.1 < 11 ∧ e.2.2.2.2.1 < zNf e.2.2.2.1 ∧ Cond.fieldLink (zmi k).2.2.2.2.1 ix (zTn e.2.2.2.1 e.2.2.2.2.1).1 (zTn e.2.2.2.1 e.2.2.2.2.1).2.1 (zTn e.2.2.2.1 e.2.2.2.2.1).2.2.1 ∈ zGw ∧ ((zTn e.2.2.2.1 e.2.2.2.2.1).2.2.2 = true → (zmi k).2.2.2.2.2.1 = 2 ∧ (zTn e.2.2.2.1 e.2.2.2.2.1).1 = (zmi k).2.2.2.2.1)
  | .invokevirtual ix => if e.2.2.2.1 = 10002 then Cond.methodLink (zmi k).2.2.2.2.1 ix yJ0_length_8abf5 ∈ zGw ∧ 2 ≤ (zmi k).2.2.2.2.2.2.1 ∧ 40 ≤ (zmi k).2.2.2.2.2.2.2.1 else if e.2.2.2.1 = 10003 then Cond.methodLink (zmi k).2.2.2.2.1 ix yJ0_charAt_5068e ∈ zGw ∧ 4 ≤ (zmi k).2.2.2.2.2.2.1 ∧ 85 ≤ (zmi k).2.2.2.2.2.2.2.1 else Cond.methodLink (zmi k).2.2.2.2.1 ix (zmi e.2.2.2.1).1 ∈ zGw ∧ zMok e.2.2.2.1 (e.2.2.2.2.1 - 1) 0 ∧ 1 ≤ e.2.2.2.2.1 ∧ (∃ ci : Nat, ci < 11 ∧ e.2.2.2.2.2.1 = (ci : Int) ∧ zRn ci = (zmi e.2.2.2.1).1.cls) ∧ zRoom k e.2.2.2.1
  | .invokestatic ix => if e.2.2.2.1 = 10001 then Cond.methodLink (zmi k).2.2.2.2.1 ix arraycopyName ∈ zGw ∧ 1 ≤ (zmi k).2.2.2.2.2.2.1 ∧ 18 ≤ (zmi k).2.2.2.2.2.2.2.1 else (Cond.methodLink (zmi k).2.2.2.2.1 ix (zmi e.2.2.2.1).1 ∈ zGw ∨ Cond.methodLinkNest (zmi k).2.2.2.2.1 ix (zmi e.2.2.2.1).1 RX9 ∈ zNws) ∧ zMok e.2.2.2.1 e.2.2.2.2.1 1 ∧ zRoom k e.2.2.2.1
  | .invokespecial ix => if e.2.2.2.1 = 10000 then Cond.methodLink (zmi k).2.2.2.2.1 ix Lib.objectInit ∈ zGw ∧ 1 ≤ (zmi k).2.2.2.2.2.2.1 ∧ 12 ≤ (zmi k).2.2.2.2.2.2.2.1 else (Cond.methodLink (zmi k).2.2.2.2.1 ix (zmi e.2.2.2.1).1 ∈ zGw ∨ Cond.methodLinkNest (zmi k).2.2.2.2.1 ix (zmi e.2.2.2.1).1 RX9 ∈ zNws) ∧ zMok e.2.2.2.1 (e.2.2.2.2.1 - 1) 2 ∧ 1 ≤ e.2.2.2.2.1 ∧ zRoom k e.2.2.2.1
  | .ldc ix => if e.2.2.2.1 = 0 then Cond.constant (zmi k).2.2.2.2.1 ix (Int32.ofInt e.2.2.2.2.2.1) ∈ zGw else (zmi k).2.2.2.2.1 = RX4 ∧ e.2.2.2.2.2.1.toNat < 12 ∧ ix = zsix e.2.2.2.2.2.1.toNat
  | .ldc_w ix => Cond.constant (zmi k).2.2.2.2.1 ix (Int32.ofInt e.2.2.2.2.2.1) ∈ zGw
  | .ldc2_w ix => Cond.constantLong (zmi k).2.2.2.2.1 ix (Int64.ofInt e.2.2.2.2.2.1) ∈ zGw
  | .new ix => e.2.2.2.1 < 11 ∧ e.2.2.2.2.1 = zNf e.2.2.2.1 ∧ Cond.classLink (zmi k).2.2.2.2.1 ix (zRn e.2.2.2.1) ∈ zGw ∧ Cond.instantiable (zRn e.2.2.2.1) (zNf e.2.2.2.1) ∈ zGw ∧ Cond.initialized (zRn e.2.2.2.1) ∈ zGw
  | .newarray t => 100 ≤ e.2.2.2.1 ∧ e.2.2.2.1 < 104 ∧ newarray.typeOf t = zTt (e.2.2.2.1 - 100) ∧ Cond.arrayClass (zTt (e.2.2.2.1 - 100)) ∈ zGw
  | .anewarray ix => 104 ≤ e.2.2.2.1 ∧ e.2.2.2.1 < 108 ∧ ∃ C, zTt (e.2.2.2.1 - 100) = .object C ∧ Cond.classLink (zmi k).2.2.2.2.1 ix C ∈ zGw
  | .iaload => e.2.2.2.1 = 100 ∨ e.2.2.2.1 = 108
  | .baload => e.2.2.2.1 = 101 ∨ e.2.2.2.1 = 102
  | .laload => e.2.2.2.1 = 103
  | .aaload => 104 ≤ e.2.2.2.1 ∧ e.2.2.2.1 < 108
  | .iastore => e.2.2.2.1 = 100
  | .bastore => e.2.2.2.1 = 101 ∨ e.2.2.2.1 = 102
  | .lastore => e.2.2.2.1 = 103
  | .aastore => 104 ≤ e.2.2.2.1 ∧ e.2.2.2.1 < 108
  | .bipush n => -128 ≤ n ∧ n ≤ 127
  | .sipush n => -32768 ≤ n ∧ n ≤ 32767
  | .ireturn => True
  | _ => True
