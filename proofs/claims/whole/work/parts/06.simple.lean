/-! THE SMALL MACHINE IS SOUND: steps that leave the heap alone -/
section ZS
variable {p : Program} {l : Launch} {e : Env} {R : Room} {s : State} {m : MethodId} {args : Array Value} {below : List Frame} {meth : Method} {c : Code} {H : Heap} {locs : List Loc} {cells slots : Nat} {Q : State → Prop}
variable {cc : ByteArray} {pc : Nat} {ls : Array Slot} {ad : Nat → Nat} {L st : List zV}
theorem zg_load {k : Nat} {v : zV} (hl : zLs ad L ls) (h1 : L[k]? = some v) (h2 : v ≠ zN) : ls[k]? = some (.val (zt ad v)) := hl.2.2 k v h1 h2
theorem zs_iload (hx : p.tables.exec = Jvm.exec) (hb : c.code = cc) {k : Nat} {z : Int} (hdg : decode cc pc = .ok (.iload k, 2)) (hl : zLs ad L ls) (h1 : L[k]? = some (zI z))
    (kk : W p l e R s m args below meth c H locs cells slots Q (F0 m (pc + 2) ls ((zI z :: st).map (zt ad)))) : W p l e R s m args below meth c H locs cells slots Q (F0 m pc ls (st.map (zt ad))) :=
  lv_iload hx hb hdg (zg_load hl h1 (by simp)) kk
theorem zs_iload_n (hx : p.tables.exec = Jvm.exec) (hb : c.code = cc) {k : Fin 4} {z : Int} (hdg : decode cc pc = .ok (.iload_n k, 1)) (hl : zLs ad L ls) (h1 : L[(k : Nat)]? = some (zI z))
    (kk : W p l e R s m args below meth c H locs cells slots Q (F0 m (pc + 1) ls ((zI z :: st).map (zt ad)))) : W p l e R s m args below meth c H locs cells slots Q (F0 m pc ls (st.map (zt ad))) :=
  lv_iload_n hx hb hdg rfl (zg_load hl h1 (by simp)) kk
theorem zs_lload (hx : p.tables.exec = Jvm.exec) (hb : c.code = cc) {k : Nat} {z : Int} (hdg : decode cc pc = .ok (.lload k, 2)) (hl : zLs ad L ls) (h1 : L[k]? = some (zL z))
    (kk : W p l e R s m args below meth c H locs cells slots Q (F0 m (pc + 2) ls ((zL z :: st).map (zt ad)))) : W p l e R s m args below meth c H locs cells slots Q (F0 m pc ls (st.map (zt ad))) :=
  lv_lload hx hb hdg (zg_load hl h1 (by simp)) kk
theorem zs_lload_n (hx : p.tables.exec = Jvm.exec) (hb : c.code = cc) {k : Fin 4} {z : Int} (hdg : decode cc pc = .ok (.lload_n k, 1)) (hl : zLs ad L ls) (h1 : L[(k : Nat)]? = some (zL z))
    (kk : W p l e R s m args below meth c H locs cells slots Q (F0 m (pc + 1) ls ((zL z :: st).map (zt ad)))) : W p l e R s m args below meth c H locs cells slots Q (F0 m pc ls (st.map (zt ad))) :=
  lv_lload_n hx hb hdg rfl (zg_load hl h1 (by simp)) kk
theorem zs_aload (hx : p.tables.exec = Jvm.exec) (hb : c.code = cc) {k : Nat} {o : Nat} (hdg : decode cc pc = .ok (.aload k, 2)) (hl : zLs ad L ls) (h1 : L[k]? = some (zR o))
    (kk : W p l e R s m args below meth c H locs cells slots Q (F0 m (pc + 2) ls ((zR o :: st).map (zt ad)))) : W p l e R s m args below meth c H locs cells slots Q (F0 m pc ls (st.map (zt ad))) :=
  lv_aload hx hb hdg (zg_load hl h1 (by simp)) kk
theorem zs_aload_n (hx : p.tables.exec = Jvm.exec) (hb : c.code = cc) {k : Fin 4} {o : Nat} (hdg : decode cc pc = .ok (.aload_n k, 1)) (hl : zLs ad L ls) (h1 : L[(k : Nat)]? = some (zR o))
    (kk : W p l e R s m args below meth c H locs cells slots Q (F0 m (pc + 1) ls ((zR o :: st).map (zt ad)))) : W p l e R s m args below meth c H locs cells slots Q (F0 m pc ls (st.map (zt ad))) :=
  lv_aload_n hx hb hdg rfl (zg_load hl h1 (by simp)) kk
theorem zs_istore (hx : p.tables.exec = Jvm.exec) (hb : c.code = cc) {k : Nat} {z : Int} (hdg : decode cc pc = .ok (.istore k, 2)) (hl : zLs ad L ls) (h1 : k < L.length)
    (kk : ∀ ls' : Array Slot, zLs ad (zset k (zI z) L) ls' → W p l e R s m args below meth c H locs cells slots Q (F0 m (pc + 2) ls' (st.map (zt ad)))) : W p l e R s m args below meth c H locs cells slots Q (F0 m pc ls ((zI z :: st).map (zt ad))) :=
  lv_istore hx hb hdg hl.has h1 rfl fun ls' h => kk ls' (zLs.stored (v := zI z) h)
theorem zs_istore_n (hx : p.tables.exec = Jvm.exec) (hb : c.code = cc) {k : Fin 4} {z : Int} (hdg : decode cc pc = .ok (.istore_n k, 1)) (hl : zLs ad L ls) (h1 : (k : Nat) < L.length)
    (kk : ∀ ls' : Array Slot, zLs ad (zset k (zI z) L) ls' → W p l e R s m args below meth c H locs cells slots Q (F0 m (pc + 1) ls' (st.map (zt ad)))) : W p l e R s m args below meth c H locs cells slots Q (F0 m pc ls ((zI z :: st).map (zt ad))) :=
  lv_istore_n hx hb hdg rfl hl.has h1 rfl fun ls' h => kk ls' (zLs.stored (v := zI z) h)
theorem zs_lstore (hx : p.tables.exec = Jvm.exec) (hb : c.code = cc) {k : Nat} {z : Int} (hdg : decode cc pc = .ok (.lstore k, 2)) (hl : zLs ad L ls) (h1 : k + 1 < L.length)
    (kk : ∀ ls' : Array Slot, zLs ad (zset2 k (zL z) L) ls' → W p l e R s m args below meth c H locs cells slots Q (F0 m (pc + 2) ls' (st.map (zt ad)))) : W p l e R s m args below meth c H locs cells slots Q (F0 m pc ls ((zL z :: st).map (zt ad))) :=
  lv_lstore hx hb hdg hl.has h1 rfl fun ls' h => kk ls' (zLs.stored2 (v := zL z) h)
theorem zs_lstore_n (hx : p.tables.exec = Jvm.exec) (hb : c.code = cc) {k : Fin 4} {z : Int} (hdg : decode cc pc = .ok (.lstore_n k, 1)) (hl : zLs ad L ls) (h1 : (k : Nat) + 1 < L.length)
    (kk : ∀ ls' : Array Slot, zLs ad (zset2 k (zL z) L) ls' → W p l e R s m args below meth c H locs cells slots Q (F0 m (pc + 1) ls' (st.map (zt ad)))) : W p l e R s m args below meth c H locs cells slots Q (F0 m pc ls ((zL z :: st).map (zt ad))) :=
  lv_lstore_n hx hb hdg rfl hl.has h1 rfl fun ls' h => kk ls' (zLs.stored2 (v := zL z) h)
theorem zs_astore (hx : p.tables.exec = Jvm.exec) (hb : c.code = cc) {k : Nat} {o : Nat} (hdg : decode cc pc = .ok (.astore k, 2)) (hl : zLs ad L ls) (h1 : k < L.length)
    (kk : ∀ ls' : Array Slot, zLs ad (zset k (zR o) L) ls' → W p l e R s m args below meth c H locs cells slots Q (F0 m (pc + 2) ls' (st.map (zt ad)))) : W p l e R s m args below meth c H locs cells slots Q (F0 m pc ls ((zR o :: st).map (zt ad))) :=
  lv_astore hx hb hdg hl.has h1 rfl fun ls' h => kk ls' (zLs.stored (v := zR o) h)
theorem zs_astore_n (hx : p.tables.exec = Jvm.exec) (hb : c.code = cc) {k : Fin 4} {o : Nat} (hdg : decode cc pc = .ok (.astore_n k, 1)) (hl : zLs ad L ls) (h1 : (k : Nat) < L.length)
    (kk : ∀ ls' : Array Slot, zLs ad (zset k (zR o) L) ls' → W p l e R s m args below meth c H locs cells slots Q (F0 m (pc + 1) ls' (st.map (zt ad)))) : W p l e R s m args below meth c H locs cells slots Q (F0 m pc ls ((zR o :: st).map (zt ad))) :=
  lv_astore_n hx hb hdg rfl hl.has h1 rfl fun ls' h => kk ls' (zLs.stored (v := zR o) h)
theorem zs_iinc (hx : p.tables.exec = Jvm.exec) (hb : c.code = cc) {k len : Nat} {n z : Int} (hlen : len = 3 ∨ len = 6) (hdg : decode cc pc = .ok (.iinc k n, len)) (hl : zLs ad L ls) (h1 : L[k]? = some (zI z))
    (kk : ∀ ls' : Array Slot, zLs ad (zset k (zI (z + n)) L) ls' → W p l e R s m args below meth c H locs cells slots Q (F0 m (pc + len) ls' (st.map (zt ad)))) : W p l e R s m args below meth c H locs cells slots Q (F0 m pc ls (st.map (zt ad))) := by
  have hk : k < L.length := (List.getElem?_eq_some_iff.mp h1).1
  obtain ⟨q, hq⟩ := List.getElem?_of_mem (zlv_mem (ad := ad) (L := L) (q := (k, .int (Int32.ofInt z))).mpr ⟨zI z, h1, by simp, rfl⟩)
  have kk' : ∀ ls' : Array Slot, lv_has ls' L.length ((k, Value.int (Int32.ofInt (z + n))) :: (zlv ad L).filter (fun q => !(q.1 == k) && !(q.1 + 1 == k && q.2.category == 2))) → W p l e R s m args below meth c H locs cells slots Q (F0 m (pc + len) ls' (st.map (zt ad))) := fun ls' h => kk ls' (zLs.stored (v := zI (z + n)) h)
  rcases hlen with rfl | rfl
  · exact lv_iinc hx hb hdg hl.has hq (Int32.ofInt_add z n).symm hk rfl kk'
  · exact lv_iincW hx hb hdg hl.has hq (Int32.ofInt_add z n).symm hk rfl kk'
theorem zs_if (hx : p.tables.exec = Jvm.exec) (hb : c.code = cc) {cd : Jvm.ClassFile.Cond} {off : Int} {tgt : Nat} {z : Int} (hdg : decode cc pc = .ok (.ifCond cd off, 3)) (ht : (pc : Int) + off = (tgt : Int))
    (kt : zcond cd (zw z) 0 = true → W p l e R s m args below meth c H locs cells slots Q (F0 m tgt ls (st.map (zt ad)))) (kf : zcond cd (zw z) 0 = false → W p l e R s m args below meth c H locs cells slots Q (F0 m (pc + 3) ls (st.map (zt ad)))) : W p l e R s m args below meth c H locs cells slots Q (F0 m pc ls ((zI z :: st).map (zt ad))) := by
  cases cd
  · exact lv_if_eq hx hb hdg ht (fun h => kt (by simpa [zcond] using zt_eqz.mp h)) (fun h => kf (by simpa [zcond] using fun q => h (zt_eqz.mpr q)))
  · exact lv_if_ne hx hb hdg ht (fun h => kt (by simpa [zcond] using fun q => h (zt_eqz.mpr q))) (fun h => kf (by simpa [zcond] using zt_eqz.mp h))
  · exact lv_if_lt hx hb hdg ht (fun h => kt (by simpa [zcond] using zt_lt0.mp h)) (fun h => kf (by simpa [zcond] using Int.not_lt.mp fun q => h (zt_lt0.mpr q)))
  · exact lv_if_ge hx hb hdg ht (fun h => kt (by simpa [zcond] using zt_le0.mp h)) (fun h => kf (by simpa [zcond] using Int.not_le.mp fun q => h (zt_le0.mpr q)))
  · exact lv_if_gt hx hb hdg ht (fun h => kt (by simpa [zcond] using zt_gt0.mp h)) (fun h => kf (by simpa [zcond] using Int.not_lt.mp fun q => h (zt_gt0.mpr q)))
  · exact lv_if_le hx hb hdg ht (fun h => kt (by simpa [zcond] using zt_ge0.mp h)) (fun h => kf (by simpa [zcond] using Int.not_le.mp fun q => h (zt_ge0.mpr q)))
theorem zs_icmp (hx : p.tables.exec = Jvm.exec) (hb : c.code = cc) {cd : Jvm.ClassFile.Cond} {off : Int} {tgt : Nat} {a b : Int} (hdg : decode cc pc = .ok (.if_icmp cd off, 3)) (ht : (pc : Int) + off = (tgt : Int))
    (kt : zcond cd (zw a) (zw b) = true → W p l e R s m args below meth c H locs cells slots Q (F0 m tgt ls (st.map (zt ad)))) (kf : zcond cd (zw a) (zw b) = false → W p l e R s m args below meth c H locs cells slots Q (F0 m (pc + 3) ls (st.map (zt ad)))) : W p l e R s m args below meth c H locs cells slots Q (F0 m pc ls ((zI b :: zI a :: st).map (zt ad))) := by
  cases cd
  · exact lv_icmp_eq hx hb hdg ht (fun h => kt (by simpa [zcond] using zt_eq.mp h)) (fun h => kf (by simpa [zcond] using fun q => h (zt_eq.mpr q)))
  · exact lv_icmp_ne hx hb hdg ht (fun h => kt (by simpa [zcond] using fun q => h (zt_eq.mpr q))) (fun h => kf (by simpa [zcond] using zt_eq.mp h))
  · exact lv_icmp_lt hx hb hdg ht (fun h => kt (by simpa [zcond] using zt_lt.mp h)) (fun h => kf (by simpa [zcond] using Int.not_lt.mp fun q => h (zt_lt.mpr q)))
  · exact lv_icmp_ge hx hb hdg ht (fun h => kt (by simpa [zcond] using zt_le.mp h)) (fun h => kf (by simpa [zcond] using Int.not_le.mp fun q => h (zt_le.mpr q)))
  · exact lv_icmp_gt hx hb hdg ht (fun h => kt (by simpa [zcond] using zt_lt.mp h)) (fun h => kf (by simpa [zcond] using Int.not_lt.mp fun q => h (zt_lt.mpr q)))
  · exact lv_icmp_le hx hb hdg ht (fun h => kt (by simpa [zcond] using zt_le.mp h)) (fun h => kf (by simpa [zcond] using Int.not_le.mp fun q => h (zt_le.mpr q)))
/-- numbers of an operation -/
theorem zn_nat (a : Int) : (Int32.ofInt a).toBitVec.toNat = (a % 4294967296).toNat := by
  show (BitVec.ofInt 32 a).toNat = _
  rw [BitVec.toNat_ofInt]; rfl
theorem zn_and31 (b : Int) : Int32.ofInt b &&& 31 = nI (b % 32).toNat := by
  rw [pk_and (Int32.ofInt b) 5 (by decide), zn_nat]
  congr 1
  omega
theorem zn_sm : ∀ j : Nat, j < 32 → ((nI j).toBitVec.smod 32).toNat = j := by decide +kernel
theorem zn_sh (b : Int) : ((Int32.ofInt b &&& 31).toBitVec.smod 32).toNat = (b % 32).toNat := by
  rw [zn_and31]
  exact zn_sm _ (by omega)
theorem zn_inj {x y : Int32} (h : x.toBitVec.toNat = y.toBitVec.toNat) : x = y := by
  apply Int32.toBitVec.inj
  exact BitVec.eq_of_toNat_eq h
theorem zn_shl (a b : Int) : Int32.ofInt a <<< (Int32.ofInt b &&& 31) = Int32.ofInt (zshl a b) := by
  apply zn_inj
  rw [pk_shl _ _ _ (zn_sh b), zn_nat, zn_nat]
  unfold zshl
  generalize (b % 32).toNat = j
  apply Int.ofNat.inj
  show ((((a % 4294967296).toNat * 2 ^ j % 2 ^ 32 : Nat)) : Int) = (((a * 2 ^ j) % 4294967296).toNat : Int)
  rw [Int.toNat_of_nonneg (Int.emod_nonneg _ (by decide))]
  rw [Int.natCast_emod, Int.natCast_mul, Int.toNat_of_nonneg (Int.emod_nonneg _ (by decide)), Int.natCast_pow, Int.natCast_pow]
  show (a % 4294967296 * 2 ^ j) % 4294967296 = _
  rw [Int.mul_emod, Int.emod_emod, ← Int.mul_emod]
theorem zn_divb {x d : Int} (hd : 1 ≤ d) (h1 : -2147483648 ≤ x) (h2 : x < 2147483648) : -2147483648 ≤ x / d ∧ x / d < 2147483648 :=
  ⟨(Int.le_ediv_iff_mul_le (by omega)).mpr (by omega), (Int.ediv_lt_iff_lt_mul (by omega)).mpr (by omega)⟩
theorem zn_pow (j : Nat) : (1 : Int) ≤ 2 ^ j := by
  have : (1 : Nat) ≤ 2 ^ j := Nat.one_le_two_pow
  have h2 : ((1 : Nat) : Int) ≤ ((2 ^ j : Nat) : Int) := Int.ofNat_le.mpr this
  rw [Int.natCast_pow] at h2
  exact h2
theorem zn_shr (a b : Int) : Int32.ofInt a >>> (Int32.ofInt b &&& 31) = Int32.ofInt (zshr a b) := by
  rw [← Int32.toInt_inj, pk_shr _ _ _ (zn_sh b), zw_toInt, zw_toInt, Int.shiftRight_eq_div_pow]
  unfold zshr
  generalize (b % 32).toNat = j
  have h := zn_divb (zn_pow j) (zw_lo a) (zw_hi a)
  rw [zw_id h.1 h.2]
  rw [Int.natCast_pow]; rfl
theorem zn_ush (b : Int) : (((Int32.ofInt b).toUInt32 &&& Int32.toUInt32 31).toBitVec % 32).toNat = (b % 32).toNat := by
  have h : ((Int32.ofInt b).toUInt32 &&& Int32.toUInt32 31).toBitVec = (Int32.ofInt b).toBitVec &&& 31#32 := rfl
  rw [h, BitVec.toNat_umod, BitVec.toNat_and, zn_nat]
  have h2 : (31#32 : BitVec 32).toNat = 2 ^ 5 - 1 := rfl
  rw [h2, Nat.and_two_pow_sub_one_eq_mod]
  show (b % 4294967296).toNat % 32 % 32 = _
  omega
theorem zn_ushr (a b : Int) : ((Int32.ofInt a).toUInt32 >>> ((Int32.ofInt b).toUInt32 &&& Int32.toUInt32 31)).toInt32 = Int32.ofInt (zushr a b) := by
  apply zn_inj
  rw [pk_ushr _ _ _ (zn_ush b), zn_nat, zn_nat]
  unfold zushr
  generalize (b % 32).toNat = j
  have h0 : 0 ≤ a % 4294967296 := Int.emod_nonneg _ (by decide)
  have h1 : a % 4294967296 < 4294967296 := Int.emod_lt_of_pos _ (by decide)
  have h2 : 0 ≤ a % 4294967296 / 2 ^ j := Int.ediv_nonneg h0 (by have := zn_pow j; omega)
  have h3 : a % 4294967296 / 2 ^ j < 4294967296 := (Int.ediv_lt_iff_lt_mul (by have := zn_pow j; omega)).mpr (by have := zn_pow j; omega)
  rw [Int.emod_eq_of_lt h2 h3]
  apply Int.ofNat.inj
  show (((a % 4294967296).toNat / 2 ^ j : Nat) : Int) = ((a % 4294967296 / 2 ^ j).toNat : Int)
  rw [Int.toNat_of_nonneg h2, Int.natCast_ediv, Int.toNat_of_nonneg h0, Int.natCast_pow]; rfl
theorem zn_band (a b : Int) : Int32.ofInt a &&& Int32.ofInt b = Int32.ofInt (zband a b) := (Int32.ofInt_toInt _).symm
theorem zn_bxor (a b : Int) : Int32.ofInt a ^^^ Int32.ofInt b = Int32.ofInt (zbxor a b) := (Int32.ofInt_toInt _).symm
theorem zn_lor (a b : Int) : Int64.ofInt a ||| Int64.ofInt b = Int64.ofInt (zlor a b) := (Int64.ofInt_toInt _).symm
theorem zn_64 : ∀ j : Nat, j < 64 → ((BitVec.ofNat 64 j).smod 64).toNat = j := by decide +kernel
theorem zn_nat64 (a : Int) : (Int64.ofInt a).toBitVec.toNat = (a % 18446744073709551616).toNat := by
  show (BitVec.ofInt 64 a).toNat = _
  rw [BitVec.toNat_ofInt]; rfl
theorem zn_i2l0 (a : Int) : (Int32.ofInt a).toInt64 = Int64.ofInt (zw a) := by
  rw [← Int64.toInt_inj, Int32.toInt_toInt64, zw_toInt, zwl_toInt]
  have h1 := zw_lo a
  have h2 := zw_hi a
  rw [← zwl_toInt]
  exact (Int64.toInt_ofInt_of_le (by omega) (by omega)).symm
theorem zw_mod64 (b : Int) : zw b % 64 = b % 64 := by
  unfold zw
  rw [Int.bmod_def]
  split <;> omega
theorem zn_and63 (b : Int) : ((Int32.ofInt b).toInt64 &&& 63).toBitVec = BitVec.ofNat 64 (b % 64).toNat := by
  rw [zn_i2l0]
  apply BitVec.eq_of_toNat_eq
  show ((Int64.ofInt (zw b)).toBitVec &&& 63#64).toNat = _
  rw [BitVec.toNat_and, zn_nat64]
  have h2 : (63#64 : BitVec 64).toNat = 2 ^ 6 - 1 := rfl
  rw [h2, Nat.and_two_pow_sub_one_eq_mod, BitVec.toNat_ofNat]
  have := zw_mod64 b
  omega
theorem zn_lshl (a b : Int) : Int64.ofInt a <<< ((Int32.ofInt b).toInt64 &&& 63) = Int64.ofInt (a * 2 ^ (b % 64).toNat) := by
  apply Int64.toBitVec.inj
  apply BitVec.eq_of_toNat_eq
  show ((Int64.ofInt a).toBitVec <<< (((Int32.ofInt b).toInt64 &&& 63).toBitVec.smod 64)).toNat = _
  rw [zn_and63, BitVec.shiftLeft_eq', zn_64 _ (by omega), BitVec.toNat_shiftLeft, Nat.shiftLeft_eq, zn_nat64, zn_nat64]
  generalize (b % 64).toNat = j
  apply Int.ofNat.inj
  show ((((a % 18446744073709551616).toNat * 2 ^ j % 2 ^ 64 : Nat)) : Int) = (((a * 2 ^ j) % 18446744073709551616).toNat : Int)
  rw [Int.toNat_of_nonneg (Int.emod_nonneg _ (by decide))]
  rw [Int.natCast_emod, Int.natCast_mul, Int.toNat_of_nonneg (Int.emod_nonneg _ (by decide)), Int.natCast_pow, Int.natCast_pow]
  show (a % 18446744073709551616 * 2 ^ j) % 18446744073709551616 = _
  rw [Int.mul_emod, Int.emod_emod, ← Int.mul_emod]
theorem zn_cmp (a b : Int) : lg_cmp (Int64.ofInt a) (Int64.ofInt b) = Int32.ofInt (zlcmp a b) := by
  unfold lg_cmp zlcmp
  simp only [gt_iff_lt, Int64.lt_iff_toInt_lt, ← Int64.toInt_inj, zwl_toInt]
  by_cases h1 : zwl a < zwl b
  · rw [if_pos h1, if_neg (by omega), if_neg (by omega)]; rfl
  · rw [if_neg h1]
    by_cases h2 : zwl b < zwl a
    · rw [if_pos h2, if_neg (by omega)]; rfl
    · rw [if_neg h2, if_pos (by omega), if_pos (by omega)]; rfl
theorem zn_i2b (a : Int) : (Int32.ofInt a).toInt8.toInt32 = Int32.ofInt (zb8 a) := by
  rw [← Int32.toInt_inj, Int8.toInt_toInt32, Int32.toInt_toInt8, zw_toInt, Int32.toInt_ofInt]
  have e : (zw a).bmod (2 ^ 8) = zb8 a := Int.bmod_bmod_of_dvd (by decide)
  rw [e]
  have h1 : -128 ≤ zb8 a := Int.le_bmod (x := a) (m := 256) (by decide)
  have h2 : zb8 a < 128 := Int.bmod_lt (x := a) (m := 256) (by decide)
  exact (zw_id (z := zb8 a) (by omega) (by omega)).symm
theorem zn_i2l (a : Int) : (Int32.ofInt a).toInt64 = Int64.ofInt (zw a) := by
  rw [← Int64.toInt_inj, Int32.toInt_toInt64, zw_toInt, zwl_toInt]
  have h1 := zw_lo a
  have h2 := zw_hi a
  rw [← zwl_toInt]
  exact (Int64.toInt_ofInt_of_le (by omega) (by omega)).symm
end ZS
