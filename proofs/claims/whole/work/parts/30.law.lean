/-! THE LAW'S BODY is a run of the small machine -/
theorem zInst {ci : Nat} (h : ci < 11) : Cond.instantiable (zRn ci) (zNf ci) ∈ zGw :=
  z_11 (P := fun ci => Cond.instantiable (zRn ci) (zNf ci) ∈ zGw) (lw_ct1 205 rfl rfl) (lw_ct2 81 rfl rfl) (lw_ct1 35 rfl rfl) (lw_ct2 115 rfl rfl) (lw_ct1 150 rfl rfl) (lw_ct1 211 rfl rfl) (lw_ct2 152 rfl rfl) (lw_ct1 28 rfl rfl) (lw_ct1 94 rfl rfl) (lw_ct1 20 rfl rfl) (lw_ct5 96 rfl rfl) h
theorem zArrW {t : Nat} (h : t < 4) : Cond.arrayClass (zTt t) ∈ zGw := by
  rcases (show t = 0 ∨ t = 1 ∨ t = 2 ∨ t = 3 by omega) with rfl | rfl | rfl | rfl
  · exact lw_ct1 90 rfl rfl
  · exact lw_ct1 89 rfl rfl
  · exact lw_ct1 91 rfl rfl
  · exact lw_ct6 52 rfl rfl
theorem zOver7 : Cond.arrayOver (.object RX7) ∈ lw_tbl := (List.mem_append_right _ (List.mem_append_left _ (List.mem_of_getElem? (i := 148) rfl)))
theorem zOver2 : Cond.arrayOver (.object RX2) ∈ lw_tbl := (List.mem_append_right _ (List.mem_append_left _ (List.mem_of_getElem? (i := 34) rfl)))
theorem zOver8 : Cond.arrayOver (.object RX8) ∈ lw_tbl := (List.mem_append_right _ (List.mem_append_left _ (List.mem_of_getElem? (i := 93) rfl)))
theorem zOver0 : Cond.arrayOver (.object RX0) ∈ lw_tbl := (List.mem_append_right _ (List.mem_append_left _ (List.mem_of_getElem? (i := 204) rfl)))
theorem zNws_in : ∀ w ∈ zNws, w ∈ lw_tbl := List.forall_mem_cons.mpr ⟨(List.mem_append_right _ (List.mem_append_left _ (List.mem_of_getElem? (i := 212) rfl))), List.forall_mem_cons.mpr ⟨(List.mem_append_right _ (List.mem_append_left _ (List.mem_of_getElem? (i := 47) rfl))), List.forall_mem_cons.mpr ⟨(List.mem_append_right _ (List.mem_append_left _ (List.mem_of_getElem? (i := 158) rfl))), List.forall_mem_cons.mpr ⟨(List.mem_append_right _ (List.mem_append_right _ (List.mem_append_left _ (List.mem_of_getElem? (i := 231) rfl)))), List.forall_mem_cons.mpr ⟨(List.mem_append_right _ (List.mem_append_right _ (List.mem_append_right _ (List.mem_append_left _ (List.mem_of_getElem? (i := 226) rfl))))), List.forall_mem_cons.mpr ⟨(List.mem_append_right _ (List.mem_append_left _ (List.mem_of_getElem? (i := 95) rfl))), List.forall_mem_cons.mpr ⟨(List.mem_append_right _ (List.mem_append_left _ (List.mem_of_getElem? (i := 29) rfl))), List.forall_mem_cons.mpr ⟨(List.mem_append_right _ (List.mem_append_left _ (List.mem_of_getElem? (i := 206) rfl))), List.forall_mem_cons.mpr ⟨(List.mem_append_right _ (List.mem_append_right _ (List.mem_append_left _ (List.mem_of_getElem? (i := 82) rfl)))), List.forall_mem_cons.mpr ⟨(List.mem_append_right _ (List.mem_append_right _ (List.mem_append_left _ (List.mem_of_getElem? (i := 116) rfl)))), List.forall_mem_cons.mpr ⟨(List.mem_append_right _ (List.mem_append_right _ (List.mem_append_left _ (List.mem_of_getElem? (i := 153) rfl)))), fun _ h => absurd h List.not_mem_nil⟩⟩⟩⟩⟩⟩⟩⟩⟩⟩⟩
theorem zGw_in : ∀ w ∈ zGw, w ∈ lw_tbl := fun w h => (List.mem_filter.mp h).1
/-- the tables' classes at the law's entry -/
theorem zK_start {s : State} {args : Array Value} (hts : ∀ w ∈ lw_tbl, w.before args s = true) : ∃ (D : va_G) (ca : Nat → ClassId), va_K D vwCl (zTl ca) s := by
  have hg : ∀ w ∈ zGw, w.before args s = true := fun w h => hts w (zGw_in w h)
  have h1 : ∀ ci, ∃ (q : ClassId × (Nat → Nat)), ci < 11 → u_Kn s (zRn ci) (zTn ci) (zNf ci) q.1 q.2 := by
    intro ci
    by_cases hc : ci < 11
    · obtain ⟨cC, iS, h⟩ := u_known (ws := zGw) hg (zIn hc) (hg _ (zInst hc))
      exact ⟨(cC, iS), fun _ => h⟩
    · exact ⟨(0, fun _ => 0), fun h => absurd h hc⟩
  have h2 : ∀ t, ∃ c : ClassId, t < 8 → ArrOfT s c (zTt t) ∧ va_RA s c (zTt t) := by
    intro t
    have hob : ∀ C, Cond.arrayOver (.object C) ∈ lw_tbl → ∃ c : ClassId, ArrOfT s c (.object C) ∧ va_RA s c (.object C) := by
      intro C hC
      obtain ⟨comp, c, k, g1, g2, g3, g4, g5⟩ := Cond.arrayOver_spec (hts _ hC)
      exact ⟨c, fun n z => ⟨fun k h => (by cases h), k, g3, comp, g4⟩, k, comp, g3, g4, g1, g5⟩
    by_cases ht : t < 4
    · obtain ⟨c, k, comp, g1, g2, g3⟩ := Cond.arrayClass_spec (hg _ (zArrW ht))
      refine ⟨c, fun _ => ⟨fun n z => ⟨fun k h => (by cases h), k, g2, comp, g3⟩, ?_⟩⟩
      rcases (show t = 0 ∨ t = 1 ∨ t = 2 ∨ t = 3 by omega) with rfl | rfl | rfl | rfl <;> exact g1
    · by_cases h8 : t < 8
      · rcases (show t = 4 ∨ t = 5 ∨ t = 6 ∨ t = 7 by omega) with rfl | rfl | rfl | rfl
        · obtain ⟨c, h⟩ := hob _ zOver7; exact ⟨c, fun _ => h⟩
        · obtain ⟨c, h⟩ := hob _ zOver2; exact ⟨c, fun _ => h⟩
        · obtain ⟨c, h⟩ := hob _ zOver8; exact ⟨c, fun _ => h⟩
        · obtain ⟨c, h⟩ := hob _ zOver0; exact ⟨c, fun _ => h⟩
      · exact ⟨0, fun h => absurd h h8⟩
  refine ⟨(fun ci => (Classical.choose (h1 ci)).1, fun ci => (Classical.choose (h1 ci)).2), fun t => Classical.choose (h2 t), fun ci q hq => ?_, fun k q hq => ?_⟩
  · have hc : ci < 11 := (List.getElem?_eq_some_iff.mp hq).1
    rw [zCl_get hc] at hq
    cases hq
    exact Classical.choose_spec (h1 ci) hc
  · have hc : k < 8 := by
      have := (List.getElem?_eq_some_iff.mp hq).1
      simpa [zTl] using this
    rw [zTl_get _ hc] at hq
    cases hq
    exact Classical.choose_spec (h2 k) hc

def R_law : String := "FringeBenchLaw"
def lw_P (b : Addr) (xs : List Int32) (args : Array Value) (s : State) : Prop := args = #[.ref b] ∧ s.IntsAt b xs ∧ xs.length ≤ 3584 ∧ (Jvm.Cond.and given_1 narrow_1).before args s = true
def lw_Q (_ : Array Value) (s : State) (o : Outcome) (t : State) : Prop := o = .returned (some (.int 1)) ∧ Framed s o t [] 600000 7302250
def lw_Z (below : List Frame) (a : Array Value) (s : State) : State → Prop := fun t => ∃ o, t.status = .running ∧ Ended t below o ∧ lw_Q a s o t
/-- the law's own end, with 1 on the stack, nothing written that was there before, its room as the claim has it -/
theorem lw_ret {p : Program} {l : Launch} {e : Env} {s : State} {m : MethodId} {below : List Frame} {meth : Method} {c : Code} {b : Nat} (hx : p.tables.exec = Jvm.exec) (hb : c.code = code) (hr : meth.sig.returnType = ret) (hlocks : meth.locks = false) {pc : Nat} {H : Heap} {ls : Array Slot} (hdg : decode code pc = .ok (.ireturn, 1)) : W p l e room_1 s m #[Value.ref b] below meth c H [] 600000 7302250 (lw_Z below #[Value.ref b] s) (F0 m pc ls [.int 1]) := by
  intro T hT X
  obtain ⟨fs, hret, hrun, hended, hW, hframe⟩ := X.leave (v := some (.int 1)) (hlocks := hlocks) (fun h => by rw [hr] at h; cases h)
  have hmeth' : T.vm.method? m = some meth := X.method'
  refine ⟨T.setFrames fs, ?_, .returned (some (.int 1)), hrun, hended, rfl, ⟨_, rfl⟩, hW, hframe⟩
  jvm_step X.here [X.here.top, hx, hb, hdg, hmeth', hr, ret, narrow_b1]
  (try refine ⟨rfl, ?_⟩); (try refine ⟨rfl, ?_⟩)
  first | (intro acts; rw [hret _ acts rfl rfl rfl]) | rw [hret _ _ rfl rfl rfl]
  exact Steps.refl _
/-- what holds at the law's entry: the machine, the code, the tables' words (any of lw_tbl by 'hts w (by decide +kernel)'), the script of L ints xs at the cell b, what the Statement gives of the start (any of its parts by flat_of_before) -/
def lw_At (p : Program) (s : State) (m : MethodId) (meth : Method) (c : Code) (b L : Nat) (xs : Nat → Int32) : Prop :=
  p.tables.exec = Jvm.exec ∧ c.code = code ∧ meth.sig.returnType = ret ∧ c.maxLocals = 4 ∧ s.vm.findClass R_law = some m.cls ∧ (∀ w ∈ lw_tbl, w.before #[Value.ref b] s = true) ∧ va_X b L xs s s.heap ∧ b < s.heap.size ∧ meth.locks = false ∧ (Jvm.Cond.and given_1 narrow_1).before #[Value.ref b] s = true

theorem zStr_s0 {s : State} {args : Array Value} (hs : ∀ c ∈ flatC (Jvm.Cond.and given_1 narrow_1), c.before args s = true)
    (hZ : va_Z "java/lang/String" "COMPACT_STRINGS" "Z" (.int 1) (fun q => s.heap.size ≤ q) s s.heap) (hq : va_Zq "jdk/internal/util/Preconditions" "SIOOBE_FORMATTER" "Ljava/util/function/BiFunction;" (fun q => s.heap.size ≤ q) s s.heap) (hr : (Cond.stringRef RX4 136 "size").before args s = true) : ∃ q, (∃ v, zSg q v (zsl 0) (fun j => .int (Int32.ofInt (zsc 0 j))) (fun q => s.heap.size ≤ q) s s.heap) ∧ vk_R RX4 (zsix 0) (zstt 0) q s := by
  obtain ⟨a, v, h1, h2⟩ := zSg_of (tm := (Term.string "FringeBench$Reader" 136)) (n := zsl 0) (g := fun j => Int32.ofInt (zsc 0 j)) (args := args) (by decide +kernel) (hs _ (by decide +kernel)) (hs _ (by decide +kernel)) (hs _ (by decide +kernel)) (hs _ (by decide +kernel)) (fun j hj => by
    have hj : j < 4 := hj
    rcases (show j = 0 ∨ j = 1 ∨ j = 2 ∨ j = 3 by omega) with rfl | rfl | rfl | rfl
    · exact hs _ (by decide +kernel)
    · exact hs _ (by decide +kernel)
    · exact hs _ (by decide +kernel)
    · exact hs _ (by decide +kernel)) hZ hq (fun a h z => by omega)
  exact ⟨a, ⟨v, h2⟩, vk_R.of (A := args) hr h1⟩
theorem zStr_s1 {s : State} {args : Array Value} (hs : ∀ c ∈ flatC (Jvm.Cond.and given_1 narrow_1), c.before args s = true)
    (hZ : va_Z "java/lang/String" "COMPACT_STRINGS" "Z" (.int 1) (fun q => s.heap.size ≤ q) s s.heap) (hq : va_Zq "jdk/internal/util/Preconditions" "SIOOBE_FORMATTER" "Ljava/util/function/BiFunction;" (fun q => s.heap.size ≤ q) s s.heap) (hr : (Cond.stringRef RX4 137 "step").before args s = true) : ∃ q, (∃ v, zSg q v (zsl 1) (fun j => .int (Int32.ofInt (zsc 1 j))) (fun q => s.heap.size ≤ q) s s.heap) ∧ vk_R RX4 (zsix 1) (zstt 1) q s := by
  obtain ⟨a, v, h1, h2⟩ := zSg_of (tm := (Term.string "FringeBench$Reader" 137)) (n := zsl 1) (g := fun j => Int32.ofInt (zsc 1 j)) (args := args) (by decide +kernel) (hs _ (by decide +kernel)) (hs _ (by decide +kernel)) (hs _ (by decide +kernel)) (hs _ (by decide +kernel)) (fun j hj => by
    have hj : j < 4 := hj
    rcases (show j = 0 ∨ j = 1 ∨ j = 2 ∨ j = 3 by omega) with rfl | rfl | rfl | rfl
    · exact hs _ (by decide +kernel)
    · exact hs _ (by decide +kernel)
    · exact hs _ (by decide +kernel)
    · exact hs _ (by decide +kernel)) hZ hq (fun a h z => by omega)
  exact ⟨a, ⟨v, h2⟩, vk_R.of (A := args) hr h1⟩
theorem zStr_s2 {s : State} {args : Array Value} (hs : ∀ c ∈ flatC (Jvm.Cond.and given_1 narrow_1), c.before args s = true)
    (hZ : va_Z "java/lang/String" "COMPACT_STRINGS" "Z" (.int 1) (fun q => s.heap.size ≤ q) s s.heap) (hq : va_Zq "jdk/internal/util/Preconditions" "SIOOBE_FORMATTER" "Ljava/util/function/BiFunction;" (fun q => s.heap.size ≤ q) s s.heap) (hr : (Cond.stringRef RX4 139 "phase").before args s = true) : ∃ q, (∃ v, zSg q v (zsl 2) (fun j => .int (Int32.ofInt (zsc 2 j))) (fun q => s.heap.size ≤ q) s s.heap) ∧ vk_R RX4 (zsix 2) (zstt 2) q s := by
  obtain ⟨a, v, h1, h2⟩ := zSg_of (tm := (Term.string "FringeBench$Reader" 139)) (n := zsl 2) (g := fun j => Int32.ofInt (zsc 2 j)) (args := args) (by decide +kernel) (hs _ (by decide +kernel)) (hs _ (by decide +kernel)) (hs _ (by decide +kernel)) (hs _ (by decide +kernel)) (fun j hj => by
    have hj : j < 5 := hj
    rcases (show j = 0 ∨ j = 1 ∨ j = 2 ∨ j = 3 ∨ j = 4 by omega) with rfl | rfl | rfl | rfl | rfl
    · exact hs _ (by decide +kernel)
    · exact hs _ (by decide +kernel)
    · exact hs _ (by decide +kernel)
    · exact hs _ (by decide +kernel)
    · exact hs _ (by decide +kernel)) hZ hq (fun a h z => by omega)
  exact ⟨a, ⟨v, h2⟩, vk_R.of (A := args) hr h1⟩
theorem zStr_s3 {s : State} {args : Array Value} (hs : ∀ c ∈ flatC (Jvm.Cond.and given_1 narrow_1), c.before args s = true)
    (hZ : va_Z "java/lang/String" "COMPACT_STRINGS" "Z" (.int 1) (fun q => s.heap.size ≤ q) s s.heap) (hq : va_Zq "jdk/internal/util/Preconditions" "SIOOBE_FORMATTER" "Ljava/util/function/BiFunction;" (fun q => s.heap.size ≤ q) s s.heap) (hr : (Cond.stringRef RX4 141 "hole").before args s = true) : ∃ q, (∃ v, zSg q v (zsl 3) (fun j => .int (Int32.ofInt (zsc 3 j))) (fun q => s.heap.size ≤ q) s s.heap) ∧ vk_R RX4 (zsix 3) (zstt 3) q s := by
  obtain ⟨a, v, h1, h2⟩ := zSg_of (tm := (Term.string "FringeBench$Reader" 141)) (n := zsl 3) (g := fun j => Int32.ofInt (zsc 3 j)) (args := args) (by decide +kernel) (hs _ (by decide +kernel)) (hs _ (by decide +kernel)) (hs _ (by decide +kernel)) (hs _ (by decide +kernel)) (fun j hj => by
    have hj : j < 4 := hj
    rcases (show j = 0 ∨ j = 1 ∨ j = 2 ∨ j = 3 by omega) with rfl | rfl | rfl | rfl
    · exact hs _ (by decide +kernel)
    · exact hs _ (by decide +kernel)
    · exact hs _ (by decide +kernel)
    · exact hs _ (by decide +kernel)) hZ hq (fun a h z => by omega)
  exact ⟨a, ⟨v, h2⟩, vk_R.of (A := args) hr h1⟩
theorem zStr_s4 {s : State} {args : Array Value} (hs : ∀ c ∈ flatC (Jvm.Cond.and given_1 narrow_1), c.before args s = true)
    (hZ : va_Z "java/lang/String" "COMPACT_STRINGS" "Z" (.int 1) (fun q => s.heap.size ≤ q) s s.heap) (hq : va_Zq "jdk/internal/util/Preconditions" "SIOOBE_FORMATTER" "Ljava/util/function/BiFunction;" (fun q => s.heap.size ≤ q) s s.heap) (hr : (Cond.stringRef RX4 143 "weight").before args s = true) : ∃ q, (∃ v, zSg q v (zsl 4) (fun j => .int (Int32.ofInt (zsc 4 j))) (fun q => s.heap.size ≤ q) s s.heap) ∧ vk_R RX4 (zsix 4) (zstt 4) q s := by
  obtain ⟨a, v, h1, h2⟩ := zSg_of (tm := (Term.string "FringeBench$Reader" 143)) (n := zsl 4) (g := fun j => Int32.ofInt (zsc 4 j)) (args := args) (by decide +kernel) (hs _ (by decide +kernel)) (hs _ (by decide +kernel)) (hs _ (by decide +kernel)) (hs _ (by decide +kernel)) (fun j hj => by
    have hj : j < 6 := hj
    rcases (show j = 0 ∨ j = 1 ∨ j = 2 ∨ j = 3 ∨ j = 4 ∨ j = 5 by omega) with rfl | rfl | rfl | rfl | rfl | rfl
    · exact hs _ (by decide +kernel)
    · exact hs _ (by decide +kernel)
    · exact hs _ (by decide +kernel)
    · exact hs _ (by decide +kernel)
    · exact hs _ (by decide +kernel)
    · exact hs _ (by decide +kernel)) hZ hq (fun a h z => by omega)
  exact ⟨a, ⟨v, h2⟩, vk_R.of (A := args) hr h1⟩
theorem zStr_s5 {s : State} {args : Array Value} (hs : ∀ c ∈ flatC (Jvm.Cond.and given_1 narrow_1), c.before args s = true)
    (hZ : va_Z "java/lang/String" "COMPACT_STRINGS" "Z" (.int 1) (fun q => s.heap.size ≤ q) s s.heap) (hq : va_Zq "jdk/internal/util/Preconditions" "SIOOBE_FORMATTER" "Ljava/util/function/BiFunction;" (fun q => s.heap.size ≤ q) s s.heap) (hr : (Cond.stringRef RX4 145 "least").before args s = true) : ∃ q, (∃ v, zSg q v (zsl 5) (fun j => .int (Int32.ofInt (zsc 5 j))) (fun q => s.heap.size ≤ q) s s.heap) ∧ vk_R RX4 (zsix 5) (zstt 5) q s := by
  obtain ⟨a, v, h1, h2⟩ := zSg_of (tm := (Term.string "FringeBench$Reader" 145)) (n := zsl 5) (g := fun j => Int32.ofInt (zsc 5 j)) (args := args) (by decide +kernel) (hs _ (by decide +kernel)) (hs _ (by decide +kernel)) (hs _ (by decide +kernel)) (hs _ (by decide +kernel)) (fun j hj => by
    have hj : j < 5 := hj
    rcases (show j = 0 ∨ j = 1 ∨ j = 2 ∨ j = 3 ∨ j = 4 by omega) with rfl | rfl | rfl | rfl | rfl
    · exact hs _ (by decide +kernel)
    · exact hs _ (by decide +kernel)
    · exact hs _ (by decide +kernel)
    · exact hs _ (by decide +kernel)
    · exact hs _ (by decide +kernel)) hZ hq (fun a h z => by omega)
  exact ⟨a, ⟨v, h2⟩, vk_R.of (A := args) hr h1⟩
theorem zStr_s6 {s : State} {args : Array Value} (hs : ∀ c ∈ flatC (Jvm.Cond.and given_1 narrow_1), c.before args s = true)
    (hZ : va_Z "java/lang/String" "COMPACT_STRINGS" "Z" (.int 1) (fun q => s.heap.size ≤ q) s s.heap) (hq : va_Zq "jdk/internal/util/Preconditions" "SIOOBE_FORMATTER" "Ljava/util/function/BiFunction;" (fun q => s.heap.size ≤ q) s s.heap) (hr : (Cond.stringRef RX4 147 "cost").before args s = true) : ∃ q, (∃ v, zSg q v (zsl 6) (fun j => .int (Int32.ofInt (zsc 6 j))) (fun q => s.heap.size ≤ q) s s.heap) ∧ vk_R RX4 (zsix 6) (zstt 6) q s := by
  obtain ⟨a, v, h1, h2⟩ := zSg_of (tm := (Term.string "FringeBench$Reader" 147)) (n := zsl 6) (g := fun j => Int32.ofInt (zsc 6 j)) (args := args) (by decide +kernel) (hs _ (by decide +kernel)) (hs _ (by decide +kernel)) (hs _ (by decide +kernel)) (hs _ (by decide +kernel)) (fun j hj => by
    have hj : j < 4 := hj
    rcases (show j = 0 ∨ j = 1 ∨ j = 2 ∨ j = 3 by omega) with rfl | rfl | rfl | rfl
    · exact hs _ (by decide +kernel)
    · exact hs _ (by decide +kernel)
    · exact hs _ (by decide +kernel)
    · exact hs _ (by decide +kernel)) hZ hq (fun a h z => by omega)
  exact ⟨a, ⟨v, h2⟩, vk_R.of (A := args) hr h1⟩
theorem zStr_s7 {s : State} {args : Array Value} (hs : ∀ c ∈ flatC (Jvm.Cond.and given_1 narrow_1), c.before args s = true)
    (hZ : va_Z "java/lang/String" "COMPACT_STRINGS" "Z" (.int 1) (fun q => s.heap.size ≤ q) s s.heap) (hq : va_Zq "jdk/internal/util/Preconditions" "SIOOBE_FORMATTER" "Ljava/util/function/BiFunction;" (fun q => s.heap.size ≤ q) s s.heap) (hr : (Cond.stringRef RX4 149 "lost").before args s = true) : ∃ q, (∃ v, zSg q v (zsl 7) (fun j => .int (Int32.ofInt (zsc 7 j))) (fun q => s.heap.size ≤ q) s s.heap) ∧ vk_R RX4 (zsix 7) (zstt 7) q s := by
  obtain ⟨a, v, h1, h2⟩ := zSg_of (tm := (Term.string "FringeBench$Reader" 149)) (n := zsl 7) (g := fun j => Int32.ofInt (zsc 7 j)) (args := args) (by decide +kernel) (hs _ (by decide +kernel)) (hs _ (by decide +kernel)) (hs _ (by decide +kernel)) (hs _ (by decide +kernel)) (fun j hj => by
    have hj : j < 4 := hj
    rcases (show j = 0 ∨ j = 1 ∨ j = 2 ∨ j = 3 by omega) with rfl | rfl | rfl | rfl
    · exact hs _ (by decide +kernel)
    · exact hs _ (by decide +kernel)
    · exact hs _ (by decide +kernel)
    · exact hs _ (by decide +kernel)) hZ hq (fun a h z => by omega)
  exact ⟨a, ⟨v, h2⟩, vk_R.of (A := args) hr h1⟩
theorem zStr_s8 {s : State} {args : Array Value} (hs : ∀ c ∈ flatC (Jvm.Cond.and given_1 narrow_1), c.before args s = true)
    (hZ : va_Z "java/lang/String" "COMPACT_STRINGS" "Z" (.int 1) (fun q => s.heap.size ≤ q) s s.heap) (hq : va_Zq "jdk/internal/util/Preconditions" "SIOOBE_FORMATTER" "Ljava/util/function/BiFunction;" (fun q => s.heap.size ≤ q) s s.heap) (hr : (Cond.stringRef RX4 151 "parts").before args s = true) : ∃ q, (∃ v, zSg q v (zsl 8) (fun j => .int (Int32.ofInt (zsc 8 j))) (fun q => s.heap.size ≤ q) s s.heap) ∧ vk_R RX4 (zsix 8) (zstt 8) q s := by
  obtain ⟨a, v, h1, h2⟩ := zSg_of (tm := (Term.string "FringeBench$Reader" 151)) (n := zsl 8) (g := fun j => Int32.ofInt (zsc 8 j)) (args := args) (by decide +kernel) (hs _ (by decide +kernel)) (hs _ (by decide +kernel)) (hs _ (by decide +kernel)) (hs _ (by decide +kernel)) (fun j hj => by
    have hj : j < 5 := hj
    rcases (show j = 0 ∨ j = 1 ∨ j = 2 ∨ j = 3 ∨ j = 4 by omega) with rfl | rfl | rfl | rfl | rfl
    · exact hs _ (by decide +kernel)
    · exact hs _ (by decide +kernel)
    · exact hs _ (by decide +kernel)
    · exact hs _ (by decide +kernel)
    · exact hs _ (by decide +kernel)) hZ hq (fun a h z => by omega)
  exact ⟨a, ⟨v, h2⟩, vk_R.of (A := args) hr h1⟩
theorem zStr_s9 {s : State} {args : Array Value} (hs : ∀ c ∈ flatC (Jvm.Cond.and given_1 narrow_1), c.before args s = true)
    (hZ : va_Z "java/lang/String" "COMPACT_STRINGS" "Z" (.int 1) (fun q => s.heap.size ≤ q) s s.heap) (hq : va_Zq "jdk/internal/util/Preconditions" "SIOOBE_FORMATTER" "Ljava/util/function/BiFunction;" (fun q => s.heap.size ≤ q) s s.heap) (hr : (Cond.stringRef RX4 153 "fours").before args s = true) : ∃ q, (∃ v, zSg q v (zsl 9) (fun j => .int (Int32.ofInt (zsc 9 j))) (fun q => s.heap.size ≤ q) s s.heap) ∧ vk_R RX4 (zsix 9) (zstt 9) q s := by
  obtain ⟨a, v, h1, h2⟩ := zSg_of (tm := (Term.string "FringeBench$Reader" 153)) (n := zsl 9) (g := fun j => Int32.ofInt (zsc 9 j)) (args := args) (by decide +kernel) (hs _ (by decide +kernel)) (hs _ (by decide +kernel)) (hs _ (by decide +kernel)) (hs _ (by decide +kernel)) (fun j hj => by
    have hj : j < 5 := hj
    rcases (show j = 0 ∨ j = 1 ∨ j = 2 ∨ j = 3 ∨ j = 4 by omega) with rfl | rfl | rfl | rfl | rfl
    · exact hs _ (by decide +kernel)
    · exact hs _ (by decide +kernel)
    · exact hs _ (by decide +kernel)
    · exact hs _ (by decide +kernel)
    · exact hs _ (by decide +kernel)) hZ hq (fun a h z => by omega)
  exact ⟨a, ⟨v, h2⟩, vk_R.of (A := args) hr h1⟩
theorem zStr_s10 {s : State} {args : Array Value} (hs : ∀ c ∈ flatC (Jvm.Cond.and given_1 narrow_1), c.before args s = true)
    (hZ : va_Z "java/lang/String" "COMPACT_STRINGS" "Z" (.int 1) (fun q => s.heap.size ≤ q) s s.heap) (hq : va_Zq "jdk/internal/util/Preconditions" "SIOOBE_FORMATTER" "Ljava/util/function/BiFunction;" (fun q => s.heap.size ≤ q) s s.heap) (hr : (Cond.stringRef RX4 155 "high").before args s = true) : ∃ q, (∃ v, zSg q v (zsl 10) (fun j => .int (Int32.ofInt (zsc 10 j))) (fun q => s.heap.size ≤ q) s s.heap) ∧ vk_R RX4 (zsix 10) (zstt 10) q s := by
  obtain ⟨a, v, h1, h2⟩ := zSg_of (tm := (Term.string "FringeBench$Reader" 155)) (n := zsl 10) (g := fun j => Int32.ofInt (zsc 10 j)) (args := args) (by decide +kernel) (hs _ (by decide +kernel)) (hs _ (by decide +kernel)) (hs _ (by decide +kernel)) (hs _ (by decide +kernel)) (fun j hj => by
    have hj : j < 4 := hj
    rcases (show j = 0 ∨ j = 1 ∨ j = 2 ∨ j = 3 by omega) with rfl | rfl | rfl | rfl
    · exact hs _ (by decide +kernel)
    · exact hs _ (by decide +kernel)
    · exact hs _ (by decide +kernel)
    · exact hs _ (by decide +kernel)) hZ hq (fun a h z => by omega)
  exact ⟨a, ⟨v, h2⟩, vk_R.of (A := args) hr h1⟩
theorem zStr_s11 {s : State} {args : Array Value} (hs : ∀ c ∈ flatC (Jvm.Cond.and given_1 narrow_1), c.before args s = true)
    (hZ : va_Z "java/lang/String" "COMPACT_STRINGS" "Z" (.int 1) (fun q => s.heap.size ≤ q) s s.heap) (hq : va_Zq "jdk/internal/util/Preconditions" "SIOOBE_FORMATTER" "Ljava/util/function/BiFunction;" (fun q => s.heap.size ≤ q) s s.heap) (hr : (Cond.stringRef RX4 157 "wrong").before args s = true) : ∃ q, (∃ v, zSg q v (zsl 11) (fun j => .int (Int32.ofInt (zsc 11 j))) (fun q => s.heap.size ≤ q) s s.heap) ∧ vk_R RX4 (zsix 11) (zstt 11) q s := by
  obtain ⟨a, v, h1, h2⟩ := zSg_of (tm := (Term.string "FringeBench$Reader" 157)) (n := zsl 11) (g := fun j => Int32.ofInt (zsc 11 j)) (args := args) (by decide +kernel) (hs _ (by decide +kernel)) (hs _ (by decide +kernel)) (hs _ (by decide +kernel)) (hs _ (by decide +kernel)) (fun j hj => by
    have hj : j < 5 := hj
    rcases (show j = 0 ∨ j = 1 ∨ j = 2 ∨ j = 3 ∨ j = 4 by omega) with rfl | rfl | rfl | rfl | rfl
    · exact hs _ (by decide +kernel)
    · exact hs _ (by decide +kernel)
    · exact hs _ (by decide +kernel)
    · exact hs _ (by decide +kernel)
    · exact hs _ (by decide +kernel)) hZ hq (fun a h z => by omega)
  exact ⟨a, ⟨v, h2⟩, vk_R.of (A := args) hr h1⟩
theorem zStr_start {s : State} {b : Nat} (hts : ∀ w ∈ lw_tbl, w.before #[Value.ref b] s = true) (hgv : (Jvm.Cond.and given_1 narrow_1).before #[Value.ref b] s = true) : ∃ ad : Nat → Nat, ad 0 = b ∧ zStr s s.heap (fun q => s.heap.size ≤ q) ad := by
  have hs := flat_of_before _ hgv
  have hZ : va_Z "java/lang/String" "COMPACT_STRINGS" "Z" (.int 1) (fun q => s.heap.size ≤ q) s s.heap := va_Zof (hts _ (List.mem_append_right _ (List.mem_append_right _ (List.mem_append_right _ (List.mem_append_left _ (List.mem_of_getElem? (i := 45) rfl)))))) (hts _ (List.mem_append_right _ (List.mem_append_left _ (List.mem_of_getElem? (i := 14) rfl)))) (va_eqt (hs _ (by decide +kernel))) (fun a h z => by omega)
  have hq : va_Zq "jdk/internal/util/Preconditions" "SIOOBE_FORMATTER" "Ljava/util/function/BiFunction;" (fun q => s.heap.size ≤ q) s s.heap := va_Zqof (hts _ (List.mem_append_right _ (List.mem_append_right _ (List.mem_append_right _ (List.mem_append_left _ (List.mem_of_getElem? (i := 61) rfl)))))) (hts _ (List.mem_append_right _ (List.mem_append_left _ (List.mem_of_getElem? (i := 16) rfl)))) (hs _ (by decide +kernel)) (fun a h z => by omega)
  have h0 : ∀ k : Nat, ∃ q : Nat, k < 12 → (∃ v, zSg q v (zsl k) (fun j => .int (Int32.ofInt (zsc k j))) (fun q => s.heap.size ≤ q) s s.heap) ∧ vk_R RX4 (zsix k) (zstt k) q s := by
    intro k
    rcases Nat.lt_or_ge k 12 with hk | hk
    rotate_left
    · exact ⟨0, fun z => by omega⟩
    rcases (show k = 0 ∨ k = 1 ∨ k = 2 ∨ k = 3 ∨ k = 4 ∨ k = 5 ∨ k = 6 ∨ k = 7 ∨ k = 8 ∨ k = 9 ∨ k = 10 ∨ k = 11 by omega) with rfl | rfl | rfl | rfl | rfl | rfl | rfl | rfl | rfl | rfl | rfl | rfl
    · obtain ⟨q, h1, h2⟩ := zStr_s0 hs hZ hq (hts _ (List.mem_append_right _ (List.mem_append_right _ (List.mem_append_right _ (List.mem_append_left _ (List.mem_of_getElem? (i := 17) rfl))))))
      exact ⟨q, fun _ => ⟨h1, h2⟩⟩
    · obtain ⟨q, h1, h2⟩ := zStr_s1 hs hZ hq (hts _ (List.mem_append_right _ (List.mem_append_right _ (List.mem_append_right _ (List.mem_append_left _ (List.mem_of_getElem? (i := 18) rfl))))))
      exact ⟨q, fun _ => ⟨h1, h2⟩⟩
    · obtain ⟨q, h1, h2⟩ := zStr_s2 hs hZ hq (hts _ (List.mem_append_right _ (List.mem_append_right _ (List.mem_append_right _ (List.mem_append_left _ (List.mem_of_getElem? (i := 19) rfl))))))
      exact ⟨q, fun _ => ⟨h1, h2⟩⟩
    · obtain ⟨q, h1, h2⟩ := zStr_s3 hs hZ hq (hts _ (List.mem_append_right _ (List.mem_append_right _ (List.mem_append_right _ (List.mem_append_left _ (List.mem_of_getElem? (i := 20) rfl))))))
      exact ⟨q, fun _ => ⟨h1, h2⟩⟩
    · obtain ⟨q, h1, h2⟩ := zStr_s4 hs hZ hq (hts _ (List.mem_append_right _ (List.mem_append_right _ (List.mem_append_right _ (List.mem_append_left _ (List.mem_of_getElem? (i := 21) rfl))))))
      exact ⟨q, fun _ => ⟨h1, h2⟩⟩
    · obtain ⟨q, h1, h2⟩ := zStr_s5 hs hZ hq (hts _ (List.mem_append_right _ (List.mem_append_right _ (List.mem_append_right _ (List.mem_append_left _ (List.mem_of_getElem? (i := 22) rfl))))))
      exact ⟨q, fun _ => ⟨h1, h2⟩⟩
    · obtain ⟨q, h1, h2⟩ := zStr_s6 hs hZ hq (hts _ (List.mem_append_right _ (List.mem_append_right _ (List.mem_append_right _ (List.mem_append_left _ (List.mem_of_getElem? (i := 26) rfl))))))
      exact ⟨q, fun _ => ⟨h1, h2⟩⟩
    · obtain ⟨q, h1, h2⟩ := zStr_s7 hs hZ hq (hts _ (List.mem_append_right _ (List.mem_append_right _ (List.mem_append_right _ (List.mem_append_left _ (List.mem_of_getElem? (i := 27) rfl))))))
      exact ⟨q, fun _ => ⟨h1, h2⟩⟩
    · obtain ⟨q, h1, h2⟩ := zStr_s8 hs hZ hq (hts _ (List.mem_append_right _ (List.mem_append_right _ (List.mem_append_right _ (List.mem_append_left _ (List.mem_of_getElem? (i := 28) rfl))))))
      exact ⟨q, fun _ => ⟨h1, h2⟩⟩
    · obtain ⟨q, h1, h2⟩ := zStr_s9 hs hZ hq (hts _ (List.mem_append_right _ (List.mem_append_right _ (List.mem_append_right _ (List.mem_append_left _ (List.mem_of_getElem? (i := 29) rfl))))))
      exact ⟨q, fun _ => ⟨h1, h2⟩⟩
    · obtain ⟨q, h1, h2⟩ := zStr_s10 hs hZ hq (hts _ (List.mem_append_right _ (List.mem_append_right _ (List.mem_append_right _ (List.mem_append_left _ (List.mem_of_getElem? (i := 30) rfl))))))
      exact ⟨q, fun _ => ⟨h1, h2⟩⟩
    · obtain ⟨q, h1, h2⟩ := zStr_s11 hs hZ hq (hts _ (List.mem_append_right _ (List.mem_append_right _ (List.mem_append_right _ (List.mem_append_left _ (List.mem_of_getElem? (i := 31) rfl))))))
      exact ⟨q, fun _ => ⟨h1, h2⟩⟩
  obtain ⟨f, hf⟩ := Classical.axiomOfChoice h0
  refine ⟨fun o => if o < 1000000 then b else f (o - 1000000), rfl, fun k hk => ?_⟩
  have e : (if 1000000 + k < 1000000 then b else f (1000000 + k - 1000000)) = f k := by
    rw [if_neg (by omega), show 1000000 + k - 1000000 = k by omega]
  show (∃ v, zSg (if 1000000 + k < 1000000 then b else f (1000000 + k - 1000000)) v _ _ _ _ _) ∧ vk_R _ _ _ (if 1000000 + k < 1000000 then b else f (1000000 + k - 1000000)) _
  rw [e]
  exact hf k hk
/-- what the law does, in the small machine: for every script it answers 1, and makes no more than there is room for -/
def zLaw : Prop := ∀ (L : Nat) (h : zH), L ≤ 3584 → (∀ k, -2147483648 ≤ h 0 k ∧ h 0 k < 2147483648) → ∃ (S' : zS) (h' : zH), Zx 243 0 [zR 0, zN, zN, zN] [] [(108, L, [])] h = some (some (zI 1), S', h') ∧ S'.length ≤ 600001 ∧ zcs S' ≤ 7302250
theorem zstart (hZ : zLaw) {p : Program} {e : Env} {s : State} {m : MethodId} {below : List Frame} {meth : Method} {c : Code} (l : Launch) {b L : Nat} {xs : Nat → Int32} (hL : L ≤ 3584) (C0 : lw_At p s m meth c b L xs) : W p l e room_1 s m #[Value.ref b] below meth c s.heap [] 0 0 (lw_Z below #[Value.ref b] s) (entryFrame m ([Value.ref b] : List Value).toArray 4) := by
  obtain ⟨hx, hb, hr, hml, hown, hts, hX, hbl, hlocks, hgv⟩ := C0
  obtain ⟨ad0, had0, hstr⟩ := zStr_start hts hgv
  subst had0
  have hg : ∀ w ∈ zGw, w.before #[Value.ref (ad0 0)] s = true := fun w h => hts w (zGw_in w h)
  obtain ⟨S', h', hZx, hn, hm⟩ := hZ L (fun _ k => (xs k).toInt) hL (fun k => ⟨by have := Int32.le_toInt (xs k); omega, by have := Int32.toInt_lt (xs k); omega⟩)
  obtain ⟨f, hf⟩ := Zx_to hZx
  have hO : zOk [(108, L, [])] := ⟨⟨by simp, by simp⟩, rfl, by show L < _; omega, fun o h1 h2 => by simp at h2; omega⟩
  obtain ⟨⟨q1, q2, q3, q4, q5⟩, hB⟩ := zsound zall f 243 0 _ _ _ _ _ _ _ hf hO rfl
  obtain ⟨D, ca, hK⟩ := zK_start hts
  have hao : zAO s := ⟨va_AO.of (hts _ zOver7), va_AO.of (hts _ zOver2), va_AO.of (hts _ zOver8), va_AO.of (hts _ zOver0), fun w hw => by
    obtain ⟨a1, a2, a3, a4, rfl⟩ := zNws_form w hw
    exact va_Nw.of rfl (hts _ (zNws_in _ hw))⟩
  have I : zI_ D ca (fun q => s.heap.size ≤ q) s.heap s ad0 [(108, L, [])] (fun _ k => (xs k).toInt) s.heap [] := by
    refine ⟨fun k q hq => ?_, ⟨fun i j x y hx => ?_, fun k q hq => ?_⟩, hK, va_S.rf, fun q hq => hq, hO, ⟨xs, hX, hbl, ?_, fun j => (Int32.ofInt_toInt _).symm⟩, hao, hstr⟩
    · simp [zWl] at hq
    · simp [zWl] at hx
    · simp [zWl] at hq
    · show ¬ s.heap.size ≤ ad0 0
      omega
  have hl := zLs_entry (ad := ad0) (n := 4) (as := [zR 0]) (by decide)
  rw [lg_entry_eq]
  have h0 : zpc 243 0 = 0 := rfl
  have hgo := hB (p := p) (l := l) (e := e) (R := room_1) (m := m) (args := #[Value.ref (ad0 0)]) (below := below) (meth := meth) (c := c) (cells := 0) (slots := 0) (Q := lw_Z below #[Value.ref (ad0 0)] s) hx hb hown hg hml (fun q => absurd q (by decide)) I hl (by show 0 + (S'.length - 1) ≤ 600000; omega) (by show 0 + (zcs S' - _) ≤ 7302250; omega) (by show 9 ≤ 12; decide) (by show 235 ≤ 446; decide) ?_
  · rw [h0] at hgo
    exact hgo
  · intro j en ad' H' locs' ls' he hret hag I'
    have hd := zchk_dec he (zall _ _ _ he).1
    have hi : en.2.2.1 = .ireturn := by
      rcases hret with ⟨g, -⟩ | ⟨-, z, g⟩ | ⟨-, o, g⟩ | ⟨-, g⟩
      · exact g
      · cases g
      · cases g
      · cases g
    have hc2 := (zall _ _ _ he).1
    simp only [zchk, Bool.and_eq_true] at hc2
    have hc3 := hc2.2
    unfold zchk2 at hc3
    rw [hi] at hc3
    simp only [Bool.and_eq_true, decide_eq_true_eq] at hc3
    rw [hi, hc3.1] at hd
    refine va_forget (fun q hq => I'.2.2.2.1.2.2 q hq) ?_
    refine W.widen (k := 600000) (n := 7302250) (by show 0 + (S'.length - 1) ≤ 600000; omega) (by show 0 + (zcs S' - _) ≤ 7302250; omega) ?_
    exact lw_ret hx hb hr hlocks hd
theorem whole_start (hZ : zLaw) {p : Program} {e : Env} {s : State} {m : MethodId} {below : List Frame} {meth : Method} {c : Code} (l : Launch) (_hflags : l.flags = flags0) {b L : Nat} {xs : Nat → Int32} (hL : L ≤ 3584) (C0 : lw_At p s m meth c b L xs) : W p l e room_1 s m #[Value.ref b] below meth c s.heap [] 0 0 (lw_Z below #[Value.ref b] s) (entryFrame m ([Value.ref b] : List Value).toArray 4) := zstart hZ l hL C0
set_option maxHeartbeats 4000000 in
theorem lw_walk (hZ : zLaw) (l : Launch) (hflags : l.flags = flags0) (b : Addr) (xs : List Int32) : MetFree l x (headSpec (Jvm.Cond.code x code maxLocals ret :: tables_1) room_1) (lw_P b xs) (fun _ _ _ _ _ => True) lw_Q := by
  refine MetFree.of_bodyS (code := code) (maxLocals := maxLocals) (ret := ret) (by decide) ?_ ?_
  · intro args s m h hn
    obtain ⟨meth, c, h1, h2, h3, h4, h5, h6, -, -⟩ := Cond.code_spec hn (atoms_spec (ws := Jvm.Cond.code x code maxLocals ret :: tables_1) h _ List.mem_cons_self)
    exact ⟨meth, c, h1, h2, h3, h4, h5, h6⟩
  · intro p e s m args below meth c s₁ B hml0 hP _
    obtain ⟨rfl, hx, hbd, hgv⟩ := hP
    obtain ⟨scr, harrAt, hlist, hof, hsmall⟩ := hx
    obtain ⟨hcb, hkn, -, -⟩ := State.arrayAt?_spec harrAt
    have hown : s.vm.findClass R_law = some m.cls := findClass_of_methodNamed B.named
    have hts0 : ∀ c ∈ (Jvm.Cond.code x code maxLocals ret :: tables_1), c.before #[Value.ref b] s = true := atoms_spec (ws := Jvm.Cond.code x code maxLocals ret :: tables_1) B.pre
    have hts : ∀ w ∈ lw_tbl, w.before #[Value.ref b] s = true := k2_hts_sels lw_privs (fun w hw => hts0 w (List.mem_cons_of_mem _ hw)) lw_privs_ok
    have hml : c.maxLocals = 4 := B.maxLocals_eq (hts0 _ List.mem_cons_self)
    have X₀ : Stand p l e room_1 s m #[Value.ref b] below meth c s₁ [] 0 0 := Stand.of_body B
    have hh0 : s₁.heap = s.heap := by rw [B.state]; rfl
    have hsz : scr.slots.size = xs.length := by rw [← Array.length_toList, hlist, List.length_map]
    have hval : ∀ j : Nat, j < xs.length → scr.slots[j]? = some (.int (xs.getD j 0)) := fun j hj => by
      rw [← Array.getElem?_toList, hlist]
      simp [hj]
    have hbl : b < s.heap.size := (Array.getElem?_eq_some_iff.mp hcb).1
    have hX : va_X b xs.length (fun j => xs.getD j 0) s s.heap := ⟨scr, hcb, hof, hkn, hsz, hval⟩
    have K : W p l e room_1 s m #[Value.ref b] below meth c s₁.heap [] 0 0 (lw_Z below #[Value.ref b] s) (entryFrame m ([Value.ref b] : List Value).toArray 4) := by
      rw [hh0]
      exact whole_start hZ l hflags hbd ⟨B.exec, B.bytes, B.returns, hml, hown, hts, hX, hbl, B.notSynchronized, hgv⟩
    obtain ⟨t, a1, o, b1, b2, b3⟩ := K s₁ rfl X₀
    exact ⟨t, o, a1, b1, b2, b3⟩
theorem lw_pre_spec {args : Array Value} {s : State} (h : (Jvm.Cond.and given_1 narrow_1).before args s = true) (hr : rest_1_c.before args s = true) : ∃ (b : Addr) (xs : List Int32), lw_P b xs args s := by
  have hs := flat_of_before _ h
  have hq := flat_of_before _ hr
  have hc : (Cond.count 1).before args s = true := hs _ (by decide +kernel)
  have harr : (Cond.arrayOf (.arg 0) .int).before args s = true := hs _ (by decide +kernel)
  have hle : (Cond.le (.length (.arg 0)) (.int 3584)).before args s = true := hs _ (by decide +kernel)
  have hlen : (Cond.isInt (.length (.arg 0))).before args s = true := hq _ (by decide +kernel)
  have hall : (Cond.all (.arg 0) (.isInt (.elem (.arg 0) (.index 0)))).before args s = true := hq _ (by decide +kernel)
  obtain ⟨b, xs, hb, hx⟩ := State.ints_of_pre rfl harr hlen hall
  have hsm : xs.length < 2 ^ 31 := hx.choose_spec.2.2.2
  have hev : (Term.length (.arg 0)).eval args s none [] s = some (.int xs.length.toInt32) := hx.length_eval hb
  have hv := Cond.le_ints hev (show (Term.int 3584).eval args s none [] s = some (.int 3584) from rfl)
  have hd : xs.length.toInt32 ≤ 3584 := by
    simpa [Cond.before, Cond.holds, hv] using hle
  have hN : xs.length ≤ 3584 := (Int32.ofNat_le_ofNat hsm (by decide)).mp (show Int32.ofNat xs.length ≤ Int32.ofNat 3584 from hd)
  exact ⟨b, xs, Cond.one_arg hc (show args[0]? = some (.ref b) from hb), hx, hN, h⟩
theorem lw_comes (hZ : zLaw) (l : Launch) (hflags : l.flags = flags0) : Comes l x (Jvm.Cond.code x code maxLocals ret :: tables_1) room_1 (fun tb e args s => Calls_1 tb e args s ∧ rest_1 tb e args s ∧ Pre_1 tb e args s)
    (fun _ _ args s o t => lw_Q args s o t) := by
  intro p e ha hc hk s m args below hf hfit hheap happ hpre
  obtain ⟨b, xs, hP⟩ := lw_pre_spec hpre.2.2 hpre.2.1
  obtain ⟨k, o, h1, h2, h3, hQ⟩ := lw_walk hZ l hflags b xs p e ha hc hk s m args below hf ((Spec.applies_iff_loose hf).mp happ).1 hP trivial
  exact ⟨k, o, h1, h2, h3, hQ⟩
theorem lw_frame {s t : State} {o : Outcome} {args : Array Value} (h : Framed s o t [] 600000 7302250) :
    Framed s o t (fieldLocs frame_1_writes args s ++ arrayLocs frame_1_arrays args s ++ staticLocs frame_1_statics s) 600000 7302250 := h
theorem lw_limb (hZ : zLaw) (L : Cond) (hL : ∀ (args : Array Value) (s t : State), L.after args s (.returned (some (.int 1))) t = true) :
    ArmFor flags0 classFile x code maxLocals ret World_1 tables_1 room_1 Calls_1 rest_1 Pre_1
      (fun tb e a s o t => postC L tb e a s o t ∧ Framed s o t (fieldLocs frame_1_writes a s ++ arrayLocs frame_1_arrays a s ++ staticLocs frame_1_statics s) 600000 7302250) := by
  intro l hflags _ _ p e ha hc hk s m args below hf hfit hheap happ hpre
  obtain ⟨k, o, h1, h2, h3, rfl, hF⟩ := lw_comes hZ l hflags p e ha hc hk s m args below hf hfit hheap happ hpre
  exact ⟨k, _, h1, h2, h3, hL args s _, lw_frame hF⟩
theorem i_vc_open (hZ : zLaw) : Claimed_1_1 ∧ Claimed_1_2 := ⟨lw_limb hZ limb_1_1 (fun args s t => by simp [limb_1_1, Cond.after, Cond.holds, Cond.value]), lw_limb hZ limb_1_2 (fun args s t => Cond.after_iff.mpr (by
  first | (rw [show limb_1_2 = Cond.eq .result (.int 1) from rfl, Cond.eq_ints (x := 1) (y := 1) rfl rfl]; simp; done) | (simp [limb_1_2, Cond.value, Term.eval]; done)))⟩

