/-! THE JUDGEMENT J: a method's frame, its world by memory. -/
/-- the texts: the class and the entry of its file, the text; their lengths and bytes -/
abbrev Mt : Type := MethodName × ByteArray × Nat × Option FieldType × List (Nat × Nat × Nat × Nat)
abbrev Mt.y (Y : Mt) : MethodName := Y.1
abbrev Mt.cc (Y : Mt) : ByteArray := Y.2.1
abbrev Mt.nL (Y : Mt) : Nat := Y.2.2.1
abbrev Mt.ret (Y : Mt) : Option FieldType := Y.2.2.2.1
abbrev Mt.hh (Y : Mt) : List (Nat × Nat × Nat × Nat) := Y.2.2.2.2
def strs : List (String × Nat × String) := [("MarginWays$Reader", 37, "pace steps far with met day"), ("MarginWays", 119, "the tape has not so many bytes"), ("MarginWays$Reader", 90, ";()+-*/<="), ("MarginWays$Reader", 113, "deed stile person goes fades"), ("MarginWays$Reader", 179, "to"), ("MarginWays$Reader", 210, "not"), ("MarginWays$Reader", 208, "and"), ("MarginWays$Reader", 200, "or"), ("MarginWays$Reader", 135, "ink place deed with day"), ("MarginWays", 403, "no such what"), ("MarginWays", 408, "no such deed"), ("MarginWays", 406, "no such person"), ("MarginWays", 412, "no such place"), ("MarginWays", 410, "not within what is told"), ("MarginWays", 369, "both are one")]
def slen : List Nat := strs.map (fun q => q.2.2.length)
def sbyt : List (List Int32) := strs.map (fun q => q.2.2.toList.map (fun ch => Int32.ofNat ch.toNat))
/-- what the Statement gives at the law's start, and holds for good -/
def WOK (ω : Wd) : Prop :=
  (∀ w ∈ lw_tbl, w.before #[Value.ref ω.b] ω.s0 = true) ∧ va_K ω.D clss (tysOf ω) ω.s0 ∧
  vk_S 15 slen sbyt ω.sA ω.vA (aA ω) ω.s0 ω.s0.heap ∧ (∀ i q, strs[i]? = some q → vk_R q.1 q.2.1 q.2.2 (ω.sA i) ω.s0) ∧
  va_Z "java/lang/String" "COMPACT_STRINGS" "Z" (.int 1) (aA ω) ω.s0 ω.s0.heap ∧
  vx_Zq Bundle.tN "UNASSIGNED_STACK" Bundle.steD (aA ω) ω.s0 ω.s0.heap ∧ vx_Zq Bundle.tN "SUPPRESSED_SENTINEL" Bundle.listD (aA ω) ω.s0 ω.s0.heap ∧
  va_X ω.b ω.L ω.xs ω.s0 ω.s0.heap ∧ ω.b < ω.s0.heap.size ∧ va_Nc "java/lang/IllegalArgumentException" "java/util/NoSuchElementException" ω.s0 ∧
  va_Zq "jdk/internal/util/Preconditions" "SIOOBE_FORMATTER" "Ljava/util/function/BiFunction;" (aA ω) ω.s0 ω.s0.heap
/-- the heap holds the world μ -/
def HW (ω : Wd) (μ : Mem) (H : Heap) : Prop := va_P ω.D clss (wcs ω μ) H ∧ (μ.1 < NN → H.size = ω.s0.heap.size + μ.1) ∧ ω.s0.heap.size + μ.1 ≤ H.size
/-- a state in which a method begins: tables and old cells are those of the law's start -/
def SW (ω : Wd) (U : State) : Prop := ω.s0.WarmedH U.vm ∧ ω.s0.heap.size ≤ U.heap.size ∧ ∀ q : Nat, q < ω.s0.heap.size → U.heap[q]? = ω.s0.heap[q]?
/-- what stands while a method goes on -/
def Fix (ω : Wd) (l : Launch) (Y : Mt) (d : Nat) (p : Program) (R : Room) (s : State) (m : MethodId) (meth : Method) (c : Code) (mc ms : Nat) : Prop :=
  WOK ω ∧ SW ω s ∧ l.stackTraces = false ∧ p.tables.exec = Jvm.exec ∧ c.code = Y.cc ∧ c.maxLocals = Y.nL ∧ meth.sig.returnType = Y.ret ∧ meth.locks = false ∧ s.vm.findClass Y.y.cls = some m.cls ∧ meth.name = Y.y.name ∧
  c.exceptionTable.toList = tableOf Y.hh ∧ d ≤ R.frames ∧ 64 * d ≤ R.locals ∧ mc ≤ R.cells ∧ ms ≤ R.slots
/-- an outcome: .inl v it returns v; .inr i it throws (0 NoSuchElementException, 1 IllegalArgumentException) -/
abbrev Oa : Type := Option Value ⊕ Nat
def exN (i : Nat) : String := if i = 0 then "java/util/NoSuchElementException" else "java/lang/IllegalArgumentException"
def QR (ω : Wd) (Post : Oa → Mem → Prop) : Array Value → State → Outcome → State → Prop := fun _ st o t => (∃ (v : Option Value) (ν : Mem), o = .returned (v.map (vm ω)) ∧ Post (.inl v) ν ∧ HW ω ν t.heap) ∧ va_F (aA ω) st t
def XR (ω : Wd) (Post : Oa → Mem → Prop) : String → State → State → Prop := fun E st t => (∃ (i : Nat) (ν : Mem), E = exN i ∧ Post (.inr i) ν ∧ HW ω ν t.heap) ∧ va_F (aA ω) st t
def J (ω : Wd) (l : Launch) (Y : Mt) (d pc : Nat) (lv : List (Nat × Value)) (st : List Value) (μ : Mem) (k n : Nat) (Post : Oa → Mem → Prop) : Prop :=
  ∀ (p : Program) (e : Env) (R : Room) (s : State) (m : MethodId) (args : Array Value) (below : List Frame) (meth : Method) (c : Code) (H : Heap) (locs : List Loc) (cells slots mc ms : Nat) (ls : Array Slot),
    Fix ω l Y d p R s m meth c mc ms → HW ω μ H → va_S (aA ω) s.heap H locs → lv_has ls Y.nL (lv.map (vmq ω)) → cells + k ≤ mc → slots + n ≤ ms →
    W p l e R s m args below meth c H locs cells slots (vx_MQ below (QR ω Post) (XR ω Post) args s mc ms (aA ω)) (F0 m pc ls (st.map (vm ω)))
/-! what Fix gives -/
section FixFacts
variable {ω : Wd} {l : Launch} {Y : Mt} {d : Nat} {p : Program} {R : Room} {s : State} {m : MethodId} {meth : Method} {c : Code} {mc ms : Nat} {args : Array Value}
theorem Fix.w (F : Fix ω l Y d p R s m meth c mc ms) {w : Cond} (h : w ∈ lw_tbl) (hg : goodWord w = true) : w.before args s = true := word_at F.2.1.1 (good_of_word hg) (F.1.1 w h)
theorem Fix.K (F : Fix ω l Y d p R s m meth c mc ms) : va_K ω.D clss (tysOf ω) s := va_K.moved F.2.1.1.alike F.1.2.1
theorem Fix.S (F : Fix ω l Y d p R s m meth c mc ms) : vk_S 15 slen sbyt ω.sA ω.vA (aA ω) s s.heap :=
  vk_S.kept (vk_S.moved F.2.1.1.alike F.1.2.2.1) (fun a h _ => F.2.1.2.2 a h)
theorem Fix.T (F : Fix ω l Y d p R s m meth c mc ms) {i : Nat} {q : String × Nat × String} (h : strs[i]? = some q) : vk_R q.1 q.2.1 q.2.2 (ω.sA i) s := vk_R.warm F.2.1.1 (F.1.2.2.2.1 i q h)
theorem Fix.Z (F : Fix ω l Y d p R s m meth c mc ms) : va_Z "java/lang/String" "COMPACT_STRINGS" "Z" (.int 1) (aA ω) s s.heap :=
  va_Z.kept (va_Z.moved F.2.1.1.alike F.1.2.2.2.2.1) (fun a h _ => F.2.1.2.2 a h)
theorem Fix.U1 (F : Fix ω l Y d p R s m meth c mc ms) : vx_Zq Bundle.tN "UNASSIGNED_STACK" Bundle.steD (aA ω) s s.heap :=
  vx_Zq.kept (vx_Zq.moved F.2.1.1.alike F.1.2.2.2.2.2.1) (fun a h _ => F.2.1.2.2 a h)
theorem Fix.U2 (F : Fix ω l Y d p R s m meth c mc ms) : vx_Zq Bundle.tN "SUPPRESSED_SENTINEL" Bundle.listD (aA ω) s s.heap :=
  vx_Zq.kept (vx_Zq.moved F.2.1.1.alike F.1.2.2.2.2.2.2.1) (fun a h _ => F.2.1.2.2 a h)
theorem Fix.X (F : Fix ω l Y d p R s m meth c mc ms) : va_X ω.b ω.L ω.xs s s.heap :=
  va_X.kept (va_X.moved F.2.1.1.alike F.1.2.2.2.2.2.2.2.1) (F.2.1.2.2 _ F.1.2.2.2.2.2.2.2.2.1)
end FixFacts
theorem HW.lt {ω : Wd} {μ : Mem} {H : Heap} (h : HW ω μ H) {a : Nat} (ha : a < μ.1) : va_at ω.D clss (ω.s0.heap.size + a, cellE ω μ a) H := h.1 a _ (wcs_get ω μ ha)
