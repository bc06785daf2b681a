/-! RULES of J: ends, contracts, calls, what is thrown -/
section Ends9
variable {ω : Wd} {l : Launch} {Y : Mt} {d pc : Nat} {lv : List (Nat × Value)} {st : List Value} {μ : Mem} {k n : Nat} {Post : Oa → Mem → Prop}
theorem J.iret {v : Int32} (hd : decode Y.cc pc = .ok (.ireturn, 1)) (hr : Y.ret = some .int) (hp : Post (.inl (some (.int v))) μ) : J ω l Y d pc lv [.int v] μ k n Post := by
  intro p e R s m args below meth c H locs cells slots mc ms ls F hw hS hl hk hn
  refine W.widen (k := mc) (n := ms) (by omega) (by omega) (vx_ret ?_)
  have hlocks : meth.locks = false := F.2.2.2.2.2.2.2.1
  exact W.iret (v := v) F.2.2.2.1 F.2.2.2.2.1 (F.2.2.2.2.2.2.1.trans hr) (fun t ht hW => ⟨⟨some (.int v), μ, rfl, hp, by rw [ht]; exact hw⟩, hS.F ht⟩) hS.2.2 hd
theorem J.zret {v : Int32} {ty : FieldType} (hd : decode Y.cc pc = .ok (.ireturn, 1)) (hr : Y.ret = some ty) (hnr : narrow ty (.int v) = .int v) (hp : Post (.inl (some (.int v))) μ) : J ω l Y d pc lv [.int v] μ k n Post := by
  intro p e R s m args below meth c H locs cells slots mc ms ls F hw hS hl hk hn
  refine W.widen (k := mc) (n := ms) (by omega) (by omega) (vx_ret ?_)
  have hlocks : meth.locks = false := F.2.2.2.2.2.2.2.1
  exact W.zret (v := v) F.2.2.2.1 F.2.2.2.2.1 (F.2.2.2.2.2.2.1.trans hr) hnr (fun t ht hW => ⟨⟨some (.int v), μ, rfl, hp, by rw [ht]; exact hw⟩, hS.F ht⟩) hS.2.2 hd
theorem J.lret {v : Int64} (hd : decode Y.cc pc = .ok (.lreturn, 1)) (hr : Y.ret = some .long) (hp : Post (.inl (some (.long v))) μ) : J ω l Y d pc lv [.long v] μ k n Post := by
  intro p e R s m args below meth c H locs cells slots mc ms ls F hw hS hl hk hn
  refine W.widen (k := mc) (n := ms) (by omega) (by omega) (vx_ret ?_)
  have hlocks : meth.locks = false := F.2.2.2.2.2.2.2.1
  exact W.lret (v := v) F.2.2.2.1 F.2.2.2.2.1 (F.2.2.2.2.2.2.1.trans hr) (fun t ht hW => ⟨⟨some (.long v), μ, rfl, hp, by rw [ht]; exact hw⟩, hS.F ht⟩) hS.2.2 hd
theorem J.aret {a : Nat} {C : String} (hd : decode Y.cc pc = .ok (.areturn, 1)) (hr : Y.ret = some (.object C)) (hp : Post (.inl (some (.ref a))) μ) : J ω l Y d pc lv [.ref a] μ k n Post := by
  intro p e R s m args below meth c H locs cells slots mc ms ls F hw hS hl hk hn
  refine W.widen (k := mc) (n := ms) (by omega) (by omega) (vx_ret ?_)
  have hlocks : meth.locks = false := F.2.2.2.2.2.2.2.1
  exact W.aret (v := .ref (ad ω a)) F.2.2.2.1 F.2.2.2.2.1 (F.2.2.2.2.2.2.1.trans hr) (Or.inl ⟨C, rfl⟩) (Or.inr ⟨_, rfl⟩) (fun t ht hW => ⟨⟨some (.ref a), μ, rfl, hp, by rw [ht]; exact hw⟩, hS.F ht⟩) hS.2.2 hd
theorem J.vret (hd : decode Y.cc pc = .ok (.return_, 1)) (hr : Y.ret = none) (hp : Post (.inl none) μ) : J ω l Y d pc lv [] μ k n Post := by
  intro p e R s m args below meth c H locs cells slots mc ms ls F hw hS hl hk hn
  refine W.widen (k := mc) (n := ms) (by omega) (by omega) (vx_ret ?_)
  have hlocks : meth.locks = false := F.2.2.2.2.2.2.2.1
  exact W.vret F.2.2.2.1 F.2.2.2.2.1 (F.2.2.2.2.2.2.1.trans hr) (fun t ht hW => ⟨⟨none, μ, rfl, hp, by rw [ht]; exact hw⟩, hS.F ht⟩) hS.2.2 hd
end Ends9
/-- the room of a call: frames below, cells, slots -/
def rmOf (d k n : Nat) : Room := { frames := d, cells := k, slots := n, locals := 64 * d }
/-- the word of a method's code -/
def cdw (Y : Mt) : Cond := match Y.hh with
  | [] => .code Y.y Y.cc Y.nL Y.ret
  | _ => .codeWith Y.y Y.cc Y.nL Y.ret Y.hh
def CPc (ω : Wd) (l : Launch) (μ : Mem) : State → Prop := fun U => WOK ω ∧ SW ω U ∧ HW ω μ U.heap ∧ l.stackTraces = false
/-- a method's contract -/
def Ct (ω : Wd) (l : Launch) (Y : Mt) (d : Nat) (As : List Value) (μ : Mem) (k n : Nat) (Post : Oa → Mem → Prop) : Prop :=
  vx_Met l Y.y [cdw Y] (rmOf d k n) (va_Pc (As.map (vm ω)) (CPc ω l μ)) (QR ω Post) (XR ω Post) k n (aA ω)
theorem lv_args_map (ω : Wd) : ∀ (As : List Value) (i : Nat), lv_args i (As.map (vm ω)) = (lv_args i As).map (vmq ω)
  | [], i => rfl
  | v :: As, i => by
    show (i, vm ω v) :: lv_args (if (vm ω v).category = 2 then i + 2 else i + 1) (As.map (vm ω)) = (i, vm ω v) :: (lv_args (if v.category = 2 then i + 2 else i + 1) As).map (vmq ω)
    rw [vm_cat, lv_args_map ω As]
theorem lg_sl_len (ω : Wd) : ∀ As : List Value, (lg_sl (As.map (vm ω))).length = (lg_sl As).length
  | [] => rfl
  | v :: As => by
    have h := lg_sl_len ω As
    unfold lg_sl at h ⊢
    rw [List.map_cons, List.flatMap_cons, List.flatMap_cons, List.length_append, List.length_append, h, vm_cat]
    split <;> rfl
theorem Ct.of {ω : Wd} {l : Launch} {Y : Mt} {d : Nat} {As : List Value} {μ : Mem} {k n : Nat} {Post : Oa → Mem → Prop} (hy : plainName Y.y.cls = true) (hA : (lg_sl As).length ≤ Y.nL) (kk : J ω l Y d 0 (lv_args 0 As) [] μ k n Post) : Ct ω l Y d As μ k n Post := by
  have key : ∀ (p : Program) (e : Env) (s : State) (m : MethodId) (args : Array Value) (below : List Frame) (meth : Method) (c : Code) (s₁ : State), BodyLoose p l Y.y (headSpec [cdw Y] (rmOf d k n)) Y.cc Y.nL Y.ret e s m args below meth c s₁ → c.maxLocals = Y.nL → c.exceptionTable.toList = tableOf Y.hh → va_Pc (As.map (vm ω)) (CPc ω l μ) args s →
      W p l e (headSpec [cdw Y] (rmOf d k n)).room s m args below meth c s.heap [] 0 0 (vx_MQ below (QR ω Post) (XR ω Post) args s k n (aA ω)) (entryFrame m args Y.nL) := by
    intro p e s m args below meth c s₁ B hml htb hPc
    obtain ⟨rfl, hW, hSW, hHW, hst⟩ := hPc
    have hl := lv_entry (As.map (vm ω)) (n := Y.nL) (by rw [lg_sl_len]; exact hA)
    rw [lv_args_map] at hl
    rw [lg_entry_eq]
    generalize (lg_sl (As.map (vm ω)) ++ List.replicate (Y.nL - (lg_sl (As.map (vm ω))).length) Slot.unset).toArray = ls at hl ⊢
    exact kk p e (rmOf d k n) s m _ below meth c s.heap [] 0 0 k n ls ⟨hW, hSW, hst, B.exec, B.bytes, hml, B.returns, B.notSynchronized, findClass_of_methodNamed B.named, (name_of_methodNamed B.named B.method).1, htb, Nat.le_refl _, Nat.le_refl _, Nat.le_refl _, Nat.le_refl _⟩ hHW va_S.rf hl (by omega) (by omega)
  unfold Ct
  cases hh : Y.hh with
  | nil =>
    have hc : cdw Y = .code Y.y Y.cc Y.nL Y.ret := by unfold cdw; rw [hh]
    exact vx_ofW (cc := Y.cc) (maxL := Y.nL) (ret := Y.ret) (ws' := []) hy (by rw [hc]) (fun p e s m args below meth c s₁ B hml ht hPc => key p e s m args below meth c s₁ B hml (by
      rw [hh]
      cases hL : c.exceptionTable.toList with
      | nil => rfl
      | cons x xs => exact absurd (ht x (by rw [hL]; exact List.mem_cons_self)) id) hPc)
  | cons h0 h1 =>
    have hc : cdw Y = .codeWith Y.y Y.cc Y.nL Y.ret Y.hh := by unfold cdw; rw [hh]
    exact vx_ofWH (cc := Y.cc) (maxL := Y.nL) (ret := Y.ret) (hh := Y.hh) (ws' := []) hy (by rw [hc]) (fun p e s m args below meth c s₁ B hml hPc => key p e s m args below meth c s₁ B hml (vx_table (x := Y.y) B (atoms_spec (ws := [cdw Y]) B.pre _ (by rw [hc]; exact List.mem_cons_self))) hPc)
/-- what is thrown comes to the frame -/
def JX (ω : Wd) (l : Launch) (Y : Mt) (d pc : Nat) (lv : List (Nat × Value)) (st : List Value) (μ : Mem) (k n i : Nat) (Post : Oa → Mem → Prop) : Prop :=
  ∀ (p : Program) (e : Env) (R : Room) (s : State) (m : MethodId) (args : Array Value) (below : List Frame) (meth : Method) (c : Code) (H : Heap) (locs : List Loc) (cells slots mc ms : Nat) (ls : Array Slot) (q : Nat) (ce : Cell),
    Fix ω l Y d p R s m meth c mc ms → HW ω μ H → va_S (aA ω) s.heap H locs → lv_has ls Y.nL (lv.map (vmq ω)) → cells + k ≤ mc → slots + n ≤ ms → H[q]? = some ce → ce.vm = .none → s.vm.findClass (exN i) = some ce.cls →
    vx_W p l e R s m args below meth c H locs cells slots (vx_MQ below (QR ω Post) (XR ω Post) args s mc ms (aA ω)) (F0 m pc ls (st.map (vm ω))) q
section Thrown
variable {ω : Wd} {l : Launch} {Y : Mt} {d pc : Nat} {lv : List (Nat × Value)} {st : List Value} {μ : Mem} {k n : Nat} {Post : Oa → Mem → Prop}
theorem JX.out {i : Nat} (hh : Y.hh = []) (hp : Post (.inr i) μ) : JX ω l Y d pc lv st μ k n i Post := by
  intro p e R s m args below meth c H locs cells slots mc ms ls q ce F hw hS hl hk hn hq hv hcl
  have ht : c.exceptionTable.toList = [] := by rw [F.2.2.2.2.2.2.2.2.2.2.1, hh]; rfl
  exact vx_out (fun x hx => by rw [ht] at hx; cases hx) F.2.2.2.2.2.2.2.1 hq hv hcl (fun t ht hvm => ⟨⟨i, μ, rfl, hp, by rw [ht]; exact hw⟩, hS.F ht⟩) hS.2.2 (by omega) (by omega)
/-- what is so of a method that is called -/
def Mok (Z : Mt) (na : Nat) : Prop := cdw Z ∈ lw_tbl ∧ Cond.initialized Z.y.cls ∈ lw_tbl ∧ Z.y.cls ≠ "java/lang/invoke/MethodHandle" ∧ Z.y.cls ≠ "java/lang/invoke/VarHandle" ∧ (parseMethodDescriptor Z.y.desc).map (fun q => q.parameters.length) = some na ∧ Z.nL ≤ 45
def MokV (Z : Mt) : Prop := Cond.instanceMethod Z.y ∈ lw_tbl ∧ Cond.selects Z.y.cls Z.y Z.y ∈ lw_tbl
theorem cdw_good (Z : Mt) : goodWord (cdw Z) = true := by
  unfold cdw
  split <;> rfl
theorem Mok.len {Z : Mt} {na : Nat} (h : Mok Z na) (sig : MethodDescriptor) (hs : parseMethodDescriptor Z.y.desc = some sig) : na = sig.parameters.length := by
  have h2 := h.2.2.2.2.1
  rw [hs] at h2
  exact (Option.some.inj h2).symm
theorem CPc.blind {As : List Value} : FrameBlind (va_Pc (As.map (vm ω)) (CPc ω l μ)) := fun a U g mk q => by
  obtain ⟨q0, q1, q2, q3, q4⟩ := q
  exact ⟨q0, q1, q2, q3, q4⟩
/-- behind a call: it returned or threw -/
theorem J.behind {Post' : Oa → Mem → Prop} {k' n' k2 n2 : Nat} {sti : List Value}
    (run : ∀ (p : Program) (e : Env) (R : Room) (s : State) (m : MethodId) (args : Array Value) (below : List Frame) (meth : Method) (c : Code) (H : Heap) (locs : List Loc) (cells slots mc ms : Nat) (ls : Array Slot), Fix ω l Y d p R s m meth c mc ms → HW ω μ H → va_S (aA ω) s.heap H locs → lv_has ls Y.nL (lv.map (vmq ω)) → cells + k' ≤ mc → slots + n' ≤ ms →
      ∃ A : Array Value, vx_Run p l e R s m args below meth c H locs cells slots k' n' (F0 m pc ls (sti.map (vm ω))) (st.map (vm ω)) (QR ω Post' A) (XR ω Post') (aA ω))
    (hk2 : k' + k2 ≤ k) (hn2 : n' + n2 ≤ n)
    (kr : ∀ (v : Option Value) (ν : Mem), Post' (.inl v) ν → J ω l Y d (pc + 3) lv (v.toList ++ st) ν k2 n2 Post) (kx : ∀ (i : Nat) (ν : Mem), Post' (.inr i) ν → JX ω l Y d pc lv st ν k2 n2 i Post) : J ω l Y d pc lv sti μ k n Post := by
  intro p e R s m args below meth c H locs cells slots mc ms ls F hw hS hl hk hn
  obtain ⟨A, hrun⟩ := run p e R s m args below meth c H locs cells slots mc ms ls F hw hS hl (by omega) (by omega)
  intro T hT X
  have hSz : ω.s0.heap.size ≤ s.heap.size := F.2.1.2.1
  have hf : ∀ q : Nat, aA ω q → aA ω q := fun _ h => h
  rcases hrun T hT X with ⟨v, st₀, t, T', L, h0, X', hL, e1, e2, ⟨⟨v', ν, hv, hp, hb⟩, hF⟩, stp⟩ | ⟨q, st₀, t, T', L, E, ce, h0, X', hL, e1, e2, ⟨⟨i, ν, hE, hp, hb⟩, hF⟩, hce, hcv, hcl, stp⟩
  · obtain ⟨k1, k2', k3⟩ := vx_keep h0 e1 hS (fun _ _ h => h) hf hL hF
    obtain rfl : v = v'.map (vm ω) := by injection hv
    obtain ⟨t2, a1, b1⟩ := kr v' ν hp p e R s m args below meth c T'.heap (locs ++ L) (cells + k') (slots + n') mc ms ls F (by rw [e1]; exact hb) k3 hl (by omega) (by omega) T' rfl X'
    refine ⟨t2, stp t2 ?_, b1⟩
    have : (v'.map (vm ω)).toList ++ st.map (vm ω) = (v'.toList ++ st).map (vm ω) := by cases v' <;> rfl
    rw [this]
    exact a1
  · obtain ⟨k1, k2', k3⟩ := vx_keep h0 e1 hS (fun _ _ h => h) hf hL hF
    subst hE
    obtain ⟨t2, a1, b1⟩ := kx i ν hp p e R s m args below meth c T'.heap (locs ++ L) (cells + k') (slots + n') mc ms ls q ce F (by rw [e1]; exact hb) k3 hl (by omega) (by omega) (by rw [e1]; exact hce) hcv hcl T' rfl X'
    exact ⟨t2, stp.trans a1, b1⟩
end Thrown
