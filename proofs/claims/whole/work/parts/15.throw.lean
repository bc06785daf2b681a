section NSW
variable {p : Program} {l : Launch} {e : Env} {R : Room} {s : State} {m : MethodId} {args : Array Value} {below : List Frame} {meth : Method} {c : Code} {H : Heap} {locs : List Loc} {cells slots : Nat} {ls : Array Slot} {Qc : Array Value → State → Outcome → State → Prop} {XC : String → State → State → Prop} {free : Addr → Prop}
/-- 'throw new NoSuchElementException("text")', the text by a wide index -/
theorem throwNW {cc : ByteArray} {pc : Nat} (hexec : p.tables.exec = Jvm.exec) (hb : c.code = cc) (hl : l.stackTraces = false) {own text : String} {ik is ic mc ms sa : Nat} {A : Nat → Prop}
    (hown : s.vm.findClass own = some m.cls) (hk : (Cond.classLink own ik nsN).before args s = true) (hini : (Cond.initialized nsN).before args s = true) (hstr : vk_R own is text sa s) (hat : ∀ w ∈ (nsAtoms own ic).filter vx_no, w.before args s = true)
    (hgood : ∀ w ∈ (nsAtoms own ic).filter vx_no, vx_ot w = true)
    (hU : vx_Zq Bundle.tN "UNASSIGNED_STACK" Bundle.steD A s s.heap) (hN : vx_Zq Bundle.tN "SUPPRESSED_SENTINEL" Bundle.listD A s s.heap) (hS : va_S A s.heap H locs) (hsize : ls.size = c.maxLocals)
    (d0 : decode cc pc = .ok (.new ik, 3)) (d3 : decode cc (pc + 3) = .ok (.dup, 1)) (d4 : decode cc (pc + 4) = .ok (.ldc_w is, 3)) (d7 : decode cc (pc + 7) = .ok (.invokespecial ic, 3)) (d10 : decode cc (pc + 10) = .ok (.athrow, 1))
    (hout : ∀ x ∈ c.exceptionTable.toList, covers x (pc + 10) = false)
    (hRframes : 5 < R.frames) (hRlocals : 200 ≤ R.locals) (hRcells : cells + 1 ≤ R.cells) (hRslots : slots + 6 ≤ R.slots) (hlocks : meth.locks = false)
    (hx : ∀ t : State, s.vm.Alike t.vm → H.size ≤ t.heap.size → (∀ q : Nat, q < H.size → t.heap[q]? = H[q]?) → XC nsN s t)
    (hf : ∀ z ∈ locs, free z.base) (hc : cells + 1 ≤ mc) (hs : slots + 6 ≤ ms) :
    W p l e R s m args below meth c H locs cells slots (vx_MQ below Qc XC args s mc ms free) (F0 m pc ls []) := by
  intro T hT X
  have htr : e.platform.stackTraces = false := (show e.platform.stackTraces = l.stackTraces by rw [X.admits.platform]).trans hl
  have Y := vx_rebase X (R' := { frames := R.frames, locals := R.locals, cells := 1, slots := 6 }) (Nat.le_refl _) (Nat.le_refl _) hRcells hRslots
  obtain ⟨s', hA⟩ : ∃ z, z = (T.setVm s.vm).setFrames (.invoking m args :: below) := ⟨_, rfl⟩
  rw [← hA] at Y
  have hvm : s'.vm = s.vm := by rw [hA]; rfl
  have hhp : s'.heap = H := by rw [hA]; exact hT
  have hW0 : s.WarmedH s'.vm := by rw [hvm]; exact State.WarmedH.refl s
  have hat' : ∀ w ∈ (nsAtoms own ic).filter vx_no, w.before args s' = true := fun w hw => vx_ot_at hW0 hvm.symm (hgood w hw) (hat w hw)
  have hk' : (Cond.classLink own ik nsN).before args s' = true := vx_ot_at hW0 hvm.symm rfl hk
  have hini' : (Cond.initialized nsN).before args s' = true := vx_ot_at hW0 hvm.symm rfl hini
  have hU' : vx_Zq Bundle.tN "UNASSIGNED_STACK" Bundle.steD A s' s'.heap := by rw [hhp]; exact vx_Zq.moved hW0.alike (hU.kept hS.2.1)
  have hN' : vx_Zq Bundle.tN "SUPPRESSED_SENTINEL" Bundle.listD A s' s'.heap := by rw [hhp]; exact vx_Zq.moved hW0.alike (hN.kept hS.2.1)
  have h : ∀ w ∈ nsAtoms own ic, w.before args s' = true := vx_own hat' (vx_isRefq hU'.1) (vx_isRefq hN'.1) hU'.2.word hN'.2.word
  have hown' : s'.vm.findClass own = some m.cls := by rw [hvm]; exact hown
  have hins : (Cond.instantiable nsN 6).before args s' = true := h _ (by simp [nsAtoms, nsRest])
  obtain ⟨vm₁, cX, kX, hfX, hkX, -, -, X₁, st1⟩ := Y.newCold hexec (own := own) (C := nsN) (index := ik) (n := 6) hown' hk' hins hini'
    (g := F0 m pc ls []) rfl (by rw [hb]; exact d0) (Nat.le_refl _) (Nat.le_refl _)
  generalize hT1 : (T.setVm vm₁).pushCell { cls := cX, slots := kX.instanceTypes.map defaultValue, vm := .none } = T1 at X₁ st1
  have hcat : (Value.ref T.heap.size).category = 1 := rfl
  have hcellA : T1.heap[T.heap.size]? = some (freshCell cX kX) := by rw [← hT1]; exact State.heap_pushCell_size _ _
  have d3' : decode c.code (pc + 3) = .ok (.dup, 1) := by rw [hb]; exact d3
  have d4' : decode c.code (pc + 4) = .ok (.ldc_w is, 3) := by rw [hb]; exact d4
  have hstr' : vk_R own is text sa s' := vk_R.warm hW0 hstr
  obtain ⟨U, hsteps, hrun, hend, hW, hsame, ce, hce, hcv, hcl0⟩ := ctorThrowN X₁ hexec htr (own := own) (ic := ic) hown' h (fun x hx => nomatch hx) hfX hkX hcellA (by rw [hhp, hT]; exact Nat.le_refl _) (msg := .ref sa) rfl
    (g := { method := m, pc := pc + 7, locals := ls, stack := .ref sa :: .ref T.heap.size :: .ref T.heap.size :: [], locked := none }) rfl hsize rfl rfl (rest := []) rfl
    (by rw [hb]; exact d7) (by rw [hb]; exact d10) hout hRframes (by simp only [List.map_cons, List.map_nil, List.sum_cons, List.sum_nil, hcat, JFrame.monitorRoom]; show 2 * 0 + (1 + 0) + (13 * 3 + 42) ≤ R.locals; omega) hlocks
  obtain ⟨f1, f2⟩ := vx_frame hsame
  rw [hhp] at f1 f2
  have hWs : s.WarmedH U.vm := State.WarmedH.trans hW0 hW
  have hcl : s.vm.findClass nsN = some ce.cls := by
    rw [hvm] at hcl0
    exact hcl0
  have hall : s.sameButNew ({ U with vm := s.vm } : State) locs mc ms := by
    subst hA
    obtain ⟨e1, e2⟩ := hsame
    rw [State.setFrames_setFrames] at e1
    have h2 : (T.setVm s.vm).sameButNew ({ U with vm := s.vm } : State) [] (0 + 1) (0 + 6) := ⟨e1, e2⟩
    have h3 := X.same.trans h2
    rw [List.append_nil] at h3
    exact h3.mono hc hs
  refine ⟨U, ?_, .threw T.heap.size, hrun, hend, Or.inr ⟨T.heap.size, rfl, nsN, ce, locs, hx U hWs.alike f1 (fun q hq => f2 q hq (fun z hz => nomatch hz)), hce, hcv, hcl, hWs, hall, hf⟩⟩
  refine st1 _ ?_
  show Steps p.tables e below (T1.setTop { method := m, pc := pc + 3, locals := ls, stack := [.ref T.heap.size], locked := none }) _
  jvm_step X₁.here [X₁.here.top, hexec, d3', Value.category]
  exact X₁.ldcStringW hexec (own := own) (text := text) (index := is) (a := sa) hown' hstr'.1 hstr'.2
    (g := { method := m, pc := pc + 4, locals := ls, stack := .ref T.heap.size :: .ref T.heap.size :: [], locked := none }) rfl d4' _ hsteps
end NSW
section Throw13
variable {ω : Wd} {l : Launch} {Y Z : Mt} {d pc : Nat} {lv : List (Nat × Value)} {st As : List Value} {μ : Mem} {k n k' n' k2 n2 idx na : Nat} {Post Post' : Oa → Mem → Prop}
theorem thrownHW {s t : State} {H : Heap} {locs : List Loc} (hN : μ.1 = NN) (hw : HW ω μ H) (hS : va_S (aA ω) s.heap H locs) (h1 : H.size ≤ t.heap.size) (h2 : ∀ q : Nat, q < H.size → t.heap[q]? = H[q]?) : HW ω μ t.heap ∧ va_F (aA ω) s t :=
  ⟨⟨hw.1.kept (fun k9 x hx => h2 x.1 ((hw.1 k9 x hx).lt)), fun h => absurd h (by rw [hN]; exact Nat.lt_irrefl _), Nat.le_trans hw.2.2 h1⟩, Nat.le_trans hS.1 h1, fun q g1 g2 => (h2 q (Nat.lt_of_lt_of_le g1 hS.1)).trans (hS.2.1 q g1 g2)⟩
def exIk (i : Nat) : Nat := if i = 0 then 401 else 117
def exIc (i : Nat) : Nat := if i = 0 then 405 else 121
/-- 'throw new NoSuchElementException("text")' -/
theorem J.throwN {is j : Nat} {tx : String} (hY : Y.y.cls = RX10) (hh : Y.hh = []) (hN : μ.1 = NN) (d0 : decode Y.cc pc = .ok (.new 401, 3)) (d3 : decode Y.cc (pc + 3) = .ok (.dup, 1)) (d4 : decode Y.cc (pc + 4) = .ok (.ldc_w is, 3)) (d7 : decode Y.cc (pc + 7) = .ok (.invokespecial 405, 3)) (d10 : decode Y.cc (pc + 10) = .ok (.athrow, 1))
    (hs : strs[j]? = some (RX10, is, tx)) (h1 : 1 ≤ k) (h2 : 6 ≤ n) (hp : Post (.inr 0) μ) : J ω l Y (d + 8) pc lv [] μ k n Post := by
  intro p e R s m args below meth c9 H locs cells slots mc ms ls F hw hS hl hk9 hn9
  have w1 := at_key _ at0_ok
  have f1 : d + 8 ≤ R.frames := F.2.2.2.2.2.2.2.2.2.2.2.1
  have f2 : 64 * (d + 8) ≤ R.locals := F.2.2.2.2.2.2.2.2.2.2.2.2.1
  have hmc := F.2.2.2.2.2.2.2.2.2.2.2.2.2
  have ht : c9.exceptionTable.toList = [] := by rw [F.2.2.2.2.2.2.2.2.2.2.1, hh]; rfl
  exact throwNW F.2.2.2.1 F.2.2.2.2.1 F.2.2.1 (own := RX10) (by rw [← hY]; exact F.2.2.2.2.2.2.2.2.1) (F.w exw0.1 rfl) (F.w exw0.2 rfl) (F.T hs) (fun w hw' => F.wF (w1 w hw').1 (w1 w hw').2) (fun w hw' => by
      have := (w1 w hw').2
      rw [Bool.and_eq_true] at this
      unfold vx_ot
      rw [this.1]; rfl) F.U1 F.U2 hS (hl.1.trans F.2.2.2.2.2.1.symm) d0 d3 d4 d7 d10
    (fun x hx => by rw [ht] at hx; cases hx) (by omega) (by omega) (by omega) (by omega) F.2.2.2.2.2.2.2.1
    (fun t hvm h1 h2 => by obtain ⟨q1, q2⟩ := thrownHW hN hw hS h1 h2; exact ⟨⟨0, μ, rfl, hp, q1⟩, q2⟩) hS.2.2 (by omega) (by omega)
/-- 'throw new IllegalArgumentException("text")' -/
theorem J.throwA {is j : Nat} {tx : String} (hY : Y.y.cls = RX10) (hh : Y.hh = []) (hN : μ.1 = NN) (d0 : decode Y.cc pc = .ok (.new 117, 3)) (d3 : decode Y.cc (pc + 3) = .ok (.dup, 1)) (d4 : decode Y.cc (pc + 4) = .ok (.ldc is, 2)) (d6 : decode Y.cc (pc + 6) = .ok (.invokespecial 121, 3)) (d9 : decode Y.cc (pc + 9) = .ok (.athrow, 1))
    (hs : strs[j]? = some (RX10, is, tx)) (h1 : 1 ≤ k) (h2 : 6 ≤ n) (hp : Post (.inr 1) μ) : J ω l Y (d + 8) pc lv [] μ k n Post := by
  intro p e R s m args below meth c9 H locs cells slots mc ms ls F hw hS hl hk9 hn9
  have w1 := at_key _ at1_ok
  have f1 : d + 8 ≤ R.frames := F.2.2.2.2.2.2.2.2.2.2.2.1
  have f2 : 64 * (d + 8) ≤ R.locals := F.2.2.2.2.2.2.2.2.2.2.2.2.1
  have hmc := F.2.2.2.2.2.2.2.2.2.2.2.2.2
  have ht : c9.exceptionTable.toList = [] := by rw [F.2.2.2.2.2.2.2.2.2.2.1, hh]; rfl
  exact vx_throwS (names := exNames) F.2.2.2.1 F.2.2.2.2.1 F.2.2.1 (own := RX10) (by rw [← hY]; exact F.2.2.2.2.2.2.2.2.1) (by decide +kernel) (by decide +kernel) (F.w exw1.1 rfl) (F.w exw1.2 rfl) (F.T hs) (fun w hw' => F.wF (w1 w hw').1 (w1 w hw').2) ot1_ok F.U1 F.U2 hS (hl.1.trans F.2.2.2.2.2.1.symm) d0 d3 d4 d6 d9
    (fun x hx => by rw [ht] at hx; cases hx) (by show 2 + 3 < R.frames; omega) (by show ([].map fun v : Value => v.category).sum + (13 * (2 + 1) + 43) ≤ R.locals; simp; omega) (by omega) (by omega) F.2.2.2.2.2.2.2.1
    (fun t hvm h1 h2 => by obtain ⟨q1, q2⟩ := thrownHW hN hw hS h1 h2; exact ⟨⟨1, μ, rfl, hp, q1⟩, q2⟩) hS.2.2 (by omega) (by omega)
theorem J.throwAW {is j : Nat} {tx : String} (hY : Y.y.cls = RX10) (hh : Y.hh = []) (hN : μ.1 = NN) (d0 : decode Y.cc pc = .ok (.new 117, 3)) (d3 : decode Y.cc (pc + 3) = .ok (.dup, 1)) (d4 : decode Y.cc (pc + 4) = .ok (.ldc_w is, 3)) (d7 : decode Y.cc (pc + 7) = .ok (.invokespecial 121, 3)) (d10 : decode Y.cc (pc + 10) = .ok (.athrow, 1))
    (hs : strs[j]? = some (RX10, is, tx)) (h1 : 1 ≤ k) (h2 : 6 ≤ n) (hp : Post (.inr 1) μ) : J ω l Y (d + 8) pc lv [] μ k n Post := by
  intro p e R s m args below meth c9 H locs cells slots mc ms ls F hw hS hl hk9 hn9
  have w1 := at_key _ at1_ok
  have f1 : d + 8 ≤ R.frames := F.2.2.2.2.2.2.2.2.2.2.2.1
  have f2 : 64 * (d + 8) ≤ R.locals := F.2.2.2.2.2.2.2.2.2.2.2.2.1
  have hmc := F.2.2.2.2.2.2.2.2.2.2.2.2.2
  have ht : c9.exceptionTable.toList = [] := by rw [F.2.2.2.2.2.2.2.2.2.2.1, hh]; rfl
  exact vx_throwSW (names := exNames) F.2.2.2.1 F.2.2.2.2.1 F.2.2.1 (own := RX10) (by rw [← hY]; exact F.2.2.2.2.2.2.2.2.1) (by decide +kernel) (by decide +kernel) (F.w exw1.1 rfl) (F.w exw1.2 rfl) (F.T hs) (fun w hw' => F.wF (w1 w hw').1 (w1 w hw').2) ot1_ok F.U1 F.U2 hS (hl.1.trans F.2.2.2.2.2.1.symm) d0 d3 d4 d7 d10
    (fun x hx => by rw [ht] at hx; cases hx) (by show 2 + 3 < R.frames; omega) (by show ([].map fun v : Value => v.category).sum + (13 * (2 + 1) + 43) ≤ R.locals; simp; omega) (by omega) (by omega) F.2.2.2.2.2.2.2.1
    (fun t hvm h1 h2 => by obtain ⟨q1, q2⟩ := thrownHW hN hw hS h1 h2; exact ⟨⟨1, μ, rfl, hp, q1⟩, q2⟩) hS.2.2 (by omega) (by omega)
/-! catching, in the law's own methods: the handler keeps the exception in a local and answers a constant -/
theorem catchEnd {p : Program} {e : Env} {R : Room} {s : State} {m : MethodId} {args : Array Value} {below : List Frame} {meth : Method} {c : Code} {H : Heap} {locs : List Loc} {cells slots mc ms : Nat} {ls : Array Slot} {q h len : Nat} {v : Int32} {z : Int} (F : Fix ω l Y d p R s m meth c mc ms) (hw : HW ω μ H) (hS : va_S (aA ω) s.heap H locs) (hlv : lv_has ls Y.nL (lv.map (vmq ω))) (hk : cells + k ≤ mc) (hn : slots + n ≤ ms)
    (hst : (∃ i, i < Y.nL ∧ len = 2 ∧ decode Y.cc h = .ok (.astore i, 2)) ∨ (∃ i : Fin 4, (i : Nat) < Y.nL ∧ len = 1 ∧ decode Y.cc h = .ok (.astore_n i, 1))) (hd2 : decode Y.cc (h + len) = .ok (.iconst z, 1)) (hv : Int32.ofInt z = v) (hd3 : decode Y.cc (h + len + 1) = .ok (.ireturn, 1)) (hr : Y.ret = some .int) (hp : Post (.inl (some (.int v))) μ) :
    W p l e R s m args below meth c H locs cells slots (vx_MQ below (QR ω Post) (XR ω Post) args s mc ms (aA ω)) (F0 m h ls [.ref q]) := by
  have fin : ∀ ls' : Array Slot, lv_has ls' Y.nL [] → W p l e R s m args below meth c H locs cells slots (vx_MQ below (QR ω Post) (XR ω Post) args s mc ms (aA ω)) (F0 m (h + len) ls' []) := fun ls' hl' =>
    lv_iconst F.2.2.2.1 F.2.2.2.2.1 hd2 hv (J.iret (lv := []) hd3 hr hp p e R s m args below meth c H locs cells slots mc ms ls' F hw hS hl' hk hn)
  rcases hst with ⟨i, hi, rfl, hd1⟩ | ⟨i, hi, rfl, hd1⟩
  · exact lv_astore (lv' := _) F.2.2.2.1 F.2.2.2.2.1 hd1 hlv hi rfl (fun ls' hl' => fin ls' ⟨hl'.1, hl'.2.1, fun q hq => by cases hq⟩)
  · exact lv_astore_n (lv' := _) F.2.2.2.1 F.2.2.2.2.1 hd1 rfl hlv hi rfl (fun ls' hl' => fin ls' ⟨hl'.1, hl'.2.1, fun q hq => by cases hq⟩)
theorem exl : Cond.classLink RL 18 nsN ∈ lw_tbl ∧ Cond.classLink RL 13 "java/lang/IllegalArgumentException" ∈ lw_tbl ∧ Cond.castable nsN nsN ∈ lw_tbl ∧ Cond.castable "java/lang/IllegalArgumentException" "java/lang/IllegalArgumentException" ∈ lw_tbl := by decide +kernel
/-- caught by the first row of the table, which names what is thrown -/
theorem JX.catch1 {i lo hi h len : Nat} {hr : List (Nat × Nat × Nat × Nat)} {v : Int32} {z : Int} (hi2 : i < 2) (hY : Y.y.cls = RL) (hh : Y.hh = (lo, hi, h, if i = 0 then 18 else 13) :: hr) (h1 : lo ≤ pc) (h2 : pc < hi)
    (hst : (∃ i, i < Y.nL ∧ len = 2 ∧ decode Y.cc h = .ok (.astore i, 2)) ∨ (∃ i : Fin 4, (i : Nat) < Y.nL ∧ len = 1 ∧ decode Y.cc h = .ok (.astore_n i, 1))) (hd2 : decode Y.cc (h + len) = .ok (.iconst z, 1)) (hv : Int32.ofInt z = v) (hd3 : decode Y.cc (h + len + 1) = .ok (.ireturn, 1)) (hr : Y.ret = some .int) (hp : Post (.inl (some (.int v))) μ) : JX ω l Y d pc lv st μ k n i Post := by
  intro p e R s m args below meth c H locs cells slots mc ms ls q ce F hw hS hl hk hn hq hv' hcl
  refine vx_catch (own := Y.y.cls) (name := exN i) F.2.2.2.2.2.2.2.2.1 [] ⟨lo, hi, h, if i = 0 then 18 else 13⟩ _ (by rw [F.2.2.2.2.2.2.2.2.2.2.1, hh]; rfl) (fun z hz => nomatch hz) (by simp [covers, h1, h2]) (by show (if i = 0 then 18 else 13) ≠ 0; split <;> decide) ?_ ?_ hq hv' hcl (catchEnd F hw hS hl hk hn hst hd2 hv hd3 hr hp)
  · rw [hY]
    match i, hi2 with
    | 0, _ => exact F.w exl.1 rfl
    | 1, _ => exact F.w exl.2.1 rfl
  · match i, hi2 with
    | 0, _ => exact F.wF exl.2.2.1 rfl
    | 1, _ => exact F.wF exl.2.2.2 rfl
/-- an IllegalArgumentException, caught by the second row, behind one for NoSuchElementException -/
theorem JX.catch2 {lo hi h0 h len : Nat} {v : Int32} {z : Int} (hY : Y.y.cls = RL) (hh : Y.hh = [(lo, hi, h0, 18), (lo, hi, h, 13)]) (h1 : lo ≤ pc) (h2 : pc < hi)
    (hst : (∃ i, i < Y.nL ∧ len = 2 ∧ decode Y.cc h = .ok (.astore i, 2)) ∨ (∃ i : Fin 4, (i : Nat) < Y.nL ∧ len = 1 ∧ decode Y.cc h = .ok (.astore_n i, 1))) (hd2 : decode Y.cc (h + len) = .ok (.iconst z, 1)) (hv : Int32.ofInt z = v) (hd3 : decode Y.cc (h + len + 1) = .ok (.ireturn, 1)) (hr : Y.ret = some .int) (hp : Post (.inl (some (.int v))) μ) : JX ω l Y d pc lv st μ k n 1 Post := by
  intro p e R s m args below meth c H locs cells slots mc ms ls q ce F hw hS hl hk hn hq hv' hcl
  refine vx_catch (own := Y.y.cls) (name := "java/lang/IllegalArgumentException") (E := exN 1) F.2.2.2.2.2.2.2.2.1 [⟨lo, hi, h0, 18⟩] ⟨lo, hi, h, 13⟩ [] (by rw [F.2.2.2.2.2.2.2.2.2.2.1, hh]; rfl) (fun z hz => ?_) (by simp [covers, h1, h2]) (by show (13 : Nat) ≠ 0; decide) ?_ (F.wF exl.2.2.2 rfl) hq hv' hcl (catchEnd F hw hS hl hk hn hst hd2 hv hd3 hr hp)
  · rw [List.mem_singleton] at hz
    subst hz
    exact Or.inr ⟨by show (18 : Nat) ≠ 0; decide, nsN, by rw [hY]; exact F.w exl.1 rfl, va_Nc.moved F.2.1.1.alike F.1.2.2.2.2.2.2.2.2.2.1⟩
  · rw [hY]
    exact F.w exl.2.1 rfl
/-- a static method with a table of its own, which throws nothing -/
theorem J.callSW (hd : decode Y.cc pc = .ok (.invokestatic idx, 3)) (hl : Cond.methodLink Y.y.cls idx Z.y ∈ lw_tbl) (hZ : Mok Z na) (hV : Cond.static Z.y ∈ lw_tbl) (hc : cdw Z = .codeWith Z.y Z.cc Z.nL Z.ret Z.hh) (hC : Ct ω l Z d As μ k' n' Post') (hx : ∀ i ν, ¬ Post' (.inr i) ν)
    (hna : As.length = na) {sti : List Value} (hst : sti = As.reverse ++ st) (h8 : (st.map fun v => v.category).sum ≤ 8) (hk2 : k' + k2 ≤ k) (hn2 : n' + n2 ≤ n)
    (kr : ∀ (v : Option Value) (ν : Mem), Post' (.inl v) ν → J ω l Y (d + 1) (pc + 3) lv (v.toList ++ st) ν k2 n2 Post) : J ω l Y (d + 1) pc lv sti μ k n Post := by
  refine J.behind (Post' := Post') (fun p e R s m args below meth c H locs cells slots mc ms ls F hw hS hlv hk9 hn9 => ⟨(As.map (vm ω)).toArray, ?_⟩) hk2 hn2 kr (fun i ν h => absurd h (hx i ν))
  have hmc := F.2.2.2.2.2.2.2.2.2.2.2.2.2
  have h1 : d + 1 ≤ R.frames := F.2.2.2.2.2.2.2.2.2.2.2.1
  have h2 : 64 * (d + 1) ≤ R.locals := F.2.2.2.2.2.2.2.2.2.2.2.2.1
  have h3 : Z.nL ≤ 45 := hZ.2.2.2.2.2
  exact run_of _ (vx_runSW (Ts := []) (hh := Z.hh) (bytes := Z.cc) (maxL := Z.nL) (ret := Z.ret) (n := na) (As := As.map (vm ω)) ⟨F.2.2.2.1, F.2.2.2.2.1, F.2.2.2.2.2.1, F.2.2.2.2.2.2.2.2.1, fun w h => nomatch h⟩ (hC.met hx)
    ⟨⟨rfl, rfl, h1, by show 8 + (Z.nL + 11) + 64 * d ≤ R.locals; omega, fun w hw a' U hW => by
        rw [List.mem_singleton] at hw
        subst hw
        exact word_at (State.WarmedH.trans F.2.1.1 hW) (good_of_word (cdw_good Z)) (F.1.1 _ hZ.1), by rw [hc]; exact List.mem_cons_self⟩, by rw [← hc]; exact F.w hZ.1 (cdw_good Z), F.w hZ.2.1 rfl, ⟨hZ.2.2.1, hZ.2.2.2.1⟩, hZ.len, F.w hl rfl, F.w hV rfl⟩
    ⟨CPc.blind, fun U hU hW => callPc F hw hS U hU hW As⟩ rfl (by rw [List.length_map]; exact hna) hlv.1
    (by rw [hst, List.map_append, List.map_reverse]) (by rw [vm_cats]; exact Nat.le_trans (Nat.le_of_eq (by simp [JFrame.monitorRoom])) h8) hd ⟨by omega, by omega⟩)
end Throw13
