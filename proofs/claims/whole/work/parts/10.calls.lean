/-! RULES of J: calls -/
section Calls10
variable {ω : Wd} {l : Launch} {Y Z : Mt} {d pc : Nat} {lv : List (Nat × Value)} {st As : List Value} {μ : Mem} {k n k' n' k2 n2 idx a cl na : Nat} {Post Post' : Oa → Mem → Prop}
theorem SW.call {s U : State} {H : Heap} {locs : List Loc} (h : SW ω s) (hw : HW ω μ H) (hS : va_S (aA ω) s.heap H locs) (hU : U.heap = H) (hW : s.WarmedH U.vm) : SW ω U := by
  refine ⟨State.WarmedH.trans h.1 hW, by rw [hU]; exact Nat.le_trans (Nat.le_add_right _ _) hw.2.2, fun q hq => ?_⟩
  rw [hU, hS.2.1 q (Nat.lt_of_lt_of_le hq h.2.1) (Nat.not_le.mpr hq)]
  exact h.2.2 q hq
theorem callPc {p : Program} {R : Room} {s : State} {m : MethodId} {meth : Method} {c : Code} {mc ms : Nat} {H : Heap} {locs : List Loc} (F : Fix ω l Y d p R s m meth c mc ms) (hw : HW ω μ H) (hS : va_S (aA ω) s.heap H locs) (U : State) (hU : U.heap = H) (hW : s.WarmedH U.vm) (Bs : List Value) : va_Pc (Bs.map (vm ω)) (CPc ω l μ) (Bs.map (vm ω)).toArray U :=
  ⟨rfl, F.1, F.2.1.call hw hS hU hW, by rw [hU]; exact hw, F.2.2.1⟩
theorem callB9 {p : Program} {R : Room} {s : State} {m : MethodId} {meth : Method} {c : Code} {mc ms : Nat} (args : Array Value) (F : Fix ω l Y (d + 1) p R s m meth c mc ms) (hZ : Mok Z na) (hh : Z.hh = []) (hl : Cond.methodLink Y.y.cls idx Z.y ∈ lw_tbl) :
    CallB R s args Y.y.cls idx Z.y Z.cc Z.nL Z.ret [cdw Z] (rmOf d k' n') k' n' na := by
  have hc : cdw Z = .code Z.y Z.cc Z.nL Z.ret := by unfold cdw; rw [hh]
  have h1 : d + 1 ≤ R.frames := F.2.2.2.2.2.2.2.2.2.2.2.1
  have h2 : 64 * (d + 1) ≤ R.locals := F.2.2.2.2.2.2.2.2.2.2.2.2.1
  have h3 : Z.nL ≤ 45 := hZ.2.2.2.2.2
  refine ⟨rfl, rfl, h1, ?_, fun w hw a' U hW => ?_, by rw [hc]; exact List.mem_cons_self, by rw [← hc]; exact F.w hZ.1 (cdw_good Z), F.w hZ.2.1 rfl, ⟨hZ.2.2.1, hZ.2.2.2.1⟩, hZ.len, F.w hl rfl⟩
  · show 8 + (Z.nL + 11) + 64 * d ≤ R.locals
    omega
  · rw [List.mem_singleton] at hw
    subst hw
    exact word_at (State.WarmedH.trans F.2.1.1 hW) (good_of_word (cdw_good Z)) (F.1.1 _ hZ.1)
theorem J.callV (hd : decode Y.cc pc = .ok (.invokevirtual idx, 3)) (hl : Cond.methodLink Y.y.cls idx Z.y ∈ lw_tbl) (hZ : Mok Z na) (hV : MokV Z) (hh : Z.hh = []) (hC : Ct ω l Z d (.ref a :: As) μ k' n' Post') (hk : (kd a).1 = 10 + cl) (ha : a < μ.1) (ha' : a < 10000) (hcl : ∀ q : vw_C, clss[cl]? = some q → q.1 = Z.y.cls) (hcl2 : cl < 12)
    (hna : As.length = na) {sti : List Value} (hst : sti = As.reverse ++ .ref a :: st) (h8 : (st.map fun v => v.category).sum ≤ 8) (hk2 : k' + k2 ≤ k) (hn2 : n' + n2 ≤ n)
    (kr : ∀ (v : Option Value) (ν : Mem), Post' (.inl v) ν → J ω l Y (d + 1) (pc + 3) lv (v.toList ++ st) ν k2 n2 Post) (kx : ∀ (i : Nat) (ν : Mem), Post' (.inr i) ν → JX ω l Y (d + 1) pc lv st ν k2 n2 i Post) : J ω l Y (d + 1) pc lv sti μ k n Post := by
  refine J.behind (fun p e R s m args below meth c H locs cells slots mc ms ls F hw hS hlv hk9 hn9 => ⟨((Value.ref a :: As).map (vm ω)).toArray, ?_⟩) hk2 hn2 kr kx
  have he := wcs_get ω μ ha
  rw [cellE_obj ω μ hk, ← ad_new ω ha'] at he
  obtain ⟨q, hq⟩ : ∃ q, clss[cl]? = some q := ⟨clss[cl]'hcl2, List.getElem?_eq_getElem hcl2⟩
  have hmc := F.2.2.2.2.2.2.2.2.2.2.2.2.2
  exact vx_runV (Ts := []) (C := Z.y.cls) (b := ad ω a) (As := As.map (vm ω)) ⟨F.2.2.2.1, F.2.2.2.2.1, F.2.2.2.2.2.1, F.2.2.2.2.2.2.2.2.1, fun w h => nomatch h⟩ hC ⟨callB9 args F hZ hh hl, F.w hV.1 rfl, F.w hV.2 rfl⟩
    ⟨CPc.blind, by have := va_recv F.K hw.1 hq he; rw [hcl q hq] at this; exact this, fun U hU hW => callPc F hw hS U hU hW (.ref a :: As)⟩ rfl (by rw [List.length_map]; exact hna) hlv.1
    (by rw [hst, List.map_append, List.map_cons, List.map_reverse]; rfl) (by rw [vm_cats]; exact Nat.le_trans (Nat.le_of_eq (by simp [JFrame.monitorRoom])) h8) hd ⟨by omega, by omega⟩
theorem J.callS (hd : decode Y.cc pc = .ok (.invokestatic idx, 3)) (hl : Cond.methodLink Y.y.cls idx Z.y ∈ lw_tbl) (hZ : Mok Z na) (hV : Cond.static Z.y ∈ lw_tbl) (hh : Z.hh = []) (hC : Ct ω l Z d As μ k' n' Post')
    (hna : As.length = na) {sti : List Value} (hst : sti = As.reverse ++ st) (h8 : (st.map fun v => v.category).sum ≤ 8) (hk2 : k' + k2 ≤ k) (hn2 : n' + n2 ≤ n)
    (kr : ∀ (v : Option Value) (ν : Mem), Post' (.inl v) ν → J ω l Y (d + 1) (pc + 3) lv (v.toList ++ st) ν k2 n2 Post) (kx : ∀ (i : Nat) (ν : Mem), Post' (.inr i) ν → JX ω l Y (d + 1) pc lv st ν k2 n2 i Post) : J ω l Y (d + 1) pc lv sti μ k n Post := by
  refine J.behind (fun p e R s m args below meth c H locs cells slots mc ms ls F hw hS hlv hk9 hn9 => ⟨(As.map (vm ω)).toArray, ?_⟩) hk2 hn2 kr kx
  have hmc := F.2.2.2.2.2.2.2.2.2.2.2.2.2
  exact vx_runS (Ts := []) (As := As.map (vm ω)) ⟨F.2.2.2.1, F.2.2.2.2.1, F.2.2.2.2.2.1, F.2.2.2.2.2.2.2.2.1, fun w h => nomatch h⟩ hC ⟨callB9 args F hZ hh hl, F.w hV rfl⟩
    ⟨CPc.blind, fun U hU hW => callPc F hw hS U hU hW As⟩ rfl (by rw [List.length_map]; exact hna) hlv.1
    (by rw [hst, List.map_append, List.map_reverse]) (by rw [vm_cats]; exact Nat.le_trans (Nat.le_of_eq (by simp [JFrame.monitorRoom])) h8) hd ⟨by omega, by omega⟩
/-- a contract that throws nothing, in the kit's plain form -/
theorem Ct.met (hC : Ct ω l Z d As μ k' n' Post') (hx : ∀ i ν, ¬ Post' (.inr i) ν) : Met l Z.y [cdw Z] (rmOf d k' n') (va_Pc (As.map (vm ω)) (CPc ω l μ)) (QR ω Post') k' n' (aA ω) := by
  intro p e h1 h2 h3 s m args below h4 h5 h6 h7
  obtain ⟨n9, o, a1, a2, a3, a4⟩ := hC p e h1 h2 h3 s m args below h4 h5 h6 h7
  refine ⟨n9, o, a1, a2, a3, ?_⟩
  rcases a4 with h | ⟨q, -, E, ce, L, ⟨⟨i, ν, -, hp, -⟩, -⟩, -⟩
  · exact h
  · exact absurd hp (hx i ν)
theorem run_of {p : Program} {e : Env} {R : Room} {s : State} {m : MethodId} {args : Array Value} {below : List Frame} {meth : Method} {c : Code} {H : Heap} {locs : List Loc} {cells slots mc ms : Nat} {g : JFrame} {rest : List Value} {Qa : State → Outcome → State → Prop} {free : Addr → Prop} (XC : String → State → State → Prop)
    (h : va_Run p l e R s m args below meth c H locs cells slots mc ms g rest Qa free) : vx_Run p l e R s m args below meth c H locs cells slots mc ms g rest Qa XC free := fun T hT X => Or.inl (h T hT X)
theorem J.callI (hd : decode Y.cc pc = .ok (.invokespecial idx, 3)) (hl : Cond.methodLink Y.y.cls idx Z.y ∈ lw_tbl) (hZ : Mok Z na) (hV : Cond.instanceMethod Z.y ∈ lw_tbl) (hi : Z.y.name = "<init>") (hr : Z.ret = none) (hh : Z.hh = []) (hC : Ct ω l Z d (.ref a :: As) μ k' n' Post') (hx : ∀ i ν, ¬ Post' (.inr i) ν)
    (hna : As.length = na) {sti : List Value} (hst : sti = As.reverse ++ .ref a :: st) (h8 : (st.map fun v => v.category).sum ≤ 8) (hk2 : k' + k2 ≤ k) (hn2 : n' + n2 ≤ n)
    (kr : ∀ (v : Option Value) (ν : Mem), Post' (.inl v) ν → J ω l Y (d + 1) (pc + 3) lv (v.toList ++ st) ν k2 n2 Post) : J ω l Y (d + 1) pc lv sti μ k n Post := by
  refine J.behind (Post' := Post') (fun p e R s m args below meth c H locs cells slots mc ms ls F hw hS hlv hk9 hn9 => ⟨((Value.ref a :: As).map (vm ω)).toArray, ?_⟩) hk2 hn2 kr (fun i ν h => absurd h (hx i ν))
  have hmc := F.2.2.2.2.2.2.2.2.2.2.2.2.2
  have hB := callB9 (k' := k') (n' := n') args F hZ hh hl
  rw [hr] at hB
  exact run_of _ (va_runI (Ts := []) (b := ad ω a) (As := As.map (vm ω)) ⟨F.2.2.2.1, F.2.2.2.2.1, F.2.2.2.2.2.1, F.2.2.2.2.2.2.2.2.1, fun w h => nomatch h⟩ (hC.met hx) ⟨hB, hi, F.w hV rfl⟩
    ⟨CPc.blind, fun U hU hW => callPc F hw hS U hU hW (.ref a :: As)⟩ rfl (by rw [List.length_map]; exact hna) hlv.1
    (by rw [hst, List.map_append, List.map_cons, List.map_reverse]; rfl) (by rw [vm_cats]; exact Nat.le_trans (Nat.le_of_eq (by simp [JFrame.monitorRoom])) h8) hd ⟨by omega, by omega⟩)
theorem callN9 {p : Program} {R : Room} {s : State} {m : MethodId} {meth : Method} {c : Code} {mc ms : Nat} {host : String} (args : Array Value) (F : Fix ω l Y (d + 1) p R s m meth c mc ms) (hZ : Mok Z na) (hh : Z.hh = []) (hl : Cond.methodLinkNest Y.y.cls idx Z.y host ∈ lw_tbl) :
    va_CN R s args Y.y.cls idx Z.y host Z.cc Z.nL Z.ret [cdw Z] (rmOf d k' n') k' n' na := by
  have hc : cdw Z = .code Z.y Z.cc Z.nL Z.ret := by unfold cdw; rw [hh]
  have h1 : d + 1 ≤ R.frames := F.2.2.2.2.2.2.2.2.2.2.2.1
  have h2 : 64 * (d + 1) ≤ R.locals := F.2.2.2.2.2.2.2.2.2.2.2.2.1
  have h3 : Z.nL ≤ 45 := hZ.2.2.2.2.2
  refine ⟨⟨rfl, rfl, h1, ?_, fun w hw a' U hW => ?_, by rw [hc]; exact List.mem_cons_self⟩, by rw [← hc]; exact F.w hZ.1 (cdw_good Z), F.w hZ.2.1 rfl, ⟨hZ.2.2.1, hZ.2.2.2.1⟩, hZ.len, va_Nw.use rfl (va_Nw.warmM F.2.1.1 (va_Nw.of rfl (F.1.1 _ hl)))⟩
  · show 8 + (Z.nL + 11) + 64 * d ≤ R.locals
    omega
  · rw [List.mem_singleton] at hw
    subst hw
    exact word_at (State.WarmedH.trans F.2.1.1 hW) (good_of_word (cdw_good Z)) (F.1.1 _ hZ.1)
theorem J.callSN {host : String} (hd : decode Y.cc pc = .ok (.invokestatic idx, 3)) (hl : Cond.methodLinkNest Y.y.cls idx Z.y host ∈ lw_tbl) (hZ : Mok Z na) (hV : Cond.static Z.y ∈ lw_tbl) (hh : Z.hh = []) (hC : Ct ω l Z d As μ k' n' Post') (hx : ∀ i ν, ¬ Post' (.inr i) ν)
    (hna : As.length = na) {sti : List Value} (hst : sti = As.reverse ++ st) (h8 : (st.map fun v => v.category).sum ≤ 8) (hk2 : k' + k2 ≤ k) (hn2 : n' + n2 ≤ n)
    (kr : ∀ (v : Option Value) (ν : Mem), Post' (.inl v) ν → J ω l Y (d + 1) (pc + 3) lv (v.toList ++ st) ν k2 n2 Post) : J ω l Y (d + 1) pc lv sti μ k n Post := by
  refine J.behind (Post' := Post') (fun p e R s m args below meth c H locs cells slots mc ms ls F hw hS hlv hk9 hn9 => ⟨(As.map (vm ω)).toArray, ?_⟩) hk2 hn2 kr (fun i ν h => absurd h (hx i ν))
  have hmc := F.2.2.2.2.2.2.2.2.2.2.2.2.2
  exact run_of _ (va_runSN (Ts := []) (As := As.map (vm ω)) ⟨F.2.2.2.1, F.2.2.2.2.1, F.2.2.2.2.2.1, F.2.2.2.2.2.2.2.2.1, fun w h => nomatch h⟩ (hC.met hx) ⟨callN9 args F hZ hh hl, F.w hV rfl, trivial⟩
    ⟨CPc.blind, fun U hU hW => callPc F hw hS U hU hW As⟩ rfl (by rw [List.length_map]; exact hna) hlv.1
    (by rw [hst, List.map_append, List.map_reverse]) (by rw [vm_cats]; exact Nat.le_trans (Nat.le_of_eq (by simp [JFrame.monitorRoom])) h8) hd ⟨by omega, by omega⟩)
theorem J.callIN {host : String} (hd : decode Y.cc pc = .ok (.invokespecial idx, 3)) (hl : Cond.methodLinkNest Y.y.cls idx Z.y host ∈ lw_tbl) (hZ : Mok Z na) (hV : Cond.instanceMethod Z.y ∈ lw_tbl) (hi : Z.y.name = "<init>") (hr : Z.ret = none) (hh : Z.hh = []) (hC : Ct ω l Z d (.ref a :: As) μ k' n' Post') (hx : ∀ i ν, ¬ Post' (.inr i) ν)
    (hna : As.length = na) {sti : List Value} (hst : sti = As.reverse ++ .ref a :: st) (h8 : (st.map fun v => v.category).sum ≤ 8) (hk2 : k' + k2 ≤ k) (hn2 : n' + n2 ≤ n)
    (kr : ∀ (v : Option Value) (ν : Mem), Post' (.inl v) ν → J ω l Y (d + 1) (pc + 3) lv (v.toList ++ st) ν k2 n2 Post) : J ω l Y (d + 1) pc lv sti μ k n Post := by
  refine J.behind (Post' := Post') (fun p e R s m args below meth c H locs cells slots mc ms ls F hw hS hlv hk9 hn9 => ⟨((Value.ref a :: As).map (vm ω)).toArray, ?_⟩) hk2 hn2 kr (fun i ν h => absurd h (hx i ν))
  have hmc := F.2.2.2.2.2.2.2.2.2.2.2.2.2
  have hB := callN9 (k' := k') (n' := n') args F hZ hh hl
  rw [hr] at hB
  exact run_of _ (va_runIN (Ts := []) (b := ad ω a) (As := As.map (vm ω)) ⟨F.2.2.2.1, F.2.2.2.2.1, F.2.2.2.2.2.1, F.2.2.2.2.2.2.2.2.1, fun w h => nomatch h⟩ (hC.met hx) ⟨hB, hi, F.w hV rfl⟩
    ⟨CPc.blind, fun U hU hW => callPc F hw hS U hU hW (.ref a :: As)⟩ rfl (by rw [List.length_map]; exact hna) hlv.1
    (by rw [hst, List.map_append, List.map_cons, List.map_reverse]; rfl) (by rw [vm_cats]; exact Nat.le_trans (Nat.le_of_eq (by simp [JFrame.monitorRoom])) h8) hd ⟨by omega, by omega⟩)
end Calls10
