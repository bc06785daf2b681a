/-! RULES of J: stores to fields, arrays, ends of methods -/
theorem fvs_set {ω : Wd} {μ ν : Mem} {a c f : Nat} {v : Value} (hf : f < nfOf c) (hv : fval ω ν a c f = v) (ho : ∀ j, j ≠ f → fval ω ν a c j = fval ω μ a c j) : (fvs ω μ a c).set f v = fvs ω ν a c := by
  apply List.ext_getElem?
  intro i
  rw [List.getElem?_set]
  by_cases e : f = i
  · subst e
    rw [if_pos rfl, fvs_len, if_pos hf, fvs_get ω ν a c hf, hv]
  · rw [if_neg e]
    by_cases hi : i < nfOf c
    · rw [fvs_get ω ν a c hi, fvs_get ω μ a c hi, ho i (fun q => e q.symm)]
    · simp [fvs, hi]
/-- how a field may be stored to: not final, or final and in its own class's <init> -/
def mayPut (Y : Mt) (c f : Nat) : Bool := match clss[c]? with
  | some q => !(q.2.1 f).2.2.2 || (Y.y.name == "<init>" && (q.2.1 f).1 == Y.y.cls)
  | none => false
theorem mayPut_ok {Y : Mt} {c f : Nat} (h : mayPut Y c f = true) (q : vw_C) (hq : clss[c]? = some q) : (q.2.1 f).2.2.2 = false ∨ ((q.2.1 f).2.2.2 = true ∧ Y.y.name = "<init>" ∧ (q.2.1 f).1 = Y.y.cls) := by
  unfold mayPut at h
  rw [hq] at h
  simp at h
  rcases h with h | h
  · exact Or.inl h
  · by_cases g : (q.2.1 f).2.2.2 = true
    · exact Or.inr ⟨g, h.1, h.2⟩
    · exact Or.inl (by simpa using g)
section ArrRules
variable {ω : Wd} {l : Launch} {Y : Mt} {d pc : Nat} {lv : List (Nat × Value)} {st : List Value} {μ : Mem} {k n : Nat} {Post : Oa → Mem → Prop}
theorem J.putI {a c f idx : Nat} {x : Int32} (hd : decode Y.cc pc = .ok (.putfield idx, 3)) (hf : FLink Y.y.cls idx c f) (hk : (kd a).1 = 10 + c) (ha : a < μ.1) (ha' : a < 10000) (hp : mayPut Y c f = true) (ht : tyOf c f = .int)
    (kk : J ω l Y d (pc + 3) lv st (sI μ a f x) k n Post) : J ω l Y d pc lv (.int x :: .ref a :: st) μ k n Post := by
  refine J.putV (v := .int x) (ν := sI μ a f x) hd hf hk ha ha' (mayPut_ok hp) (by rw [ht]; rfl) (by rw [ht]; rfl) rfl (fun b hb => cellE_I ω μ f x hb) (fvs_set hf.1 ?_ ?_) kk
  · rw [fval_I ω _ (Or.inl (by rw [ht]; rfl))]
    show Value.int (upd2 μ.2.1 a f x a f) = _
    rw [upd2_s]; rfl
  · intro j hj
    unfold fval
    have e : (sI μ a f x).2.1 a j = μ.2.1 a j := upd2_k _ _ _ hj
    rw [e]; rfl
theorem J.putZ {a c f idx : Nat} {x : Int32} (hd : decode Y.cc pc = .ok (.putfield idx, 3)) (hf : FLink Y.y.cls idx c f) (hk : (kd a).1 = 10 + c) (ha : a < μ.1) (ha' : a < 10000) (hp : mayPut Y c f = true) (ht : tyOf c f = .boolean) (hx : x = 0 ∨ x = 1)
    (kk : J ω l Y d (pc + 3) lv st (sI μ a f x) k n Post) : J ω l Y d pc lv (.int x :: .ref a :: st) μ k n Post := by
  refine J.putV (v := .int x) (ν := sI μ a f x) hd hf hk ha ha' (mayPut_ok hp) (by rw [ht]; show narrow .boolean (.int x) = .int x; rcases hx with rfl | rfl <;> decide +kernel) (by rw [ht]; show fits .boolean (.int x) = true; rcases hx with rfl | rfl <;> decide +kernel) rfl (fun b hb => cellE_I ω μ f x hb) (fvs_set hf.1 ?_ ?_) kk
  · rw [fval_I ω _ (Or.inr (by rw [ht]; rfl))]
    show Value.int (upd2 μ.2.1 a f x a f) = _
    rw [upd2_s]; rfl
  · intro j hj
    unfold fval
    have e : (sI μ a f x).2.1 a j = μ.2.1 a j := upd2_k _ _ _ hj
    rw [e]; rfl
theorem J.putL {a c f idx : Nat} {x : Int64} (hd : decode Y.cc pc = .ok (.putfield idx, 3)) (hf : FLink Y.y.cls idx c f) (hk : (kd a).1 = 10 + c) (ha : a < μ.1) (ha' : a < 10000) (hp : mayPut Y c f = true) (ht : tyOf c f = .long)
    (kk : J ω l Y d (pc + 3) lv st (sL μ a f x) k n Post) : J ω l Y d pc lv (.long x :: .ref a :: st) μ k n Post := by
  refine J.putV (v := .long x) (ν := sL μ a f x) hd hf hk ha ha' (mayPut_ok hp) (by rw [ht]; rfl) (by rw [ht]; rfl) rfl (fun b hb => cellE_L ω μ f x hb) (fvs_set hf.1 ?_ ?_) kk
  · rw [fval_L ω _ (by rw [ht]; rfl)]
    show Value.long (upd2 μ.2.2.1 a f x a f) = _
    rw [upd2_s]; rfl
  · intro j hj
    unfold fval
    have e : (sL μ a f x).2.2.1 a j = μ.2.2.1 a j := upd2_k _ _ _ hj
    rw [e]; rfl
/-- a field of a reference's type -/
def refTy : FieldType → Bool
  | .object _ => true
  | .array _ => true
  | _ => false
theorem J.putR {a c f idx x : Nat} (hd : decode Y.cc pc = .ok (.putfield idx, 3)) (hf : FLink Y.y.cls idx c f) (hk : (kd a).1 = 10 + c) (ha : a < μ.1) (ha' : a < 10000) (hp : mayPut Y c f = true) (ht : refTy (tyOf c f) = true)
    (kk : J ω l Y d (pc + 3) lv st (sR μ a f (some x)) k n Post) : J ω l Y d pc lv (.ref x :: .ref a :: st) μ k n Post := by
  have ht2 : fkOf (tyOf c f) = 2 := by
    revert ht; generalize tyOf c f = ty; intro ht; cases ty <;> first | rfl | (simp [refTy] at ht)
  refine J.putV (v := .ref x) (ν := sR μ a f (some x)) hd hf hk ha ha' (mayPut_ok hp) ?_ ?_ rfl (fun b hb => cellE_R ω μ f (some x) hb) (fvs_set hf.1 ?_ ?_) kk
  · revert ht; generalize tyOf c f = ty; intro ht; cases ty <;> first | rfl | (simp [refTy] at ht)
  · revert ht; generalize tyOf c f = ty; intro ht; cases ty <;> first | rfl | (simp [refTy] at ht)
  · rw [fval_R ω _ ht2]
    show va_rf ((upd2 μ.2.2.2 a f (some x) a f).map (ad ω)) = _
    rw [upd2_s]; rfl
  · intro j hj
    unfold fval
    have e : (sR μ a f (some x)).2.2.2 a j = μ.2.2.2 a j := upd2_k _ _ _ hj
    rw [e]; rfl
/-! arrays -/
theorem J.iald {a : Nat} {i : Int32} (hd : decode Y.cc pc = .ok (.iaload, 1)) (hk : (kd a).1 = 0) (ha : a < μ.1) (ha' : a < 10000) (hin : vp_in i (kd a).2)
    (kk : J ω l Y d (pc + 1) lv (.int (μ.2.1 a i.toNatClampNeg) :: st) μ k n Post) : J ω l Y d pc lv (.int i :: .ref a :: st) μ k n Post := by
  intro p e R s m args below meth c9 H locs cells slots mc ms ls F hw hS hl hk9 hn9
  have he := wcs_get ω μ ha
  have e0 : cellE ω μ a = .inl (ω.arr 0, (kd a).2, .inl (μ.2.1 a)) := by unfold cellE; rw [kd_pair hk]; rfl
  rw [e0, ← ad_new ω ha'] at he
  exact va_iald F.2.2.2.1 F.2.2.2.2.1 F.K hw.1 a 0 he rfl hin hd (kk p e R s m args below meth c9 H locs cells slots mc ms ls F hw hS hl hk9 hn9)
theorem J.lald {a : Nat} {i : Int32} (hd : decode Y.cc pc = .ok (.laload, 1)) (hk : (kd a).1 = 1) (ha : a < μ.1) (ha' : a < 10000) (hin : vp_in i (kd a).2)
    (kk : J ω l Y d (pc + 1) lv (.long (μ.2.2.1 a i.toNatClampNeg) :: st) μ k n Post) : J ω l Y d pc lv (.int i :: .ref a :: st) μ k n Post := by
  intro p e R s m args below meth c9 H locs cells slots mc ms ls F hw hS hl hk9 hn9
  have he := wcs_get ω μ ha
  have e0 : cellE ω μ a = .inl (ω.arr 1, (kd a).2, .inr (.inl (μ.2.2.1 a))) := by unfold cellE; rw [kd_pair hk]; rfl
  rw [e0, ← ad_new ω ha'] at he
  exact va_lald F.2.2.2.1 F.2.2.2.2.1 F.K hw.1 a 1 he rfl hin hd (kk p e R s m args below meth c9 H locs cells slots mc ms ls F hw hS hl hk9 hn9)
theorem J.zald {a : Nat} {i : Int32} (hd : decode Y.cc pc = .ok (.baload, 1)) (hk : (kd a).1 = 2) (ha : a < μ.1) (ha' : a < 10000) (hin : vp_in i (kd a).2)
    (kk : J ω l Y d (pc + 1) lv (.int (μ.2.1 a i.toNatClampNeg) :: st) μ k n Post) : J ω l Y d pc lv (.int i :: .ref a :: st) μ k n Post := by
  intro p e R s m args below meth c9 H locs cells slots mc ms ls F hw hS hl hk9 hn9
  have he := wcs_get ω μ ha
  have e0 : cellE ω μ a = .inl (ω.arr 2, (kd a).2, .inl (μ.2.1 a)) := by unfold cellE; rw [kd_pair hk]; rfl
  rw [e0, ← ad_new ω ha'] at he
  exact va_zald F.2.2.2.1 F.2.2.2.2.1 F.K hw.1 a 2 he rfl hin hd (kk p e R s m args below meth c9 H locs cells slots mc ms ls F hw hS hl hk9 hn9)
theorem J.aald {a x : Nat} {i : Int32} (hd : decode Y.cc pc = .ok (.aaload, 1)) (hk : (kd a).1 = 3 ∨ (kd a).1 = 4) (ha : a < μ.1) (ha' : a < 10000) (hin : vp_in i (kd a).2) (hx : μ.2.2.2 a i.toNatClampNeg = some x)
    (kk : J ω l Y d (pc + 1) lv (.ref x :: st) μ k n Post) : J ω l Y d pc lv (.int i :: .ref a :: st) μ k n Post := by
  intro p e R s m args below meth c9 H locs cells slots mc ms ls F hw hS hl hk9 hn9
  have he := wcs_get ω μ ha
  have hlt : i.toNatClampNeg < (kd a).2 := Nat.not_le.mp fun q => hin (Or.inr q)
  rcases hk with hk | hk
  · have e0 : cellE ω μ a = .inl (ω.arr 3, (kd a).2, .inr (.inr (.inr (.inr (fun j => (μ.2.2.2 a j).map (ad ω)))))) := by unfold cellE; rw [kd_pair hk]; rfl
    rw [e0, ← ad_new ω ha'] at he
    exact W.aald (v := .ref (ad ω x)) (ty := .array .int) F.2.2.2.1 F.2.2.2.2.1 (hw.1 a _ he) ((F.K.2 3 _ rfl).1 (kd a).2 (fun j => va_rf ((μ.2.2.2 a j).map (ad ω)))) rfl (fun q => by cases q) (by show ¬ (i < 0 ∨ (arrV _ _ _).slots.size ≤ _); rw [arrV_size]; exact hin)
      (by show (arrV _ _ _).slots[_]? = _; rw [arrV_read _ _ hlt]; show some (va_rf ((μ.2.2.2 a i.toNatClampNeg).map (ad ω))) = _; rw [hx]; rfl) rfl rfl hd (kk p e R s m args below meth c9 H locs cells slots mc ms ls F hw hS hl hk9 hn9)
  · have e0 : cellE ω μ a = .inl (ω.arr 4, (kd a).2, .inr (.inr (.inr (.inr (fun j => (μ.2.2.2 a j).map (ad ω)))))) := by unfold cellE; rw [kd_pair hk]; rfl
    rw [e0, ← ad_new ω ha'] at he
    exact W.aald (v := .ref (ad ω x)) (ty := .object RX9) F.2.2.2.1 F.2.2.2.2.1 (hw.1 a _ he) ((F.K.2 4 _ rfl).1 (kd a).2 (fun j => va_rf ((μ.2.2.2 a j).map (ad ω)))) rfl (fun q => by cases q) (by show ¬ (i < 0 ∨ (arrV _ _ _).slots.size ≤ _); rw [arrV_size]; exact hin)
      (by show (arrV _ _ _).slots[_]? = _; rw [arrV_read _ _ hlt]; show some (va_rf ((μ.2.2.2 a i.toNatClampNeg).map (ad ω))) = _; rw [hx]; rfl) rfl rfl hd (kk p e R s m args below meth c9 H locs cells slots mc ms ls F hw hS hl hk9 hn9)
theorem J.alen {a : Nat} {v : Int32} (hd : decode Y.cc pc = .ok (.arraylength, 1)) (hk : (kd a).1 = 0) (ha : a < μ.1) (ha' : a < 10000) (hv : Int32.ofNat (kd a).2 = v)
    (kk : J ω l Y d (pc + 1) lv (.int v :: st) μ k n Post) : J ω l Y d pc lv (.ref a :: st) μ k n Post := by
  intro p e R s m args below meth c9 H locs cells slots mc ms ls F hw hS hl hk9 hn9
  have he := wcs_get ω μ ha
  have e0 : cellE ω μ a = .inl (ω.arr 0, (kd a).2, .inl (μ.2.1 a)) := by unfold cellE; rw [kd_pair hk]; rfl
  rw [e0, ← ad_new ω ha'] at he
  exact va_alen F.2.2.2.1 F.2.2.2.2.1 F.K hw.1 a 0 he rfl hv hd (kk p e R s m args below meth c9 H locs cells slots mc ms ls F hw hS hl hk9 hn9)
/-- the world behind a store to an array's cell -/
theorem HW.store {ν : Mem} {a : Nat} {E : va_E} {H H1 : Heap} (hw : HW ω μ H) (h1 : ν.1 = μ.1) (ha : a < μ.1) (ho : ∀ b, b ≠ a → cellE ω ν b = cellE ω μ b) (hE : cellE ω ν a = E) (hat : va_at ω.D clss (ω.s0.heap.size + a, E) H1) (z : H1.size = H.size) (oq : ∀ q : Nat, q ≠ ω.s0.heap.size + a → H1[q]? = H[q]?) : HW ω ν H1 := by
  refine ⟨?_, fun hN => by rw [z, h1]; exact hw.2.1 (by rw [← h1]; exact hN), by rw [z, h1]; exact hw.2.2⟩
  rw [← wcs_set ω μ ν h1 ha ho, hE]
  exact hw.1.set (wcs_D ω μ) (wcs_get ω μ ha) hat oq
theorem J.iast {a : Nat} {i x : Int32} (hd : decode Y.cc pc = .ok (.iastore, 1)) (hk : (kd a).1 = 0) (ha : a < μ.1) (ha' : a < 10000) (hin : vp_in i (kd a).2)
    (kk : J ω l Y d (pc + 1) lv st (sI μ a i.toNatClampNeg x) k n Post) : J ω l Y d pc lv (.int x :: .int i :: .ref a :: st) μ k n Post := by
  intro p e R s m args below meth c9 H locs cells slots mc ms ls F hw hS hl hk9 hn9
  have he := wcs_get ω μ ha
  have e0 : ∀ μ : Mem, cellE ω μ a = .inl (ω.arr 0, (kd a).2, .inl (μ.2.1 a)) := fun μ => by unfold cellE; rw [kd_pair hk]; rfl
  rw [e0, ← ad_new ω ha'] at he
  refine W.iast F.2.2.2.1 F.2.2.2.2.1 (hw.1 a _ he) ((F.K.2 0 _ rfl).1 (kd a).2 (fun j => .int (μ.2.1 a j))) (fun q => by cases q) (by show ¬ (i < 0 ∨ (arrV _ _ _).slots.size ≤ _); rw [arrV_size]; exact hin) rfl rfl hd fun H1 e1 z oq => ?_
  rw [ad_new ω ha'] at oq
  refine kk p e R s m args below meth c9 H1 _ cells slots mc ms ls F (hw.store (ν := sI μ a i.toNatClampNeg x) rfl ha (fun b hb => cellE_I ω μ _ x hb) (e0 _) ?_ z oq) (hS.put z (by rw [ad_new ω ha']; exact oq) (by rw [ad_new ω ha']; exact Nat.le_add_right _ _)) hl hk9 hn9
  show H1[ω.s0.heap.size + a]? = some (vp_cell _ _)
  rw [← ad_new ω ha', e1, vp_cell_i, vp_cell_i, arrV_store]
  congr 2
  funext j
  show updV _ _ _ _ = Value.int (upd2 μ.2.1 a i.toNatClampNeg x a j)
  unfold updV upd2
  by_cases hj : j = i.toNatClampNeg <;> simp [hj]
theorem J.last {a : Nat} {i : Int32} {x : Int64} (hd : decode Y.cc pc = .ok (.lastore, 1)) (hk : (kd a).1 = 1) (ha : a < μ.1) (ha' : a < 10000) (hin : vp_in i (kd a).2)
    (kk : J ω l Y d (pc + 1) lv st (sL μ a i.toNatClampNeg x) k n Post) : J ω l Y d pc lv (.long x :: .int i :: .ref a :: st) μ k n Post := by
  intro p e R s m args below meth c9 H locs cells slots mc ms ls F hw hS hl hk9 hn9
  have he := wcs_get ω μ ha
  have e0 : ∀ μ : Mem, cellE ω μ a = .inl (ω.arr 1, (kd a).2, .inr (.inl (μ.2.2.1 a))) := fun μ => by unfold cellE; rw [kd_pair hk]; rfl
  rw [e0, ← ad_new ω ha'] at he
  refine W.last F.2.2.2.1 F.2.2.2.2.1 (hw.1 a _ he) ((F.K.2 1 _ rfl).1 (kd a).2 (fun j => .long (μ.2.2.1 a j))) (fun q => by cases q) (by show ¬ (i < 0 ∨ (arrV _ _ _).slots.size ≤ _); rw [arrV_size]; exact hin) rfl rfl hd fun H1 e1 z oq => ?_
  rw [ad_new ω ha'] at oq
  refine kk p e R s m args below meth c9 H1 _ cells slots mc ms ls F (hw.store (ν := sL μ a i.toNatClampNeg x) rfl ha (fun b hb => cellE_L ω μ _ x hb) (e0 _) ?_ z oq) (hS.put z (by rw [ad_new ω ha']; exact oq) (by rw [ad_new ω ha']; exact Nat.le_add_right _ _)) hl hk9 hn9
  show H1[ω.s0.heap.size + a]? = some (vp_cell _ _)
  rw [← ad_new ω ha', e1, vp_cell_l, vp_cell_l, arrV_store]
  congr 2
  funext j
  show updV _ _ _ _ = Value.long (upd2 μ.2.2.1 a i.toNatClampNeg x a j)
  unfold updV upd2
  by_cases hj : j = i.toNatClampNeg <;> simp [hj]
theorem J.zast {a : Nat} {i x : Int32} (hd : decode Y.cc pc = .ok (.bastore, 1)) (hk : (kd a).1 = 2) (ha : a < μ.1) (ha' : a < 10000) (hin : vp_in i (kd a).2) (hx : x = 0 ∨ x = 1)
    (kk : J ω l Y d (pc + 1) lv st (sI μ a i.toNatClampNeg x) k n Post) : J ω l Y d pc lv (.int x :: .int i :: .ref a :: st) μ k n Post := by
  intro p e R s m args below meth c9 H locs cells slots mc ms ls F hw hS hl hk9 hn9
  have he := wcs_get ω μ ha
  have e0 : ∀ μ : Mem, cellE ω μ a = .inl (ω.arr 2, (kd a).2, .inl (μ.2.1 a)) := fun μ => by unfold cellE; rw [kd_pair hk]; rfl
  rw [e0, ← ad_new ω ha'] at he
  refine W.zast F.2.2.2.1 F.2.2.2.2.1 (hw.1 a _ he) ((F.K.2 2 _ rfl).1 (kd a).2 (fun j => .int (μ.2.1 a j))) (fun q => by cases q) (by show ¬ (i < 0 ∨ (arrV _ _ _).slots.size ≤ _); rw [arrV_size]; exact hin) rfl rfl hd fun H1 e1 z oq => ?_
  rw [ad_new ω ha'] at oq
  refine kk p e R s m args below meth c9 H1 _ cells slots mc ms ls F (hw.store (ν := sI μ a i.toNatClampNeg x) rfl ha (fun b hb => cellE_I ω μ _ x hb) (e0 _) ?_ z oq) (hS.put z (by rw [ad_new ω ha']; exact oq) (by rw [ad_new ω ha']; exact Nat.le_add_right _ _)) hl hk9 hn9
  show H1[ω.s0.heap.size + a]? = some (vp_cell _ _)
  rw [← ad_new ω ha', e1, vp_cell_i, vp_cell_i, arrV_store]
  congr 2
  have hnx : narrow .boolean (.int x) = .int x := by rcases hx with rfl | rfl <;> decide +kernel
  funext j
  show updV _ _ _ _ = Value.int (upd2 μ.2.1 a i.toNatClampNeg x a j)
  unfold updV upd2
  by_cases hj : j = i.toNatClampNeg <;> simp [hj, hnx]
end ArrRules
