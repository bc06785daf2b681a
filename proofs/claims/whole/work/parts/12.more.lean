/-! RULES of J: references in arrays, constants, copies, texts, what is thrown and caught, the script -/
section More12
variable {ω : Wd} {l : Launch} {Y Z : Mt} {d pc : Nat} {lv : List (Nat × Value)} {st As : List Value} {μ : Mem} {k n k' n' k2 n2 idx na : Nat} {Post Post' : Oa → Mem → Prop}
theorem J.aast {a x : Nat} {i : Int32} (hd : decode Y.cc pc = .ok (.aastore, 1)) (hk : (kd a).1 = 4) (ha : a < μ.1) (ha' : a < 10000) (hin : vp_in i (kd a).2) (hx : (kd x).1 = 10 + 9) (hx1 : x < μ.1) (hx2 : x < 10000)
    (kk : J ω l Y d (pc + 1) lv st (sR μ a i.toNatClampNeg (some x)) k n Post) : J ω l Y d pc lv (.ref x :: .int i :: .ref a :: st) μ k n Post := by
  intro p e R s m args below meth c9 H locs cells slots mc ms ls F hw hS hl hk9 hn9
  have he := wcs_get ω μ ha
  have e0 : ∀ μ : Mem, cellE ω μ a = .inl (ω.arr 4, (kd a).2, .inr (.inr (.inr (.inr (fun j => (μ.2.2.2 a j).map (ad ω)))))) := fun μ => by unfold cellE; rw [kd_pair hk]; rfl
  rw [e0, ← ad_new ω ha'] at he
  have hv := wcs_get ω μ hx1
  rw [cellE_obj ω μ hx, ← ad_new ω hx2] at hv
  have hlt : i.toNatClampNeg < (kd a).2 := Nat.not_le.mp fun q => hin (Or.inr q)
  have h0 : ¬ i < 0 := fun q => hin (Or.inl q)
  obtain ⟨r', hr', cellV, g1, g2, g3, -⟩ := hw.1 x _ hv
  have hcls := (F.K.1 9 (RX9, TX9, 7) rfl).2
  obtain ⟨kA, comp, k1, k2', k3, -⟩ := (F.K.2 4 _ rfl).2
  have hcomp : comp = ω.D.1 9 := Option.some.inj (k3.symm.trans hcls.1)
  subst hcomp
  obtain ⟨kC, hkC, -⟩ := hcls.2
  refine W.aast F.2.2.2.1 F.2.2.2.2.1 (hw.1 a _ he) (fun q h => by cases h) (fun h => by cases h) k1 k2' rfl hkC ⟨h0, by show _ < (arrV _ _ _).slots.size; rw [arrV_size]; exact hlt⟩ g1 (fun q h => by rw [g3] at h; cases h) (by rw [g2]; exact hkC) (by rw [g2]; exact va_assign hcls) rfl rfl hd fun H1 e1 z oq => ?_
  rw [ad_new ω ha'] at oq
  refine kk p e R s m args below meth c9 H1 _ cells slots mc ms ls F (hw.store (ν := sR μ a i.toNatClampNeg (some x)) rfl ha (fun b hb => cellE_R ω μ _ (some x) hb) (e0 _) ?_ z oq) (hS.put z (by rw [ad_new ω ha']; exact oq) (by rw [ad_new ω ha']; exact Nat.le_add_right _ _)) hl hk9 hn9
  show H1[ω.s0.heap.size + a]? = some (vp_cell _ _)
  rw [← ad_new ω ha', e1, vp_cell_q, vp_cell_q, arrV_store]
  congr 2
  funext j
  show updV _ _ _ _ = va_rf ((upd2 μ.2.2.2 a i.toNatClampNeg (some x) a j).map (ad ω))
  unfold updV upd2
  by_cases hj : j = i.toNatClampNeg <;> simp [hj, va_rf]
theorem J.objInit {a : Nat} (hd : decode Y.cc pc = .ok (.invokespecial idx, 3)) (hl : Cond.methodLink Y.y.cls idx objectInit ∈ lw_tbl) (hw1 : Cond.instanceMethod objectInit ∈ lw_tbl) (hw2 : Cond.code objectInit ⟨#[0xb1]⟩ 1 none ∈ lw_tbl) (h8 : (st.map fun v => v.category).sum ≤ 8)
    (kk : J ω l Y (d + 1) (pc + 3) lv st μ k n Post) : J ω l Y (d + 1) pc lv (.ref a :: st) μ k n Post := by
  intro p e R s m args below meth c9 H locs cells slots mc ms ls F hw hS hlv hk9 hn9
  have h1 : d + 1 ≤ R.frames := F.2.2.2.2.2.2.2.2.2.2.2.1
  have h2 : 64 * (d + 1) ≤ R.locals := F.2.2.2.2.2.2.2.2.2.2.2.2.1
  refine W.objInit F.2.2.2.1 F.2.2.2.2.1 F.2.2.2.2.2.2.2.2.1 (F.w hl rfl) (F.w hw1 rfl) (F.w hw2 rfl) rfl (hlv.1.trans F.2.2.2.2.2.1.symm) rfl hd (by omega) ?_ (kk p e R s m args below meth c9 H locs cells slots mc ms ls F hw hS hlv hk9 hn9)
  rw [vm_cats]
  simp [JFrame.monitorRoom]
  omega
theorem J.ldc2 {v : Int64} (hd : decode Y.cc pc = .ok (.ldc2_w idx, 3)) (hw0 : Cond.constantLong Y.y.cls idx v ∈ lw_tbl) (kk : J ω l Y d (pc + 3) lv (.long v :: st) μ k n Post) : J ω l Y d pc lv st μ k n Post := by
  intro p e R s m args below meth c9 H locs cells slots mc ms ls F hw hS hl hk9 hn9
  exact lv_ldc2 F.2.2.2.1 F.2.2.2.2.1 F.2.2.2.2.2.2.2.2.1 (F.w hw0 rfl) hd (kk p e R s m args below meth c9 H locs cells slots mc ms ls F hw hS hl hk9 hn9)
theorem J.ldc {v : Int32} (hd : decode Y.cc pc = .ok (.ldc idx, 2)) (hw0 : Cond.constant Y.y.cls idx v ∈ lw_tbl) (kk : J ω l Y d (pc + 2) lv (.int v :: st) μ k n Post) : J ω l Y d pc lv st μ k n Post := by
  intro p e R s m args below meth c9 H locs cells slots mc ms ls F hw hS hl hk9 hn9
  exact lv_ldc F.2.2.2.1 F.2.2.2.2.1 F.2.2.2.2.2.2.2.2.1 (F.w hw0 rfl) hd (kk p e R s m args below meth c9 H locs cells slots mc ms ls F hw hS hl hk9 hn9)
theorem J.ldcw {v : Int32} (hd : decode Y.cc pc = .ok (.ldc_w idx, 3)) (hw0 : Cond.constant Y.y.cls idx v ∈ lw_tbl) (kk : J ω l Y d (pc + 3) lv (.int v :: st) μ k n Post) : J ω l Y d pc lv st μ k n Post := by
  intro p e R s m args below meth c9 H locs cells slots mc ms ls F hw hS hl hk9 hn9
  exact lv_ldcw F.2.2.2.1 F.2.2.2.2.1 F.2.2.2.2.2.2.2.2.1 (F.w hw0 rfl) hd (kk p e R s m args below meth c9 H locs cells slots mc ms ls F hw hS hl hk9 hn9)
theorem ad_str (ω : Wd) {i : Nat} (h : i < 10000) : ad ω (10000 + i) = ω.sA i := by
  unfold ad
  rw [if_neg (by omega), if_pos (by omega), Nat.add_sub_cancel_left]
theorem ad_byt (ω : Wd) {i : Nat} (h : i < 10000) : ad ω (20000 + i) = ω.vA i := by
  unfold ad
  rw [if_neg (by omega), if_neg (by omega), if_pos (by omega), Nat.add_sub_cancel_left]
theorem strs_lt {i : Nat} {q : String × Nat × String} (h : strs[i]? = some q) : i < 15 := (List.getElem?_eq_some_iff.mp h).1
/-- a text: its number -/
theorem J.ldcS {i : Nat} {tx : String} (hd : decode Y.cc pc = .ok (.ldc idx, 2)) (hi : strs[i]? = some (Y.y.cls, idx, tx)) (kk : J ω l Y d (pc + 2) lv (.ref (10000 + i) :: st) μ k n Post) : J ω l Y d pc lv st μ k n Post := by
  intro p e R s m args below meth c9 H locs cells slots mc ms ls F hw hS hl hk9 hn9
  have := kk p e R s m args below meth c9 H locs cells slots mc ms ls F hw hS hl hk9 hn9
  rw [List.map_cons, show vm ω (.ref (10000 + i)) = .ref (ω.sA i) from congrArg Value.ref (ad_str ω (by have := strs_lt hi; omega))] at this
  exact va_ldcS F.2.2.2.1 F.2.2.2.2.1 F.2.2.2.2.2.2.2.2.1 (F.T hi) hd this
theorem J.strV {i : Nat} (hd : decode Y.cc pc = .ok (.getfield idx, 3)) (hl : Cond.fieldLink Y.y.cls idx "java/lang/String" "value" "[B" ∈ lw_tbl) (hi : i < 15) (kk : J ω l Y d (pc + 3) lv (.ref (20000 + i) :: st) μ k n Post) : J ω l Y d pc lv (.ref (10000 + i) :: st) μ k n Post := by
  intro p e R s m args below meth c9 H locs cells slots mc ms ls F hw hS hlv hk9 hn9
  have := kk p e R s m args below meth c9 H locs cells slots mc ms ls F hw hS hlv hk9 hn9
  rw [List.map_cons, show vm ω (.ref (20000 + i)) = .ref (ω.vA i) from congrArg Value.ref (ad_byt ω (by omega))] at this
  rw [List.map_cons, show vm ω (.ref (10000 + i)) = .ref (ω.sA i) from congrArg Value.ref (ad_str ω (by omega))]
  exact vk_getf F.2.2.2.1 F.2.2.2.2.1 (F.S.1 i hi).2.2.1 hS F.2.2.2.2.2.2.2.2.1 (F.w hl rfl) (fun _ h => h) hd this
theorem J.strC {i : Nat} (hd : decode Y.cc pc = .ok (.getfield idx, 3)) (hl : Cond.fieldLink Y.y.cls idx "java/lang/String" "coder" "B" ∈ lw_tbl) (hi : i < 15) (kk : J ω l Y d (pc + 3) lv (.int 0 :: st) μ k n Post) : J ω l Y d pc lv (.ref (10000 + i) :: st) μ k n Post := by
  intro p e R s m args below meth c9 H locs cells slots mc ms ls F hw hS hlv hk9 hn9
  rw [List.map_cons, show vm ω (.ref (10000 + i)) = .ref (ω.sA i) from congrArg Value.ref (ad_str ω (by omega))]
  exact vk_getf F.2.2.2.1 F.2.2.2.2.1 (F.S.1 i hi).2.1 hS F.2.2.2.2.2.2.2.2.1 (F.w hl rfl) (fun _ h => h) hd (kk p e R s m args below meth c9 H locs cells slots mc ms ls F hw hS hlv hk9 hn9)
theorem J.bald {i : Nat} {x : Int32} (hd : decode Y.cc pc = .ok (.baload, 1)) (hi : i < 15) (hin : vp_in x (slen.getD i 0)) (kk : J ω l Y d (pc + 1) lv (.int ((sbyt.getD i []).getD x.toNatClampNeg 0) :: st) μ k n Post) : J ω l Y d pc lv (.int x :: .ref (20000 + i) :: st) μ k n Post := by
  intro p e R s m args below meth c9 H locs cells slots mc ms ls F hw hS hlv hk9 hn9
  rw [List.map_cons, List.map_cons, show vm ω (.ref (20000 + i)) = .ref (ω.vA i) from congrArg Value.ref (ad_byt ω (by omega))]
  exact va_tb F.2.2.2.1 F.2.2.2.2.1 (F.S.1 i hi).2.2.2 hS hin rfl hd (kk p e R s m args below meth c9 H locs cells slots mc ms ls F hw hS hlv hk9 hn9)
theorem J.blen {i : Nat} {v : Int32} (hd : decode Y.cc pc = .ok (.arraylength, 1)) (hi : i < 15) (hv : Int32.ofNat (slen.getD i 0) = v) (kk : J ω l Y d (pc + 1) lv (.int v :: st) μ k n Post) : J ω l Y d pc lv (.ref (20000 + i) :: st) μ k n Post := by
  intro p e R s m args below meth c9 H locs cells slots mc ms ls F hw hS hlv hk9 hn9
  rw [List.map_cons, show vm ω (.ref (20000 + i)) = .ref (ω.vA i) from congrArg Value.ref (ad_byt ω (by omega))]
  exact va_tlen F.2.2.2.1 F.2.2.2.2.1 (F.S.1 i hi).2.2.2 hS hv hd (kk p e R s m args below meth c9 H locs cells slots mc ms ls F hw hS hlv hk9 hn9)
theorem J.compact (hd : decode Y.cc pc = .ok (.getstatic idx, 3)) (hl : Cond.fieldLink Y.y.cls idx "java/lang/String" "COMPACT_STRINGS" "Z" ∈ lw_tbl) (kk : J ω l Y d (pc + 3) lv (.int 1 :: st) μ k n Post) : J ω l Y d pc lv st μ k n Post := by
  intro p e R s m args below meth c9 H locs cells slots mc ms ls F hw hS hlv hk9 hn9
  exact va_gets F.2.2.2.1 F.2.2.2.2.1 F.Z hS F.2.2.2.2.2.2.2.2.1 (F.w hl rfl) (fun _ h => h) hd (kk p e R s m args below meth c9 H locs cells slots mc ms ls F hw hS hlv hk9 hn9)
/-- a static reference, whatever it is -/
theorem J.getsQ (hd : decode Y.cc pc = .ok (.getstatic idx, 3)) (hl : Cond.fieldLink Y.y.cls idx "jdk/internal/util/Preconditions" "SIOOBE_FORMATTER" "Ljava/util/function/BiFunction;" ∈ lw_tbl) (kk : ∀ v : Value, (v = .null ∨ ∃ t, v = .ref (50000 + t)) → J ω l Y d (pc + 3) lv (v :: st) μ k n Post) : J ω l Y d pc lv st μ k n Post := by
  intro p e R s m args below meth c9 H locs cells slots mc ms ls F hw hS hlv hk9 hn9
  have hZ : va_Zq "jdk/internal/util/Preconditions" "SIOOBE_FORMATTER" "Ljava/util/function/BiFunction;" (aA ω) s s.heap := va_Zq.kept (va_Zq.moved F.2.1.1.alike F.1.2.2.2.2.2.2.2.2.2.2) (fun a h _ => F.2.1.2.2 a h)
  rcases hZ with hZ | ⟨t, hZ⟩
  · exact va_gets F.2.2.2.1 F.2.2.2.2.1 hZ hS F.2.2.2.2.2.2.2.2.1 (F.w hl rfl) (fun _ h => h) hd (kk .null (Or.inl rfl) p e R s m args below meth c9 H locs cells slots mc ms ls F hw hS hlv hk9 hn9)
  · have := kk (.ref (50000 + t)) (Or.inr ⟨t, rfl⟩) p e R s m args below meth c9 H locs cells slots mc ms ls F hw hS hlv hk9 hn9
    rw [List.map_cons, show vm ω (.ref (50000 + t)) = .ref t from congrArg Value.ref (by unfold ad; rw [if_neg (by omega : ¬ 50000 + t < 10000), if_neg (by omega : ¬ 50000 + t < 20000), if_neg (by omega : ¬ 50000 + t < 30000), if_neg (by omega : ¬ 50000 + t < 40000)]; exact Nat.add_sub_cancel_left 50000 t)] at this
    exact va_gets F.2.2.2.1 F.2.2.2.2.1 hZ hS F.2.2.2.2.2.2.2.2.1 (F.w hl rfl) (fun _ h => h) hd this
/-- a call of a text's own method -/
theorem J.callT {i : Nat} (hd : decode Y.cc pc = .ok (.invokevirtual idx, 3)) (hl : Cond.methodLink Y.y.cls idx Z.y ∈ lw_tbl) (hZ : Mok Z na) (hV : MokV Z) (hcl : Z.y.cls = "java/lang/String") (hh : Z.hh = []) (hi : i < 15) (hC : Ct ω l Z d (.ref (10000 + i) :: As) μ k' n' Post')
    (hna : As.length = na) {sti : List Value} (hst : sti = As.reverse ++ .ref (10000 + i) :: st) (h8 : (st.map fun v => v.category).sum ≤ 8) (hk2 : k' + k2 ≤ k) (hn2 : n' + n2 ≤ n)
    (kr : ∀ (v : Option Value) (ν : Mem), Post' (.inl v) ν → J ω l Y (d + 1) (pc + 3) lv (v.toList ++ st) ν k2 n2 Post) (kx : ∀ (i : Nat) (ν : Mem), Post' (.inr i) ν → JX ω l Y (d + 1) pc lv st ν k2 n2 i Post) : J ω l Y (d + 1) pc lv sti μ k n Post := by
  refine J.behind (fun p e R s m args below meth c H locs cells slots mc ms ls F hw hS hlv hk9 hn9 => ⟨((Value.ref (10000 + i) :: As).map (vm ω)).toArray, ?_⟩) hk2 hn2 kr kx
  have hmc := F.2.2.2.2.2.2.2.2.2.2.2.2.2
  have hr := vk_recv F.S hi hS
  rw [← ad_str ω (by omega)] at hr
  exact vx_runV (Ts := []) (C := Z.y.cls) (b := ad ω (10000 + i)) (As := As.map (vm ω)) ⟨F.2.2.2.1, F.2.2.2.2.1, F.2.2.2.2.2.1, F.2.2.2.2.2.2.2.2.1, fun w h => nomatch h⟩ hC ⟨callB9 args F hZ hh hl, F.w hV.1 rfl, F.w hV.2 rfl⟩
    ⟨CPc.blind, by rw [hcl]; exact hr, fun U hU hW => callPc F hw hS U hU hW (.ref (10000 + i) :: As)⟩ rfl (by rw [List.length_map]; exact hna) hlv.1
    (by rw [hst, List.map_append, List.map_cons, List.map_reverse]; rfl) (by rw [vm_cats]; exact Nat.le_trans (Nat.le_of_eq (by simp [JFrame.monitorRoom])) h8) hd ⟨by omega, by omega⟩
/-- a row of ints in place of another -/
def sC (μ : Mem) (a : Nat) (g : Nat → Int32) : Mem := (μ.1, (fun b j => if b = a then g j else μ.2.1 b j), μ.2.2.1, μ.2.2.2)
theorem J.copy {a0 a : Nat} {sp dp x : Int32} (hd : decode Y.cc pc = .ok (.invokestatic idx, 3)) (hl : Cond.methodLink Y.y.cls idx arraycopyName ∈ lw_tbl) (hw1 : Cond.native arraycopyName ∈ lw_tbl) (hw2 : Cond.static arraycopyName ∈ lw_tbl) (hw3 : Cond.initialized "java/lang/System" ∈ lw_tbl) (hN : μ.1 = NN)
    (hk0 : (kd a0).1 = 0) (ha0 : a0 < μ.1) (hk : (kd a).1 = 0) (ha : a < μ.1) (h1 : ¬ sp < 0) (h2 : ¬ dp < 0) (h3 : ¬ x < 0) (h4 : sp.toNatClampNeg + x.toNatClampNeg ≤ (kd a0).2) (h5 : dp.toNatClampNeg + x.toNatClampNeg ≤ (kd a).2) (h8 : (st.map fun v => v.category).sum ≤ 8)
    (kk : J ω l Y (d + 1) (pc + 3) lv st (sC μ a (va_cpy (μ.2.1 a0) (μ.2.1 a) sp.toNatClampNeg dp.toNatClampNeg x.toNatClampNeg)) k n Post) : J ω l Y (d + 1) pc lv (.int x :: .int dp :: .ref a :: .int sp :: .ref a0 :: st) μ k n Post := by
  intro p e R s m args below meth c9 H locs cells slots mc ms ls F hw hS hlv hk9 hn9
  have f1 : d + 1 ≤ R.frames := F.2.2.2.2.2.2.2.2.2.2.2.1
  have f2 : 64 * (d + 1) ≤ R.locals := F.2.2.2.2.2.2.2.2.2.2.2.2.1
  have e0 : ∀ (μ : Mem) {a : Nat}, (kd a).1 = 0 → cellE ω μ a = .inl (ω.arr 0, (kd a).2, .inl (μ.2.1 a)) := fun μ a hk => by unfold cellE; rw [kd_pair hk]; rfl
  have hlt : ∀ {a : Nat}, a < μ.1 → a < 10000 := fun h => by rw [hN] at h; exact Nat.lt_trans h (by decide)
  have he0 := wcs_get ω μ ha0
  rw [e0 μ hk0, ← ad_new ω (hlt ha0)] at he0
  have he := wcs_get ω μ ha
  rw [e0 μ hk, ← ad_new ω (hlt ha)] at he
  refine va_copyi F.2.2.2.1 F.2.2.2.2.1 (F.2.2.2.2.2.1.trans hlv.1.symm) F.2.2.2.2.2.2.2.2.1 (F.w hl rfl) (F.w hw1 rfl) (F.w hw2 rfl) (F.w hw3 rfl) F.K hw.1 (wcs_D ω μ) hS a0 a 0 0 he0 he rfl rfl rfl h1 h2 h3 h4 h5 (fun i _ => rfl) (by omega) ?_ hd (fun H1 locs1 hP1 hD1 hS1 => ?_)
  · rw [vm_cats]
    have : nativeFrameWords "java/lang/System" "arraycopy" 5 + 11 ≤ 56 := by decide +kernel
    omega
  · have hset : (wcs ω μ).set a (ad ω a, .inl (ω.arr 0, (kd a).2, .inl (va_cpy (μ.2.1 a0) (μ.2.1 a) sp.toNatClampNeg dp.toNatClampNeg x.toNatClampNeg))) = wcs ω (sC μ a (va_cpy (μ.2.1 a0) (μ.2.1 a) sp.toNatClampNeg dp.toNatClampNeg x.toNatClampNeg)) := by
      rw [← wcs_set ω μ (sC μ a (va_cpy (μ.2.1 a0) (μ.2.1 a) sp.toNatClampNeg dp.toNatClampNeg x.toNatClampNeg)) rfl ha, e0 _ hk, ad_new ω (hlt ha)]
      · have e9 : (sC μ a (va_cpy (μ.2.1 a0) (μ.2.1 a) sp.toNatClampNeg dp.toNatClampNeg x.toNatClampNeg)).2.1 a = va_cpy (μ.2.1 a0) (μ.2.1 a) sp.toNatClampNeg dp.toNatClampNeg x.toNatClampNeg := by funext j; simp [sC]
        rw [e9]
      · intro b hb
        have e1 : (sC μ a (va_cpy (μ.2.1 a0) (μ.2.1 a) sp.toNatClampNeg dp.toNatClampNeg x.toNatClampNeg)).2.1 b = μ.2.1 b := by funext j; simp [sC, hb]
        have e2 : ∀ c, fvs ω (sC μ a (va_cpy (μ.2.1 a0) (μ.2.1 a) sp.toNatClampNeg dp.toNatClampNeg x.toNatClampNeg)) b c = fvs ω μ b c := fun c => by
          unfold fvs fval
          simp only [e1]
          rfl
        unfold cellE
        simp only [e1, e2]
        rfl
    rw [hset] at hP1
    have h9 : ∀ z : Nat, z < μ.1 → ω.s0.heap.size + z < H1.size := fun z hz => (hP1 z _ (wcs_get ω _ hz)).lt
    have hlast := h9 518 (by rw [hN]; show 518 < 519; omega)
    refine kk p e R s m args below meth c9 H1 locs1 cells slots mc ms ls F ⟨hP1, fun h => absurd (show μ.1 < NN from h) (by rw [hN]; exact Nat.lt_irrefl _), ?_⟩ hS1 hlv hk9 hn9
    show ω.s0.heap.size + μ.1 ≤ H1.size
    rw [hN]
    have h518 : ω.s0.heap.size + 518 < H1.size := hlast
    show ω.s0.heap.size + 519 ≤ H1.size
    omega
/-- a place of the script -/
theorem J.scrLd {i : Int32} (hd : decode Y.cc pc = .ok (.iaload, 1)) (hin : vp_in i ω.L) (kk : J ω l Y d (pc + 1) lv (.int (ω.xs i.toNatClampNeg) :: st) μ k n Post) : J ω l Y d pc lv (.int i :: .ref 30000 :: st) μ k n Post := by
  intro p e R s m args below meth c9 H locs cells slots mc ms ls F hw hS hlv hk9 hn9
  have hb : ω.b < s.heap.size := Nat.lt_of_lt_of_le F.1.2.2.2.2.2.2.2.2.1 F.2.1.2.1
  exact va_sld F.2.2.2.1 F.2.2.2.2.1 F.X hb (Nat.not_le.mpr F.1.2.2.2.2.2.2.2.2.1) hS hin hd (kk p e R s m args below meth c9 H locs cells slots mc ms ls F hw hS hlv hk9 hn9)
theorem J.scrLen (hd : decode Y.cc pc = .ok (.arraylength, 1)) (kk : J ω l Y d (pc + 1) lv (.int (Int32.ofNat ω.L) :: st) μ k n Post) : J ω l Y d pc lv (.ref 30000 :: st) μ k n Post := by
  intro p e R s m args below meth c9 H locs cells slots mc ms ls F hw hS hlv hk9 hn9
  have hb : ω.b < s.heap.size := Nat.lt_of_lt_of_le F.1.2.2.2.2.2.2.2.2.1 F.2.1.2.1
  exact va_slen F.2.2.2.1 F.2.2.2.2.1 F.X hb (Nat.not_le.mpr F.1.2.2.2.2.2.2.2.2.1) hS hd (kk p e R s m args below meth c9 H locs cells slots mc ms ls F hw hS hlv hk9 hn9)
end More12
