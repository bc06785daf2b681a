/-! RULES of J: what is made; texts; copies -/
theorem HW.grow {ω : Wd} {μ ν : Mem} {H H1 : Heap} (hw : HW ω μ H) (ho : ∀ b, b < μ.1 → cellE ω ν b = cellE ω μ b) (hold : ∀ q : Nat, q < H.size → H1[q]? = H[q]?) (hnew : ∀ b, μ.1 ≤ b → b < ν.1 → va_at ω.D clss (ω.s0.heap.size + b, cellE ω ν b) H1) (hsz : H1.size = ω.s0.heap.size + ν.1) : HW ω ν H1 := by
  refine ⟨fun i q hq => ?_, fun _ => hsz, Nat.le_of_eq hsz.symm⟩
  have hi : i < ν.1 := by
    have := (List.getElem?_eq_some_iff.mp hq).1
    simpa [wcs] using this
  rw [wcs_get ω ν hi] at hq
  cases hq
  by_cases h : i < μ.1
  · rw [ho i h]
    have h1 := hw.lt h
    exact h1.kept (hold _ h1.lt)
  · exact hnew i (by omega) hi
theorem cellE_N (ω : Wd) (μ : Mem) {b : Nat} (h : b < μ.1) : cellE ω (sN μ) b = cellE ω μ b := by
  have hb' : b ≠ μ.1 := Nat.ne_of_lt h
  have e1 : (sN μ).2.1 b = μ.2.1 b := by funext j; simp [sN, hb']
  have e2 : (sN μ).2.2.1 b = μ.2.2.1 b := by funext j; simp [sN, hb']
  have e3 : (sN μ).2.2.2 b = μ.2.2.2 b := by funext j; simp [sN, hb']
  have e4 : ∀ c, fvs ω (sN μ) b c = fvs ω μ b c := fun c => by
    unfold fvs fval
    simp only [e1, e2, e3]
  unfold cellE
  simp only [e1, e2, e3, e4]
def okTy : FieldType → Bool
  | .int => true
  | .long => true
  | .boolean => true
  | .object _ => true
  | .array _ => true
  | _ => false
theorem sN_fval (ω : Wd) (μ : Mem) {c j : Nat} (h : okTy (tyOf c j) = true) : defaultValue (tyOf c j) = fval ω (sN μ) μ.1 c j := by
  have e1 : (sN μ).2.1 μ.1 j = 0 := by simp [sN]
  have e2 : (sN μ).2.2.1 μ.1 j = 0 := by simp [sN]
  have e3 : (sN μ).2.2.2 μ.1 j = none := by simp [sN]
  unfold fval
  rw [e1, e2, e3]
  revert h
  generalize tyOf c j = ty
  intro h
  cases ty <;> first | rfl | (simp [okTy] at h)
section Make
variable {ω : Wd} {l : Launch} {Y : Mt} {d pc : Nat} {lv : List (Nat × Value)} {st : List Value} {μ : Mem} {k n : Nat} {Post : Oa → Mem → Prop}
theorem J.new {c idx : Nat} (hd : decode Y.cc pc = .ok (.new idx, 3)) (hc : kd μ.1 = (10 + c, 0)) (hN : μ.1 < NN) (hq : ∀ q : vw_C, clss[c]? = some q → Cond.classLink Y.y.cls idx q.1 ∈ lw_tbl ∧ Cond.instantiable q.1 q.2.2 ∈ lw_tbl ∧ Cond.initialized q.1 ∈ lw_tbl) (hc2 : c < 12) (hty : ∀ j, j < nfOf c → okTy (tyOf c j) = true)
    (h1 : 1 ≤ k) (h2 : nfOf c ≤ n) (kk : J ω l Y d (pc + 3) lv (.ref μ.1 :: st) (sN μ) (k - 1) (n - nfOf c) Post) : J ω l Y d pc lv st μ k n Post := by
  intro p e R s m args below meth c9 H locs cells slots mc ms ls F hw hS hl hk9 hn9
  obtain ⟨q, hq0⟩ : ∃ q, clss[c]? = some q := ⟨clss[c]'hc2, List.getElem?_eq_getElem hc2⟩
  obtain ⟨w1, w2, w3⟩ := hq q hq0
  obtain ⟨o1, o2, o3, o4, o5⟩ := clok hq0
  have hKn := F.K.1 c _ hq0
  have hts : ∀ w ∈ u_ws q.1 q.2.1 q.2.2, w.before args s = true := fun w hw' => F.w (o1 w hw') (List.all_eq_true.mp o2 w hw')
  have hmc := F.2.2.2.2.2.2.2.2.2.2.2.2.2
  have hNN : μ.1 < 10000 := Nat.lt_trans hN (by decide)
  rw [← o5] at h2
  refine W.newcK F.2.2.2.1 F.2.2.2.2.1 F.2.2.2.2.2.2.2.2.1 (F.w w1 rfl) (F.w w2 rfl) (F.w w3 rfl) rfl hd (by omega) (by omega) hKn.2.1 (hw.2.1 hN) fun H1 kC hkC e1 z1 old => ?_
  have hHs := hw.2.1 hN
  have hw1 : HW ω (sN μ) H1 := by
    refine hw.grow (fun b hb => cellE_N ω μ hb) (fun q' hq' => old q' (by rw [← hHs]; exact hq')) (fun b hb1 hb2 => ?_) (by rw [z1]; rfl)
    have hb : b = μ.1 := by have : b < μ.1 + 1 := hb2; omega
    subst hb
    rw [cellE_obj ω (sN μ) (by rw [hc])]
    exact ⟨_, hq0, (u_born (tyOf c) hts (fun _ h => h) hKn hkC e1 o3).to (fun j hj => by
      rw [o5] at hj
      show _ = (fvs ω (sN μ) μ.1 c).getD j .null
      rw [List.getD_eq_getElem?_getD, fvs_get ω _ _ c hj]
      exact sN_fval ω μ (hty j hj))⟩
  have hS1 : va_S (aA ω) s.heap H1 locs := ⟨by rw [z1]; have := hS.1; omega, fun x g1 g2 => (old x (by rw [← hHs]; exact Nat.lt_of_lt_of_le g1 hS.1)).trans (hS.2.1 x g1 g2), hS.2.2⟩
  have := kk p e R s m args below meth c9 H1 locs (cells + 1) (slots + q.2.2) mc ms ls F hw1 hS1 hl (by omega) (by rw [o5] at h2 ⊢; omega)
  rw [List.map_cons, show vm ω (.ref μ.1) = .ref (ω.s0.heap.size + μ.1) from congrArg Value.ref (ad_new ω hNN)] at this
  exact this
/-- a new array of ints, longs or booleans: t its kind here -/
theorem J.newa {atype : ArrayType} {t : Nat} {ty : FieldType} {x : Int32} {N : Nat} (hd : decode Y.cc pc = .ok (.newarray atype, 2)) (hty : newarray.typeOf atype = ty) (ht : (t = 0 ∧ ty = .int) ∨ (t = 1 ∧ ty = .long) ∨ (t = 2 ∧ ty = .boolean)) (hc : kd μ.1 = (t, N)) (hN : μ.1 < NN) (hw0 : Cond.arrayClass ty ∈ lw_tbl) (hx : ¬ x < 0) (hx2 : x.toNatClampNeg = N) (hb : N * 8 ≤ 536870912)
    (h1 : 1 ≤ k) (h2 : N ≤ n) (kk : J ω l Y d (pc + 2) lv (.ref μ.1 :: st) (sN μ) (k - 1) (n - N) Post) : J ω l Y d pc lv (.int x :: st) μ k n Post := by
  intro p e R s m args below meth c9 H locs cells slots mc ms ls F hw hS hl hk9 hn9
  have hmc := F.2.2.2.2.2.2.2.2.2.2.2.2.2
  have hNN : μ.1 < 10000 := Nat.lt_trans hN (by decide)
  have hHs := hw.2.1 hN
  have hcb : N * componentBytes (newarray.typeOf atype) ≤ 536870912 := by
    rw [hty]; rcases ht with ⟨-, h⟩ | ⟨-, h⟩ | ⟨-, h⟩ <;> rw [h] <;> simp [componentBytes] <;> omega
  refine va_newaK F.2.2.2.1 F.2.2.2.2.1 (by rw [hty]; exact F.w hw0 rfl) rfl hd rfl hx hx2 hcb (by omega) (by omega) hHs fun H1 cA e1 z1 old hAr hNm => ?_
  rw [hty] at e1 hAr hNm
  have hcA : cA = ω.arr t := by
    rcases ht with ⟨h, h'⟩ | ⟨h, h'⟩ | ⟨h, h'⟩ <;> subst h <;> subst h'
    · exact Option.some.inj (hNm.symm.trans (F.K.2 0 _ rfl).2)
    · exact Option.some.inj (hNm.symm.trans (F.K.2 1 _ rfl).2)
    · exact Option.some.inj (hNm.symm.trans (F.K.2 2 _ rfl).2)
  subst hcA
  have hw1 : HW ω (sN μ) H1 := by
    refine hw.grow (fun b hb => cellE_N ω μ hb) (fun q' hq' => old q' (by rw [← hHs]; exact hq')) (fun b hb1 hb2 => ?_) (by rw [z1]; rfl)
    have hb : b = μ.1 := by have : b < μ.1 + 1 := hb2; omega
    subst hb
    have g1 : (sN μ).2.1 μ.1 = fun _ => 0 := by funext j; simp [sN]
    have g2 : (sN μ).2.2.1 μ.1 = fun _ => 0 := by funext j; simp [sN]
    rcases ht with ⟨h, h'⟩ | ⟨h, h'⟩ | ⟨h, h'⟩ <;> subst h <;> subst h'
    · have e0 : cellE ω (sN μ) μ.1 = .inl (ω.arr 0, N, .inl (fun _ => 0)) := by unfold cellE; rw [hc, g1]; rfl
      rw [e0]; exact e1
    · have e0 : cellE ω (sN μ) μ.1 = .inl (ω.arr 1, N, .inr (.inl (fun _ => 0))) := by unfold cellE; rw [hc, g2]; rfl
      rw [e0]; exact e1
    · have e0 : cellE ω (sN μ) μ.1 = .inl (ω.arr 2, N, .inl (fun _ => 0)) := by unfold cellE; rw [hc, g1]; rfl
      rw [e0]; exact e1
  have hS1 : va_S (aA ω) s.heap H1 locs := ⟨by rw [z1]; have := hS.1; omega, fun x g1 g2 => (old x (by rw [← hHs]; exact Nat.lt_of_lt_of_le g1 hS.1)).trans (hS.2.1 x g1 g2), hS.2.2⟩
  have := kk p e R s m args below meth c9 H1 locs (cells + 1) (slots + N) mc ms ls F hw1 hS1 hl (by omega) (by omega)
  rw [List.map_cons, show vm ω (.ref μ.1) = .ref (ω.s0.heap.size + μ.1) from congrArg Value.ref (ad_new ω hNN)] at this
  exact this
theorem J.anew {idx N : Nat} {x : Int32} (hd : decode Y.cc pc = .ok (.anewarray idx, 3)) (hc : kd μ.1 = (4, N)) (hN : μ.1 < NN) (hw0 : Cond.classLink Y.y.cls idx RX9 ∈ lw_tbl) (hw2 : Cond.arrayOver (.object RX9) ∈ lw_tbl) (hx : ¬ x < 0) (hx2 : x.toNatClampNeg = N) (hb : N * 8 ≤ 536870912)
    (h1 : 1 ≤ k) (h2 : N ≤ n) (kk : J ω l Y d (pc + 3) lv (.ref μ.1 :: st) (sN μ) (k - 1) (n - N) Post) : J ω l Y d pc lv (.int x :: st) μ k n Post := by
  intro p e R s m args below meth c9 H locs cells slots mc ms ls F hw hS hl hk9 hn9
  have hmc := F.2.2.2.2.2.2.2.2.2.2.2.2.2
  have hNN : μ.1 < 10000 := Nat.lt_trans hN (by decide)
  have hHs := hw.2.1 hN
  subst hx2
  refine W.anew F.2.2.2.1 F.2.2.2.2.1 F.2.2.2.2.2.2.2.2.1 (F.w hw0 rfl) (va_AO.use (va_AO.moved F.2.1.1.alike (va_AO.of (F.1.1 _ hw2)))) rfl hd rfl hx (by omega) (by omega) (by omega) fun cA kA comp f1 f2 f3 f4 => ?_
  have hcA : cA = ω.arr 4 := by
    obtain ⟨kA', comp', -, -, -, q4⟩ := (F.K.2 4 _ rfl).2
    exact Option.some.inj (f1.symm.trans q4)
  subst hcA
  generalize hH1 : H.push ({ cls := ω.arr 4, slots := Array.replicate x.toNatClampNeg .null, vm := .none } : Cell) = H1
  have z1 : H1.size = H.size + 1 := by rw [← hH1, Array.size_push]
  have e1 : H1[H.size]? = some (arrV (ω.arr 4) x.toNatClampNeg (fun _ => .null)) := by rw [← hH1, Array.getElem?_push_size, ← arrV_new]
  have old : ∀ q : Nat, q < H.size → H1[q]? = H[q]? := fun q hq => by rw [← hH1, Array.getElem?_push, if_neg (Nat.ne_of_lt hq)]
  have hw1 : HW ω (sN μ) H1 := by
    refine hw.grow (fun b hb => cellE_N ω μ hb) old (fun b hb1 hb2 => ?_) (by rw [z1, hHs]; rfl)
    have hb : b = μ.1 := by have : b < μ.1 + 1 := hb2; omega
    subst hb
    have g1 : (sN μ).2.2.2 μ.1 = fun _ => none := by funext j; simp [sN]
    have e0 : cellE ω (sN μ) μ.1 = .inl (ω.arr 4, x.toNatClampNeg, .inr (.inr (.inr (.inr (fun _ => none))))) := by unfold cellE; rw [hc, g1]; rfl
    rw [e0, ← hHs]; exact e1
  have hS1 : va_S (aA ω) s.heap H1 locs := ⟨by rw [z1]; have := hS.1; omega, fun x g1 g2 => (old x (Nat.lt_of_lt_of_le g1 hS.1)).trans (hS.2.1 x g1 g2), hS.2.2⟩
  have := kk p e R s m args below meth c9 H1 locs (cells + 1) (slots + x.toNatClampNeg) mc ms ls F hw1 hS1 hl (by omega) (by omega)
  rw [List.map_cons, show vm ω (.ref μ.1) = .ref H.size from by rw [hHs]; exact congrArg Value.ref (ad_new ω hNN)] at this
  exact this
/-- an array of N arrays of M ints -/
def sM (μ : Mem) (N : Nat) : Mem := (μ.1 + 1 + N, (fun b j => if μ.1 ≤ b then 0 else μ.2.1 b j), (fun b j => if μ.1 ≤ b then 0 else μ.2.2.1 b j), (fun b j => if μ.1 ≤ b then (if b = μ.1 ∧ j < N then some (μ.1 + 1 + j) else none) else μ.2.2.2 b j))
theorem J.multi {idx N M : Nat} {x y : Int32} (hd : decode Y.cc pc = .ok (.multianewarray idx 2, 4)) (hc : kd μ.1 = (3, N)) (hci : ∀ j, j < N → kd (μ.1 + 1 + j) = (0, M)) (hN : μ.1 + N < NN) (hw0 : Cond.classLink Y.y.cls idx "[[I" ∈ lw_tbl) (hw2 : Cond.arrayOver (.array .int) ∈ lw_tbl) (hw3 : Cond.arrayClass .int ∈ lw_tbl) (hx : ¬ x < 0) (hx2 : x.toNatClampNeg = N) (hy : ¬ y < 0) (hy2 : y.toNatClampNeg = M) (hb : N * 8 ≤ 536870912) (hb' : M * 8 ≤ 536870912)
    (h1 : 1 + N ≤ k) (h2 : N + N * M ≤ n) (kk : J ω l Y d (pc + 4) lv (.ref μ.1 :: st) (sM μ N) (k - (1 + N)) (n - (N + N * M)) Post) : J ω l Y d pc lv (.int y :: .int x :: st) μ k n Post := by
  intro p e R s m args below meth c9 H locs cells slots mc ms ls F hw hS hl hk9 hn9 T hT Xs
  have hmc := F.2.2.2.2.2.2.2.2.2.2.2.2.2
  have hN' : μ.1 < NN := by omega
  have hNN : μ.1 < 10000 := Nat.lt_trans hN' (by decide)
  have hHs := hw.2.1 hN'
  subst hx2; subst hy2
  obtain ⟨vm₁, cA, comp, -, fA, fC, -, -, X', step⟩ := Xs.multianewarray2F F.2.2.2.1 F.2.2.2.2.2.2.2.2.1 (F.w hw0 rfl) (Stand.arrayOver_alikeB F.2.1.1.alike (F.1.1 _ hw2)) (F.w hw3 rfl) (g := F0 m pc ls (.int y :: .int x :: st.map (vm ω))) rfl (by rw [F.2.2.2.2.1]; exact hd) rfl hx hy (by omega) (by simp [componentBytes]; omega) (by omega) rfl rfl (by omega) (by omega)
  have hcA : cA = ω.arr 3 := Option.some.inj (fA.symm.trans (F.K.2 3 _ rfl).2)
  have hco : comp = ω.arr 0 := Option.some.inj (fC.symm.trans (F.K.2 0 _ rfl).2)
  subst hcA; subst hco
  generalize hF : Jvm.Free.Multi.fill (T.setVm vm₁) (ω.arr 3) (ω.arr 0) x.toNatClampNeg y.toNatClampNeg (defaultValue .int) x.toNatClampNeg = F9 at X' step
  have hTh : (T.setVm vm₁).heap = H := hT
  obtain ⟨f1, f2, -, -⟩ := Jvm.Free.Multi.fill_facts (T.setVm vm₁) (ω.arr 3) (ω.arr 0) x.toNatClampNeg y.toNatClampNeg (defaultValue .int) x.toNatClampNeg
  rw [hF, hTh] at f1 f2
  have hold : ∀ q : Nat, q < H.size → F9.heap[q]? = H[q]? := fun q hq => by
    have := Jvm.Free.Multi.fill_old (T.setVm vm₁) (ω.arr 3) (ω.arr 0) x.toNatClampNeg y.toNatClampNeg (defaultValue .int) (a := q) (by rw [hTh]; exact hq) x.toNatClampNeg
    rw [hF, hTh] at this
    exact this
  have hrow : ∀ j : Nat, j < x.toNatClampNeg → F9.heap[H.size + 1 + j]? = some (Jvm.Free.Multi.innerC (ω.arr 0) y.toNatClampNeg (defaultValue .int)) := fun j hj => by
    have := Jvm.Free.Multi.fill_inner (T.setVm vm₁) (ω.arr 3) (ω.arr 0) x.toNatClampNeg y.toNatClampNeg (defaultValue .int) x.toNatClampNeg j hj
    rw [hF, hTh] at this
    exact this
  have hinn : Jvm.Free.Multi.innerC (ω.arr 0) y.toNatClampNeg (defaultValue .int) = vp_cell (ω.arr 0) (y.toNatClampNeg, .inl (fun _ => 0)) := by
    rw [vp_cell_i, ← arrV_new]; rfl
  rw [vr_outer] at f2
  have hw1 : HW ω (sM μ x.toNatClampNeg) F9.heap := by
    refine hw.grow (fun b hb => ?_) hold (fun b hb1 hb2 => ?_) (by rw [f1, hHs]; show _ = _ + (μ.1 + 1 + _); omega)
    · have hb' : ¬ μ.1 ≤ b := by omega
      have e1 : (sM μ x.toNatClampNeg).2.1 b = μ.2.1 b := by funext j; simp [sM, hb']
      have e2 : (sM μ x.toNatClampNeg).2.2.1 b = μ.2.2.1 b := by funext j; simp [sM, hb']
      have e3 : (sM μ x.toNatClampNeg).2.2.2 b = μ.2.2.2 b := by funext j; simp [sM, hb']
      have e4 : ∀ c, fvs ω (sM μ x.toNatClampNeg) b c = fvs ω μ b c := fun c => by
        unfold fvs fval
        simp only [e1, e2, e3]
      unfold cellE
      simp only [e1, e2, e3, e4]
    · have hb3 : b < μ.1 + 1 + x.toNatClampNeg := hb2
      by_cases hb4 : b = μ.1
      · subst hb4
        have e0 : cellE ω (sM μ x.toNatClampNeg) μ.1 = .inl (ω.arr 3, x.toNatClampNeg, .inr (.inr (.inr (.inr (fun j => if j < x.toNatClampNeg then some (H.size + 1 + j) else none))))) := by
          unfold cellE
          rw [hc]
          show Sum.inl (ω.arr 3, x.toNatClampNeg, Sum.inr (Sum.inr (Sum.inr (Sum.inr (fun j => ((sM μ x.toNatClampNeg).2.2.2 μ.1 j).map (ad ω)))))) = _
          congr 7
          funext j
          by_cases hj : j < x.toNatClampNeg
          · simp only [sM, Nat.le_refl, if_true, hj, and_self, Option.map_some]
            rw [ad_new ω (by have : NN < 10000 := by decide
                             omega), hHs]
            congr 1
            omega
          · simp [sM, hj]
        rw [e0]
        show F9.heap[ω.s0.heap.size + μ.1]? = some (vp_cell _ _)
        rw [← hHs, vp_cell_q]
        exact f2
      · obtain ⟨j, rfl⟩ : ∃ j, b = μ.1 + 1 + j := ⟨b - (μ.1 + 1), by omega⟩
        have hj : j < x.toNatClampNeg := by omega
        have g1 : (sM μ x.toNatClampNeg).2.1 (μ.1 + 1 + j) = fun _ => 0 := by
          funext i
          simp only [sM]
          rw [if_pos (by omega)]
        have e0 : cellE ω (sM μ x.toNatClampNeg) (μ.1 + 1 + j) = .inl (ω.arr 0, y.toNatClampNeg, .inl (fun _ => 0)) := by unfold cellE; rw [hci j hj, g1]; rfl
        rw [e0]
        show F9.heap[ω.s0.heap.size + (μ.1 + 1 + j)]? = some (vp_cell _ _)
        rw [← hinn, ← hrow j hj, hHs]
        congr 1
        omega
  have hS1 : va_S (aA ω) s.heap F9.heap locs := ⟨by rw [f1]; have := hS.1; omega, fun q g1 g2 => (hold q (Nat.lt_of_lt_of_le g1 hS.1)).trans (hS.2.1 q g1 g2), hS.2.2⟩
  obtain ⟨t, a1, b1⟩ := kk p e R s m args below meth c9 F9.heap locs (cells + 1 + x.toNatClampNeg) (slots + x.toNatClampNeg + x.toNatClampNeg * y.toNatClampNeg) mc ms ls F hw1 hS1 hl (by omega) (by omega) F9 rfl X'
  refine ⟨t, step t ?_, b1⟩
  rw [List.map_cons, show vm ω (.ref μ.1) = .ref T.heap.size from by rw [hT, hHs]; exact congrArg Value.ref (ad_new ω hNN)] at a1
  exact a1
end Make
