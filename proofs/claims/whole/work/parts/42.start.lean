/-! the law's beginning: both objects and the array of one long -/
theorem ml_RL_107 : Cond.methodLink RL 107 yX10_init ∈ lw_tbl := tb1 (List.mem_of_getElem? (i := 28) (by decide +kernel))
theorem ml_RL_110 : Cond.methodLink RL 110 yX11_init ∈ lw_tbl := tb6 (List.mem_of_getElem? (i := 109) (by decide +kernel))
theorem nw_RL_8 : ∀ q : vw_C, clss[10]? = some q → Cond.classLink RL 8 q.1 ∈ lw_tbl ∧ Cond.instantiable q.1 q.2.2 ∈ lw_tbl ∧ Cond.initialized q.1 ∈ lw_tbl := fun q h => by cases h; exact ⟨tb1 (List.mem_of_getElem? (i := 26) (by decide +kernel)), tb1 (List.mem_of_getElem? (i := 27) (by decide +kernel)), tb1 (List.mem_of_getElem? (i := 1) (by decide +kernel))⟩
theorem nw_RL_108 : ∀ q : vw_C, clss[11]? = some q → Cond.classLink RL 108 q.1 ∈ lw_tbl ∧ Cond.instantiable q.1 q.2.2 ∈ lw_tbl ∧ Cond.initialized q.1 ∈ lw_tbl := fun q h => by cases h; exact ⟨tb6 (List.mem_of_getElem? (i := 107) (by decide +kernel)), tb6 (List.mem_of_getElem? (i := 108) (by decide +kernel)), tb1 (List.mem_of_getElem? (i := 12) (by decide +kernel))⟩
def fpre (μ : Mem) : Option (Nat × Nat × Nat × Mem) :=
  (mkN μ (20, 0)).bind fun (a3, μ4) =>
  (fX10_init a3 μ4).bind fun μ6 =>
  (mkN μ6 (21, 0)).bind fun (a11, μ12) =>
  (fX11_init a11 μ12).bind fun μ14 =>
  (mkN μ14 (1, 1)).bind fun (a19, μ20) =>
  some (a3, a11, a19, μ20)
set_option maxHeartbeats 4000000 in
theorem tL_law_pre {ω : Wd} {l : Launch} (d : Nat) {μ : Mem} {q : Nat × Nat × Nat × Mem} {res : Int32 × Mem} (h : fpre μ = some q) (hl : fL_law_23 ω fuel 0 q.1 q.2.1 q.2.2.1 0 q.2.2.2 = some res) (hN : q.2.2.2.1 = NN) : J ω l mL_law (d + 74) 0 [(0, .ref 30000)] [] μ (519 + 4 * fuel) (24120 + 24 * fuel) (PE (.inl (some (.int res.1))) res.2 (isB res.1)) := by
  unfold fpre at h
  obtain ⟨⟨a3, μ4⟩, e1, h⟩ := bnd h
  try dsimp only at h
  have k2 : (kd a3).1 = 20 := mkN_k e1
  refine J.mNew (pc := 0) (c := 10) dL_law_0 e1 nw_RL_8 (by decide) (by decide) (by omega) (by show 20 ≤ _; omega) ?_
  refine J.dup (pc := 3) dL_law_3 rfl ?_
  obtain ⟨μ6, e5, h⟩ := bnd h
  refine J.callI (Y := mL_law) (Z := mX10_init) (pc := 4) (st := [.ref a3]) (k2 := (27 + 4 * fuel)) (n2 := (13178 + 24 * fuel)) dL_law_4 ml_RL_107 mo_X10_init mi_X10_init rfl rfl rfl (tX10_init (d + 70) e5 k2) (fun i ν hp => nrm hp.1) rfl rfl (Nat.le_of_ble_eq_true rfl) (by omega) (by show 10922 + (13178 + 24 * fuel) ≤ 24120 + 24 * fuel - 20; omega) (fun v ν hp => ?_)
  obtain ⟨rfl, rfl⟩ := QAl hp
  show J _ _ _ _ 7 _ ([.ref a3]) _ _ _ _
  refine J.astore_n (pc := 7) ([(1, .ref a3), (0, .ref 30000)]) dL_law_7 rfl (Nat.le_of_ble_eq_true rfl) rfl ?_
  obtain ⟨⟨a11, μ12⟩, e9, h⟩ := bnd h
  try dsimp only at h
  have k10 : (kd a11).1 = 21 := mkN_k e9
  refine J.mNew (pc := 8) (c := 11) dL_law_8 e9 nw_RL_108 (by decide) (by decide) (by omega) (by show 60 ≤ _; omega) ?_
  refine J.dup (pc := 11) dL_law_11 rfl ?_
  obtain ⟨μ14, e13, h⟩ := bnd h
  refine J.callI (Y := mL_law) (Z := mX11_init) (pc := 12) (st := [.ref a11]) (k2 := (1 + 4 * fuel)) (n2 := (1 + 24 * fuel)) dL_law_12 ml_RL_110 mo_X11_init mi_X11_init rfl rfl rfl (tX11_init (d + 72) e13 k10) (fun i ν hp => nrm hp.1) rfl rfl (Nat.le_of_ble_eq_true rfl) (by omega) (by show 13117 + (1 + 24 * fuel) ≤ 13178 + 24 * fuel - 60; omega) (fun v ν hp => ?_)
  obtain ⟨rfl, rfl⟩ := QAl hp
  show J _ _ _ _ 15 _ ([.ref a11]) _ _ _ _
  refine J.astore_n (pc := 15) ([(2, .ref a11), (1, .ref a3), (0, .ref 30000)]) dL_law_15 rfl (Nat.le_of_ble_eq_true rfl) rfl ?_
  refine J.iconst (pc := 16) dL_law_16 ic_1 ?_
  obtain ⟨⟨a19, μ20⟩, e17, h⟩ := bnd h
  try dsimp only at h
  have k18 : (kd a19).1 = 1 := mkN_k e17
  refine J.mArr (pc := 17) (t := 1) (N := 1) dL_law_17 rfl (Or.inr (Or.inl ⟨rfl, rfl⟩)) e17 aw_long (by decide) (by decide) (by decide) (by omega) (by omega) ?_
  refine J.astore_n (pc := 19) ([(3, .ref a19), (2, .ref a11), (1, .ref a3), (0, .ref 30000)]) dL_law_19 rfl (Nat.le_of_ble_eq_true rfl) rfl ?_
  refine J.iconst (pc := 20) dL_law_20 ic_0 ?_
  refine J.istore (pc := 21) ([(4, .int (0 : Int32)), (3, .ref a19), (2, .ref a11), (1, .ref a3), (0, .ref 30000)]) dL_law_21 (Nat.le_of_ble_eq_true rfl) rfl ?_
  refine J.pick [4, 3, 2, 1, 0] rfl ?_
  refine J.room (k' := 4 * fuel) (n' := 24 * fuel) (by omega) (by omega) ?_
  cases h
  exact (tL_law_23 d fuel) 0 a3 a11 a19 (0 : Int32) μ20 hl hN k2 k10 k18
