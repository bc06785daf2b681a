def fX11_count (v0 : Nat) (v1 : Int32) (μ : Mem) : Option (Int32 × Mem) :=
  (some (sI μ v0 0 (0 : Int32))).bind fun μ1 =>
  (fX11_right v0 (fX11_within v1 (0 : Int32) (13 : Int32)) (1 : Int32) μ1).bind fun (r9, μ8) =>
  if r9 = 0 then
    some ((0 : Int32), μ8)
  else
    if v1 = (0 : Int32) then
      some ((μ8.2.1 v0 1), μ8)
    else
    if v1 = (1 : Int32) then
      some ((μ8.2.1 v0 2), μ8)
    else
    if v1 = (2 : Int32) then
      (gR μ8 v0 34 0).bind fun a12 =>
      (ldI μ8 a12 (0 : Int32)).bind fun x15 =>
      some (x15, μ8)
    else
    if v1 = (3 : Int32) then
      (fX11_parts v0 μ8).bind fun (r19, μ18) =>
      some (r19, μ18)
    else
    if v1 = (4 : Int32) then
      (fX11_stiles v0 μ8).bind fun r23 =>
      some (r23, μ8)
    else
    if v1 = (5 : Int32) then
      (fX11_inked v0 (0 : Int32) μ8).bind fun r27 =>
      some (r27, μ8)
    else
    if v1 = (6 : Int32) then
      (fX11_sentOnes v0 μ8).bind fun r31 =>
      some (r31, μ8)
    else
    if v1 = (7 : Int32) then
      (fX11_metAll v0 (0 : Int32) μ8).bind fun r35 =>
      some (r35, μ8)
    else
    if v1 = (8 : Int32) then
      some ((μ8.2.1 v0 36), μ8)
    else
    if v1 = (9 : Int32) then
      some ((μ8.2.1 v0 49), μ8)
    else
    if v1 = (10 : Int32) then
      some ((μ8.2.1 v0 8), μ8)
    else
    (gR μ8 v0 11 0).bind fun a38 =>
    (ldI μ8 a38 (v1 - (11 : Int32))).bind fun x41 =>
    some (x41, μ8)
set_option maxHeartbeats 4000000 in
theorem tX11_count {ω : Wd} {l : Launch} (d : Nat) {v0 : Nat} {v1 : Int32} {μ : Mem} {res : Int32 × Mem} (h : fX11_count v0 v1 μ = some res) (hN : μ.1 = NN) (k0 : (kd v0).1 = 21) : Ct ω l mX11_count (d + 3) [.ref v0, .int v1] μ 0 0 (PE (.inl (some (.int res.1))) res.2 True) := by
  refine Ct.of pn_RX11 (Nat.le_of_ble_eq_true rfl) ?_
  show J ω l mX11_count (d + 3) 0 [(0, .ref v0), (1, .int v1)] [] μ 0 0 _
  unfold fX11_count at h
  refine J.aload_n (pc := 0) dX11_count_0 rfl 0 rfl ?_
  refine J.iconst (pc := 1) dX11_count_1 ic_0 ?_
  obtain ⟨μ1, e2, h⟩ := bnd h
  have hN3 : μ1.1 = NN := smN e2 hN
  refine J.qI (pc := 2) dX11_count_2 fl_RX11_99 k0 (okN hN k0 (by decide)) rfl rfl e2 ?_
  refine J.aload_n (pc := 5) dX11_count_5 rfl 0 rfl ?_
  refine J.iload_n (pc := 6) dX11_count_6 rfl 1 rfl ?_
  refine J.iconst (pc := 7) dX11_count_7 ic_0 ?_
  refine J.bipush (pc := 8) dX11_count_8 ib_13 ?_
  refine J.callS (Y := mX11_count) (Z := mX11_within) (pc := 10) (st := [.ref v0]) (k2 := 0) (n2 := 0) dX11_count_10 ml_RX11_344 mo_X11_within ms_X11_within rfl (tX11_within (d + 2) v1 (0 : Int32) (13 : Int32) μ1 hN3 ) rfl rfl (Nat.le_of_ble_eq_true rfl) (by decide) (by decide) (fun v ν hp => ?_) (fun i ν hp => nrm hp.1)
  obtain ⟨rfl, rfl, hN5, hb6⟩ := QEl hp
  show J _ _ _ _ 13 _ ([.int (fX11_within v1 (0 : Int32) (13 : Int32)), .ref v0]) _ _ _ _
  refine J.iconst (pc := 13) dX11_count_13 ic_1 ?_
  obtain ⟨⟨r9, μ8⟩, e7, h⟩ := bnd h
  try dsimp only at h
  refine J.callV (Y := mX11_count) (Z := mX11_right) (pc := 14) (st := []) (k2 := 0) (n2 := 0) dX11_count_14 ml_RX11_266 mo_X11_right mv_X11_right rfl (tX11_right (d + 2) e7 hN5 k0) k0 (okN hN5 k0 (by decide)).1 (okN hN5 k0 (by decide)).2 cq_11 (by decide) rfl rfl (Nat.le_of_ble_eq_true rfl) (by decide) (by decide) (fun v ν hp => ?_) (fun i ν hp => nrm hp.1)
  obtain ⟨rfl, rfl, hN10, hb11⟩ := QEl hp
  show J _ _ _ _ 17 _ ([.int r9]) _ _ _ _
  rcases ifc h with ⟨hc, h⟩ | ⟨hc, h⟩
  · refine J.zne (pc := 17) (tgt := 22) dX11_count_17 (by decide) (fun _ => ?_) (fun q => absurd hc q)
    refine J.iconst (pc := 20) dX11_count_20 ic_0 ?_
    cases h
    exact J.iret (pc := 21) dX11_count_21 rfl ⟨rfl, rfl, hN10, trivial⟩
  · refine J.zne (pc := 17) (tgt := 22) dX11_count_17 (by decide) (fun q => absurd q hc) (fun _ => ?_)
    refine J.iload_n (pc := 22) dX11_count_22 rfl 1 rfl ?_
    rcases ifc h with ⟨hc, h⟩ | ⟨ns43, h⟩
    · refine J.tableIn (pc := 23) (off := 57) (tgt := 80) dX11_count_23 (by rw [hc]; decide) (by rw [hc]; decide) (by rw [hc]; decide) (by decide) ?_
      refine J.aload_n (pc := 80) dX11_count_80 rfl 0 rfl ?_
      refine J.fI (pc := 81) dX11_count_81 fl_RX11_273 k0 (okN hN10 k0 (by decide)) (Or.inl rfl) ?_
      cases h
      exact J.iret (pc := 84) dX11_count_84 rfl ⟨rfl, rfl, hN10, trivial⟩
    rcases ifc h with ⟨hc, h⟩ | ⟨ns44, h⟩
    · refine J.tableIn (pc := 23) (off := 62) (tgt := 85) dX11_count_23 (by rw [hc]; decide) (by rw [hc]; decide) (by rw [hc]; decide) (by decide) ?_
      refine J.aload_n (pc := 85) dX11_count_85 rfl 0 rfl ?_
      refine J.fI (pc := 86) dX11_count_86 fl_RX11_276 k0 (okN hN10 k0 (by decide)) (Or.inl rfl) ?_
      cases h
      exact J.iret (pc := 89) dX11_count_89 rfl ⟨rfl, rfl, hN10, trivial⟩
    rcases ifc h with ⟨hc, h⟩ | ⟨ns45, h⟩
    · refine J.tableIn (pc := 23) (off := 67) (tgt := 90) dX11_count_23 (by rw [hc]; decide) (by rw [hc]; decide) (by rw [hc]; decide) (by decide) ?_
      refine J.aload_n (pc := 90) dX11_count_90 rfl 0 rfl ?_
      obtain ⟨a12, e13, h⟩ := bnd h
      have k14 : (kd a12).1 = 0 := gR_k e13
      refine J.fR (pc := 91) dX11_count_91 fl_RX11_48 k0 (okN hN10 k0 (by decide)) rfl e13 ?_
      refine J.iconst (pc := 94) dX11_count_94 ic_0 ?_
      obtain ⟨x15, e16, h⟩ := bnd h
      refine J.aI (pc := 95) dX11_count_95 k14 (okN hN10 k14 (by decide)) e16 ?_
      cases h
      exact J.iret (pc := 96) dX11_count_96 rfl ⟨rfl, rfl, hN10, trivial⟩
    rcases ifc h with ⟨hc, h⟩ | ⟨ns46, h⟩
    · refine J.tableIn (pc := 23) (off := 74) (tgt := 97) dX11_count_23 (by rw [hc]; decide) (by rw [hc]; decide) (by rw [hc]; decide) (by decide) ?_
      refine J.aload_n (pc := 97) dX11_count_97 rfl 0 rfl ?_
      obtain ⟨⟨r19, μ18⟩, e17, h⟩ := bnd h
      try dsimp only at h
      refine J.callV (Y := mX11_count) (Z := mX11_parts) (pc := 98) (st := []) (k2 := 0) (n2 := 0) dX11_count_98 ml_RX11_347 mo_X11_parts mv_X11_parts rfl (tX11_parts d e17 hN10 k0) k0 (okN hN10 k0 (by decide)).1 (okN hN10 k0 (by decide)).2 cq_11 (by decide) rfl rfl (Nat.le_of_ble_eq_true rfl) (by decide) (by decide) (fun v ν hp => ?_) (fun i ν hp => nrm hp.1)
      obtain ⟨rfl, rfl, hN20, hb21⟩ := QEl hp
      show J _ _ _ _ 101 _ ([.int r19]) _ _ _ _
      cases h
      exact J.iret (pc := 101) dX11_count_101 rfl ⟨rfl, rfl, hN20, trivial⟩
    rcases ifc h with ⟨hc, h⟩ | ⟨ns47, h⟩
    · refine J.tableIn (pc := 23) (off := 79) (tgt := 102) dX11_count_23 (by rw [hc]; decide) (by rw [hc]; decide) (by rw [hc]; decide) (by decide) ?_
      refine J.aload_n (pc := 102) dX11_count_102 rfl 0 rfl ?_
      obtain ⟨r23, e22, h⟩ := bnd h
      refine J.callV (Y := mX11_count) (Z := mX11_stiles) (pc := 103) (st := []) (k2 := 0) (n2 := 0) dX11_count_103 ml_RX11_350 mo_X11_stiles mv_X11_stiles rfl (tX11_stiles (d + 2) e22 hN10 k0) k0 (okN hN10 k0 (by decide)).1 (okN hN10 k0 (by decide)).2 cq_11 (by decide) rfl rfl (Nat.le_of_ble_eq_true rfl) (by decide) (by decide) (fun v ν hp => ?_) (fun i ν hp => nrm hp.1)
      obtain ⟨rfl, rfl, hN24, hb25⟩ := QEl hp
      show J _ _ _ _ 106 _ ([.int r23]) _ _ _ _
      cases h
      exact J.iret (pc := 106) dX11_count_106 rfl ⟨rfl, rfl, hN24, trivial⟩
    rcases ifc h with ⟨hc, h⟩ | ⟨ns48, h⟩
    · refine J.tableIn (pc := 23) (off := 84) (tgt := 107) dX11_count_23 (by rw [hc]; decide) (by rw [hc]; decide) (by rw [hc]; decide) (by decide) ?_
      refine J.aload_n (pc := 107) dX11_count_107 rfl 0 rfl ?_
      refine J.iconst (pc := 108) dX11_count_108 ic_0 ?_
      obtain ⟨r27, e26, h⟩ := bnd h
      refine J.callV (Y := mX11_count) (Z := mX11_inked) (pc := 109) (st := []) (k2 := 0) (n2 := 0) dX11_count_109 ml_RX11_353 mo_X11_inked mv_X11_inked rfl (tX11_inked (d + 1) e26 hN10 k0) k0 (okN hN10 k0 (by decide)).1 (okN hN10 k0 (by decide)).2 cq_11 (by decide) rfl rfl (Nat.le_of_ble_eq_true rfl) (by decide) (by decide) (fun v ν hp => ?_) (fun i ν hp => nrm hp.1)
      obtain ⟨rfl, rfl, hN28, hb29⟩ := QEl hp
      show J _ _ _ _ 112 _ ([.int r27]) _ _ _ _
      cases h
      exact J.iret (pc := 112) dX11_count_112 rfl ⟨rfl, rfl, hN28, trivial⟩
    rcases ifc h with ⟨hc, h⟩ | ⟨ns49, h⟩
    · refine J.tableIn (pc := 23) (off := 90) (tgt := 113) dX11_count_23 (by rw [hc]; decide) (by rw [hc]; decide) (by rw [hc]; decide) (by decide) ?_
      refine J.aload_n (pc := 113) dX11_count_113 rfl 0 rfl ?_
      obtain ⟨r31, e30, h⟩ := bnd h
      refine J.callV (Y := mX11_count) (Z := mX11_sentOnes) (pc := 114) (st := []) (k2 := 0) (n2 := 0) dX11_count_114 ml_RX11_356 mo_X11_sentOnes mv_X11_sentOnes rfl (tX11_sentOnes (d + 2) e30 hN10 k0) k0 (okN hN10 k0 (by decide)).1 (okN hN10 k0 (by decide)).2 cq_11 (by decide) rfl rfl (Nat.le_of_ble_eq_true rfl) (by decide) (by decide) (fun v ν hp => ?_) (fun i ν hp => nrm hp.1)
      obtain ⟨rfl, rfl, hN32, hb33⟩ := QEl hp
      show J _ _ _ _ 117 _ ([.int r31]) _ _ _ _
      cases h
      exact J.iret (pc := 117) dX11_count_117 rfl ⟨rfl, rfl, hN32, trivial⟩
    rcases ifc h with ⟨hc, h⟩ | ⟨ns50, h⟩
    · refine J.tableIn (pc := 23) (off := 95) (tgt := 118) dX11_count_23 (by rw [hc]; decide) (by rw [hc]; decide) (by rw [hc]; decide) (by decide) ?_
      refine J.aload_n (pc := 118) dX11_count_118 rfl 0 rfl ?_
      refine J.iconst (pc := 119) dX11_count_119 ic_0 ?_
      obtain ⟨r35, e34, h⟩ := bnd h
      refine J.callV (Y := mX11_count) (Z := mX11_metAll) (pc := 120) (st := []) (k2 := 0) (n2 := 0) dX11_count_120 ml_RX11_359 mo_X11_metAll mv_X11_metAll rfl (tX11_metAll (d + 2) e34 hN10 k0) k0 (okN hN10 k0 (by decide)).1 (okN hN10 k0 (by decide)).2 cq_11 (by decide) rfl rfl (Nat.le_of_ble_eq_true rfl) (by decide) (by decide) (fun v ν hp => ?_) (fun i ν hp => nrm hp.1)
      obtain ⟨rfl, rfl, hN36, hb37⟩ := QEl hp
      show J _ _ _ _ 123 _ ([.int r35]) _ _ _ _
      cases h
      exact J.iret (pc := 123) dX11_count_123 rfl ⟨rfl, rfl, hN36, trivial⟩
    rcases ifc h with ⟨hc, h⟩ | ⟨ns51, h⟩
    · refine J.tableIn (pc := 23) (off := 101) (tgt := 124) dX11_count_23 (by rw [hc]; decide) (by rw [hc]; decide) (by rw [hc]; decide) (by decide) ?_
      refine J.aload_n (pc := 124) dX11_count_124 rfl 0 rfl ?_
      refine J.fI (pc := 125) dX11_count_125 fl_RX11_283 k0 (okN hN10 k0 (by decide)) (Or.inl rfl) ?_
      cases h
      exact J.iret (pc := 128) dX11_count_128 rfl ⟨rfl, rfl, hN10, trivial⟩
    rcases ifc h with ⟨hc, h⟩ | ⟨ns52, h⟩
    · refine J.tableIn (pc := 23) (off := 106) (tgt := 129) dX11_count_23 (by rw [hc]; decide) (by rw [hc]; decide) (by rw [hc]; decide) (by decide) ?_
      refine J.aload_n (pc := 129) dX11_count_129 rfl 0 rfl ?_
      refine J.fI (pc := 130) dX11_count_130 fl_RX11_286 k0 (okN hN10 k0 (by decide)) (Or.inl rfl) ?_
      cases h
      exact J.iret (pc := 133) dX11_count_133 rfl ⟨rfl, rfl, hN10, trivial⟩
    rcases ifc h with ⟨hc, h⟩ | ⟨ns53, h⟩
    · refine J.tableIn (pc := 23) (off := 111) (tgt := 134) dX11_count_23 (by rw [hc]; decide) (by rw [hc]; decide) (by rw [hc]; decide) (by decide) ?_
      refine J.aload_n (pc := 134) dX11_count_134 rfl 0 rfl ?_
      refine J.fI (pc := 135) dX11_count_135 fl_RX11_102 k0 (okN hN10 k0 (by decide)) (Or.inl rfl) ?_
      cases h
      exact J.iret (pc := 138) dX11_count_138 rfl ⟨rfl, rfl, hN10, trivial⟩
    refine J.tableOut (pc := 23) (tgt := 139) dX11_count_23 (sw_out (vs := [(0 : Int32), (1 : Int32), (2 : Int32), (3 : Int32), (4 : Int32), (5 : Int32), (6 : Int32), (7 : Int32), (8 : Int32), (9 : Int32), (10 : Int32)]) (List.forall_mem_cons.mpr ⟨ns43, (List.forall_mem_cons.mpr ⟨ns44, (List.forall_mem_cons.mpr ⟨ns45, (List.forall_mem_cons.mpr ⟨ns46, (List.forall_mem_cons.mpr ⟨ns47, (List.forall_mem_cons.mpr ⟨ns48, (List.forall_mem_cons.mpr ⟨ns49, (List.forall_mem_cons.mpr ⟨ns50, (List.forall_mem_cons.mpr ⟨ns51, (List.forall_mem_cons.mpr ⟨ns52, (List.forall_mem_cons.mpr ⟨ns53, (fun _ q => nomatch q)⟩)⟩)⟩)⟩)⟩)⟩)⟩)⟩)⟩)⟩)⟩) (sw_hv (by decide))) (by decide) ?_
    refine J.aload_n (pc := 139) dX11_count_139 rfl 0 rfl ?_
    obtain ⟨a38, e39, h⟩ := bnd h
    have k40 : (kd a38).1 = 0 := gR_k e39
    refine J.fR (pc := 140) dX11_count_140 fl_RX11_29 k0 (okN hN10 k0 (by decide)) rfl e39 ?_
    refine J.iload_n (pc := 143) dX11_count_143 rfl 1 rfl ?_
    refine J.bipush (pc := 144) dX11_count_144 ib_11 ?_
    refine J.isub (pc := 146) dX11_count_146 ?_
    obtain ⟨x41, e42, h⟩ := bnd h
    refine J.aI (pc := 147) dX11_count_147 k40 (okN hN10 k40 (by decide)) e42 ?_
    cases h
    exact J.iret (pc := 148) dX11_count_148 rfl ⟨rfl, rfl, hN10, trivial⟩
def fX11_crowdAt_4 (μ : Mem) : Nat → Nat → Int32 → Int32 → Option (Int32)
  | 0, _, _, _ => none
  | n + 1, v0, v1, v2 =>
    if v2 < (48 : Int32) then
      (fX11_standAt v0 (79 : Int32) v2 μ).bind fun r2 =>
      if v1 = (-1 : Int32) then
        if (0 : Int32) < r2 then
          (fX11_crowdAt_4 μ n) v0 v2 (v2 + (1 : Int32))
        else
          (fX11_crowdAt_4 μ n) v0 v1 (v2 + (1 : Int32))
      else
        (fX11_standAt v0 (79 : Int32) v1 μ).bind fun r6 =>
        if r6 < r2 then
          (fX11_crowdAt_4 μ n) v0 v2 (v2 + (1 : Int32))
        else
          (fX11_crowdAt_4 μ n) v0 v1 (v2 + (1 : Int32))
    else
      some v1
set_option maxHeartbeats 4000000 in
theorem tX11_crowdAt_4 {ω : Wd} {l : Launch} (d : Nat) {μ : Mem} (hN : μ.1 = NN) {res : Int32} : ∀ n : Nat, ∀ (v0 : Nat) (v1 : Int32) (v2 : Int32), fX11_crowdAt_4 μ n v0 v1 v2 = some res → (kd v0).1 = 21 → J ω l mX11_crowdAt (d + 1) 4 [(0, .ref v0), (1, .int v1), (2, .int v2)] [] μ 0 0 (PE (.inl (some (.int res))) μ True) := by
  intro n
  induction n with
  | zero =>
    intro v0 v1 v2 h k0
    have h9 : (none : Option (Int32)) = some res := h
    cases h9
  | succ n ih =>
    intro v0 v1 v2 h k0
    unfold fX11_crowdAt_4 at h
    refine J.iload_n (pc := 4) dX11_crowdAt_4 rfl 2 rfl ?_
    refine J.bipush (pc := 5) dX11_crowdAt_5 ib_48 ?_
    rcases ifc h with ⟨hc, h⟩ | ⟨hc, h⟩
    · refine J.cge (pc := 7) (tgt := 44) dX11_crowdAt_7 (by decide) (fun _ => ?_) (fun q => absurd hc q)
      refine J.aload_n (pc := 10) dX11_crowdAt_10 rfl 0 rfl ?_
      refine J.bipush (pc := 11) dX11_crowdAt_11 ib_79 ?_
      refine J.iload_n (pc := 13) dX11_crowdAt_13 rfl 2 rfl ?_
      obtain ⟨r2, e1, h⟩ := bnd h
      refine J.callV (Y := mX11_crowdAt) (Z := mX11_standAt) (pc := 14) (st := []) (k2 := 0) (n2 := 0) dX11_crowdAt_14 ml_RX11_304 mo_X11_standAt mv_X11_standAt rfl (tX11_standAt d e1 hN k0) k0 (okN hN k0 (by decide)).1 (okN hN k0 (by decide)).2 cq_11 (by decide) rfl rfl (Nat.le_of_ble_eq_true rfl) (by decide) (by decide) (fun v ν hp => ?_) (fun i ν hp => nrm hp.1)
      obtain ⟨rfl, rfl, hN3, hb4⟩ := QEl hp
      show J _ _ _ _ 17 _ ([.int r2]) _ _ _ _
      refine J.iload_n (pc := 17) dX11_crowdAt_17 rfl 1 rfl ?_
      refine J.iconst (pc := 18) dX11_crowdAt_18 ic_m1 ?_
      rcases ifc h with ⟨hc, h⟩ | ⟨hc, h⟩
      · refine J.cne (pc := 19) (tgt := 26) dX11_crowdAt_19 (by decide) (fun _ => ?_) (fun q => absurd hc q)
        refine J.iconst (pc := 22) dX11_crowdAt_22 ic_0 ?_
        refine J.goto (pc := 23) (tgt := 33) dX11_crowdAt_23 (by decide) ?_
        rcases ifc h with ⟨hc, h⟩ | ⟨hc, h⟩
        · refine J.cle (pc := 33) (tgt := 38) dX11_crowdAt_33 (by decide) (fun _ => ?_) (fun q => absurd hc q)
          refine J.iload_n (pc := 36) dX11_crowdAt_36 rfl 2 rfl ?_
          refine J.istore_n (pc := 37) ([(1, .int v2), (0, .ref v0), (2, .int v2)]) dX11_crowdAt_37 rfl (Nat.le_of_ble_eq_true rfl) rfl ?_
          refine J.iinc (pc := 38) (j := 2) ([(2, .int (v2 + (1 : Int32))), (1, .int v2), (0, .ref v0)]) dX11_crowdAt_38 rfl (iincv ic_1) (Nat.le_of_ble_eq_true rfl) rfl ?_
          refine J.goto (pc := 41) (tgt := 4) dX11_crowdAt_41 (by decide) ?_
          refine J.pick [2, 1, 0] rfl ?_
          exact ih v0 v2 (v2 + (1 : Int32)) h k0
        · refine J.cle (pc := 33) (tgt := 38) dX11_crowdAt_33 (by decide) (fun q => absurd q hc) (fun _ => ?_)
          refine J.iinc (pc := 38) (j := 2) ([(2, .int (v2 + (1 : Int32))), (0, .ref v0), (1, .int v1)]) dX11_crowdAt_38 rfl (iincv ic_1) (Nat.le_of_ble_eq_true rfl) rfl ?_
          refine J.goto (pc := 41) (tgt := 4) dX11_crowdAt_41 (by decide) ?_
          refine J.pick [1, 2, 0] rfl ?_
          exact ih v0 v1 (v2 + (1 : Int32)) h k0
      · refine J.cne (pc := 19) (tgt := 26) dX11_crowdAt_19 (by decide) (fun q => absurd q hc) (fun _ => ?_)
        refine J.aload_n (pc := 26) dX11_crowdAt_26 rfl 0 rfl ?_
        refine J.bipush (pc := 27) dX11_crowdAt_27 ib_79 ?_
        refine J.iload_n (pc := 29) dX11_crowdAt_29 rfl 1 rfl ?_
        obtain ⟨r6, e5, h⟩ := bnd h
        refine J.callV (Y := mX11_crowdAt) (Z := mX11_standAt) (pc := 30) (st := [.int r2]) (k2 := 0) (n2 := 0) dX11_crowdAt_30 ml_RX11_304 mo_X11_standAt mv_X11_standAt rfl (tX11_standAt d e5 hN3 k0) k0 (okN hN3 k0 (by decide)).1 (okN hN3 k0 (by decide)).2 cq_11 (by decide) rfl rfl (Nat.le_of_ble_eq_true rfl) (by decide) (by decide) (fun v ν hp => ?_) (fun i ν hp => nrm hp.1)
        obtain ⟨rfl, rfl, hN7, hb8⟩ := QEl hp
        show J _ _ _ _ 33 _ ([.int r6, .int r2]) _ _ _ _
        rcases ifc h with ⟨hc, h⟩ | ⟨hc, h⟩
        · refine J.cle (pc := 33) (tgt := 38) dX11_crowdAt_33 (by decide) (fun _ => ?_) (fun q => absurd hc q)
          refine J.iload_n (pc := 36) dX11_crowdAt_36 rfl 2 rfl ?_
          refine J.istore_n (pc := 37) ([(1, .int v2), (0, .ref v0), (2, .int v2)]) dX11_crowdAt_37 rfl (Nat.le_of_ble_eq_true rfl) rfl ?_
          refine J.iinc (pc := 38) (j := 2) ([(2, .int (v2 + (1 : Int32))), (1, .int v2), (0, .ref v0)]) dX11_crowdAt_38 rfl (iincv ic_1) (Nat.le_of_ble_eq_true rfl) rfl ?_
          refine J.goto (pc := 41) (tgt := 4) dX11_crowdAt_41 (by decide) ?_
          refine J.pick [2, 1, 0] rfl ?_
          exact ih v0 v2 (v2 + (1 : Int32)) h k0
        · refine J.cle (pc := 33) (tgt := 38) dX11_crowdAt_33 (by decide) (fun q => absurd q hc) (fun _ => ?_)
          refine J.iinc (pc := 38) (j := 2) ([(2, .int (v2 + (1 : Int32))), (0, .ref v0), (1, .int v1)]) dX11_crowdAt_38 rfl (iincv ic_1) (Nat.le_of_ble_eq_true rfl) rfl ?_
          refine J.goto (pc := 41) (tgt := 4) dX11_crowdAt_41 (by decide) ?_
          refine J.pick [1, 2, 0] rfl ?_
          exact ih v0 v1 (v2 + (1 : Int32)) h k0
    · refine J.cge (pc := 7) (tgt := 44) dX11_crowdAt_7 (by decide) (fun q => absurd q hc) (fun _ => ?_)
      refine J.iload_n (pc := 44) dX11_crowdAt_44 rfl 1 rfl ?_
      cases h
      exact J.iret (pc := 45) dX11_crowdAt_45 rfl ⟨rfl, rfl, hN, trivial⟩
def fX11_crowdAt (v0 : Nat) (μ : Mem) : Option (Int32) :=
  (fX11_crowdAt_4 μ fuel) v0 (-1 : Int32) (0 : Int32)
set_option maxHeartbeats 4000000 in
theorem tX11_crowdAt {ω : Wd} {l : Launch} (d : Nat) {v0 : Nat} {μ : Mem} {res : Int32} (h : fX11_crowdAt v0 μ = some res) (hN : μ.1 = NN) (k0 : (kd v0).1 = 21) : Ct ω l mX11_crowdAt (d + 1) [.ref v0] μ 0 0 (PE (.inl (some (.int res))) μ True) := by
  refine Ct.of pn_RX11 (Nat.le_of_ble_eq_true rfl) ?_
  show J ω l mX11_crowdAt (d + 1) 0 [(0, .ref v0)] [] μ 0 0 _
  unfold fX11_crowdAt at h
  refine J.iconst (pc := 0) dX11_crowdAt_0 ic_m1 ?_
  refine J.istore_n (pc := 1) ([(1, .int (-1 : Int32)), (0, .ref v0)]) dX11_crowdAt_1 rfl (Nat.le_of_ble_eq_true rfl) rfl ?_
  refine J.iconst (pc := 2) dX11_crowdAt_2 ic_0 ?_
  refine J.istore_n (pc := 3) ([(2, .int (0 : Int32)), (1, .int (-1 : Int32)), (0, .ref v0)]) dX11_crowdAt_3 rfl (Nat.le_of_ble_eq_true rfl) rfl ?_
  refine J.pick [2, 1, 0] rfl ?_
  exact (tX11_crowdAt_4 d hN fuel) v0 (-1 : Int32) (0 : Int32) h k0
def fX11_keeps_52  : Nat → Nat → Int32 → Mem → Option (Mem)
  | 0, _, _, _ => none
  | n + 1, v0, v1, μ =>
    if v1 < (79 : Int32) then
      (gR μ v0 35 0).bind fun a1 =>
      (gR μ v0 34 0).bind fun a4 =>
      (ldI μ a4 v1).bind fun x7 =>
      (stI μ a1 (((79 : Int32) * (μ.2.1 v0 36)) + v1) x7).bind fun μ9 =>
      (fX11_keeps_52 n) v0 (v1 + (1 : Int32)) μ9
    else
      (some (sI μ v0 36 ((μ.2.1 v0 36) + (1 : Int32)))).bind fun μ12 =>
      some μ12
set_option maxHeartbeats 4000000 in
theorem tX11_keeps_52 {ω : Wd} {l : Launch} (d : Nat) {res : Mem} : ∀ n : Nat, ∀ (v0 : Nat) (v1 : Int32) (μ : Mem), fX11_keeps_52 n v0 v1 μ = some res → μ.1 = NN → (kd v0).1 = 21 → J ω l mX11_keeps d 52 [(0, .ref v0), (1, .int v1)] [] μ 0 0 (PE (.inl none) res True) := by
  intro n
  induction n with
  | zero =>
    intro v0 v1 μ h hN k0
    have h9 : (none : Option (Mem)) = some res := h
    cases h9
  | succ n ih =>
    intro v0 v1 μ h hN k0
    unfold fX11_keeps_52 at h
    refine J.iload_n (pc := 52) dX11_keeps_52 rfl 1 rfl ?_
    refine J.bipush (pc := 53) dX11_keeps_53 ib_79 ?_
    rcases ifc h with ⟨hc, h⟩ | ⟨hc, h⟩
    · refine J.cge (pc := 55) (tgt := 84) dX11_keeps_55 (by decide) (fun _ => ?_) (fun q => absurd hc q)
      refine J.aload_n (pc := 58) dX11_keeps_58 rfl 0 rfl ?_
      obtain ⟨a1, e2, h⟩ := bnd h
      have k3 : (kd a1).1 = 0 := gR_k e2
      refine J.fR (pc := 59) dX11_keeps_59 fl_RX11_51 k0 (okN hN k0 (by decide)) rfl e2 ?_
      refine J.bipush (pc := 62) dX11_keeps_62 ib_79 ?_
      refine J.aload_n (pc := 64) dX11_keeps_64 rfl 0 rfl ?_
      refine J.fI (pc := 65) dX11_keeps_65 fl_RX11_283 k0 (okN hN k0 (by decide)) (Or.inl rfl) ?_
      refine J.imul (pc := 68) dX11_keeps_68 ?_
      refine J.iload_n (pc := 69) dX11_keeps_69 rfl 1 rfl ?_
      refine J.iadd (pc := 70) dX11_keeps_70 ?_
      refine J.aload_n (pc := 71) dX11_keeps_71 rfl 0 rfl ?_
      obtain ⟨a4, e5, h⟩ := bnd h
      have k6 : (kd a4).1 = 0 := gR_k e5
      refine J.fR (pc := 72) dX11_keeps_72 fl_RX11_48 k0 (okN hN k0 (by decide)) rfl e5 ?_
      refine J.iload_n (pc := 75) dX11_keeps_75 rfl 1 rfl ?_
      obtain ⟨x7, e8, h⟩ := bnd h
      refine J.aI (pc := 76) dX11_keeps_76 k6 (okN hN k6 (by decide)) e8 ?_
      obtain ⟨μ9, e10, h⟩ := bnd h
      have hN11 : μ9.1 = NN := stI_N e10 hN
      refine J.wI (pc := 77) dX11_keeps_77 k3 (okN hN k3 (by decide)) e10 ?_
      refine J.iinc (pc := 78) (j := 1) ([(1, .int (v1 + (1 : Int32))), (0, .ref v0)]) dX11_keeps_78 rfl (iincv ic_1) (Nat.le_of_ble_eq_true rfl) rfl ?_
      refine J.goto (pc := 81) (tgt := 52) dX11_keeps_81 (by decide) ?_
      refine J.pick [1, 0] rfl ?_
      exact ih v0 (v1 + (1 : Int32)) μ9 h hN11 k0
    · refine J.cge (pc := 55) (tgt := 84) dX11_keeps_55 (by decide) (fun q => absurd q hc) (fun _ => ?_)
      refine J.aload_n (pc := 84) dX11_keeps_84 rfl 0 rfl ?_
      refine J.dup (pc := 85) dX11_keeps_85 rfl ?_
      refine J.fI (pc := 86) dX11_keeps_86 fl_RX11_283 k0 (okN hN k0 (by decide)) (Or.inl rfl) ?_
      refine J.iconst (pc := 89) dX11_keeps_89 ic_1 ?_
      refine J.iadd (pc := 90) dX11_keeps_90 ?_
      obtain ⟨μ12, e13, h⟩ := bnd h
      have hN14 : μ12.1 = NN := smN e13 hN
      refine J.qI (pc := 91) dX11_keeps_91 fl_RX11_283 k0 (okN hN k0 (by decide)) rfl rfl e13 ?_
      cases h
      exact J.vret (pc := 94) dX11_keeps_94 rfl ⟨rfl, rfl, hN14, trivial⟩
def fX11_keeps_12  (K52 : Nat → Int32 → Mem → Option (Mem)) : Nat → Nat → Int32 → Mem → Option (Mem)
  | 0, _, _, _ => none
  | n + 1, v0, v1, μ =>
    if v1 < (3160 : Int32) then
      (gR μ v0 35 0).bind fun a1 =>
      (gR μ v0 35 0).bind fun a4 =>
      (ldI μ a4 v1).bind fun x7 =>
      (stI μ a1 (v1 - (79 : Int32)) x7).bind fun μ9 =>
      (fX11_keeps_12 K52 n) v0 (v1 + (1 : Int32)) μ9
    else
      (some (sI μ v0 36 ((μ.2.1 v0 36) - (1 : Int32)))).bind fun μ12 =>
      K52 v0 (0 : Int32) μ12
set_option maxHeartbeats 4000000 in
theorem tX11_keeps_12 {ω : Wd} {l : Launch} (d : Nat) {res : Mem} (K52 : Nat → Int32 → Mem → Option (Mem)) (hK52 : ∀ (v0 : Nat) (v1 : Int32) (μ : Mem), K52 v0 v1 μ = some res → μ.1 = NN → (kd v0).1 = 21 → J ω l mX11_keeps d 52 [(0, .ref v0), (1, .int v1)] [] μ 0 0 (PE (.inl none) res True)) : ∀ n : Nat, ∀ (v0 : Nat) (v1 : Int32) (μ : Mem), fX11_keeps_12 K52 n v0 v1 μ = some res → μ.1 = NN → (kd v0).1 = 21 → J ω l mX11_keeps d 12 [(0, .ref v0), (1, .int v1)] [] μ 0 0 (PE (.inl none) res True) := by
  intro n
  induction n with
  | zero =>
    intro v0 v1 μ h hN k0
    have h9 : (none : Option (Mem)) = some res := h
    cases h9
  | succ n ih =>
    intro v0 v1 μ h hN k0
    unfold fX11_keeps_12 at h
    refine J.iload_n (pc := 12) dX11_keeps_12 rfl 1 rfl ?_
    refine J.sipush (pc := 13) dX11_keeps_13 is_3160 ?_
    rcases ifc h with ⟨hc, h⟩ | ⟨hc, h⟩
    · refine J.cge (pc := 16) (tgt := 40) dX11_keeps_16 (by decide) (fun _ => ?_) (fun q => absurd hc q)
      refine J.aload_n (pc := 19) dX11_keeps_19 rfl 0 rfl ?_
      obtain ⟨a1, e2, h⟩ := bnd h
      have k3 : (kd a1).1 = 0 := gR_k e2
      refine J.fR (pc := 20) dX11_keeps_20 fl_RX11_51 k0 (okN hN k0 (by decide)) rfl e2 ?_
      refine J.iload_n (pc := 23) dX11_keeps_23 rfl 1 rfl ?_
      refine J.bipush (pc := 24) dX11_keeps_24 ib_79 ?_
      refine J.isub (pc := 26) dX11_keeps_26 ?_
      refine J.aload_n (pc := 27) dX11_keeps_27 rfl 0 rfl ?_
      obtain ⟨a4, e5, h⟩ := bnd h
      have k6 : (kd a4).1 = 0 := gR_k e5
      refine J.fR (pc := 28) dX11_keeps_28 fl_RX11_51 k0 (okN hN k0 (by decide)) rfl e5 ?_
      refine J.iload_n (pc := 31) dX11_keeps_31 rfl 1 rfl ?_
      obtain ⟨x7, e8, h⟩ := bnd h
      refine J.aI (pc := 32) dX11_keeps_32 k6 (okN hN k6 (by decide)) e8 ?_
      obtain ⟨μ9, e10, h⟩ := bnd h
      have hN11 : μ9.1 = NN := stI_N e10 hN
      refine J.wI (pc := 33) dX11_keeps_33 k3 (okN hN k3 (by decide)) e10 ?_
      refine J.iinc (pc := 34) (j := 1) ([(1, .int (v1 + (1 : Int32))), (0, .ref v0)]) dX11_keeps_34 rfl (iincv ic_1) (Nat.le_of_ble_eq_true rfl) rfl ?_
      refine J.goto (pc := 37) (tgt := 12) dX11_keeps_37 (by decide) ?_
      refine J.pick [1, 0] rfl ?_
      exact ih v0 (v1 + (1 : Int32)) μ9 h hN11 k0
    · refine J.cge (pc := 16) (tgt := 40) dX11_keeps_16 (by decide) (fun q => absurd q hc) (fun _ => ?_)
      refine J.aload_n (pc := 40) dX11_keeps_40 rfl 0 rfl ?_
      refine J.dup (pc := 41) dX11_keeps_41 rfl ?_
      refine J.fI (pc := 42) dX11_keeps_42 fl_RX11_283 k0 (okN hN k0 (by decide)) (Or.inl rfl) ?_
      refine J.iconst (pc := 45) dX11_keeps_45 ic_1 ?_
      refine J.isub (pc := 46) dX11_keeps_46 ?_
      obtain ⟨μ12, e13, h⟩ := bnd h
      have hN14 : μ12.1 = NN := smN e13 hN
      refine J.qI (pc := 47) dX11_keeps_47 fl_RX11_283 k0 (okN hN k0 (by decide)) rfl rfl e13 ?_
      refine J.iconst (pc := 50) dX11_keeps_50 ic_0 ?_
      refine J.istore_n (pc := 51) ([(1, .int (0 : Int32)), (0, .ref v0)]) dX11_keeps_51 rfl (Nat.le_of_ble_eq_true rfl) rfl ?_
      refine J.pick [1, 0] rfl ?_
      exact hK52 v0 (0 : Int32) μ12 h hN14 k0
def fX11_keeps (v0 : Nat) (μ : Mem) : Option (Mem) :=
  if (μ.2.1 v0 36) = (40 : Int32) then
    (fX11_keeps_12 (fX11_keeps_52 fuel) fuel) v0 (79 : Int32) μ
  else
    (fX11_keeps_52 fuel) v0 (0 : Int32) μ
set_option maxHeartbeats 4000000 in
theorem tX11_keeps {ω : Wd} {l : Launch} (d : Nat) {v0 : Nat} {μ : Mem} {res : Mem} (h : fX11_keeps v0 μ = some res) (hN : μ.1 = NN) (k0 : (kd v0).1 = 21) : Ct ω l mX11_keeps d [.ref v0] μ 0 0 (PE (.inl none) res True) := by
  refine Ct.of pn_RX11 (Nat.le_of_ble_eq_true rfl) ?_
  show J ω l mX11_keeps d 0 [(0, .ref v0)] [] μ 0 0 _
  unfold fX11_keeps at h
  refine J.aload_n (pc := 0) dX11_keeps_0 rfl 0 rfl ?_
  refine J.fI (pc := 1) dX11_keeps_1 fl_RX11_283 k0 (okN hN k0 (by decide)) (Or.inl rfl) ?_
  refine J.bipush (pc := 4) dX11_keeps_4 ib_40 ?_
  rcases ifc h with ⟨hc, h⟩ | ⟨hc, h⟩
  · refine J.cne (pc := 6) (tgt := 50) dX11_keeps_6 (by decide) (fun _ => ?_) (fun q => absurd hc q)
    refine J.bipush (pc := 9) dX11_keeps_9 ib_79 ?_
    refine J.istore_n (pc := 11) ([(1, .int (79 : Int32)), (0, .ref v0)]) dX11_keeps_11 rfl (Nat.le_of_ble_eq_true rfl) rfl ?_
    refine J.pick [1, 0] rfl ?_
    exact (tX11_keeps_12 d (fX11_keeps_52 fuel) (tX11_keeps_52 d fuel) fuel) v0 (79 : Int32) μ h hN k0
  · refine J.cne (pc := 6) (tgt := 50) dX11_keeps_6 (by decide) (fun q => absurd q hc) (fun _ => ?_)
    refine J.iconst (pc := 50) dX11_keeps_50 ic_0 ?_
    refine J.istore_n (pc := 51) ([(1, .int (0 : Int32)), (0, .ref v0)]) dX11_keeps_51 rfl (Nat.le_of_ble_eq_true rfl) rfl ?_
    refine J.pick [1, 0] rfl ?_
    exact (tX11_keeps_52 d fuel) v0 (0 : Int32) μ h hN k0
def fX11_refuses (v0 : Nat) (v1 : Int32) (μ : Mem) : Option (Int32 × Mem) :=
  (gR μ v0 11 0).bind fun a1 =>
  (ldI μ a1 v1).bind fun x4 =>
  (stI μ a1 v1 (x4 + (1 : Int32))).bind fun μ6 =>
  some ((-1 : Int32), μ6)
set_option maxHeartbeats 4000000 in
theorem tX11_refuses {ω : Wd} {l : Launch} (d : Nat) {v0 : Nat} {v1 : Int32} {μ : Mem} {res : Int32 × Mem} (h : fX11_refuses v0 v1 μ = some res) (hN : μ.1 = NN) (k0 : (kd v0).1 = 21) : Ct ω l mX11_refuses d [.ref v0, .int v1] μ 0 0 (PE (.inl (some (.int res.1))) res.2 True) := by
  refine Ct.of pn_RX11 (Nat.le_of_ble_eq_true rfl) ?_
  show J ω l mX11_refuses d 0 [(0, .ref v0), (1, .int v1)] [] μ 0 0 _
  unfold fX11_refuses at h
  refine J.aload_n (pc := 0) dX11_refuses_0 rfl 0 rfl ?_
  obtain ⟨a1, e2, h⟩ := bnd h
  have k3 : (kd a1).1 = 0 := gR_k e2
  refine J.fR (pc := 1) dX11_refuses_1 fl_RX11_29 k0 (okN hN k0 (by decide)) rfl e2 ?_
  refine J.iload_n (pc := 4) dX11_refuses_4 rfl 1 rfl ?_
  refine J.dup2 (pc := 5) dX11_refuses_5 rfl rfl ?_
  obtain ⟨x4, e5, h⟩ := bnd h
  refine J.aI (pc := 6) dX11_refuses_6 k3 (okN hN k3 (by decide)) e5 ?_
  refine J.iconst (pc := 7) dX11_refuses_7 ic_1 ?_
  refine J.iadd (pc := 8) dX11_refuses_8 ?_
  obtain ⟨μ6, e7, h⟩ := bnd h
  have hN8 : μ6.1 = NN := stI_N e7 hN
  refine J.wI (pc := 9) dX11_refuses_9 k3 (okN hN k3 (by decide)) e7 ?_
  refine J.iconst (pc := 10) dX11_refuses_10 ic_m1 ?_
  cases h
  exact J.iret (pc := 11) dX11_refuses_11 rfl ⟨rfl, rfl, hN8, trivial⟩
def fX11_days_41  : Nat → Nat → Int32 → Int32 → Mem → Option (Int32 × Mem)
  | 0, _, _, _, _ => none
  | n + 1, v0, v1, v2, μ =>
    if v2 < v1 then
      (fX11_dayGoes v0 (0 : Int32) μ).bind fun μ2 =>
      (fX11_days_41 n) v0 v1 (v2 + (1 : Int32)) μ2
    else
      (gR μ v0 34 0).bind fun a5 =>
      (ldI μ a5 (0 : Int32)).bind fun x8 =>
      some (x8, μ)
set_option maxHeartbeats 4000000 in
theorem tX11_days_41 {ω : Wd} {l : Launch} (d : Nat) {res : Int32 × Mem} : ∀ n : Nat, ∀ (v0 : Nat) (v1 : Int32) (v2 : Int32) (μ : Mem), fX11_days_41 n v0 v1 v2 μ = some res → μ.1 = NN → (kd v0).1 = 21 → J ω l mX11_days (d + 5) 41 [(0, .ref v0), (1, .int v1), (2, .int v2)] [] μ 0 0 (PE (.inl (some (.int res.1))) res.2 True) := by
  intro n
  induction n with
  | zero =>
    intro v0 v1 v2 μ h hN k0
    have h9 : (none : Option (Int32 × Mem)) = some res := h
    cases h9
  | succ n ih =>
    intro v0 v1 v2 μ h hN k0
    unfold fX11_days_41 at h
    refine J.iload_n (pc := 41) dX11_days_41 rfl 2 rfl ?_
    refine J.iload_n (pc := 42) dX11_days_42 rfl 1 rfl ?_
    rcases ifc h with ⟨hc, h⟩ | ⟨hc, h⟩
    · refine J.cge (pc := 43) (tgt := 57) dX11_days_43 (by decide) (fun _ => ?_) (fun q => absurd hc q)
      refine J.aload_n (pc := 46) dX11_days_46 rfl 0 rfl ?_
      refine J.iconst (pc := 47) dX11_days_47 ic_0 ?_
      obtain ⟨μ2, e1, h⟩ := bnd h
      refine J.callV (Y := mX11_days) (Z := mX11_dayGoes) (pc := 48) (st := []) (k2 := 0) (n2 := 0) dX11_days_48 ml_RX11_341 mo_X11_dayGoes mv_X11_dayGoes rfl (tX11_dayGoes d e1 hN k0) k0 (okN hN k0 (by decide)).1 (okN hN k0 (by decide)).2 cq_11 (by decide) rfl rfl (Nat.le_of_ble_eq_true rfl) (by decide) (by decide) (fun v ν hp => ?_) (fun i ν hp => nrm hp.1)
      obtain ⟨rfl, rfl, hN3, hb4⟩ := QEl hp
      show J _ _ _ _ 51 _ ([]) _ _ _ _
      refine J.iinc (pc := 51) (j := 2) ([(2, .int (v2 + (1 : Int32))), (0, .ref v0), (1, .int v1)]) dX11_days_51 rfl (iincv ic_1) (Nat.le_of_ble_eq_true rfl) rfl ?_
      refine J.goto (pc := 54) (tgt := 41) dX11_days_54 (by decide) ?_
      refine J.pick [1, 2, 0] rfl ?_
      exact ih v0 v1 (v2 + (1 : Int32)) μ2 h hN3 k0
    · refine J.cge (pc := 43) (tgt := 57) dX11_days_43 (by decide) (fun q => absurd q hc) (fun _ => ?_)
      refine J.aload_n (pc := 57) dX11_days_57 rfl 0 rfl ?_
      obtain ⟨a5, e6, h⟩ := bnd h
      have k7 : (kd a5).1 = 0 := gR_k e6
      refine J.fR (pc := 58) dX11_days_58 fl_RX11_48 k0 (okN hN k0 (by decide)) rfl e6 ?_
      refine J.iconst (pc := 61) dX11_days_61 ic_0 ?_
      obtain ⟨x8, e9, h⟩ := bnd h
      refine J.aI (pc := 62) dX11_days_62 k7 (okN hN k7 (by decide)) e9 ?_
      cases h
      exact J.iret (pc := 63) dX11_days_63 rfl ⟨rfl, rfl, hN, trivial⟩
def fX11_days (v0 : Nat) (v1 : Int32) (μ : Mem) : Option (Int32 × Mem) :=
  (some (sI μ v0 0 (0 : Int32))).bind fun μ1 =>
  if (fX11_within v1 (1 : Int32) (20 : Int32)) = 0 then
    (fX11_refuses v0 (1 : Int32) μ1).bind fun (r9, μ8) =>
    some (r9, μ8)
  else
    (gR μ1 v0 34 0).bind fun a12 =>
    (ldI μ1 a12 (0 : Int32)).bind fun x15 =>
    if (9999 : Int32) < (x15 + v1) then
      (fX11_refuses v0 (1 : Int32) μ1).bind fun (r19, μ18) =>
      some (r19, μ18)
    else
      (fX11_keeps v0 μ1).bind fun μ23 =>
      (fX11_days_41 fuel) v0 v1 (0 : Int32) μ23
set_option maxHeartbeats 4000000 in
theorem tX11_days {ω : Wd} {l : Launch} (d : Nat) {v0 : Nat} {v1 : Int32} {μ : Mem} {res : Int32 × Mem} (h : fX11_days v0 v1 μ = some res) (hN : μ.1 = NN) (k0 : (kd v0).1 = 21) : Ct ω l mX11_days (d + 5) [.ref v0, .int v1] μ 0 0 (PE (.inl (some (.int res.1))) res.2 True) := by
  refine Ct.of pn_RX11 (Nat.le_of_ble_eq_true rfl) ?_
  show J ω l mX11_days (d + 5) 0 [(0, .ref v0), (1, .int v1)] [] μ 0 0 _
  unfold fX11_days at h
  refine J.aload_n (pc := 0) dX11_days_0 rfl 0 rfl ?_
  refine J.iconst (pc := 1) dX11_days_1 ic_0 ?_
  obtain ⟨μ1, e2, h⟩ := bnd h
  have hN3 : μ1.1 = NN := smN e2 hN
  refine J.qI (pc := 2) dX11_days_2 fl_RX11_99 k0 (okN hN k0 (by decide)) rfl rfl e2 ?_
  refine J.iload_n (pc := 5) dX11_days_5 rfl 1 rfl ?_
  refine J.iconst (pc := 6) dX11_days_6 ic_1 ?_
  refine J.bipush (pc := 7) dX11_days_7 ib_20 ?_
  refine J.callS (Y := mX11_days) (Z := mX11_within) (pc := 9) (st := []) (k2 := 0) (n2 := 0) dX11_days_9 ml_RX11_344 mo_X11_within ms_X11_within rfl (tX11_within (d + 4) v1 (1 : Int32) (20 : Int32) μ1 hN3 ) rfl rfl (Nat.le_of_ble_eq_true rfl) (by decide) (by decide) (fun v ν hp => ?_) (fun i ν hp => nrm hp.1)
  obtain ⟨rfl, rfl, hN5, hb6⟩ := QEl hp
  show J _ _ _ _ 12 _ ([.int (fX11_within v1 (1 : Int32) (20 : Int32))]) _ _ _ _
  rcases ifc h with ⟨hc, h⟩ | ⟨hc, h⟩
  · refine J.zeq (pc := 12) (tgt := 29) dX11_days_12 (by decide) (fun _ => ?_) (fun q => absurd hc q)
    refine J.aload_n (pc := 29) dX11_days_29 rfl 0 rfl ?_
    refine J.iconst (pc := 30) dX11_days_30 ic_1 ?_
    obtain ⟨⟨r9, μ8⟩, e7, h⟩ := bnd h
    try dsimp only at h
    refine J.callV (Y := mX11_days) (Z := mX11_refuses) (pc := 31) (st := []) (k2 := 0) (n2 := 0) dX11_days_31 ml_RX11_383 mo_X11_refuses mv_X11_refuses rfl (tX11_refuses (d + 4) e7 hN5 k0) k0 (okN hN5 k0 (by decide)).1 (okN hN5 k0 (by decide)).2 cq_11 (by decide) rfl rfl (Nat.le_of_ble_eq_true rfl) (by decide) (by decide) (fun v ν hp => ?_) (fun i ν hp => nrm hp.1)
    obtain ⟨rfl, rfl, hN10, hb11⟩ := QEl hp
    show J _ _ _ _ 34 _ ([.int r9]) _ _ _ _
    cases h
    exact J.iret (pc := 34) dX11_days_34 rfl ⟨rfl, rfl, hN10, trivial⟩
  · refine J.zeq (pc := 12) (tgt := 29) dX11_days_12 (by decide) (fun q => absurd q hc) (fun _ => ?_)
    refine J.aload_n (pc := 15) dX11_days_15 rfl 0 rfl ?_
    obtain ⟨a12, e13, h⟩ := bnd h
    have k14 : (kd a12).1 = 0 := gR_k e13
    refine J.fR (pc := 16) dX11_days_16 fl_RX11_48 k0 (okN hN5 k0 (by decide)) rfl e13 ?_
    refine J.iconst (pc := 19) dX11_days_19 ic_0 ?_
    obtain ⟨x15, e16, h⟩ := bnd h
    refine J.aI (pc := 20) dX11_days_20 k14 (okN hN5 k14 (by decide)) e16 ?_
    refine J.iload_n (pc := 21) dX11_days_21 rfl 1 rfl ?_
    refine J.iadd (pc := 22) dX11_days_22 ?_
    refine J.sipush (pc := 23) dX11_days_23 is_9999 ?_
    rcases ifc h with ⟨hc, h⟩ | ⟨hc, h⟩
    · refine J.cle (pc := 26) (tgt := 35) dX11_days_26 (by decide) (fun _ => ?_) (fun q => absurd hc q)
      refine J.aload_n (pc := 29) dX11_days_29 rfl 0 rfl ?_
      refine J.iconst (pc := 30) dX11_days_30 ic_1 ?_
      obtain ⟨⟨r19, μ18⟩, e17, h⟩ := bnd h
      try dsimp only at h
      refine J.callV (Y := mX11_days) (Z := mX11_refuses) (pc := 31) (st := []) (k2 := 0) (n2 := 0) dX11_days_31 ml_RX11_383 mo_X11_refuses mv_X11_refuses rfl (tX11_refuses (d + 4) e17 hN5 k0) k0 (okN hN5 k0 (by decide)).1 (okN hN5 k0 (by decide)).2 cq_11 (by decide) rfl rfl (Nat.le_of_ble_eq_true rfl) (by decide) (by decide) (fun v ν hp => ?_) (fun i ν hp => nrm hp.1)
      obtain ⟨rfl, rfl, hN20, hb21⟩ := QEl hp
      show J _ _ _ _ 34 _ ([.int r19]) _ _ _ _
      cases h
      exact J.iret (pc := 34) dX11_days_34 rfl ⟨rfl, rfl, hN20, trivial⟩
    · refine J.cle (pc := 26) (tgt := 35) dX11_days_26 (by decide) (fun q => absurd q hc) (fun _ => ?_)
      refine J.aload_n (pc := 35) dX11_days_35 rfl 0 rfl ?_
      obtain ⟨μ23, e22, h⟩ := bnd h
      refine J.callV (Y := mX11_days) (Z := mX11_keeps) (pc := 36) (st := []) (k2 := 0) (n2 := 0) dX11_days_36 ml_RX11_386 mo_X11_keeps mv_X11_keeps rfl (tX11_keeps (d + 4) e22 hN5 k0) k0 (okN hN5 k0 (by decide)).1 (okN hN5 k0 (by decide)).2 cq_11 (by decide) rfl rfl (Nat.le_of_ble_eq_true rfl) (by decide) (by decide) (fun v ν hp => ?_) (fun i ν hp => nrm hp.1)
      obtain ⟨rfl, rfl, hN24, hb25⟩ := QEl hp
      show J _ _ _ _ 39 _ ([]) _ _ _ _
      refine J.iconst (pc := 39) dX11_days_39 ic_0 ?_
      refine J.istore_n (pc := 40) ([(2, .int (0 : Int32)), (0, .ref v0), (1, .int v1)]) dX11_days_40 rfl (Nat.le_of_ble_eq_true rfl) rfl ?_
      refine J.pick [1, 2, 0] rfl ?_
      exact (tX11_days_41 d fuel) v0 v1 (0 : Int32) μ23 h hN24 k0
def fX11_daysGo_2  : Nat → Nat → Int32 → Int32 → Mem → Option (Mem)
  | 0, _, _, _, _ => none
  | n + 1, v0, v1, v2, μ =>
    if v2 < v1 then
      (fX11_dayGoes v0 (79 : Int32) μ).bind fun μ2 =>
      (fX11_daysGo_2 n) v0 v1 (v2 + (1 : Int32)) μ2
    else
      some μ
set_option maxHeartbeats 4000000 in
theorem tX11_daysGo_2 {ω : Wd} {l : Launch} (d : Nat) {res : Mem} : ∀ n : Nat, ∀ (v0 : Nat) (v1 : Int32) (v2 : Int32) (μ : Mem), fX11_daysGo_2 n v0 v1 v2 μ = some res → μ.1 = NN → (kd v0).1 = 21 → J ω l mX11_daysGo (d + 5) 2 [(0, .ref v0), (1, .int v1), (2, .int v2)] [] μ 0 0 (PE (.inl none) res True) := by
  intro n
  induction n with
  | zero =>
    intro v0 v1 v2 μ h hN k0
    have h9 : (none : Option (Mem)) = some res := h
    cases h9
  | succ n ih =>
    intro v0 v1 v2 μ h hN k0
    unfold fX11_daysGo_2 at h
    refine J.iload_n (pc := 2) dX11_daysGo_2 rfl 2 rfl ?_
    refine J.iload_n (pc := 3) dX11_daysGo_3 rfl 1 rfl ?_
    rcases ifc h with ⟨hc, h⟩ | ⟨hc, h⟩
    · refine J.cge (pc := 4) (tgt := 19) dX11_daysGo_4 (by decide) (fun _ => ?_) (fun q => absurd hc q)
      refine J.aload_n (pc := 7) dX11_daysGo_7 rfl 0 rfl ?_
      refine J.bipush (pc := 8) dX11_daysGo_8 ib_79 ?_
      obtain ⟨μ2, e1, h⟩ := bnd h
      refine J.callV (Y := mX11_daysGo) (Z := mX11_dayGoes) (pc := 10) (st := []) (k2 := 0) (n2 := 0) dX11_daysGo_10 ml_RX11_341 mo_X11_dayGoes mv_X11_dayGoes rfl (tX11_dayGoes d e1 hN k0) k0 (okN hN k0 (by decide)).1 (okN hN k0 (by decide)).2 cq_11 (by decide) rfl rfl (Nat.le_of_ble_eq_true rfl) (by decide) (by decide) (fun v ν hp => ?_) (fun i ν hp => nrm hp.1)
      obtain ⟨rfl, rfl, hN3, hb4⟩ := QEl hp
      show J _ _ _ _ 13 _ ([]) _ _ _ _
      refine J.iinc (pc := 13) (j := 2) ([(2, .int (v2 + (1 : Int32))), (0, .ref v0), (1, .int v1)]) dX11_daysGo_13 rfl (iincv ic_1) (Nat.le_of_ble_eq_true rfl) rfl ?_
      refine J.goto (pc := 16) (tgt := 2) dX11_daysGo_16 (by decide) ?_
      refine J.pick [1, 2, 0] rfl ?_
      exact ih v0 v1 (v2 + (1 : Int32)) μ2 h hN3 k0
    · refine J.cge (pc := 4) (tgt := 19) dX11_daysGo_4 (by decide) (fun q => absurd q hc) (fun _ => ?_)
      cases h
      exact J.vret (pc := 19) dX11_daysGo_19 rfl ⟨rfl, rfl, hN, trivial⟩
def fX11_daysGo (v0 : Nat) (v1 : Int32) (μ : Mem) : Option (Mem) :=
  (fX11_daysGo_2 fuel) v0 v1 (0 : Int32) μ
set_option maxHeartbeats 4000000 in
theorem tX11_daysGo {ω : Wd} {l : Launch} (d : Nat) {v0 : Nat} {v1 : Int32} {μ : Mem} {res : Mem} (h : fX11_daysGo v0 v1 μ = some res) (hN : μ.1 = NN) (k0 : (kd v0).1 = 21) : Ct ω l mX11_daysGo (d + 5) [.ref v0, .int v1] μ 0 0 (PE (.inl none) res True) := by
  refine Ct.of pn_RX11 (Nat.le_of_ble_eq_true rfl) ?_
  show J ω l mX11_daysGo (d + 5) 0 [(0, .ref v0), (1, .int v1)] [] μ 0 0 _
  unfold fX11_daysGo at h
  refine J.iconst (pc := 0) dX11_daysGo_0 ic_0 ?_
  refine J.istore_n (pc := 1) ([(2, .int (0 : Int32)), (0, .ref v0), (1, .int v1)]) dX11_daysGo_1 rfl (Nat.le_of_ble_eq_true rfl) rfl ?_
  refine J.pick [1, 2, 0] rfl ?_
  exact (tX11_daysGo_2 d fuel) v0 v1 (0 : Int32) μ h hN k0
def fX11_isDeed (v0 : Nat) (v1 : Int32) (μ : Mem) : Option (Int32 × Mem) :=
  if v1 < 0 then
    (fX11_right v0 (0 : Int32) (1 : Int32) μ).bind fun (r3, μ2) =>
    some (r3, μ2)
  else
    if v1 < (μ.2.1 v0 1) then
      (fX11_right v0 (1 : Int32) (1 : Int32) μ).bind fun (r8, μ7) =>
      some (r8, μ7)
    else
      (fX11_right v0 (0 : Int32) (1 : Int32) μ).bind fun (r13, μ12) =>
      some (r13, μ12)
set_option maxHeartbeats 4000000 in
theorem tX11_isDeed {ω : Wd} {l : Launch} (d : Nat) {v0 : Nat} {v1 : Int32} {μ : Mem} {res : Int32 × Mem} (h : fX11_isDeed v0 v1 μ = some res) (hN : μ.1 = NN) (k0 : (kd v0).1 = 21) : Ct ω l mX11_isDeed (d + 1) [.ref v0, .int v1] μ 0 0 (PE (.inl (some (.int res.1))) res.2 (isB res.1)) := by
  refine Ct.of pn_RX11 (Nat.le_of_ble_eq_true rfl) ?_
  show J ω l mX11_isDeed (d + 1) 0 [(0, .ref v0), (1, .int v1)] [] μ 0 0 _
  unfold fX11_isDeed at h
  refine J.aload_n (pc := 0) dX11_isDeed_0 rfl 0 rfl ?_
  refine J.iload_n (pc := 1) dX11_isDeed_1 rfl 1 rfl ?_
  rcases ifc h with ⟨hc, h⟩ | ⟨hc, h⟩
  · refine J.zlt (pc := 2) (tgt := 17) dX11_isDeed_2 (by decide) (fun _ => ?_) (fun q => absurd hc q)
    refine J.iconst (pc := 17) dX11_isDeed_17 ic_0 ?_
    refine J.iconst (pc := 18) dX11_isDeed_18 ic_1 ?_
    obtain ⟨⟨r3, μ2⟩, e1, h⟩ := bnd h
    try dsimp only at h
    refine J.callV (Y := mX11_isDeed) (Z := mX11_right) (pc := 19) (st := []) (k2 := 0) (n2 := 0) dX11_isDeed_19 ml_RX11_266 mo_X11_right mv_X11_right rfl (tX11_right d e1 hN k0) k0 (okN hN k0 (by decide)).1 (okN hN k0 (by decide)).2 cq_11 (by decide) rfl rfl (Nat.le_of_ble_eq_true rfl) (by decide) (by decide) (fun v ν hp => ?_) (fun i ν hp => nrm hp.1)
    obtain ⟨rfl, rfl, hN4, hb5⟩ := QEl hp
    show J _ _ _ _ 22 _ ([.int r3]) _ _ _ _
    cases h
    exact J.zret (pc := 22) dX11_isDeed_22 rfl (narB hb5) ⟨rfl, rfl, hN4, hb5⟩
  · refine J.zlt (pc := 2) (tgt := 17) dX11_isDeed_2 (by decide) (fun q => absurd q hc) (fun _ => ?_)
    refine J.iload_n (pc := 5) dX11_isDeed_5 rfl 1 rfl ?_
    refine J.aload_n (pc := 6) dX11_isDeed_6 rfl 0 rfl ?_
    refine J.fI (pc := 7) dX11_isDeed_7 fl_RX11_273 k0 (okN hN k0 (by decide)) (Or.inl rfl) ?_
    rcases ifc h with ⟨hc, h⟩ | ⟨hc, h⟩
    · refine J.cge (pc := 10) (tgt := 17) dX11_isDeed_10 (by decide) (fun _ => ?_) (fun q => absurd hc q)
      refine J.iconst (pc := 13) dX11_isDeed_13 ic_1 ?_
      refine J.goto (pc := 14) (tgt := 18) dX11_isDeed_14 (by decide) ?_
      refine J.iconst (pc := 18) dX11_isDeed_18 ic_1 ?_
      obtain ⟨⟨r8, μ7⟩, e6, h⟩ := bnd h
      try dsimp only at h
      refine J.callV (Y := mX11_isDeed) (Z := mX11_right) (pc := 19) (st := []) (k2 := 0) (n2 := 0) dX11_isDeed_19 ml_RX11_266 mo_X11_right mv_X11_right rfl (tX11_right d e6 hN k0) k0 (okN hN k0 (by decide)).1 (okN hN k0 (by decide)).2 cq_11 (by decide) rfl rfl (Nat.le_of_ble_eq_true rfl) (by decide) (by decide) (fun v ν hp => ?_) (fun i ν hp => nrm hp.1)
      obtain ⟨rfl, rfl, hN9, hb10⟩ := QEl hp
      show J _ _ _ _ 22 _ ([.int r8]) _ _ _ _
      cases h
      exact J.zret (pc := 22) dX11_isDeed_22 rfl (narB hb10) ⟨rfl, rfl, hN9, hb10⟩
    · refine J.cge (pc := 10) (tgt := 17) dX11_isDeed_10 (by decide) (fun q => absurd q hc) (fun _ => ?_)
      refine J.iconst (pc := 17) dX11_isDeed_17 ic_0 ?_
      refine J.iconst (pc := 18) dX11_isDeed_18 ic_1 ?_
      obtain ⟨⟨r13, μ12⟩, e11, h⟩ := bnd h
      try dsimp only at h
      refine J.callV (Y := mX11_isDeed) (Z := mX11_right) (pc := 19) (st := []) (k2 := 0) (n2 := 0) dX11_isDeed_19 ml_RX11_266 mo_X11_right mv_X11_right rfl (tX11_right d e11 hN k0) k0 (okN hN k0 (by decide)).1 (okN hN k0 (by decide)).2 cq_11 (by decide) rfl rfl (Nat.le_of_ble_eq_true rfl) (by decide) (by decide) (fun v ν hp => ?_) (fun i ν hp => nrm hp.1)
      obtain ⟨rfl, rfl, hN14, hb15⟩ := QEl hp
      show J _ _ _ _ 22 _ ([.int r13]) _ _ _ _
      cases h
      exact J.zret (pc := 22) dX11_isDeed_22 rfl (narB hb15) ⟨rfl, rfl, hN14, hb15⟩
def fX11_deed_100  : Nat → Nat → Int32 → Int32 → Int32 → Int32 → Int32 → Int32 → Mem → Option (Int32 × Mem)
  | 0, _, _, _, _, _, _, _, _ => none
  | n + 1, v0, v1, v2, v3, v4, v5, v6, μ =>
    if v6 < (μ.2.1 v0 2) then
      (gR μ v0 34 0).bind fun a1 =>
      (ldI μ a1 ((55 : Int32) + v6)).bind fun x4 =>
      if (x4 / (8 : Int32)) = v1 then
        (fX11_deed_100 n) v0 v1 v2 v3 v4 (v5 ||| ((1 : Int32) <<< (v6 &&& 31))) (v6 + (1 : Int32)) μ
      else
        (fX11_deed_100 n) v0 v1 v2 v3 v4 (v5 ||| (0 : Int32)) (v6 + (1 : Int32)) μ
    else
      if v2 = 0 then
        (gR μ v0 5 0).bind fun a6 =>
        (ldI μ a6 v1).bind fun x9 =>
        some (x9, μ)
      else
        if v2 = (1 : Int32) then
          some (v3, μ)
        else
          if v2 = (2 : Int32) then
            (gR μ v0 34 0).bind fun a11 =>
            (ldI μ a11 ((49 : Int32) + v1)).bind fun x14 =>
            some (x14, μ)
          else
            if v2 = (3 : Int32) then
              some (v4, μ)
            else
              some (v5, μ)
set_option maxHeartbeats 4000000 in
theorem tX11_deed_100 {ω : Wd} {l : Launch} (d : Nat) {res : Int32 × Mem} : ∀ n : Nat, ∀ (v0 : Nat) (v1 : Int32) (v2 : Int32) (v3 : Int32) (v4 : Int32) (v5 : Int32) (v6 : Int32) (μ : Mem), fX11_deed_100 n v0 v1 v2 v3 v4 v5 v6 μ = some res → μ.1 = NN → (kd v0).1 = 21 → J ω l mX11_deed (d + 2) 100 [(0, .ref v0), (1, .int v1), (2, .int v2), (3, .int v3), (4, .int v4), (5, .int v5), (6, .int v6)] [] μ 0 0 (PE (.inl (some (.int res.1))) res.2 True) := by
  intro n
  induction n with
  | zero =>
    intro v0 v1 v2 v3 v4 v5 v6 μ h hN k0
    have h9 : (none : Option (Int32 × Mem)) = some res := h
    cases h9
  | succ n ih =>
    intro v0 v1 v2 v3 v4 v5 v6 μ h hN k0
    unfold fX11_deed_100 at h
    refine J.iload (pc := 100) dX11_deed_100 6 rfl ?_
    refine J.aload_n (pc := 102) dX11_deed_102 rfl 0 rfl ?_
    refine J.fI (pc := 103) dX11_deed_103 fl_RX11_276 k0 (okN hN k0 (by decide)) (Or.inl rfl) ?_
    rcases ifc h with ⟨hc, h⟩ | ⟨hc, h⟩
    · refine J.cge (pc := 106) (tgt := 145) dX11_deed_106 (by decide) (fun _ => ?_) (fun q => absurd hc q)
      refine J.iload (pc := 109) dX11_deed_109 5 rfl ?_
      refine J.aload_n (pc := 111) dX11_deed_111 rfl 0 rfl ?_
      obtain ⟨a1, e2, h⟩ := bnd h
      have k3 : (kd a1).1 = 0 := gR_k e2
      refine J.fR (pc := 112) dX11_deed_112 fl_RX11_48 k0 (okN hN k0 (by decide)) rfl e2 ?_
      refine J.bipush (pc := 115) dX11_deed_115 ib_55 ?_
      refine J.iload (pc := 117) dX11_deed_117 6 rfl ?_
      refine J.iadd (pc := 119) dX11_deed_119 ?_
      obtain ⟨x4, e5, h⟩ := bnd h
      refine J.aI (pc := 120) dX11_deed_120 k3 (okN hN k3 (by decide)) e5 ?_
      refine J.bipush (pc := 121) dX11_deed_121 ib_8 ?_
      refine J.idiv (pc := 123) dX11_deed_123 (by decide) ?_
      refine J.iload_n (pc := 124) dX11_deed_124 rfl 1 rfl ?_
      rcases ifc h with ⟨hc, h⟩ | ⟨hc, h⟩
      · refine J.cne (pc := 125) (tgt := 135) dX11_deed_125 (by decide) (fun _ => ?_) (fun q => absurd hc q)
        refine J.iconst (pc := 128) dX11_deed_128 ic_1 ?_
        refine J.iload (pc := 129) dX11_deed_129 6 rfl ?_
        refine J.ishl (pc := 131) dX11_deed_131 ?_
        refine J.goto (pc := 132) (tgt := 136) dX11_deed_132 (by decide) ?_
        refine J.ior (pc := 136) dX11_deed_136 ?_
        refine J.istore (pc := 137) ([(5, .int (v5 ||| ((1 : Int32) <<< (v6 &&& 31)))), (0, .ref v0), (1, .int v1), (2, .int v2), (3, .int v3), (4, .int v4), (6, .int v6)]) dX11_deed_137 (Nat.le_of_ble_eq_true rfl) rfl ?_
        refine J.iinc (pc := 139) (j := 6) ([(6, .int (v6 + (1 : Int32))), (5, .int (v5 ||| ((1 : Int32) <<< (v6 &&& 31)))), (0, .ref v0), (1, .int v1), (2, .int v2), (3, .int v3), (4, .int v4)]) dX11_deed_139 rfl (iincv ic_1) (Nat.le_of_ble_eq_true rfl) rfl ?_
        refine J.goto (pc := 142) (tgt := 100) dX11_deed_142 (by decide) ?_
        refine J.pick [2, 3, 4, 5, 6, 1, 0] rfl ?_
        exact ih v0 v1 v2 v3 v4 (v5 ||| ((1 : Int32) <<< (v6 &&& 31))) (v6 + (1 : Int32)) μ h hN k0
      · refine J.cne (pc := 125) (tgt := 135) dX11_deed_125 (by decide) (fun q => absurd q hc) (fun _ => ?_)
        refine J.iconst (pc := 135) dX11_deed_135 ic_0 ?_
        refine J.ior (pc := 136) dX11_deed_136 ?_
        refine J.istore (pc := 137) ([(5, .int (v5 ||| (0 : Int32))), (0, .ref v0), (1, .int v1), (2, .int v2), (3, .int v3), (4, .int v4), (6, .int v6)]) dX11_deed_137 (Nat.le_of_ble_eq_true rfl) rfl ?_
        refine J.iinc (pc := 139) (j := 6) ([(6, .int (v6 + (1 : Int32))), (5, .int (v5 ||| (0 : Int32))), (0, .ref v0), (1, .int v1), (2, .int v2), (3, .int v3), (4, .int v4)]) dX11_deed_139 rfl (iincv ic_1) (Nat.le_of_ble_eq_true rfl) rfl ?_
        refine J.goto (pc := 142) (tgt := 100) dX11_deed_142 (by decide) ?_
        refine J.pick [2, 3, 4, 5, 6, 1, 0] rfl ?_
        exact ih v0 v1 v2 v3 v4 (v5 ||| (0 : Int32)) (v6 + (1 : Int32)) μ h hN k0
    · refine J.cge (pc := 106) (tgt := 145) dX11_deed_106 (by decide) (fun q => absurd q hc) (fun _ => ?_)
      refine J.iload_n (pc := 145) dX11_deed_145 rfl 2 rfl ?_
      rcases ifc h with ⟨hc, h⟩ | ⟨hc, h⟩
      · refine J.zne (pc := 146) (tgt := 158) dX11_deed_146 (by decide) (fun _ => ?_) (fun q => absurd hc q)
        refine J.aload_n (pc := 149) dX11_deed_149 rfl 0 rfl ?_
        obtain ⟨a6, e7, h⟩ := bnd h
        have k8 : (kd a6).1 = 0 := gR_k e7
        refine J.fR (pc := 150) dX11_deed_150 fl_RX11_16 k0 (okN hN k0 (by decide)) rfl e7 ?_
        refine J.iload_n (pc := 153) dX11_deed_153 rfl 1 rfl ?_
        obtain ⟨x9, e10, h⟩ := bnd h
        refine J.aI (pc := 154) dX11_deed_154 k8 (okN hN k8 (by decide)) e10 ?_
        refine J.goto (pc := 155) (tgt := 196) dX11_deed_155 (by decide) ?_
        cases h
        exact J.iret (pc := 196) dX11_deed_196 rfl ⟨rfl, rfl, hN, trivial⟩
      · refine J.zne (pc := 146) (tgt := 158) dX11_deed_146 (by decide) (fun q => absurd q hc) (fun _ => ?_)
        refine J.iload_n (pc := 158) dX11_deed_158 rfl 2 rfl ?_
        refine J.iconst (pc := 159) dX11_deed_159 ic_1 ?_
        rcases ifc h with ⟨hc, h⟩ | ⟨hc, h⟩
        · refine J.cne (pc := 160) (tgt := 167) dX11_deed_160 (by decide) (fun _ => ?_) (fun q => absurd hc q)
          refine J.iload_n (pc := 163) dX11_deed_163 rfl 3 rfl ?_
          refine J.goto (pc := 164) (tgt := 196) dX11_deed_164 (by decide) ?_
          cases h
          exact J.iret (pc := 196) dX11_deed_196 rfl ⟨rfl, rfl, hN, trivial⟩
        · refine J.cne (pc := 160) (tgt := 167) dX11_deed_160 (by decide) (fun q => absurd q hc) (fun _ => ?_)
          refine J.iload_n (pc := 167) dX11_deed_167 rfl 2 rfl ?_
          refine J.iconst (pc := 168) dX11_deed_168 ic_2 ?_
          rcases ifc h with ⟨hc, h⟩ | ⟨hc, h⟩
          · refine J.cne (pc := 169) (tgt := 184) dX11_deed_169 (by decide) (fun _ => ?_) (fun q => absurd hc q)
            refine J.aload_n (pc := 172) dX11_deed_172 rfl 0 rfl ?_
            obtain ⟨a11, e12, h⟩ := bnd h
            have k13 : (kd a11).1 = 0 := gR_k e12
            refine J.fR (pc := 173) dX11_deed_173 fl_RX11_48 k0 (okN hN k0 (by decide)) rfl e12 ?_
            refine J.bipush (pc := 176) dX11_deed_176 ib_49 ?_
            refine J.iload_n (pc := 178) dX11_deed_178 rfl 1 rfl ?_
            refine J.iadd (pc := 179) dX11_deed_179 ?_
            obtain ⟨x14, e15, h⟩ := bnd h
            refine J.aI (pc := 180) dX11_deed_180 k13 (okN hN k13 (by decide)) e15 ?_
            refine J.goto (pc := 181) (tgt := 196) dX11_deed_181 (by decide) ?_
            cases h
            exact J.iret (pc := 196) dX11_deed_196 rfl ⟨rfl, rfl, hN, trivial⟩
          · refine J.cne (pc := 169) (tgt := 184) dX11_deed_169 (by decide) (fun q => absurd q hc) (fun _ => ?_)
            refine J.iload_n (pc := 184) dX11_deed_184 rfl 2 rfl ?_
            refine J.iconst (pc := 185) dX11_deed_185 ic_3 ?_
            rcases ifc h with ⟨hc, h⟩ | ⟨hc, h⟩
            · refine J.cne (pc := 186) (tgt := 194) dX11_deed_186 (by decide) (fun _ => ?_) (fun q => absurd hc q)
              refine J.iload (pc := 189) dX11_deed_189 4 rfl ?_
              refine J.goto (pc := 191) (tgt := 196) dX11_deed_191 (by decide) ?_
              cases h
              exact J.iret (pc := 196) dX11_deed_196 rfl ⟨rfl, rfl, hN, trivial⟩
            · refine J.cne (pc := 186) (tgt := 194) dX11_deed_186 (by decide) (fun q => absurd q hc) (fun _ => ?_)
              refine J.iload (pc := 194) dX11_deed_194 5 rfl ?_
              cases h
              exact J.iret (pc := 196) dX11_deed_196 rfl ⟨rfl, rfl, hN, trivial⟩
def fX11_deed_35  : Nat → Nat → Int32 → Int32 → Int32 → Int32 → Int32 → Int32 → Mem → Option (Int32 × Mem)
  | 0, _, _, _, _, _, _, _, _ => none
  | n + 1, v0, v1, v2, v3, v4, v5, v6, μ =>
    (gR μ v0 5 0).bind fun a1 =>
    (ldI μ a1 v1).bind fun x4 =>
    if v6 < x4 then
      (fX11_isWhite v0 (0 : Int32) (((8 : Int32) * v1) + v6) μ).bind fun r7 =>
      if r7 = 0 then
        (gR μ v0 34 0).bind fun a10 =>
        (ldI μ a10 (((1 : Int32) + ((8 : Int32) * v1)) + v6)).bind fun x13 =>
        (fX11_deed_35 n) v0 v1 v2 (v3 ||| (0 : Int32)) (v4 + x13) v5 (v6 + (1 : Int32)) μ
      else
        (gR μ v0 34 0).bind fun a15 =>
        (ldI μ a15 (((1 : Int32) + ((8 : Int32) * v1)) + v6)).bind fun x18 =>
        (fX11_deed_35 n) v0 v1 v2 (v3 ||| ((1 : Int32) <<< (v6 &&& 31))) (v4 + x18) v5 (v6 + (1 : Int32)) μ
    else
      (fX11_deed_100 fuel) v0 v1 v2 v3 v4 v5 (0 : Int32) μ
set_option maxHeartbeats 4000000 in
theorem tX11_deed_35 {ω : Wd} {l : Launch} (d : Nat) {res : Int32 × Mem} : ∀ n : Nat, ∀ (v0 : Nat) (v1 : Int32) (v2 : Int32) (v3 : Int32) (v4 : Int32) (v5 : Int32) (v6 : Int32) (μ : Mem), fX11_deed_35 n v0 v1 v2 v3 v4 v5 v6 μ = some res → μ.1 = NN → (kd v0).1 = 21 → J ω l mX11_deed (d + 2) 35 [(0, .ref v0), (1, .int v1), (2, .int v2), (3, .int v3), (4, .int v4), (5, .int v5), (6, .int v6)] [] μ 0 0 (PE (.inl (some (.int res.1))) res.2 True) := by
  intro n
  induction n with
  | zero =>
    intro v0 v1 v2 v3 v4 v5 v6 μ h hN k0
    have h9 : (none : Option (Int32 × Mem)) = some res := h
    cases h9
  | succ n ih =>
    intro v0 v1 v2 v3 v4 v5 v6 μ h hN k0
    unfold fX11_deed_35 at h
    refine J.iload (pc := 35) dX11_deed_35 6 rfl ?_
    refine J.aload_n (pc := 37) dX11_deed_37 rfl 0 rfl ?_
    obtain ⟨a1, e2, h⟩ := bnd h
    have k3 : (kd a1).1 = 0 := gR_k e2
    refine J.fR (pc := 38) dX11_deed_38 fl_RX11_16 k0 (okN hN k0 (by decide)) rfl e2 ?_
    refine J.iload_n (pc := 41) dX11_deed_41 rfl 1 rfl ?_
    obtain ⟨x4, e5, h⟩ := bnd h
    refine J.aI (pc := 42) dX11_deed_42 k3 (okN hN k3 (by decide)) e5 ?_
    rcases ifc h with ⟨hc, h⟩ | ⟨hc, h⟩
    · refine J.cge (pc := 43) (tgt := 97) dX11_deed_43 (by decide) (fun _ => ?_) (fun q => absurd hc q)
      refine J.iload_n (pc := 46) dX11_deed_46 rfl 3 rfl ?_
      refine J.aload_n (pc := 47) dX11_deed_47 rfl 0 rfl ?_
      refine J.iconst (pc := 48) dX11_deed_48 ic_0 ?_
      refine J.bipush (pc := 49) dX11_deed_49 ib_8 ?_
      refine J.iload_n (pc := 51) dX11_deed_51 rfl 1 rfl ?_
      refine J.imul (pc := 52) dX11_deed_52 ?_
      refine J.iload (pc := 53) dX11_deed_53 6 rfl ?_
      refine J.iadd (pc := 55) dX11_deed_55 ?_
      obtain ⟨r7, e6, h⟩ := bnd h
      refine J.callV (Y := mX11_deed) (Z := mX11_isWhite) (pc := 56) (st := [.int v3]) (k2 := 0) (n2 := 0) dX11_deed_56 ml_RX11_297 mo_X11_isWhite mv_X11_isWhite rfl (tX11_isWhite (d + 1) e6 hN k0) k0 (okN hN k0 (by decide)).1 (okN hN k0 (by decide)).2 cq_11 (by decide) rfl rfl (Nat.le_of_ble_eq_true rfl) (by decide) (by decide) (fun v ν hp => ?_) (fun i ν hp => nrm hp.1)
      obtain ⟨rfl, rfl, hN8, hb9⟩ := QEl hp
      show J _ _ _ _ 59 _ ([.int r7, .int v3]) _ _ _ _
      rcases ifc h with ⟨hc, h⟩ | ⟨hc, h⟩
      · refine J.zeq (pc := 59) (tgt := 69) dX11_deed_59 (by decide) (fun _ => ?_) (fun q => absurd hc q)
        refine J.iconst (pc := 69) dX11_deed_69 ic_0 ?_
        refine J.ior (pc := 70) dX11_deed_70 ?_
        refine J.istore_n (pc := 71) ([(3, .int (v3 ||| (0 : Int32))), (0, .ref v0), (1, .int v1), (2, .int v2), (4, .int v4), (5, .int v5), (6, .int v6)]) dX11_deed_71 rfl (Nat.le_of_ble_eq_true rfl) rfl ?_
        refine J.iload (pc := 72) dX11_deed_72 4 rfl ?_
        refine J.aload_n (pc := 74) dX11_deed_74 rfl 1 rfl ?_
        obtain ⟨a10, e11, h⟩ := bnd h
        have k12 : (kd a10).1 = 0 := gR_k e11
        refine J.fR (pc := 75) dX11_deed_75 fl_RX11_48 k0 (okN hN8 k0 (by decide)) rfl e11 ?_
        refine J.iconst (pc := 78) dX11_deed_78 ic_1 ?_
        refine J.bipush (pc := 79) dX11_deed_79 ib_8 ?_
        refine J.iload_n (pc := 81) dX11_deed_81 rfl 2 rfl ?_
        refine J.imul (pc := 82) dX11_deed_82 ?_
        refine J.iadd (pc := 83) dX11_deed_83 ?_
        refine J.iload (pc := 84) dX11_deed_84 6 rfl ?_
        refine J.iadd (pc := 86) dX11_deed_86 ?_
        obtain ⟨x13, e14, h⟩ := bnd h
        refine J.aI (pc := 87) dX11_deed_87 k12 (okN hN8 k12 (by decide)) e14 ?_
        refine J.iadd (pc := 88) dX11_deed_88 ?_
        refine J.istore (pc := 89) ([(4, .int (v4 + x13)), (3, .int (v3 ||| (0 : Int32))), (0, .ref v0), (1, .int v1), (2, .int v2), (5, .int v5), (6, .int v6)]) dX11_deed_89 (Nat.le_of_ble_eq_true rfl) rfl ?_
        refine J.iinc (pc := 91) (j := 6) ([(6, .int (v6 + (1 : Int32))), (4, .int (v4 + x13)), (3, .int (v3 ||| (0 : Int32))), (0, .ref v0), (1, .int v1), (2, .int v2), (5, .int v5)]) dX11_deed_91 rfl (iincv ic_1) (Nat.le_of_ble_eq_true rfl) rfl ?_
        refine J.goto (pc := 94) (tgt := 35) dX11_deed_94 (by decide) ?_
        refine J.pick [3, 4, 5, 2, 1, 6, 0] rfl ?_
        exact ih v0 v1 v2 (v3 ||| (0 : Int32)) (v4 + x13) v5 (v6 + (1 : Int32)) μ h hN8 k0
      · refine J.zeq (pc := 59) (tgt := 69) dX11_deed_59 (by decide) (fun q => absurd q hc) (fun _ => ?_)
        refine J.iconst (pc := 62) dX11_deed_62 ic_1 ?_
        refine J.iload (pc := 63) dX11_deed_63 6 rfl ?_
        refine J.ishl (pc := 65) dX11_deed_65 ?_
        refine J.goto (pc := 66) (tgt := 70) dX11_deed_66 (by decide) ?_
        refine J.ior (pc := 70) dX11_deed_70 ?_
        refine J.istore_n (pc := 71) ([(3, .int (v3 ||| ((1 : Int32) <<< (v6 &&& 31)))), (0, .ref v0), (1, .int v1), (2, .int v2), (4, .int v4), (5, .int v5), (6, .int v6)]) dX11_deed_71 rfl (Nat.le_of_ble_eq_true rfl) rfl ?_
        refine J.iload (pc := 72) dX11_deed_72 4 rfl ?_
        refine J.aload_n (pc := 74) dX11_deed_74 rfl 1 rfl ?_
        obtain ⟨a15, e16, h⟩ := bnd h
        have k17 : (kd a15).1 = 0 := gR_k e16
        refine J.fR (pc := 75) dX11_deed_75 fl_RX11_48 k0 (okN hN8 k0 (by decide)) rfl e16 ?_
        refine J.iconst (pc := 78) dX11_deed_78 ic_1 ?_
        refine J.bipush (pc := 79) dX11_deed_79 ib_8 ?_
        refine J.iload_n (pc := 81) dX11_deed_81 rfl 2 rfl ?_
        refine J.imul (pc := 82) dX11_deed_82 ?_
        refine J.iadd (pc := 83) dX11_deed_83 ?_
        refine J.iload (pc := 84) dX11_deed_84 6 rfl ?_
        refine J.iadd (pc := 86) dX11_deed_86 ?_
        obtain ⟨x18, e19, h⟩ := bnd h
        refine J.aI (pc := 87) dX11_deed_87 k17 (okN hN8 k17 (by decide)) e19 ?_
        refine J.iadd (pc := 88) dX11_deed_88 ?_
        refine J.istore (pc := 89) ([(4, .int (v4 + x18)), (3, .int (v3 ||| ((1 : Int32) <<< (v6 &&& 31)))), (0, .ref v0), (1, .int v1), (2, .int v2), (5, .int v5), (6, .int v6)]) dX11_deed_89 (Nat.le_of_ble_eq_true rfl) rfl ?_
        refine J.iinc (pc := 91) (j := 6) ([(6, .int (v6 + (1 : Int32))), (4, .int (v4 + x18)), (3, .int (v3 ||| ((1 : Int32) <<< (v6 &&& 31)))), (0, .ref v0), (1, .int v1), (2, .int v2), (5, .int v5)]) dX11_deed_91 rfl (iincv ic_1) (Nat.le_of_ble_eq_true rfl) rfl ?_
        refine J.goto (pc := 94) (tgt := 35) dX11_deed_94 (by decide) ?_
        refine J.pick [3, 4, 5, 2, 1, 6, 0] rfl ?_
        exact ih v0 v1 v2 (v3 ||| ((1 : Int32) <<< (v6 &&& 31))) (v4 + x18) v5 (v6 + (1 : Int32)) μ h hN8 k0
    · refine J.cge (pc := 43) (tgt := 97) dX11_deed_43 (by decide) (fun q => absurd q hc) (fun _ => ?_)
      refine J.iconst (pc := 97) dX11_deed_97 ic_0 ?_
      refine J.istore (pc := 98) ([(6, .int (0 : Int32)), (0, .ref v0), (1, .int v1), (2, .int v2), (3, .int v3), (4, .int v4), (5, .int v5)]) dX11_deed_98 (Nat.le_of_ble_eq_true rfl) rfl ?_
      refine J.pick [1, 2, 3, 4, 5, 6, 0] rfl ?_
      exact (tX11_deed_100 d fuel) v0 v1 v2 v3 v4 v5 (0 : Int32) μ h hN k0
def fX11_deed (v0 : Nat) (v1 : Int32) (v2 : Int32) (μ : Mem) : Option (Int32 × Mem) :=
  (some (sI μ v0 0 (0 : Int32))).bind fun μ1 =>
  (fX11_isDeed v0 v1 μ1).bind fun (r6, μ5) =>
  if r6 = 0 then
    some ((0 : Int32), μ5)
  else
    (fX11_isWhat v0 v2 (4 : Int32) μ5).bind fun (r11, μ10) =>
    if r11 = 0 then
      some ((0 : Int32), μ10)
    else
      (fX11_deed_35 fuel) v0 v1 v2 (0 : Int32) (0 : Int32) (0 : Int32) (0 : Int32) μ10
set_option maxHeartbeats 4000000 in
theorem tX11_deed {ω : Wd} {l : Launch} (d : Nat) {v0 : Nat} {v1 : Int32} {v2 : Int32} {μ : Mem} {res : Int32 × Mem} (h : fX11_deed v0 v1 v2 μ = some res) (hN : μ.1 = NN) (k0 : (kd v0).1 = 21) : Ct ω l mX11_deed (d + 2) [.ref v0, .int v1, .int v2] μ 0 0 (PE (.inl (some (.int res.1))) res.2 True) := by
  refine Ct.of pn_RX11 (Nat.le_of_ble_eq_true rfl) ?_
  show J ω l mX11_deed (d + 2) 0 [(0, .ref v0), (1, .int v1), (2, .int v2)] [] μ 0 0 _
  unfold fX11_deed at h
  refine J.aload_n (pc := 0) dX11_deed_0 rfl 0 rfl ?_
  refine J.iconst (pc := 1) dX11_deed_1 ic_0 ?_
  obtain ⟨μ1, e2, h⟩ := bnd h
  have hN3 : μ1.1 = NN := smN e2 hN
  refine J.qI (pc := 2) dX11_deed_2 fl_RX11_99 k0 (okN hN k0 (by decide)) rfl rfl e2 ?_
  refine J.aload_n (pc := 5) dX11_deed_5 rfl 0 rfl ?_
  refine J.iload_n (pc := 6) dX11_deed_6 rfl 1 rfl ?_
  obtain ⟨⟨r6, μ5⟩, e4, h⟩ := bnd h
  try dsimp only at h
  refine J.callV (Y := mX11_deed) (Z := mX11_isDeed) (pc := 7) (st := []) (k2 := 0) (n2 := 0) dX11_deed_7 ml_RX11_362 mo_X11_isDeed mv_X11_isDeed rfl (tX11_isDeed d e4 hN3 k0) k0 (okN hN3 k0 (by decide)).1 (okN hN3 k0 (by decide)).2 cq_11 (by decide) rfl rfl (Nat.le_of_ble_eq_true rfl) (by decide) (by decide) (fun v ν hp => ?_) (fun i ν hp => nrm hp.1)
  obtain ⟨rfl, rfl, hN7, hb8⟩ := QEl hp
  show J _ _ _ _ 10 _ ([.int r6]) _ _ _ _
  rcases ifc h with ⟨hc, h⟩ | ⟨hc, h⟩
  · refine J.zeq (pc := 10) (tgt := 22) dX11_deed_10 (by decide) (fun _ => ?_) (fun q => absurd hc q)
    refine J.iconst (pc := 22) dX11_deed_22 ic_0 ?_
    cases h
    exact J.iret (pc := 23) dX11_deed_23 rfl ⟨rfl, rfl, hN7, trivial⟩
  · refine J.zeq (pc := 10) (tgt := 22) dX11_deed_10 (by decide) (fun q => absurd q hc) (fun _ => ?_)
    refine J.aload_n (pc := 13) dX11_deed_13 rfl 0 rfl ?_
    refine J.iload_n (pc := 14) dX11_deed_14 rfl 2 rfl ?_
    refine J.iconst (pc := 15) dX11_deed_15 ic_4 ?_
    obtain ⟨⟨r11, μ10⟩, e9, h⟩ := bnd h
    try dsimp only at h
    refine J.callV (Y := mX11_deed) (Z := mX11_isWhat) (pc := 16) (st := []) (k2 := 0) (n2 := 0) dX11_deed_16 ml_RX11_365 mo_X11_isWhat mv_X11_isWhat rfl (tX11_isWhat d e9 hN7 k0) k0 (okN hN7 k0 (by decide)).1 (okN hN7 k0 (by decide)).2 cq_11 (by decide) rfl rfl (Nat.le_of_ble_eq_true rfl) (by decide) (by decide) (fun v ν hp => ?_) (fun i ν hp => nrm hp.1)
    obtain ⟨rfl, rfl, hN12, hb13⟩ := QEl hp
    show J _ _ _ _ 19 _ ([.int r11]) _ _ _ _
    rcases ifc h with ⟨hc, h⟩ | ⟨hc, h⟩
    · refine J.zne (pc := 19) (tgt := 24) dX11_deed_19 (by decide) (fun _ => ?_) (fun q => absurd hc q)
      refine J.iconst (pc := 22) dX11_deed_22 ic_0 ?_
      cases h
      exact J.iret (pc := 23) dX11_deed_23 rfl ⟨rfl, rfl, hN12, trivial⟩
    · refine J.zne (pc := 19) (tgt := 24) dX11_deed_19 (by decide) (fun q => absurd q hc) (fun _ => ?_)
      refine J.iconst (pc := 24) dX11_deed_24 ic_0 ?_
      refine J.istore_n (pc := 25) ([(3, .int (0 : Int32)), (0, .ref v0), (1, .int v1), (2, .int v2)]) dX11_deed_25 rfl (Nat.le_of_ble_eq_true rfl) rfl ?_
      refine J.iconst (pc := 26) dX11_deed_26 ic_0 ?_
      refine J.istore (pc := 27) ([(4, .int (0 : Int32)), (3, .int (0 : Int32)), (0, .ref v0), (1, .int v1), (2, .int v2)]) dX11_deed_27 (Nat.le_of_ble_eq_true rfl) rfl ?_
      refine J.iconst (pc := 29) dX11_deed_29 ic_0 ?_
      refine J.istore (pc := 30) ([(5, .int (0 : Int32)), (4, .int (0 : Int32)), (3, .int (0 : Int32)), (0, .ref v0), (1, .int v1), (2, .int v2)]) dX11_deed_30 (Nat.le_of_ble_eq_true rfl) rfl ?_
      refine J.iconst (pc := 32) dX11_deed_32 ic_0 ?_
      refine J.istore (pc := 33) ([(6, .int (0 : Int32)), (5, .int (0 : Int32)), (4, .int (0 : Int32)), (3, .int (0 : Int32)), (0, .ref v0), (1, .int v1), (2, .int v2)]) dX11_deed_33 (Nat.le_of_ble_eq_true rfl) rfl ?_
      refine J.pick [4, 5, 6, 3, 2, 1, 0] rfl ?_
      exact (tX11_deed_35 d fuel) v0 v1 v2 (0 : Int32) (0 : Int32) (0 : Int32) (0 : Int32) μ10 h hN12 k0
