def fX11_within (v0 : Int32) (v1 : Int32) (v2 : Int32) : Int32 :=
  if v0 < v1 then
    (0 : Int32)
  else
    if v2 < v0 then
      (0 : Int32)
    else
      (1 : Int32)
set_option maxHeartbeats 4000000 in
theorem tX11_within {ω : Wd} {l : Launch} (d : Nat) (v0 : Int32) (v1 : Int32) (v2 : Int32) (μ : Mem) (hN : μ.1 = NN) : Ct ω l mX11_within d [.int v0, .int v1, .int v2] μ 0 0 (PE (.inl (some (.int (fX11_within v0 v1 v2)))) μ (isB (fX11_within v0 v1 v2))) := by
  refine Ct.of pn_RX11 (Nat.le_of_ble_eq_true rfl) ?_
  show J ω l mX11_within d 0 [(0, .int v0), (1, .int v1), (2, .int v2)] [] μ 0 0 _
  generalize h : fX11_within v0 v1 v2 = res
  unfold fX11_within at h
  refine J.iload_n (pc := 0) dX11_within_0 rfl 0 rfl ?_
  refine J.iload_n (pc := 1) dX11_within_1 rfl 1 rfl ?_
  rcases ifc h with ⟨hc, h⟩ | ⟨hc, h⟩
  · refine J.clt (pc := 2) (tgt := 14) dX11_within_2 (by decide) (fun _ => ?_) (fun q => absurd hc q)
    refine J.iconst (pc := 14) dX11_within_14 ic_0 ?_
    cases h
    exact J.zret (pc := 15) dX11_within_15 rfl (narB (Or.inl rfl)) ⟨rfl, rfl, hN, (Or.inl rfl)⟩
  · refine J.clt (pc := 2) (tgt := 14) dX11_within_2 (by decide) (fun q => absurd q hc) (fun _ => ?_)
    refine J.iload_n (pc := 5) dX11_within_5 rfl 0 rfl ?_
    refine J.iload_n (pc := 6) dX11_within_6 rfl 2 rfl ?_
    rcases ifc h with ⟨hc, h⟩ | ⟨hc, h⟩
    · refine J.cgt (pc := 7) (tgt := 14) dX11_within_7 (by decide) (fun _ => ?_) (fun q => absurd hc q)
      refine J.iconst (pc := 14) dX11_within_14 ic_0 ?_
      cases h
      exact J.zret (pc := 15) dX11_within_15 rfl (narB (Or.inl rfl)) ⟨rfl, rfl, hN, (Or.inl rfl)⟩
    · refine J.cgt (pc := 7) (tgt := 14) dX11_within_7 (by decide) (fun q => absurd q hc) (fun _ => ?_)
      refine J.iconst (pc := 10) dX11_within_10 ic_1 ?_
      refine J.goto (pc := 11) (tgt := 15) dX11_within_11 (by decide) ?_
      cases h
      exact J.zret (pc := 15) dX11_within_15 rfl (narB (Or.inr rfl)) ⟨rfl, rfl, hN, (Or.inr rfl)⟩
def fX11_isSoon (v0 : Nat) (v1 : Int32) (v2 : Int32) (v3 : Int32) (μ : Mem) : Option (Int32 × Mem) :=
  (fX11_right v0 (fX11_within v1 v2 (60 : Int32)) v3 μ).bind fun (r6, μ5) =>
  some (r6, μ5)
set_option maxHeartbeats 4000000 in
theorem tX11_isSoon {ω : Wd} {l : Launch} (d : Nat) {v0 : Nat} {v1 : Int32} {v2 : Int32} {v3 : Int32} {μ : Mem} {res : Int32 × Mem} (h : fX11_isSoon v0 v1 v2 v3 μ = some res) (hN : μ.1 = NN) (k0 : (kd v0).1 = 21) : Ct ω l mX11_isSoon (d + 1) [.ref v0, .int v1, .int v2, .int v3] μ 0 0 (PE (.inl (some (.int res.1))) res.2 (isB res.1)) := by
  refine Ct.of pn_RX11 (Nat.le_of_ble_eq_true rfl) ?_
  show J ω l mX11_isSoon (d + 1) 0 [(0, .ref v0), (1, .int v1), (2, .int v2), (3, .int v3)] [] μ 0 0 _
  unfold fX11_isSoon at h
  refine J.aload_n (pc := 0) dX11_isSoon_0 rfl 0 rfl ?_
  refine J.iload_n (pc := 1) dX11_isSoon_1 rfl 1 rfl ?_
  refine J.iload_n (pc := 2) dX11_isSoon_2 rfl 2 rfl ?_
  refine J.bipush (pc := 3) dX11_isSoon_3 ib_60 ?_
  refine J.callS (Y := mX11_isSoon) (Z := mX11_within) (pc := 5) (st := [.ref v0]) (k2 := 0) (n2 := 0) dX11_isSoon_5 ml_RX11_344 mo_X11_within ms_X11_within rfl (tX11_within d v1 v2 (60 : Int32) μ hN ) rfl rfl (Nat.le_of_ble_eq_true rfl) (by decide) (by decide) (fun v ν hp => ?_) (fun i ν hp => nrm hp.1)
  obtain ⟨rfl, rfl, hN2, hb3⟩ := QEl hp
  show J _ _ _ _ 8 _ ([.int (fX11_within v1 v2 (60 : Int32)), .ref v0]) _ _ _ _
  refine J.iload_n (pc := 8) dX11_isSoon_8 rfl 3 rfl ?_
  obtain ⟨⟨r6, μ5⟩, e4, h⟩ := bnd h
  try dsimp only at h
  refine J.callV (Y := mX11_isSoon) (Z := mX11_right) (pc := 9) (st := []) (k2 := 0) (n2 := 0) dX11_isSoon_9 ml_RX11_266 mo_X11_right mv_X11_right rfl (tX11_right d e4 hN2 k0) k0 (okN hN2 k0 (by decide)).1 (okN hN2 k0 (by decide)).2 cq_11 (by decide) rfl rfl (Nat.le_of_ble_eq_true rfl) (by decide) (by decide) (fun v ν hp => ?_) (fun i ν hp => nrm hp.1)
  obtain ⟨rfl, rfl, hN7, hb8⟩ := QEl hp
  show J _ _ _ _ 12 _ ([.int r6]) _ _ _ _
  cases h
  exact J.zret (pc := 12) dX11_isSoon_12 rfl (narB hb8) ⟨rfl, rfl, hN7, hb8⟩
def fX11_isWhat (v0 : Nat) (v1 : Int32) (v2 : Int32) (μ : Mem) : Option (Int32 × Mem) :=
  (fX11_right v0 (fX11_within v1 (0 : Int32) v2) (1 : Int32) μ).bind fun (r6, μ5) =>
  some (r6, μ5)
set_option maxHeartbeats 4000000 in
theorem tX11_isWhat {ω : Wd} {l : Launch} (d : Nat) {v0 : Nat} {v1 : Int32} {v2 : Int32} {μ : Mem} {res : Int32 × Mem} (h : fX11_isWhat v0 v1 v2 μ = some res) (hN : μ.1 = NN) (k0 : (kd v0).1 = 21) : Ct ω l mX11_isWhat (d + 1) [.ref v0, .int v1, .int v2] μ 0 0 (PE (.inl (some (.int res.1))) res.2 (isB res.1)) := by
  refine Ct.of pn_RX11 (Nat.le_of_ble_eq_true rfl) ?_
  show J ω l mX11_isWhat (d + 1) 0 [(0, .ref v0), (1, .int v1), (2, .int v2)] [] μ 0 0 _
  unfold fX11_isWhat at h
  refine J.aload_n (pc := 0) dX11_isWhat_0 rfl 0 rfl ?_
  refine J.iload_n (pc := 1) dX11_isWhat_1 rfl 1 rfl ?_
  refine J.iconst (pc := 2) dX11_isWhat_2 ic_0 ?_
  refine J.iload_n (pc := 3) dX11_isWhat_3 rfl 2 rfl ?_
  refine J.callS (Y := mX11_isWhat) (Z := mX11_within) (pc := 4) (st := [.ref v0]) (k2 := 0) (n2 := 0) dX11_isWhat_4 ml_RX11_344 mo_X11_within ms_X11_within rfl (tX11_within d v1 (0 : Int32) v2 μ hN ) rfl rfl (Nat.le_of_ble_eq_true rfl) (by decide) (by decide) (fun v ν hp => ?_) (fun i ν hp => nrm hp.1)
  obtain ⟨rfl, rfl, hN2, hb3⟩ := QEl hp
  show J _ _ _ _ 7 _ ([.int (fX11_within v1 (0 : Int32) v2), .ref v0]) _ _ _ _
  refine J.iconst (pc := 7) dX11_isWhat_7 ic_1 ?_
  obtain ⟨⟨r6, μ5⟩, e4, h⟩ := bnd h
  try dsimp only at h
  refine J.callV (Y := mX11_isWhat) (Z := mX11_right) (pc := 8) (st := []) (k2 := 0) (n2 := 0) dX11_isWhat_8 ml_RX11_266 mo_X11_right mv_X11_right rfl (tX11_right d e4 hN2 k0) k0 (okN hN2 k0 (by decide)).1 (okN hN2 k0 (by decide)).2 cq_11 (by decide) rfl rfl (Nat.le_of_ble_eq_true rfl) (by decide) (by decide) (fun v ν hp => ?_) (fun i ν hp => nrm hp.1)
  obtain ⟨rfl, rfl, hN7, hb8⟩ := QEl hp
  show J _ _ _ _ 11 _ ([.int r6]) _ _ _ _
  cases h
  exact J.zret (pc := 11) dX11_isWhat_11 rfl (narB hb8) ⟨rfl, rfl, hN7, hb8⟩
def fX11_toldAs (v0 : Int32) : Int32 :=
  if v0 = (-1 : Int32) then
    (-1 : Int32)
  else
    (((v0 / (8 : Int32)) * (10 : Int32)) + (v0 - v0 / (8 : Int32) * (8 : Int32)))
set_option maxHeartbeats 4000000 in
theorem tX11_toldAs {ω : Wd} {l : Launch} (d : Nat) (v0 : Int32) (μ : Mem) (hN : μ.1 = NN) : Ct ω l mX11_toldAs d [.int v0] μ 0 0 (PE (.inl (some (.int (fX11_toldAs v0)))) μ True) := by
  refine Ct.of pn_RX11 (Nat.le_of_ble_eq_true rfl) ?_
  show J ω l mX11_toldAs d 0 [(0, .int v0)] [] μ 0 0 _
  generalize h : fX11_toldAs v0 = res
  unfold fX11_toldAs at h
  refine J.iload_n (pc := 0) dX11_toldAs_0 rfl 0 rfl ?_
  refine J.iconst (pc := 1) dX11_toldAs_1 ic_m1 ?_
  rcases ifc h with ⟨hc, h⟩ | ⟨hc, h⟩
  · refine J.cne (pc := 2) (tgt := 9) dX11_toldAs_2 (by decide) (fun _ => ?_) (fun q => absurd hc q)
    refine J.iconst (pc := 5) dX11_toldAs_5 ic_m1 ?_
    refine J.goto (pc := 6) (tgt := 21) dX11_toldAs_6 (by decide) ?_
    cases h
    exact J.iret (pc := 21) dX11_toldAs_21 rfl ⟨rfl, rfl, hN, trivial⟩
  · refine J.cne (pc := 2) (tgt := 9) dX11_toldAs_2 (by decide) (fun q => absurd q hc) (fun _ => ?_)
    refine J.iload_n (pc := 9) dX11_toldAs_9 rfl 0 rfl ?_
    refine J.bipush (pc := 10) dX11_toldAs_10 ib_8 ?_
    refine J.idiv (pc := 12) dX11_toldAs_12 (by decide) ?_
    refine J.bipush (pc := 13) dX11_toldAs_13 ib_10 ?_
    refine J.imul (pc := 15) dX11_toldAs_15 ?_
    refine J.iload_n (pc := 16) dX11_toldAs_16 rfl 0 rfl ?_
    refine J.bipush (pc := 17) dX11_toldAs_17 ib_8 ?_
    refine J.irem (pc := 19) dX11_toldAs_19 (by decide) ?_
    refine J.iadd (pc := 20) dX11_toldAs_20 ?_
    cases h
    exact J.iret (pc := 21) dX11_toldAs_21 rfl ⟨rfl, rfl, hN, trivial⟩
def fX11_tries_2  : Nat → Nat → Int32 → Mem → Option (Mem)
  | 0, _, _, _ => none
  | n + 1, v0, v1, μ =>
    if v1 < (79 : Int32) then
      (gR μ v0 34 0).bind fun a1 =>
      (gR μ v0 34 0).bind fun a4 =>
      (ldI μ a4 v1).bind fun x7 =>
      (stI μ a1 ((79 : Int32) + v1) x7).bind fun μ9 =>
      (fX11_tries_2 n) v0 (v1 + (1 : Int32)) μ9
    else
      some μ
set_option maxHeartbeats 4000000 in
theorem tX11_tries_2 {ω : Wd} {l : Launch} (d : Nat) {res : Mem} : ∀ n : Nat, ∀ (v0 : Nat) (v1 : Int32) (μ : Mem), fX11_tries_2 n v0 v1 μ = some res → μ.1 = NN → (kd v0).1 = 21 → J ω l mX11_tries d 2 [(0, .ref v0), (1, .int v1)] [] μ 0 0 (PE (.inl none) res True) := by
  intro n
  induction n with
  | zero =>
    intro v0 v1 μ h hN k0
    have h9 : (none : Option (Mem)) = some res := h
    cases h9
  | succ n ih =>
    intro v0 v1 μ h hN k0
    unfold fX11_tries_2 at h
    refine J.iload_n (pc := 2) dX11_tries_2 rfl 1 rfl ?_
    refine J.bipush (pc := 3) dX11_tries_3 ib_79 ?_
    rcases ifc h with ⟨hc, h⟩ | ⟨hc, h⟩
    · refine J.cge (pc := 5) (tgt := 29) dX11_tries_5 (by decide) (fun _ => ?_) (fun q => absurd hc q)
      refine J.aload_n (pc := 8) dX11_tries_8 rfl 0 rfl ?_
      obtain ⟨a1, e2, h⟩ := bnd h
      have k3 : (kd a1).1 = 0 := gR_k e2
      refine J.fR (pc := 9) dX11_tries_9 fl_RX11_48 k0 (okN hN k0 (by decide)) rfl e2 ?_
      refine J.bipush (pc := 12) dX11_tries_12 ib_79 ?_
      refine J.iload_n (pc := 14) dX11_tries_14 rfl 1 rfl ?_
      refine J.iadd (pc := 15) dX11_tries_15 ?_
      refine J.aload_n (pc := 16) dX11_tries_16 rfl 0 rfl ?_
      obtain ⟨a4, e5, h⟩ := bnd h
      have k6 : (kd a4).1 = 0 := gR_k e5
      refine J.fR (pc := 17) dX11_tries_17 fl_RX11_48 k0 (okN hN k0 (by decide)) rfl e5 ?_
      refine J.iload_n (pc := 20) dX11_tries_20 rfl 1 rfl ?_
      obtain ⟨x7, e8, h⟩ := bnd h
      refine J.aI (pc := 21) dX11_tries_21 k6 (okN hN k6 (by decide)) e8 ?_
      obtain ⟨μ9, e10, h⟩ := bnd h
      have hN11 : μ9.1 = NN := stI_N e10 hN
      refine J.wI (pc := 22) dX11_tries_22 k3 (okN hN k3 (by decide)) e10 ?_
      refine J.iinc (pc := 23) (j := 1) ([(1, .int (v1 + (1 : Int32))), (0, .ref v0)]) dX11_tries_23 rfl (iincv ic_1) (Nat.le_of_ble_eq_true rfl) rfl ?_
      refine J.goto (pc := 26) (tgt := 2) dX11_tries_26 (by decide) ?_
      refine J.pick [1, 0] rfl ?_
      exact ih v0 (v1 + (1 : Int32)) μ9 h hN11 k0
    · refine J.cge (pc := 5) (tgt := 29) dX11_tries_5 (by decide) (fun q => absurd q hc) (fun _ => ?_)
      cases h
      exact J.vret (pc := 29) dX11_tries_29 rfl ⟨rfl, rfl, hN, trivial⟩
def fX11_tries (v0 : Nat) (μ : Mem) : Option (Mem) :=
  (fX11_tries_2 fuel) v0 (0 : Int32) μ
set_option maxHeartbeats 4000000 in
theorem tX11_tries {ω : Wd} {l : Launch} (d : Nat) {v0 : Nat} {μ : Mem} {res : Mem} (h : fX11_tries v0 μ = some res) (hN : μ.1 = NN) (k0 : (kd v0).1 = 21) : Ct ω l mX11_tries d [.ref v0] μ 0 0 (PE (.inl none) res True) := by
  refine Ct.of pn_RX11 (Nat.le_of_ble_eq_true rfl) ?_
  show J ω l mX11_tries d 0 [(0, .ref v0)] [] μ 0 0 _
  unfold fX11_tries at h
  refine J.iconst (pc := 0) dX11_tries_0 ic_0 ?_
  refine J.istore_n (pc := 1) ([(1, .int (0 : Int32)), (0, .ref v0)]) dX11_tries_1 rfl (Nat.le_of_ble_eq_true rfl) rfl ?_
  refine J.pick [1, 0] rfl ?_
  exact (tX11_tries_2 d fuel) v0 (0 : Int32) μ h hN k0
def fX11_ahead_73  : Nat → Nat → Int32 → Int32 → Int32 → Int32 → Mem → Option (Int32 × Mem)
  | 0, _, _, _, _, _, _ => none
  | n + 1, v0, v2, v3, v4, v5, μ =>
    if v5 < (48 : Int32) then
      (fX11_isThere v0 v5 μ).bind fun r2 =>
      if r2 = 0 then
        (fX11_ahead_73 n) v0 v2 v3 v4 (v5 + (1 : Int32)) μ
      else
        (gR μ v0 34 0).bind fun a5 =>
        (ldI μ a5 ((80 : Int32) + v5)).bind fun x8 =>
        if v4 = (-1 : Int32) then
          if (0 : Int32) < x8 then
            (fX11_ahead_73 n) v0 v2 v3 v5 (v5 + (1 : Int32)) μ
          else
            (fX11_ahead_73 n) v0 v2 v3 v4 (v5 + (1 : Int32)) μ
        else
          (gR μ v0 34 0).bind fun a10 =>
          (ldI μ a10 ((80 : Int32) + v4)).bind fun x13 =>
          if x13 < x8 then
            (fX11_ahead_73 n) v0 v2 v3 v5 (v5 + (1 : Int32)) μ
          else
            (fX11_ahead_73 n) v0 v2 v3 v4 (v5 + (1 : Int32)) μ
    else
      if v2 = 0 then
        some (v3, μ)
      else
        some ((fX11_toldAs v4), μ)
set_option maxHeartbeats 4000000 in
theorem tX11_ahead_73 {ω : Wd} {l : Launch} (d : Nat) {res : Int32 × Mem} : ∀ n : Nat, ∀ (v0 : Nat) (v2 : Int32) (v3 : Int32) (v4 : Int32) (v5 : Int32) (μ : Mem), fX11_ahead_73 n v0 v2 v3 v4 v5 μ = some res → μ.1 = NN → (kd v0).1 = 21 → J ω l mX11_ahead (d + 5) 73 [(0, .ref v0), (2, .int v2), (3, .int v3), (4, .int v4), (5, .int v5)] [] μ 0 0 (PE (.inl (some (.int res.1))) res.2 True) := by
  intro n
  induction n with
  | zero =>
    intro v0 v2 v3 v4 v5 μ h hN k0
    have h9 : (none : Option (Int32 × Mem)) = some res := h
    cases h9
  | succ n ih =>
    intro v0 v2 v3 v4 v5 μ h hN k0
    unfold fX11_ahead_73 at h
    refine J.iload (pc := 73) dX11_ahead_73 4 rfl ?_
    refine J.bipush (pc := 75) dX11_ahead_75 ib_48 ?_
    rcases ifc h with ⟨hc, h⟩ | ⟨hc, h⟩
    · refine J.cge (pc := 77) (tgt := 132) dX11_ahead_77 (by decide) (fun _ => ?_) (fun q => absurd hc q)
      refine J.aload_n (pc := 80) dX11_ahead_80 rfl 0 rfl ?_
      refine J.iload (pc := 81) dX11_ahead_81 4 rfl ?_
      obtain ⟨r2, e1, h⟩ := bnd h
      refine J.callV (Y := mX11_ahead) (Z := mX11_isThere) (pc := 83) (st := []) (k2 := 0) (n2 := 0) dX11_ahead_83 ml_RX11_332 mo_X11_isThere mv_X11_isThere rfl (tX11_isThere (d + 4) e1 hN k0) k0 (okN hN k0 (by decide)).1 (okN hN k0 (by decide)).2 cq_11 (by decide) rfl rfl (Nat.le_of_ble_eq_true rfl) (by decide) (by decide) (fun v ν hp => ?_) (fun i ν hp => nrm hp.1)
      obtain ⟨rfl, rfl, hN3, hb4⟩ := QEl hp
      show J _ _ _ _ 86 _ ([.int r2]) _ _ _ _
      rcases ifc h with ⟨hc, h⟩ | ⟨hc, h⟩
      · refine J.zeq (pc := 86) (tgt := 126) dX11_ahead_86 (by decide) (fun _ => ?_) (fun q => absurd hc q)
        refine J.iinc (pc := 126) (j := 4) ([(5, .int (v5 + (1 : Int32))), (0, .ref v0), (2, .int v2), (3, .int v3), (4, .int v4)]) dX11_ahead_126 rfl (iincv ic_1) (Nat.le_of_ble_eq_true rfl) rfl ?_
        refine J.goto (pc := 129) (tgt := 73) dX11_ahead_129 (by decide) ?_
        refine J.pick [1, 2, 3, 4, 0] rfl ?_
        exact ih v0 v2 v3 v4 (v5 + (1 : Int32)) μ h hN3 k0
      · refine J.zeq (pc := 86) (tgt := 126) dX11_ahead_86 (by decide) (fun q => absurd q hc) (fun _ => ?_)
        refine J.aload_n (pc := 89) dX11_ahead_89 rfl 0 rfl ?_
        obtain ⟨a5, e6, h⟩ := bnd h
        have k7 : (kd a5).1 = 0 := gR_k e6
        refine J.fR (pc := 90) dX11_ahead_90 fl_RX11_48 k0 (okN hN3 k0 (by decide)) rfl e6 ?_
        refine J.bipush (pc := 93) dX11_ahead_93 ib_80 ?_
        refine J.iload (pc := 95) dX11_ahead_95 4 rfl ?_
        refine J.iadd (pc := 97) dX11_ahead_97 ?_
        obtain ⟨x8, e9, h⟩ := bnd h
        refine J.aI (pc := 98) dX11_ahead_98 k7 (okN hN3 k7 (by decide)) e9 ?_
        refine J.iload (pc := 99) dX11_ahead_99 3 rfl ?_
        refine J.iconst (pc := 101) dX11_ahead_101 ic_m1 ?_
        rcases ifc h with ⟨hc, h⟩ | ⟨hc, h⟩
        · refine J.cne (pc := 102) (tgt := 109) dX11_ahead_102 (by decide) (fun _ => ?_) (fun q => absurd hc q)
          refine J.iconst (pc := 105) dX11_ahead_105 ic_0 ?_
          refine J.goto (pc := 106) (tgt := 119) dX11_ahead_106 (by decide) ?_
          rcases ifc h with ⟨hc, h⟩ | ⟨hc, h⟩
          · refine J.cle (pc := 119) (tgt := 126) dX11_ahead_119 (by decide) (fun _ => ?_) (fun q => absurd hc q)
            refine J.iload (pc := 122) dX11_ahead_122 4 rfl ?_
            refine J.istore (pc := 124) ([(4, .int v5), (0, .ref v0), (2, .int v2), (3, .int v3), (5, .int v5)]) dX11_ahead_124 (Nat.le_of_ble_eq_true rfl) rfl ?_
            refine J.iinc (pc := 126) (j := 4) ([(5, .int (v5 + (1 : Int32))), (4, .int v5), (0, .ref v0), (2, .int v2), (3, .int v3)]) dX11_ahead_126 rfl (iincv ic_1) (Nat.le_of_ble_eq_true rfl) rfl ?_
            refine J.goto (pc := 129) (tgt := 73) dX11_ahead_129 (by decide) ?_
            refine J.pick [2, 3, 4, 1, 0] rfl ?_
            exact ih v0 v2 v3 v5 (v5 + (1 : Int32)) μ h hN3 k0
          · refine J.cle (pc := 119) (tgt := 126) dX11_ahead_119 (by decide) (fun q => absurd q hc) (fun _ => ?_)
            refine J.iinc (pc := 126) (j := 4) ([(5, .int (v5 + (1 : Int32))), (0, .ref v0), (2, .int v2), (3, .int v3), (4, .int v4)]) dX11_ahead_126 rfl (iincv ic_1) (Nat.le_of_ble_eq_true rfl) rfl ?_
            refine J.goto (pc := 129) (tgt := 73) dX11_ahead_129 (by decide) ?_
            refine J.pick [1, 2, 3, 4, 0] rfl ?_
            exact ih v0 v2 v3 v4 (v5 + (1 : Int32)) μ h hN3 k0
        · refine J.cne (pc := 102) (tgt := 109) dX11_ahead_102 (by decide) (fun q => absurd q hc) (fun _ => ?_)
          refine J.aload_n (pc := 109) dX11_ahead_109 rfl 0 rfl ?_
          obtain ⟨a10, e11, h⟩ := bnd h
          have k12 : (kd a10).1 = 0 := gR_k e11
          refine J.fR (pc := 110) dX11_ahead_110 fl_RX11_48 k0 (okN hN3 k0 (by decide)) rfl e11 ?_
          refine J.bipush (pc := 113) dX11_ahead_113 ib_80 ?_
          refine J.iload (pc := 115) dX11_ahead_115 3 rfl ?_
          refine J.iadd (pc := 117) dX11_ahead_117 ?_
          obtain ⟨x13, e14, h⟩ := bnd h
          refine J.aI (pc := 118) dX11_ahead_118 k12 (okN hN3 k12 (by decide)) e14 ?_
          rcases ifc h with ⟨hc, h⟩ | ⟨hc, h⟩
          · refine J.cle (pc := 119) (tgt := 126) dX11_ahead_119 (by decide) (fun _ => ?_) (fun q => absurd hc q)
            refine J.iload (pc := 122) dX11_ahead_122 4 rfl ?_
            refine J.istore (pc := 124) ([(4, .int v5), (0, .ref v0), (2, .int v2), (3, .int v3), (5, .int v5)]) dX11_ahead_124 (Nat.le_of_ble_eq_true rfl) rfl ?_
            refine J.iinc (pc := 126) (j := 4) ([(5, .int (v5 + (1 : Int32))), (4, .int v5), (0, .ref v0), (2, .int v2), (3, .int v3)]) dX11_ahead_126 rfl (iincv ic_1) (Nat.le_of_ble_eq_true rfl) rfl ?_
            refine J.goto (pc := 129) (tgt := 73) dX11_ahead_129 (by decide) ?_
            refine J.pick [2, 3, 4, 1, 0] rfl ?_
            exact ih v0 v2 v3 v5 (v5 + (1 : Int32)) μ h hN3 k0
          · refine J.cle (pc := 119) (tgt := 126) dX11_ahead_119 (by decide) (fun q => absurd q hc) (fun _ => ?_)
            refine J.iinc (pc := 126) (j := 4) ([(5, .int (v5 + (1 : Int32))), (0, .ref v0), (2, .int v2), (3, .int v3), (4, .int v4)]) dX11_ahead_126 rfl (iincv ic_1) (Nat.le_of_ble_eq_true rfl) rfl ?_
            refine J.goto (pc := 129) (tgt := 73) dX11_ahead_129 (by decide) ?_
            refine J.pick [1, 2, 3, 4, 0] rfl ?_
            exact ih v0 v2 v3 v4 (v5 + (1 : Int32)) μ h hN3 k0
    · refine J.cge (pc := 77) (tgt := 132) dX11_ahead_77 (by decide) (fun q => absurd q hc) (fun _ => ?_)
      refine J.iload_n (pc := 132) dX11_ahead_132 rfl 1 rfl ?_
      rcases ifc h with ⟨hc, h⟩ | ⟨hc, h⟩
      · refine J.zne (pc := 133) (tgt := 140) dX11_ahead_133 (by decide) (fun _ => ?_) (fun q => absurd hc q)
        refine J.iload_n (pc := 136) dX11_ahead_136 rfl 2 rfl ?_
        refine J.goto (pc := 137) (tgt := 145) dX11_ahead_137 (by decide) ?_
        cases h
        exact J.iret (pc := 145) dX11_ahead_145 rfl ⟨rfl, rfl, hN, trivial⟩
      · refine J.zne (pc := 133) (tgt := 140) dX11_ahead_133 (by decide) (fun q => absurd q hc) (fun _ => ?_)
        refine J.iload (pc := 140) dX11_ahead_140 3 rfl ?_
        refine J.callS (Y := mX11_ahead) (Z := mX11_toldAs) (pc := 142) (st := []) (k2 := 0) (n2 := 0) dX11_ahead_142 ml_RX11_371 mo_X11_toldAs ms_X11_toldAs rfl (tX11_toldAs (d + 4) v4 μ hN ) rfl rfl (Nat.le_of_ble_eq_true rfl) (by decide) (by decide) (fun v ν hp => ?_) (fun i ν hp => nrm hp.1)
        obtain ⟨rfl, rfl, hN16, hb17⟩ := QEl hp
        show J _ _ _ _ 145 _ ([.int (fX11_toldAs v4)]) _ _ _ _
        cases h
        exact J.iret (pc := 145) dX11_ahead_145 rfl ⟨rfl, rfl, hN16, trivial⟩
def fX11_ahead_42  : Nat → Nat → Int32 → Int32 → Int32 → Int32 → Mem → Option (Int32 × Mem)
  | 0, _, _, _, _, _, _ => none
  | n + 1, v0, v1, v2, v3, v4, μ =>
    if v4 < v1 then
      (fX11_dayGoes v0 (79 : Int32) μ).bind fun μ2 =>
      (fX11_ahead_42 n) v0 v1 v2 (v3 &&& (μ2.2.1 v0 43)) (v4 + (1 : Int32)) μ2
    else
      (fX11_ahead_73 fuel) v0 v2 v3 (-1 : Int32) (0 : Int32) μ
set_option maxHeartbeats 4000000 in
theorem tX11_ahead_42 {ω : Wd} {l : Launch} (d : Nat) {res : Int32 × Mem} : ∀ n : Nat, ∀ (v0 : Nat) (v1 : Int32) (v2 : Int32) (v3 : Int32) (v4 : Int32) (μ : Mem), fX11_ahead_42 n v0 v1 v2 v3 v4 μ = some res → μ.1 = NN → (kd v0).1 = 21 → J ω l mX11_ahead (d + 5) 42 [(0, .ref v0), (1, .int v1), (2, .int v2), (3, .int v3), (4, .int v4)] [] μ 0 0 (PE (.inl (some (.int res.1))) res.2 True) := by
  intro n
  induction n with
  | zero =>
    intro v0 v1 v2 v3 v4 μ h hN k0
    have h9 : (none : Option (Int32 × Mem)) = some res := h
    cases h9
  | succ n ih =>
    intro v0 v1 v2 v3 v4 μ h hN k0
    unfold fX11_ahead_42 at h
    refine J.iload (pc := 42) dX11_ahead_42 4 rfl ?_
    refine J.iload_n (pc := 44) dX11_ahead_44 rfl 1 rfl ?_
    rcases ifc h with ⟨hc, h⟩ | ⟨hc, h⟩
    · refine J.cge (pc := 45) (tgt := 67) dX11_ahead_45 (by decide) (fun _ => ?_) (fun q => absurd hc q)
      refine J.aload_n (pc := 48) dX11_ahead_48 rfl 0 rfl ?_
      refine J.bipush (pc := 49) dX11_ahead_49 ib_79 ?_
      obtain ⟨μ2, e1, h⟩ := bnd h
      refine J.callV (Y := mX11_ahead) (Z := mX11_dayGoes) (pc := 51) (st := []) (k2 := 0) (n2 := 0) dX11_ahead_51 ml_RX11_341 mo_X11_dayGoes mv_X11_dayGoes rfl (tX11_dayGoes d e1 hN k0) k0 (okN hN k0 (by decide)).1 (okN hN k0 (by decide)).2 cq_11 (by decide) rfl rfl (Nat.le_of_ble_eq_true rfl) (by decide) (by decide) (fun v ν hp => ?_) (fun i ν hp => nrm hp.1)
      obtain ⟨rfl, rfl, hN3, hb4⟩ := QEl hp
      show J _ _ _ _ 54 _ ([]) _ _ _ _
      refine J.iload_n (pc := 54) dX11_ahead_54 rfl 3 rfl ?_
      refine J.aload_n (pc := 55) dX11_ahead_55 rfl 0 rfl ?_
      refine J.fI (pc := 56) dX11_ahead_56 fl_RX11_326 k0 (okN hN3 k0 (by decide)) (Or.inl rfl) ?_
      refine J.iand (pc := 59) dX11_ahead_59 ?_
      refine J.istore_n (pc := 60) ([(3, .int (v3 &&& (μ2.2.1 v0 43))), (0, .ref v0), (1, .int v1), (2, .int v2), (4, .int v4)]) dX11_ahead_60 rfl (Nat.le_of_ble_eq_true rfl) rfl ?_
      refine J.iinc (pc := 61) (j := 4) ([(4, .int (v4 + (1 : Int32))), (3, .int (v3 &&& (μ2.2.1 v0 43))), (0, .ref v0), (1, .int v1), (2, .int v2)]) dX11_ahead_61 rfl (iincv ic_1) (Nat.le_of_ble_eq_true rfl) rfl ?_
      refine J.goto (pc := 64) (tgt := 42) dX11_ahead_64 (by decide) ?_
      refine J.pick [2, 3, 4, 1, 0] rfl ?_
      exact ih v0 v1 v2 (v3 &&& (μ2.2.1 v0 43)) (v4 + (1 : Int32)) μ2 h hN3 k0
    · refine J.cge (pc := 45) (tgt := 67) dX11_ahead_45 (by decide) (fun q => absurd q hc) (fun _ => ?_)
      refine J.iconst (pc := 67) dX11_ahead_67 ic_m1 ?_
      refine J.istore (pc := 68) ([(4, .int (-1 : Int32)), (0, .ref v0), (1, .int v1), (2, .int v2), (3, .int v3)]) dX11_ahead_68 (Nat.le_of_ble_eq_true rfl) rfl ?_
      refine J.iconst (pc := 70) dX11_ahead_70 ic_0 ?_
      refine J.istore (pc := 71) ([(5, .int (0 : Int32)), (4, .int (-1 : Int32)), (0, .ref v0), (1, .int v1), (2, .int v2), (3, .int v3)]) dX11_ahead_71 (Nat.le_of_ble_eq_true rfl) rfl ?_
      refine J.pick [2, 4, 5, 1, 0] rfl ?_
      exact (tX11_ahead_73 d fuel) v0 v2 v3 (-1 : Int32) (0 : Int32) μ h hN k0
def fX11_ahead (v0 : Nat) (v1 : Int32) (v2 : Int32) (μ : Mem) : Option (Int32 × Mem) :=
  (some (sI μ v0 0 (0 : Int32))).bind fun μ1 =>
  (fX11_isWhat v0 v2 (1 : Int32) μ1).bind fun (r6, μ5) =>
  if r6 = 0 then
    some ((0 : Int32), μ5)
  else
    (fX11_isSoon v0 v1 (0 : Int32) (2 : Int32) μ5).bind fun (r11, μ10) =>
    if r11 = 0 then
      some ((0 : Int32), μ10)
    else
      (fX11_tries v0 μ10).bind fun μ15 =>
      (fX11_ahead_42 fuel) v0 v1 v2 (((1 : Int32) <<< ((μ10.2.1 v0 2) &&& 31)) - (1 : Int32)) (0 : Int32) μ15
set_option maxHeartbeats 4000000 in
theorem tX11_ahead {ω : Wd} {l : Launch} (d : Nat) {v0 : Nat} {v1 : Int32} {v2 : Int32} {μ : Mem} {res : Int32 × Mem} (h : fX11_ahead v0 v1 v2 μ = some res) (hN : μ.1 = NN) (k0 : (kd v0).1 = 21) : Ct ω l mX11_ahead (d + 5) [.ref v0, .int v1, .int v2] μ 0 0 (PE (.inl (some (.int res.1))) res.2 True) := by
  refine Ct.of pn_RX11 (Nat.le_of_ble_eq_true rfl) ?_
  show J ω l mX11_ahead (d + 5) 0 [(0, .ref v0), (1, .int v1), (2, .int v2)] [] μ 0 0 _
  unfold fX11_ahead at h
  refine J.aload_n (pc := 0) dX11_ahead_0 rfl 0 rfl ?_
  refine J.iconst (pc := 1) dX11_ahead_1 ic_0 ?_
  obtain ⟨μ1, e2, h⟩ := bnd h
  have hN3 : μ1.1 = NN := smN e2 hN
  refine J.qI (pc := 2) dX11_ahead_2 fl_RX11_99 k0 (okN hN k0 (by decide)) rfl rfl e2 ?_
  refine J.aload_n (pc := 5) dX11_ahead_5 rfl 0 rfl ?_
  refine J.iload_n (pc := 6) dX11_ahead_6 rfl 2 rfl ?_
  refine J.iconst (pc := 7) dX11_ahead_7 ic_1 ?_
  obtain ⟨⟨r6, μ5⟩, e4, h⟩ := bnd h
  try dsimp only at h
  refine J.callV (Y := mX11_ahead) (Z := mX11_isWhat) (pc := 8) (st := []) (k2 := 0) (n2 := 0) dX11_ahead_8 ml_RX11_365 mo_X11_isWhat mv_X11_isWhat rfl (tX11_isWhat (d + 3) e4 hN3 k0) k0 (okN hN3 k0 (by decide)).1 (okN hN3 k0 (by decide)).2 cq_11 (by decide) rfl rfl (Nat.le_of_ble_eq_true rfl) (by decide) (by decide) (fun v ν hp => ?_) (fun i ν hp => nrm hp.1)
  obtain ⟨rfl, rfl, hN7, hb8⟩ := QEl hp
  show J _ _ _ _ 11 _ ([.int r6]) _ _ _ _
  rcases ifc h with ⟨hc, h⟩ | ⟨hc, h⟩
  · refine J.zeq (pc := 11) (tgt := 24) dX11_ahead_11 (by decide) (fun _ => ?_) (fun q => absurd hc q)
    refine J.iconst (pc := 24) dX11_ahead_24 ic_0 ?_
    cases h
    exact J.iret (pc := 25) dX11_ahead_25 rfl ⟨rfl, rfl, hN7, trivial⟩
  · refine J.zeq (pc := 11) (tgt := 24) dX11_ahead_11 (by decide) (fun q => absurd q hc) (fun _ => ?_)
    refine J.aload_n (pc := 14) dX11_ahead_14 rfl 0 rfl ?_
    refine J.iload_n (pc := 15) dX11_ahead_15 rfl 1 rfl ?_
    refine J.iconst (pc := 16) dX11_ahead_16 ic_0 ?_
    refine J.iconst (pc := 17) dX11_ahead_17 ic_2 ?_
    obtain ⟨⟨r11, μ10⟩, e9, h⟩ := bnd h
    try dsimp only at h
    refine J.callV (Y := mX11_ahead) (Z := mX11_isSoon) (pc := 18) (st := []) (k2 := 0) (n2 := 0) dX11_ahead_18 ml_RX11_395 mo_X11_isSoon mv_X11_isSoon rfl (tX11_isSoon (d + 3) e9 hN7 k0) k0 (okN hN7 k0 (by decide)).1 (okN hN7 k0 (by decide)).2 cq_11 (by decide) rfl rfl (Nat.le_of_ble_eq_true rfl) (by decide) (by decide) (fun v ν hp => ?_) (fun i ν hp => nrm hp.1)
    obtain ⟨rfl, rfl, hN12, hb13⟩ := QEl hp
    show J _ _ _ _ 21 _ ([.int r11]) _ _ _ _
    rcases ifc h with ⟨hc, h⟩ | ⟨hc, h⟩
    · refine J.zne (pc := 21) (tgt := 26) dX11_ahead_21 (by decide) (fun _ => ?_) (fun q => absurd hc q)
      refine J.iconst (pc := 24) dX11_ahead_24 ic_0 ?_
      cases h
      exact J.iret (pc := 25) dX11_ahead_25 rfl ⟨rfl, rfl, hN12, trivial⟩
    · refine J.zne (pc := 21) (tgt := 26) dX11_ahead_21 (by decide) (fun q => absurd q hc) (fun _ => ?_)
      refine J.iconst (pc := 26) dX11_ahead_26 ic_1 ?_
      refine J.aload_n (pc := 27) dX11_ahead_27 rfl 0 rfl ?_
      refine J.fI (pc := 28) dX11_ahead_28 fl_RX11_276 k0 (okN hN12 k0 (by decide)) (Or.inl rfl) ?_
      refine J.ishl (pc := 31) dX11_ahead_31 ?_
      refine J.iconst (pc := 32) dX11_ahead_32 ic_1 ?_
      refine J.isub (pc := 33) dX11_ahead_33 ?_
      refine J.istore_n (pc := 34) ([(3, .int (((1 : Int32) <<< ((μ10.2.1 v0 2) &&& 31)) - (1 : Int32))), (0, .ref v0), (1, .int v1), (2, .int v2)]) dX11_ahead_34 rfl (Nat.le_of_ble_eq_true rfl) rfl ?_
      refine J.aload_n (pc := 35) dX11_ahead_35 rfl 1 rfl ?_
      obtain ⟨μ15, e14, h⟩ := bnd h
      refine J.callV (Y := mX11_ahead) (Z := mX11_tries) (pc := 36) (st := []) (k2 := 0) (n2 := 0) dX11_ahead_36 ml_RX11_389 mo_X11_tries mv_X11_tries rfl (tX11_tries (d + 4) e14 hN12 k0) k0 (okN hN12 k0 (by decide)).1 (okN hN12 k0 (by decide)).2 cq_11 (by decide) rfl rfl (Nat.le_of_ble_eq_true rfl) (by decide) (by decide) (fun v ν hp => ?_) (fun i ν hp => nrm hp.1)
      obtain ⟨rfl, rfl, hN16, hb17⟩ := QEl hp
      show J _ _ _ _ 39 _ ([]) _ _ _ _
      refine J.iconst (pc := 39) dX11_ahead_39 ic_0 ?_
      refine J.istore (pc := 40) ([(4, .int (0 : Int32)), (3, .int (((1 : Int32) <<< ((μ10.2.1 v0 2) &&& 31)) - (1 : Int32))), (0, .ref v0), (1, .int v1), (2, .int v2)]) dX11_ahead_40 (Nat.le_of_ble_eq_true rfl) rfl ?_
      refine J.pick [2, 3, 4, 1, 0] rfl ?_
      exact (tX11_ahead_42 d fuel) v0 v1 v2 (((1 : Int32) <<< ((μ10.2.1 v0 2) &&& 31)) - (1 : Int32)) (0 : Int32) μ15 h hN16 k0
def fX11_byteAt (v0 : Nat) (v1 : Int32) (μ : Mem) : Option (Int32) :=
  if v1 < (μ.2.1 v0 12) then
    (gR μ v0 7 0).bind fun a1 =>
    (ldI μ a1 v1).bind fun x4 =>
    some x4
  else
    some (0 : Int32)
set_option maxHeartbeats 4000000 in
theorem tX11_byteAt {ω : Wd} {l : Launch} (d : Nat) {v0 : Nat} {v1 : Int32} {μ : Mem} {res : Int32} (h : fX11_byteAt v0 v1 μ = some res) (hN : μ.1 = NN) (k0 : (kd v0).1 = 21) : Ct ω l mX11_byteAt d [.ref v0, .int v1] μ 0 0 (PE (.inl (some (.int res))) μ True) := by
  refine Ct.of pn_RX11 (Nat.le_of_ble_eq_true rfl) ?_
  show J ω l mX11_byteAt d 0 [(0, .ref v0), (1, .int v1)] [] μ 0 0 _
  unfold fX11_byteAt at h
  refine J.iload_n (pc := 0) dX11_byteAt_0 rfl 1 rfl ?_
  refine J.aload_n (pc := 1) dX11_byteAt_1 rfl 0 rfl ?_
  refine J.fI (pc := 2) dX11_byteAt_2 fl_RX11_109 k0 (okN hN k0 (by decide)) (Or.inl rfl) ?_
  rcases ifc h with ⟨hc, h⟩ | ⟨hc, h⟩
  · refine J.cge (pc := 5) (tgt := 17) dX11_byteAt_5 (by decide) (fun _ => ?_) (fun q => absurd hc q)
    refine J.aload_n (pc := 8) dX11_byteAt_8 rfl 0 rfl ?_
    obtain ⟨a1, e2, h⟩ := bnd h
    have k3 : (kd a1).1 = 0 := gR_k e2
    refine J.fR (pc := 9) dX11_byteAt_9 fl_RX11_23 k0 (okN hN k0 (by decide)) rfl e2 ?_
    refine J.iload_n (pc := 12) dX11_byteAt_12 rfl 1 rfl ?_
    obtain ⟨x4, e5, h⟩ := bnd h
    refine J.aI (pc := 13) dX11_byteAt_13 k3 (okN hN k3 (by decide)) e5 ?_
    refine J.goto (pc := 14) (tgt := 18) dX11_byteAt_14 (by decide) ?_
    cases h
    exact J.iret (pc := 18) dX11_byteAt_18 rfl ⟨rfl, rfl, hN, trivial⟩
  · refine J.cge (pc := 5) (tgt := 17) dX11_byteAt_5 (by decide) (fun q => absurd q hc) (fun _ => ?_)
    refine J.iconst (pc := 17) dX11_byteAt_17 ic_0 ?_
    cases h
    exact J.iret (pc := 18) dX11_byteAt_18 rfl ⟨rfl, rfl, hN, trivial⟩
def fX11_isDigit (v0 : Int32) : Int32 :=
  if v0 < (48 : Int32) then
    (0 : Int32)
  else
    if (57 : Int32) < v0 then
      (0 : Int32)
    else
      (1 : Int32)
set_option maxHeartbeats 4000000 in
theorem tX11_isDigit {ω : Wd} {l : Launch} (d : Nat) (v0 : Int32) (μ : Mem) (hN : μ.1 = NN) : Ct ω l mX11_isDigit d [.int v0] μ 0 0 (PE (.inl (some (.int (fX11_isDigit v0)))) μ (isB (fX11_isDigit v0))) := by
  refine Ct.of pn_RX11 (Nat.le_of_ble_eq_true rfl) ?_
  show J ω l mX11_isDigit d 0 [(0, .int v0)] [] μ 0 0 _
  generalize h : fX11_isDigit v0 = res
  unfold fX11_isDigit at h
  refine J.iload_n (pc := 0) dX11_isDigit_0 rfl 0 rfl ?_
  refine J.bipush (pc := 1) dX11_isDigit_1 ib_48 ?_
  rcases ifc h with ⟨hc, h⟩ | ⟨hc, h⟩
  · refine J.clt (pc := 3) (tgt := 16) dX11_isDigit_3 (by decide) (fun _ => ?_) (fun q => absurd hc q)
    refine J.iconst (pc := 16) dX11_isDigit_16 ic_0 ?_
    cases h
    exact J.zret (pc := 17) dX11_isDigit_17 rfl (narB (Or.inl rfl)) ⟨rfl, rfl, hN, (Or.inl rfl)⟩
  · refine J.clt (pc := 3) (tgt := 16) dX11_isDigit_3 (by decide) (fun q => absurd q hc) (fun _ => ?_)
    refine J.iload_n (pc := 6) dX11_isDigit_6 rfl 0 rfl ?_
    refine J.bipush (pc := 7) dX11_isDigit_7 ib_57 ?_
    rcases ifc h with ⟨hc, h⟩ | ⟨hc, h⟩
    · refine J.cgt (pc := 9) (tgt := 16) dX11_isDigit_9 (by decide) (fun _ => ?_) (fun q => absurd hc q)
      refine J.iconst (pc := 16) dX11_isDigit_16 ic_0 ?_
      cases h
      exact J.zret (pc := 17) dX11_isDigit_17 rfl (narB (Or.inl rfl)) ⟨rfl, rfl, hN, (Or.inl rfl)⟩
    · refine J.cgt (pc := 9) (tgt := 16) dX11_isDigit_9 (by decide) (fun q => absurd q hc) (fun _ => ?_)
      refine J.iconst (pc := 12) dX11_isDigit_12 ic_1 ?_
      refine J.goto (pc := 13) (tgt := 17) dX11_isDigit_13 (by decide) ?_
      cases h
      exact J.zret (pc := 17) dX11_isDigit_17 rfl (narB (Or.inr rfl)) ⟨rfl, rfl, hN, (Or.inr rfl)⟩
def fX11_isLetter (v0 : Int32) : Int32 :=
  if v0 < (97 : Int32) then
    (0 : Int32)
  else
    if (122 : Int32) < v0 then
      (0 : Int32)
    else
      (1 : Int32)
set_option maxHeartbeats 4000000 in
theorem tX11_isLetter {ω : Wd} {l : Launch} (d : Nat) (v0 : Int32) (μ : Mem) (hN : μ.1 = NN) : Ct ω l mX11_isLetter d [.int v0] μ 0 0 (PE (.inl (some (.int (fX11_isLetter v0)))) μ (isB (fX11_isLetter v0))) := by
  refine Ct.of pn_RX11 (Nat.le_of_ble_eq_true rfl) ?_
  show J ω l mX11_isLetter d 0 [(0, .int v0)] [] μ 0 0 _
  generalize h : fX11_isLetter v0 = res
  unfold fX11_isLetter at h
  refine J.iload_n (pc := 0) dX11_isLetter_0 rfl 0 rfl ?_
  refine J.bipush (pc := 1) dX11_isLetter_1 ib_97 ?_
  rcases ifc h with ⟨hc, h⟩ | ⟨hc, h⟩
  · refine J.clt (pc := 3) (tgt := 16) dX11_isLetter_3 (by decide) (fun _ => ?_) (fun q => absurd hc q)
    refine J.iconst (pc := 16) dX11_isLetter_16 ic_0 ?_
    cases h
    exact J.zret (pc := 17) dX11_isLetter_17 rfl (narB (Or.inl rfl)) ⟨rfl, rfl, hN, (Or.inl rfl)⟩
  · refine J.clt (pc := 3) (tgt := 16) dX11_isLetter_3 (by decide) (fun q => absurd q hc) (fun _ => ?_)
    refine J.iload_n (pc := 6) dX11_isLetter_6 rfl 0 rfl ?_
    refine J.bipush (pc := 7) dX11_isLetter_7 ib_122 ?_
    rcases ifc h with ⟨hc, h⟩ | ⟨hc, h⟩
    · refine J.cgt (pc := 9) (tgt := 16) dX11_isLetter_9 (by decide) (fun _ => ?_) (fun q => absurd hc q)
      refine J.iconst (pc := 16) dX11_isLetter_16 ic_0 ?_
      cases h
      exact J.zret (pc := 17) dX11_isLetter_17 rfl (narB (Or.inl rfl)) ⟨rfl, rfl, hN, (Or.inl rfl)⟩
    · refine J.cgt (pc := 9) (tgt := 16) dX11_isLetter_9 (by decide) (fun q => absurd q hc) (fun _ => ?_)
      refine J.iconst (pc := 12) dX11_isLetter_12 ic_1 ?_
      refine J.goto (pc := 13) (tgt := 17) dX11_isLetter_13 (by decide) ?_
      cases h
      exact J.zret (pc := 17) dX11_isLetter_17 rfl (narB (Or.inr rfl)) ⟨rfl, rfl, hN, (Or.inr rfl)⟩
def fX11_goes_323  (v0 : Nat) (s0 : Nat) (μ : Mem) : Option (Mem) :=
  (some (sI μ s0 14 (3 : Int32))).bind fun μ1 =>
  (some (sI μ1 v0 16 ((μ1.2.1 v0 13) - (μ1.2.1 v0 15)))).bind fun μ4 =>
  some μ4
set_option maxHeartbeats 4000000 in
theorem tX11_goes_323 {ω : Wd} {l : Launch} (d : Nat) {res : Mem} : ∀ (v0 : Nat) (s0 : Nat) (μ : Mem), fX11_goes_323 v0 s0 μ = some res → μ.1 = NN → (kd v0).1 = 21 → (kd s0).1 = 21 → J ω l mX11_goes (d + 1) 323 [(0, .ref v0)] [.ref s0] μ 0 0 (PE (.inl none) res True) := by
  intro v0 s0 μ h hN k0 ks0
  unfold fX11_goes_323 at h
  refine J.iconst (pc := 323) dX11_goes_323 ic_3 ?_
  refine J.goto (pc := 324) (tgt := 328) dX11_goes_324 (by decide) ?_
  obtain ⟨μ1, e2, h⟩ := bnd h
  have hN3 : μ1.1 = NN := smN e2 hN
  refine J.qI (pc := 328) dX11_goes_328 fl_RX11_132 ks0 (okN hN ks0 (by decide)) rfl rfl e2 ?_
  refine J.aload_n (pc := 331) dX11_goes_331 rfl 0 rfl ?_
  refine J.aload_n (pc := 332) dX11_goes_332 rfl 0 rfl ?_
  refine J.fI (pc := 333) dX11_goes_333 fl_RX11_112 k0 (okN hN3 k0 (by decide)) (Or.inl rfl) ?_
  refine J.aload_n (pc := 336) dX11_goes_336 rfl 0 rfl ?_
  refine J.fI (pc := 337) dX11_goes_337 fl_RX11_119 k0 (okN hN3 k0 (by decide)) (Or.inl rfl) ?_
  refine J.isub (pc := 340) dX11_goes_340 ?_
  obtain ⟨μ4, e5, h⟩ := bnd h
  have hN6 : μ4.1 = NN := smN e5 hN3
  refine J.qI (pc := 341) dX11_goes_341 fl_RX11_142 k0 (okN hN3 k0 (by decide)) rfl rfl e5 ?_
  cases h
  exact J.vret (pc := 344) dX11_goes_344 rfl ⟨rfl, rfl, hN6, trivial⟩
def fX11_goes_187  : Nat → Nat → Mem → Option (Mem)
  | 0, _, _ => none
  | n + 1, v0, μ =>
    (fX11_byteAt v0 (μ.2.1 v0 13) μ).bind fun r2 =>
    if (fX11_isDigit r2) = 0 then
      (some (sI μ v0 14 (2 : Int32))).bind fun μ8 =>
      (some (sI μ8 v0 16 ((μ8.2.1 v0 13) - (μ8.2.1 v0 15)))).bind fun μ11 =>
      some μ11
    else
      if ((μ.2.1 v0 13) - (μ.2.1 v0 15)) < (4 : Int32) then
        (fX11_byteAt v0 (μ.2.1 v0 13) μ).bind fun r15 =>
        (some (sI μ v0 17 ((((10 : Int32) * (μ.2.1 v0 17)) + r15) - (48 : Int32)))).bind fun μ18 =>
        (some (sI μ18 v0 13 ((μ18.2.1 v0 13) + (1 : Int32)))).bind fun μ21 =>
        (fX11_goes_187 n) v0 μ21
      else
        (some (sI μ v0 13 ((μ.2.1 v0 13) + (1 : Int32)))).bind fun μ24 =>
        (fX11_goes_187 n) v0 μ24
set_option maxHeartbeats 4000000 in
theorem tX11_goes_187 {ω : Wd} {l : Launch} (d : Nat) {res : Mem} : ∀ n : Nat, ∀ (v0 : Nat) (μ : Mem), fX11_goes_187 n v0 μ = some res → μ.1 = NN → (kd v0).1 = 21 → J ω l mX11_goes (d + 1) 187 [(0, .ref v0)] [] μ 0 0 (PE (.inl none) res True) := by
  intro n
  induction n with
  | zero =>
    intro v0 μ h hN k0
    have h9 : (none : Option (Mem)) = some res := h
    cases h9
  | succ n ih =>
    intro v0 μ h hN k0
    unfold fX11_goes_187 at h
    refine J.aload_n (pc := 187) dX11_goes_187 rfl 0 rfl ?_
    refine J.aload_n (pc := 188) dX11_goes_188 rfl 0 rfl ?_
    refine J.fI (pc := 189) dX11_goes_189 fl_RX11_112 k0 (okN hN k0 (by decide)) (Or.inl rfl) ?_
    obtain ⟨r2, e1, h⟩ := bnd h
    refine J.callV (Y := mX11_goes) (Z := mX11_byteAt) (pc := 192) (st := []) (k2 := 0) (n2 := 0) dX11_goes_192 ml_RX11_115 mo_X11_byteAt mv_X11_byteAt rfl (tX11_byteAt d e1 hN k0) k0 (okN hN k0 (by decide)).1 (okN hN k0 (by decide)).2 cq_11 (by decide) rfl rfl (Nat.le_of_ble_eq_true rfl) (by decide) (by decide) (fun v ν hp => ?_) (fun i ν hp => nrm hp.1)
    obtain ⟨rfl, rfl, hN3, hb4⟩ := QEl hp
    show J _ _ _ _ 195 _ ([.int r2]) _ _ _ _
    refine J.callS (Y := mX11_goes) (Z := mX11_isDigit) (pc := 195) (st := []) (k2 := 0) (n2 := 0) dX11_goes_195 ml_RX11_139 mo_X11_isDigit ms_X11_isDigit rfl (tX11_isDigit d r2 μ hN3 ) rfl rfl (Nat.le_of_ble_eq_true rfl) (by decide) (by decide) (fun v ν hp => ?_) (fun i ν hp => nrm hp.1)
    obtain ⟨rfl, rfl, hN6, hb7⟩ := QEl hp
    show J _ _ _ _ 198 _ ([.int (fX11_isDigit r2)]) _ _ _ _
    rcases ifc h with ⟨hc, h⟩ | ⟨hc, h⟩
    · refine J.zeq (pc := 198) (tgt := 250) dX11_goes_198 (by decide) (fun _ => ?_) (fun q => absurd hc q)
      refine J.aload_n (pc := 250) dX11_goes_250 rfl 0 rfl ?_
      refine J.iconst (pc := 251) dX11_goes_251 ic_2 ?_
      obtain ⟨μ8, e9, h⟩ := bnd h
      have hN10 : μ8.1 = NN := smN e9 hN6
      refine J.qI (pc := 252) dX11_goes_252 fl_RX11_132 k0 (okN hN6 k0 (by decide)) rfl rfl e9 ?_
      refine J.goto (pc := 255) (tgt := 331) dX11_goes_255 (by decide) ?_
      refine J.aload_n (pc := 331) dX11_goes_331 rfl 0 rfl ?_
      refine J.aload_n (pc := 332) dX11_goes_332 rfl 0 rfl ?_
      refine J.fI (pc := 333) dX11_goes_333 fl_RX11_112 k0 (okN hN10 k0 (by decide)) (Or.inl rfl) ?_
      refine J.aload_n (pc := 336) dX11_goes_336 rfl 0 rfl ?_
      refine J.fI (pc := 337) dX11_goes_337 fl_RX11_119 k0 (okN hN10 k0 (by decide)) (Or.inl rfl) ?_
      refine J.isub (pc := 340) dX11_goes_340 ?_
      obtain ⟨μ11, e12, h⟩ := bnd h
      have hN13 : μ11.1 = NN := smN e12 hN10
      refine J.qI (pc := 341) dX11_goes_341 fl_RX11_142 k0 (okN hN10 k0 (by decide)) rfl rfl e12 ?_
      cases h
      exact J.vret (pc := 344) dX11_goes_344 rfl ⟨rfl, rfl, hN13, trivial⟩
    · refine J.zeq (pc := 198) (tgt := 250) dX11_goes_198 (by decide) (fun q => absurd q hc) (fun _ => ?_)
      refine J.aload_n (pc := 201) dX11_goes_201 rfl 0 rfl ?_
      refine J.fI (pc := 202) dX11_goes_202 fl_RX11_112 k0 (okN hN6 k0 (by decide)) (Or.inl rfl) ?_
      refine J.aload_n (pc := 205) dX11_goes_205 rfl 0 rfl ?_
      refine J.fI (pc := 206) dX11_goes_206 fl_RX11_119 k0 (okN hN6 k0 (by decide)) (Or.inl rfl) ?_
      refine J.isub (pc := 209) dX11_goes_209 ?_
      refine J.iconst (pc := 210) dX11_goes_210 ic_4 ?_
      rcases ifc h with ⟨hc, h⟩ | ⟨hc, h⟩
      · refine J.cge (pc := 211) (tgt := 237) dX11_goes_211 (by decide) (fun _ => ?_) (fun q => absurd hc q)
        refine J.aload_n (pc := 214) dX11_goes_214 rfl 0 rfl ?_
        refine J.bipush (pc := 215) dX11_goes_215 ib_10 ?_
        refine J.aload_n (pc := 217) dX11_goes_217 rfl 0 rfl ?_
        refine J.fI (pc := 218) dX11_goes_218 fl_RX11_126 k0 (okN hN6 k0 (by decide)) (Or.inl rfl) ?_
        refine J.imul (pc := 221) dX11_goes_221 ?_
        refine J.aload_n (pc := 222) dX11_goes_222 rfl 0 rfl ?_
        refine J.aload_n (pc := 223) dX11_goes_223 rfl 0 rfl ?_
        refine J.fI (pc := 224) dX11_goes_224 fl_RX11_112 k0 (okN hN6 k0 (by decide)) (Or.inl rfl) ?_
        obtain ⟨r15, e14, h⟩ := bnd h
        refine J.callV (Y := mX11_goes) (Z := mX11_byteAt) (pc := 227) (st := [.int ((10 : Int32) * (μ.2.1 v0 17)), .ref v0]) (k2 := 0) (n2 := 0) dX11_goes_227 ml_RX11_115 mo_X11_byteAt mv_X11_byteAt rfl (tX11_byteAt d e14 hN6 k0) k0 (okN hN6 k0 (by decide)).1 (okN hN6 k0 (by decide)).2 cq_11 (by decide) rfl rfl (Nat.le_of_ble_eq_true rfl) (by decide) (by decide) (fun v ν hp => ?_) (fun i ν hp => nrm hp.1)
        obtain ⟨rfl, rfl, hN16, hb17⟩ := QEl hp
        show J _ _ _ _ 230 _ ([.int r15, .int ((10 : Int32) * (μ.2.1 v0 17)), .ref v0]) _ _ _ _
        refine J.iadd (pc := 230) dX11_goes_230 ?_
        refine J.bipush (pc := 231) dX11_goes_231 ib_48 ?_
        refine J.isub (pc := 233) dX11_goes_233 ?_
        obtain ⟨μ18, e19, h⟩ := bnd h
        have hN20 : μ18.1 = NN := smN e19 hN16
        refine J.qI (pc := 234) dX11_goes_234 fl_RX11_126 k0 (okN hN16 k0 (by decide)) rfl rfl e19 ?_
        refine J.aload_n (pc := 237) dX11_goes_237 rfl 0 rfl ?_
        refine J.dup (pc := 238) dX11_goes_238 rfl ?_
        refine J.fI (pc := 239) dX11_goes_239 fl_RX11_112 k0 (okN hN20 k0 (by decide)) (Or.inl rfl) ?_
        refine J.iconst (pc := 242) dX11_goes_242 ic_1 ?_
        refine J.iadd (pc := 243) dX11_goes_243 ?_
        obtain ⟨μ21, e22, h⟩ := bnd h
        have hN23 : μ21.1 = NN := smN e22 hN20
        refine J.qI (pc := 244) dX11_goes_244 fl_RX11_112 k0 (okN hN20 k0 (by decide)) rfl rfl e22 ?_
        refine J.goto (pc := 247) (tgt := 187) dX11_goes_247 (by decide) ?_
        exact ih v0 μ21 h hN23 k0
      · refine J.cge (pc := 211) (tgt := 237) dX11_goes_211 (by decide) (fun q => absurd q hc) (fun _ => ?_)
        refine J.aload_n (pc := 237) dX11_goes_237 rfl 0 rfl ?_
        refine J.dup (pc := 238) dX11_goes_238 rfl ?_
        refine J.fI (pc := 239) dX11_goes_239 fl_RX11_112 k0 (okN hN6 k0 (by decide)) (Or.inl rfl) ?_
        refine J.iconst (pc := 242) dX11_goes_242 ic_1 ?_
        refine J.iadd (pc := 243) dX11_goes_243 ?_
        obtain ⟨μ24, e25, h⟩ := bnd h
        have hN26 : μ24.1 = NN := smN e25 hN6
        refine J.qI (pc := 244) dX11_goes_244 fl_RX11_112 k0 (okN hN6 k0 (by decide)) rfl rfl e25 ?_
        refine J.goto (pc := 247) (tgt := 187) dX11_goes_247 (by decide) ?_
        exact ih v0 μ24 h hN26 k0
def fX11_goes_108  : Nat → Nat → Mem → Option (Mem)
  | 0, _, _ => none
  | n + 1, v0, μ =>
    (fX11_byteAt v0 (μ.2.1 v0 13) μ).bind fun r2 =>
    if (fX11_isLetter r2) = 0 then
      (some (sI μ v0 14 (1 : Int32))).bind fun μ8 =>
      (some (sI μ8 v0 16 ((μ8.2.1 v0 13) - (μ8.2.1 v0 15)))).bind fun μ11 =>
      some μ11
    else
      if ((μ.2.1 v0 13) - (μ.2.1 v0 15)) < (6 : Int32) then
        (fX11_byteAt v0 (μ.2.1 v0 13) μ).bind fun r15 =>
        (some (sL μ v0 19 (((μ.2.2.1 v0 19) <<< ((5 : Int32).toInt64 &&& 63)) ||| ((r15 - (96 : Int32)).toInt64)))).bind fun μ18 =>
        (some (sI μ18 v0 13 ((μ18.2.1 v0 13) + (1 : Int32)))).bind fun μ21 =>
        (fX11_goes_108 n) v0 μ21
      else
        (some (sI μ v0 13 ((μ.2.1 v0 13) + (1 : Int32)))).bind fun μ24 =>
        (fX11_goes_108 n) v0 μ24
set_option maxHeartbeats 4000000 in
theorem tX11_goes_108 {ω : Wd} {l : Launch} (d : Nat) {res : Mem} : ∀ n : Nat, ∀ (v0 : Nat) (μ : Mem), fX11_goes_108 n v0 μ = some res → μ.1 = NN → (kd v0).1 = 21 → J ω l mX11_goes (d + 1) 108 [(0, .ref v0)] [] μ 0 0 (PE (.inl none) res True) := by
  intro n
  induction n with
  | zero =>
    intro v0 μ h hN k0
    have h9 : (none : Option (Mem)) = some res := h
    cases h9
  | succ n ih =>
    intro v0 μ h hN k0
    unfold fX11_goes_108 at h
    refine J.aload_n (pc := 108) dX11_goes_108 rfl 0 rfl ?_
    refine J.aload_n (pc := 109) dX11_goes_109 rfl 0 rfl ?_
    refine J.fI (pc := 110) dX11_goes_110 fl_RX11_112 k0 (okN hN k0 (by decide)) (Or.inl rfl) ?_
    obtain ⟨r2, e1, h⟩ := bnd h
    refine J.callV (Y := mX11_goes) (Z := mX11_byteAt) (pc := 113) (st := []) (k2 := 0) (n2 := 0) dX11_goes_113 ml_RX11_115 mo_X11_byteAt mv_X11_byteAt rfl (tX11_byteAt d e1 hN k0) k0 (okN hN k0 (by decide)).1 (okN hN k0 (by decide)).2 cq_11 (by decide) rfl rfl (Nat.le_of_ble_eq_true rfl) (by decide) (by decide) (fun v ν hp => ?_) (fun i ν hp => nrm hp.1)
    obtain ⟨rfl, rfl, hN3, hb4⟩ := QEl hp
    show J _ _ _ _ 116 _ ([.int r2]) _ _ _ _
    refine J.callS (Y := mX11_goes) (Z := mX11_isLetter) (pc := 116) (st := []) (k2 := 0) (n2 := 0) dX11_goes_116 ml_RX11_135 mo_X11_isLetter ms_X11_isLetter rfl (tX11_isLetter d r2 μ hN3 ) rfl rfl (Nat.le_of_ble_eq_true rfl) (by decide) (by decide) (fun v ν hp => ?_) (fun i ν hp => nrm hp.1)
    obtain ⟨rfl, rfl, hN6, hb7⟩ := QEl hp
    show J _ _ _ _ 119 _ ([.int (fX11_isLetter r2)]) _ _ _ _
    rcases ifc h with ⟨hc, h⟩ | ⟨hc, h⟩
    · refine J.zeq (pc := 119) (tgt := 172) dX11_goes_119 (by decide) (fun _ => ?_) (fun q => absurd hc q)
      refine J.aload_n (pc := 172) dX11_goes_172 rfl 0 rfl ?_
      refine J.iconst (pc := 173) dX11_goes_173 ic_1 ?_
      obtain ⟨μ8, e9, h⟩ := bnd h
      have hN10 : μ8.1 = NN := smN e9 hN6
      refine J.qI (pc := 174) dX11_goes_174 fl_RX11_132 k0 (okN hN6 k0 (by decide)) rfl rfl e9 ?_
      refine J.goto (pc := 177) (tgt := 331) dX11_goes_177 (by decide) ?_
      refine J.aload_n (pc := 331) dX11_goes_331 rfl 0 rfl ?_
      refine J.aload_n (pc := 332) dX11_goes_332 rfl 0 rfl ?_
      refine J.fI (pc := 333) dX11_goes_333 fl_RX11_112 k0 (okN hN10 k0 (by decide)) (Or.inl rfl) ?_
      refine J.aload_n (pc := 336) dX11_goes_336 rfl 0 rfl ?_
      refine J.fI (pc := 337) dX11_goes_337 fl_RX11_119 k0 (okN hN10 k0 (by decide)) (Or.inl rfl) ?_
      refine J.isub (pc := 340) dX11_goes_340 ?_
      obtain ⟨μ11, e12, h⟩ := bnd h
      have hN13 : μ11.1 = NN := smN e12 hN10
      refine J.qI (pc := 341) dX11_goes_341 fl_RX11_142 k0 (okN hN10 k0 (by decide)) rfl rfl e12 ?_
      cases h
      exact J.vret (pc := 344) dX11_goes_344 rfl ⟨rfl, rfl, hN13, trivial⟩
    · refine J.zeq (pc := 119) (tgt := 172) dX11_goes_119 (by decide) (fun q => absurd q hc) (fun _ => ?_)
      refine J.aload_n (pc := 122) dX11_goes_122 rfl 0 rfl ?_
      refine J.fI (pc := 123) dX11_goes_123 fl_RX11_112 k0 (okN hN6 k0 (by decide)) (Or.inl rfl) ?_
      refine J.aload_n (pc := 126) dX11_goes_126 rfl 0 rfl ?_
      refine J.fI (pc := 127) dX11_goes_127 fl_RX11_119 k0 (okN hN6 k0 (by decide)) (Or.inl rfl) ?_
      refine J.isub (pc := 130) dX11_goes_130 ?_
      refine J.bipush (pc := 131) dX11_goes_131 ib_6 ?_
      rcases ifc h with ⟨hc, h⟩ | ⟨hc, h⟩
      · refine J.cge (pc := 133) (tgt := 159) dX11_goes_133 (by decide) (fun _ => ?_) (fun q => absurd hc q)
        refine J.aload_n (pc := 136) dX11_goes_136 rfl 0 rfl ?_
        refine J.aload_n (pc := 137) dX11_goes_137 rfl 0 rfl ?_
        refine J.fL (pc := 138) dX11_goes_138 fl_RX11_122 k0 (okN hN6 k0 (by decide)) rfl ?_
        refine J.iconst (pc := 141) dX11_goes_141 ic_5 ?_
        refine J.lshl (pc := 142) dX11_goes_142 ?_
        refine J.aload_n (pc := 143) dX11_goes_143 rfl 0 rfl ?_
        refine J.aload_n (pc := 144) dX11_goes_144 rfl 0 rfl ?_
        refine J.fI (pc := 145) dX11_goes_145 fl_RX11_112 k0 (okN hN6 k0 (by decide)) (Or.inl rfl) ?_
        obtain ⟨r15, e14, h⟩ := bnd h
        refine J.callV (Y := mX11_goes) (Z := mX11_byteAt) (pc := 148) (st := [.long ((μ.2.2.1 v0 19) <<< ((5 : Int32).toInt64 &&& 63)), .ref v0]) (k2 := 0) (n2 := 0) dX11_goes_148 ml_RX11_115 mo_X11_byteAt mv_X11_byteAt rfl (tX11_byteAt d e14 hN6 k0) k0 (okN hN6 k0 (by decide)).1 (okN hN6 k0 (by decide)).2 cq_11 (by decide) rfl rfl (Nat.le_of_ble_eq_true rfl) (by decide) (by decide) (fun v ν hp => ?_) (fun i ν hp => nrm hp.1)
        obtain ⟨rfl, rfl, hN16, hb17⟩ := QEl hp
        show J _ _ _ _ 151 _ ([.int r15, .long ((μ.2.2.1 v0 19) <<< ((5 : Int32).toInt64 &&& 63)), .ref v0]) _ _ _ _
        refine J.bipush (pc := 151) dX11_goes_151 ib_96 ?_
        refine J.isub (pc := 153) dX11_goes_153 ?_
        refine J.i2l (pc := 154) dX11_goes_154 ?_
        refine J.lor (pc := 155) dX11_goes_155 ?_
        obtain ⟨μ18, e19, h⟩ := bnd h
        have hN20 : μ18.1 = NN := smN e19 hN16
        refine J.qL (pc := 156) dX11_goes_156 fl_RX11_122 k0 (okN hN16 k0 (by decide)) rfl rfl e19 ?_
        refine J.aload_n (pc := 159) dX11_goes_159 rfl 0 rfl ?_
        refine J.dup (pc := 160) dX11_goes_160 rfl ?_
        refine J.fI (pc := 161) dX11_goes_161 fl_RX11_112 k0 (okN hN20 k0 (by decide)) (Or.inl rfl) ?_
        refine J.iconst (pc := 164) dX11_goes_164 ic_1 ?_
        refine J.iadd (pc := 165) dX11_goes_165 ?_
        obtain ⟨μ21, e22, h⟩ := bnd h
        have hN23 : μ21.1 = NN := smN e22 hN20
        refine J.qI (pc := 166) dX11_goes_166 fl_RX11_112 k0 (okN hN20 k0 (by decide)) rfl rfl e22 ?_
        refine J.goto (pc := 169) (tgt := 108) dX11_goes_169 (by decide) ?_
        exact ih v0 μ21 h hN23 k0
      · refine J.cge (pc := 133) (tgt := 159) dX11_goes_133 (by decide) (fun q => absurd q hc) (fun _ => ?_)
        refine J.aload_n (pc := 159) dX11_goes_159 rfl 0 rfl ?_
        refine J.dup (pc := 160) dX11_goes_160 rfl ?_
        refine J.fI (pc := 161) dX11_goes_161 fl_RX11_112 k0 (okN hN6 k0 (by decide)) (Or.inl rfl) ?_
        refine J.iconst (pc := 164) dX11_goes_164 ic_1 ?_
        refine J.iadd (pc := 165) dX11_goes_165 ?_
        obtain ⟨μ24, e25, h⟩ := bnd h
        have hN26 : μ24.1 = NN := smN e25 hN6
        refine J.qI (pc := 166) dX11_goes_166 fl_RX11_112 k0 (okN hN6 k0 (by decide)) rfl rfl e25 ?_
        refine J.goto (pc := 169) (tgt := 108) dX11_goes_169 (by decide) ?_
        exact ih v0 μ24 h hN26 k0
def fX11_goes_50  (v0 : Nat) (μ : Mem) : Option (Mem) :=
  (some (sI μ v0 15 (μ.2.1 v0 13))).bind fun μ1 =>
  (some (sL μ1 v0 19 (0 : Int64))).bind fun μ4 =>
  (some (sI μ4 v0 17 (0 : Int32))).bind fun μ7 =>
  (fX11_byteAt v0 (μ7.2.1 v0 13) μ7).bind fun r11 =>
  (some (sI μ7 v0 18 r11)).bind fun μ14 =>
  if (μ14.2.1 v0 13) < (μ14.2.1 v0 12) then
    if (fX11_isLetter r11) = 0 then
      if (fX11_isDigit r11) = 0 then
        (some (sI μ14 v0 13 ((μ14.2.1 v0 13) + (1 : Int32)))).bind fun μ23 =>
        if r11 = (59 : Int32) then
          (fX11_goes_323) v0 v0 μ23
        else
          if r11 = (40 : Int32) then
            (fX11_goes_323) v0 v0 μ23
          else
            if r11 = (41 : Int32) then
              (fX11_goes_323) v0 v0 μ23
            else
              if r11 = (43 : Int32) then
                (fX11_goes_323) v0 v0 μ23
              else
                if r11 = (45 : Int32) then
                  (fX11_goes_323) v0 v0 μ23
                else
                  if r11 = (42 : Int32) then
                    (fX11_goes_323) v0 v0 μ23
                  else
                    if r11 = (47 : Int32) then
                      (fX11_goes_323) v0 v0 μ23
                    else
                      if r11 = (60 : Int32) then
                        (fX11_goes_323) v0 v0 μ23
                      else
                        if r11 = (61 : Int32) then
                          (fX11_goes_323) v0 v0 μ23
                        else
                          (some (sI μ23 v0 14 (4 : Int32))).bind fun μ26 =>
                          (some (sI μ26 v0 16 ((μ26.2.1 v0 13) - (μ26.2.1 v0 15)))).bind fun μ29 =>
                          some μ29
      else
        (fX11_goes_187 fuel) v0 μ14
    else
      (fX11_goes_108 fuel) v0 μ14
  else
    (some (sI μ14 v0 14 (0 : Int32))).bind fun μ32 =>
    (some (sI μ32 v0 16 ((μ32.2.1 v0 13) - (μ32.2.1 v0 15)))).bind fun μ35 =>
    some μ35
set_option maxHeartbeats 4000000 in
theorem tX11_goes_50 {ω : Wd} {l : Launch} (d : Nat) {res : Mem} : ∀ (v0 : Nat) (μ : Mem), fX11_goes_50 v0 μ = some res → μ.1 = NN → (kd v0).1 = 21 → J ω l mX11_goes (d + 1) 50 [(0, .ref v0)] [] μ 0 0 (PE (.inl none) res True) := by
  intro v0 μ h hN k0
  unfold fX11_goes_50 at h
  refine J.aload_n (pc := 50) dX11_goes_50 rfl 0 rfl ?_
  refine J.aload_n (pc := 51) dX11_goes_51 rfl 0 rfl ?_
  refine J.fI (pc := 52) dX11_goes_52 fl_RX11_112 k0 (okN hN k0 (by decide)) (Or.inl rfl) ?_
  obtain ⟨μ1, e2, h⟩ := bnd h
  have hN3 : μ1.1 = NN := smN e2 hN
  refine J.qI (pc := 55) dX11_goes_55 fl_RX11_119 k0 (okN hN k0 (by decide)) rfl rfl e2 ?_
  refine J.aload_n (pc := 58) dX11_goes_58 rfl 0 rfl ?_
  refine J.lconst (pc := 59) dX11_goes_59 lc_0 ?_
  obtain ⟨μ4, e5, h⟩ := bnd h
  have hN6 : μ4.1 = NN := smN e5 hN3
  refine J.qL (pc := 60) dX11_goes_60 fl_RX11_122 k0 (okN hN3 k0 (by decide)) rfl rfl e5 ?_
  refine J.aload_n (pc := 63) dX11_goes_63 rfl 0 rfl ?_
  refine J.iconst (pc := 64) dX11_goes_64 ic_0 ?_
  obtain ⟨μ7, e8, h⟩ := bnd h
  have hN9 : μ7.1 = NN := smN e8 hN6
  refine J.qI (pc := 65) dX11_goes_65 fl_RX11_126 k0 (okN hN6 k0 (by decide)) rfl rfl e8 ?_
  refine J.aload_n (pc := 68) dX11_goes_68 rfl 0 rfl ?_
  refine J.aload_n (pc := 69) dX11_goes_69 rfl 0 rfl ?_
  refine J.fI (pc := 70) dX11_goes_70 fl_RX11_112 k0 (okN hN9 k0 (by decide)) (Or.inl rfl) ?_
  obtain ⟨r11, e10, h⟩ := bnd h
  refine J.callV (Y := mX11_goes) (Z := mX11_byteAt) (pc := 73) (st := []) (k2 := 0) (n2 := 0) dX11_goes_73 ml_RX11_115 mo_X11_byteAt mv_X11_byteAt rfl (tX11_byteAt d e10 hN9 k0) k0 (okN hN9 k0 (by decide)).1 (okN hN9 k0 (by decide)).2 cq_11 (by decide) rfl rfl (Nat.le_of_ble_eq_true rfl) (by decide) (by decide) (fun v ν hp => ?_) (fun i ν hp => nrm hp.1)
  obtain ⟨rfl, rfl, hN12, hb13⟩ := QEl hp
  show J _ _ _ _ 76 _ ([.int r11]) _ _ _ _
  refine J.istore_n (pc := 76) ([(1, .int r11), (0, .ref v0)]) dX11_goes_76 rfl (Nat.le_of_ble_eq_true rfl) rfl ?_
  refine J.aload_n (pc := 77) dX11_goes_77 rfl 1 rfl ?_
  refine J.iload_n (pc := 78) dX11_goes_78 rfl 0 rfl ?_
  obtain ⟨μ14, e15, h⟩ := bnd h
  have hN16 : μ14.1 = NN := smN e15 hN12
  refine J.qI (pc := 79) dX11_goes_79 fl_RX11_129 k0 (okN hN12 k0 (by decide)) rfl rfl e15 ?_
  refine J.aload_n (pc := 82) dX11_goes_82 rfl 1 rfl ?_
  refine J.fI (pc := 83) dX11_goes_83 fl_RX11_112 k0 (okN hN16 k0 (by decide)) (Or.inl rfl) ?_
  refine J.aload_n (pc := 86) dX11_goes_86 rfl 1 rfl ?_
  refine J.fI (pc := 87) dX11_goes_87 fl_RX11_109 k0 (okN hN16 k0 (by decide)) (Or.inl rfl) ?_
  rcases ifc h with ⟨hc, h⟩ | ⟨hc, h⟩
  · refine J.clt (pc := 90) (tgt := 101) dX11_goes_90 (by decide) (fun _ => ?_) (fun q => absurd hc q)
    refine J.iload_n (pc := 101) dX11_goes_101 rfl 0 rfl ?_
    refine J.callS (Y := mX11_goes) (Z := mX11_isLetter) (pc := 102) (st := []) (k2 := 0) (n2 := 0) dX11_goes_102 ml_RX11_135 mo_X11_isLetter ms_X11_isLetter rfl (tX11_isLetter d r11 μ14 hN16 ) rfl rfl (Nat.le_of_ble_eq_true rfl) (by decide) (by decide) (fun v ν hp => ?_) (fun i ν hp => nrm hp.1)
    obtain ⟨rfl, rfl, hN18, hb19⟩ := QEl hp
    show J _ _ _ _ 105 _ ([.int (fX11_isLetter r11)]) _ _ _ _
    rcases ifc h with ⟨hc, h⟩ | ⟨hc, h⟩
    · refine J.zeq (pc := 105) (tgt := 180) dX11_goes_105 (by decide) (fun _ => ?_) (fun q => absurd hc q)
      refine J.iload_n (pc := 180) dX11_goes_180 rfl 0 rfl ?_
      refine J.callS (Y := mX11_goes) (Z := mX11_isDigit) (pc := 181) (st := []) (k2 := 0) (n2 := 0) dX11_goes_181 ml_RX11_139 mo_X11_isDigit ms_X11_isDigit rfl (tX11_isDigit d r11 μ14 hN18 ) rfl rfl (Nat.le_of_ble_eq_true rfl) (by decide) (by decide) (fun v ν hp => ?_) (fun i ν hp => nrm hp.1)
      obtain ⟨rfl, rfl, hN21, hb22⟩ := QEl hp
      show J _ _ _ _ 184 _ ([.int (fX11_isDigit r11)]) _ _ _ _
      rcases ifc h with ⟨hc, h⟩ | ⟨hc, h⟩
      · refine J.zeq (pc := 184) (tgt := 258) dX11_goes_184 (by decide) (fun _ => ?_) (fun q => absurd hc q)
        refine J.aload_n (pc := 258) dX11_goes_258 rfl 1 rfl ?_
        refine J.dup (pc := 259) dX11_goes_259 rfl ?_
        refine J.fI (pc := 260) dX11_goes_260 fl_RX11_112 k0 (okN hN21 k0 (by decide)) (Or.inl rfl) ?_
        refine J.iconst (pc := 263) dX11_goes_263 ic_1 ?_
        refine J.iadd (pc := 264) dX11_goes_264 ?_
        obtain ⟨μ23, e24, h⟩ := bnd h
        have hN25 : μ23.1 = NN := smN e24 hN21
        refine J.qI (pc := 265) dX11_goes_265 fl_RX11_112 k0 (okN hN21 k0 (by decide)) rfl rfl e24 ?_
        refine J.aload_n (pc := 268) dX11_goes_268 rfl 1 rfl ?_
        refine J.iload_n (pc := 269) dX11_goes_269 rfl 0 rfl ?_
        refine J.bipush (pc := 270) dX11_goes_270 ib_59 ?_
        rcases ifc h with ⟨hc, h⟩ | ⟨hc, h⟩
        · refine J.ceq (pc := 272) (tgt := 323) dX11_goes_272 (by decide) (fun _ => ?_) (fun q => absurd hc q)
          refine J.pick [1] rfl ?_
          exact (tX11_goes_323 d) v0 v0 μ23 h hN25 k0 k0
        · refine J.ceq (pc := 272) (tgt := 323) dX11_goes_272 (by decide) (fun q => absurd q hc) (fun _ => ?_)
          refine J.iload_n (pc := 275) dX11_goes_275 rfl 0 rfl ?_
          refine J.bipush (pc := 276) dX11_goes_276 ib_40 ?_
          rcases ifc h with ⟨hc, h⟩ | ⟨hc, h⟩
          · refine J.ceq (pc := 278) (tgt := 323) dX11_goes_278 (by decide) (fun _ => ?_) (fun q => absurd hc q)
            refine J.pick [1] rfl ?_
            exact (tX11_goes_323 d) v0 v0 μ23 h hN25 k0 k0
          · refine J.ceq (pc := 278) (tgt := 323) dX11_goes_278 (by decide) (fun q => absurd q hc) (fun _ => ?_)
            refine J.iload_n (pc := 281) dX11_goes_281 rfl 0 rfl ?_
            refine J.bipush (pc := 282) dX11_goes_282 ib_41 ?_
            rcases ifc h with ⟨hc, h⟩ | ⟨hc, h⟩
            · refine J.ceq (pc := 284) (tgt := 323) dX11_goes_284 (by decide) (fun _ => ?_) (fun q => absurd hc q)
              refine J.pick [1] rfl ?_
              exact (tX11_goes_323 d) v0 v0 μ23 h hN25 k0 k0
            · refine J.ceq (pc := 284) (tgt := 323) dX11_goes_284 (by decide) (fun q => absurd q hc) (fun _ => ?_)
              refine J.iload_n (pc := 287) dX11_goes_287 rfl 0 rfl ?_
              refine J.bipush (pc := 288) dX11_goes_288 ib_43 ?_
              rcases ifc h with ⟨hc, h⟩ | ⟨hc, h⟩
              · refine J.ceq (pc := 290) (tgt := 323) dX11_goes_290 (by decide) (fun _ => ?_) (fun q => absurd hc q)
                refine J.pick [1] rfl ?_
                exact (tX11_goes_323 d) v0 v0 μ23 h hN25 k0 k0
              · refine J.ceq (pc := 290) (tgt := 323) dX11_goes_290 (by decide) (fun q => absurd q hc) (fun _ => ?_)
                refine J.iload_n (pc := 293) dX11_goes_293 rfl 0 rfl ?_
                refine J.bipush (pc := 294) dX11_goes_294 ib_45 ?_
                rcases ifc h with ⟨hc, h⟩ | ⟨hc, h⟩
                · refine J.ceq (pc := 296) (tgt := 323) dX11_goes_296 (by decide) (fun _ => ?_) (fun q => absurd hc q)
                  refine J.pick [1] rfl ?_
                  exact (tX11_goes_323 d) v0 v0 μ23 h hN25 k0 k0
                · refine J.ceq (pc := 296) (tgt := 323) dX11_goes_296 (by decide) (fun q => absurd q hc) (fun _ => ?_)
                  refine J.iload_n (pc := 299) dX11_goes_299 rfl 0 rfl ?_
                  refine J.bipush (pc := 300) dX11_goes_300 ib_42 ?_
                  rcases ifc h with ⟨hc, h⟩ | ⟨hc, h⟩
                  · refine J.ceq (pc := 302) (tgt := 323) dX11_goes_302 (by decide) (fun _ => ?_) (fun q => absurd hc q)
                    refine J.pick [1] rfl ?_
                    exact (tX11_goes_323 d) v0 v0 μ23 h hN25 k0 k0
                  · refine J.ceq (pc := 302) (tgt := 323) dX11_goes_302 (by decide) (fun q => absurd q hc) (fun _ => ?_)
                    refine J.iload_n (pc := 305) dX11_goes_305 rfl 0 rfl ?_
                    refine J.bipush (pc := 306) dX11_goes_306 ib_47 ?_
                    rcases ifc h with ⟨hc, h⟩ | ⟨hc, h⟩
                    · refine J.ceq (pc := 308) (tgt := 323) dX11_goes_308 (by decide) (fun _ => ?_) (fun q => absurd hc q)
                      refine J.pick [1] rfl ?_
                      exact (tX11_goes_323 d) v0 v0 μ23 h hN25 k0 k0
                    · refine J.ceq (pc := 308) (tgt := 323) dX11_goes_308 (by decide) (fun q => absurd q hc) (fun _ => ?_)
                      refine J.iload_n (pc := 311) dX11_goes_311 rfl 0 rfl ?_
                      refine J.bipush (pc := 312) dX11_goes_312 ib_60 ?_
                      rcases ifc h with ⟨hc, h⟩ | ⟨hc, h⟩
                      · refine J.ceq (pc := 314) (tgt := 323) dX11_goes_314 (by decide) (fun _ => ?_) (fun q => absurd hc q)
                        refine J.pick [1] rfl ?_
                        exact (tX11_goes_323 d) v0 v0 μ23 h hN25 k0 k0
                      · refine J.ceq (pc := 314) (tgt := 323) dX11_goes_314 (by decide) (fun q => absurd q hc) (fun _ => ?_)
                        refine J.iload_n (pc := 317) dX11_goes_317 rfl 0 rfl ?_
                        refine J.bipush (pc := 318) dX11_goes_318 ib_61 ?_
                        rcases ifc h with ⟨hc, h⟩ | ⟨hc, h⟩
                        · refine J.cne (pc := 320) (tgt := 327) dX11_goes_320 (by decide) (fun _ => ?_) (fun q => absurd hc q)
                          refine J.pick [1] rfl ?_
                          exact (tX11_goes_323 d) v0 v0 μ23 h hN25 k0 k0
                        · refine J.cne (pc := 320) (tgt := 327) dX11_goes_320 (by decide) (fun q => absurd q hc) (fun _ => ?_)
                          refine J.iconst (pc := 327) dX11_goes_327 ic_4 ?_
                          obtain ⟨μ26, e27, h⟩ := bnd h
                          have hN28 : μ26.1 = NN := smN e27 hN25
                          refine J.qI (pc := 328) dX11_goes_328 fl_RX11_132 k0 (okN hN25 k0 (by decide)) rfl rfl e27 ?_
                          refine J.aload_n (pc := 331) dX11_goes_331 rfl 1 rfl ?_
                          refine J.aload_n (pc := 332) dX11_goes_332 rfl 1 rfl ?_
                          refine J.fI (pc := 333) dX11_goes_333 fl_RX11_112 k0 (okN hN28 k0 (by decide)) (Or.inl rfl) ?_
                          refine J.aload_n (pc := 336) dX11_goes_336 rfl 1 rfl ?_
                          refine J.fI (pc := 337) dX11_goes_337 fl_RX11_119 k0 (okN hN28 k0 (by decide)) (Or.inl rfl) ?_
                          refine J.isub (pc := 340) dX11_goes_340 ?_
                          obtain ⟨μ29, e30, h⟩ := bnd h
                          have hN31 : μ29.1 = NN := smN e30 hN28
                          refine J.qI (pc := 341) dX11_goes_341 fl_RX11_142 k0 (okN hN28 k0 (by decide)) rfl rfl e30 ?_
                          cases h
                          exact J.vret (pc := 344) dX11_goes_344 rfl ⟨rfl, rfl, hN31, trivial⟩
      · refine J.zeq (pc := 184) (tgt := 258) dX11_goes_184 (by decide) (fun q => absurd q hc) (fun _ => ?_)
        refine J.pick [1] rfl ?_
        exact (tX11_goes_187 d fuel) v0 μ14 h hN21 k0
    · refine J.zeq (pc := 105) (tgt := 180) dX11_goes_105 (by decide) (fun q => absurd q hc) (fun _ => ?_)
      refine J.pick [1] rfl ?_
      exact (tX11_goes_108 d fuel) v0 μ14 h hN18 k0
  · refine J.clt (pc := 90) (tgt := 101) dX11_goes_90 (by decide) (fun q => absurd q hc) (fun _ => ?_)
    refine J.aload_n (pc := 93) dX11_goes_93 rfl 1 rfl ?_
    refine J.iconst (pc := 94) dX11_goes_94 ic_0 ?_
    obtain ⟨μ32, e33, h⟩ := bnd h
    have hN34 : μ32.1 = NN := smN e33 hN16
    refine J.qI (pc := 95) dX11_goes_95 fl_RX11_132 k0 (okN hN16 k0 (by decide)) rfl rfl e33 ?_
    refine J.goto (pc := 98) (tgt := 331) dX11_goes_98 (by decide) ?_
    refine J.aload_n (pc := 331) dX11_goes_331 rfl 1 rfl ?_
    refine J.aload_n (pc := 332) dX11_goes_332 rfl 1 rfl ?_
    refine J.fI (pc := 333) dX11_goes_333 fl_RX11_112 k0 (okN hN34 k0 (by decide)) (Or.inl rfl) ?_
    refine J.aload_n (pc := 336) dX11_goes_336 rfl 1 rfl ?_
    refine J.fI (pc := 337) dX11_goes_337 fl_RX11_119 k0 (okN hN34 k0 (by decide)) (Or.inl rfl) ?_
    refine J.isub (pc := 340) dX11_goes_340 ?_
    obtain ⟨μ35, e36, h⟩ := bnd h
    have hN37 : μ35.1 = NN := smN e36 hN34
    refine J.qI (pc := 341) dX11_goes_341 fl_RX11_142 k0 (okN hN34 k0 (by decide)) rfl rfl e36 ?_
    cases h
    exact J.vret (pc := 344) dX11_goes_344 rfl ⟨rfl, rfl, hN37, trivial⟩
def fX11_goes_0  : Nat → Nat → Mem → Option (Mem)
  | 0, _, _ => none
  | n + 1, v0, μ =>
    if (μ.2.1 v0 13) < (μ.2.1 v0 12) then
      (fX11_byteAt v0 (μ.2.1 v0 13) μ).bind fun r2 =>
      if r2 = (32 : Int32) then
        (some (sI μ v0 13 ((μ.2.1 v0 13) + (1 : Int32)))).bind fun μ5 =>
        (fX11_goes_0 n) v0 μ5
      else
        (fX11_byteAt v0 (μ.2.1 v0 13) μ).bind fun r9 =>
        if r9 = (10 : Int32) then
          (some (sI μ v0 13 ((μ.2.1 v0 13) + (1 : Int32)))).bind fun μ12 =>
          (fX11_goes_0 n) v0 μ12
        else
          (fX11_goes_50) v0 μ
    else
      (fX11_goes_50) v0 μ
set_option maxHeartbeats 4000000 in
theorem tX11_goes_0 {ω : Wd} {l : Launch} (d : Nat) {res : Mem} : ∀ n : Nat, ∀ (v0 : Nat) (μ : Mem), fX11_goes_0 n v0 μ = some res → μ.1 = NN → (kd v0).1 = 21 → J ω l mX11_goes (d + 1) 0 [(0, .ref v0)] [] μ 0 0 (PE (.inl none) res True) := by
  intro n
  induction n with
  | zero =>
    intro v0 μ h hN k0
    have h9 : (none : Option (Mem)) = some res := h
    cases h9
  | succ n ih =>
    intro v0 μ h hN k0
    unfold fX11_goes_0 at h
    refine J.aload_n (pc := 0) dX11_goes_0 rfl 0 rfl ?_
    refine J.fI (pc := 1) dX11_goes_1 fl_RX11_112 k0 (okN hN k0 (by decide)) (Or.inl rfl) ?_
    refine J.aload_n (pc := 4) dX11_goes_4 rfl 0 rfl ?_
    refine J.fI (pc := 5) dX11_goes_5 fl_RX11_109 k0 (okN hN k0 (by decide)) (Or.inl rfl) ?_
    rcases ifc h with ⟨hc, h⟩ | ⟨hc, h⟩
    · refine J.cge (pc := 8) (tgt := 50) dX11_goes_8 (by decide) (fun _ => ?_) (fun q => absurd hc q)
      refine J.aload_n (pc := 11) dX11_goes_11 rfl 0 rfl ?_
      refine J.aload_n (pc := 12) dX11_goes_12 rfl 0 rfl ?_
      refine J.fI (pc := 13) dX11_goes_13 fl_RX11_112 k0 (okN hN k0 (by decide)) (Or.inl rfl) ?_
      obtain ⟨r2, e1, h⟩ := bnd h
      refine J.callV (Y := mX11_goes) (Z := mX11_byteAt) (pc := 16) (st := []) (k2 := 0) (n2 := 0) dX11_goes_16 ml_RX11_115 mo_X11_byteAt mv_X11_byteAt rfl (tX11_byteAt d e1 hN k0) k0 (okN hN k0 (by decide)).1 (okN hN k0 (by decide)).2 cq_11 (by decide) rfl rfl (Nat.le_of_ble_eq_true rfl) (by decide) (by decide) (fun v ν hp => ?_) (fun i ν hp => nrm hp.1)
      obtain ⟨rfl, rfl, hN3, hb4⟩ := QEl hp
      show J _ _ _ _ 19 _ ([.int r2]) _ _ _ _
      refine J.bipush (pc := 19) dX11_goes_19 ib_32 ?_
      rcases ifc h with ⟨hc, h⟩ | ⟨hc, h⟩
      · refine J.ceq (pc := 21) (tgt := 37) dX11_goes_21 (by decide) (fun _ => ?_) (fun q => absurd hc q)
        refine J.aload_n (pc := 37) dX11_goes_37 rfl 0 rfl ?_
        refine J.dup (pc := 38) dX11_goes_38 rfl ?_
        refine J.fI (pc := 39) dX11_goes_39 fl_RX11_112 k0 (okN hN3 k0 (by decide)) (Or.inl rfl) ?_
        refine J.iconst (pc := 42) dX11_goes_42 ic_1 ?_
        refine J.iadd (pc := 43) dX11_goes_43 ?_
        obtain ⟨μ5, e6, h⟩ := bnd h
        have hN7 : μ5.1 = NN := smN e6 hN3
        refine J.qI (pc := 44) dX11_goes_44 fl_RX11_112 k0 (okN hN3 k0 (by decide)) rfl rfl e6 ?_
        refine J.goto (pc := 47) (tgt := 0) dX11_goes_47 (by decide) ?_
        exact ih v0 μ5 h hN7 k0
      · refine J.ceq (pc := 21) (tgt := 37) dX11_goes_21 (by decide) (fun q => absurd q hc) (fun _ => ?_)
        refine J.aload_n (pc := 24) dX11_goes_24 rfl 0 rfl ?_
        refine J.aload_n (pc := 25) dX11_goes_25 rfl 0 rfl ?_
        refine J.fI (pc := 26) dX11_goes_26 fl_RX11_112 k0 (okN hN3 k0 (by decide)) (Or.inl rfl) ?_
        obtain ⟨r9, e8, h⟩ := bnd h
        refine J.callV (Y := mX11_goes) (Z := mX11_byteAt) (pc := 29) (st := []) (k2 := 0) (n2 := 0) dX11_goes_29 ml_RX11_115 mo_X11_byteAt mv_X11_byteAt rfl (tX11_byteAt d e8 hN3 k0) k0 (okN hN3 k0 (by decide)).1 (okN hN3 k0 (by decide)).2 cq_11 (by decide) rfl rfl (Nat.le_of_ble_eq_true rfl) (by decide) (by decide) (fun v ν hp => ?_) (fun i ν hp => nrm hp.1)
        obtain ⟨rfl, rfl, hN10, hb11⟩ := QEl hp
        show J _ _ _ _ 32 _ ([.int r9]) _ _ _ _
        refine J.bipush (pc := 32) dX11_goes_32 ib_10 ?_
        rcases ifc h with ⟨hc, h⟩ | ⟨hc, h⟩
        · refine J.cne (pc := 34) (tgt := 50) dX11_goes_34 (by decide) (fun _ => ?_) (fun q => absurd hc q)
          refine J.aload_n (pc := 37) dX11_goes_37 rfl 0 rfl ?_
          refine J.dup (pc := 38) dX11_goes_38 rfl ?_
          refine J.fI (pc := 39) dX11_goes_39 fl_RX11_112 k0 (okN hN10 k0 (by decide)) (Or.inl rfl) ?_
          refine J.iconst (pc := 42) dX11_goes_42 ic_1 ?_
          refine J.iadd (pc := 43) dX11_goes_43 ?_
          obtain ⟨μ12, e13, h⟩ := bnd h
          have hN14 : μ12.1 = NN := smN e13 hN10
          refine J.qI (pc := 44) dX11_goes_44 fl_RX11_112 k0 (okN hN10 k0 (by decide)) rfl rfl e13 ?_
          refine J.goto (pc := 47) (tgt := 0) dX11_goes_47 (by decide) ?_
          exact ih v0 μ12 h hN14 k0
        · refine J.cne (pc := 34) (tgt := 50) dX11_goes_34 (by decide) (fun q => absurd q hc) (fun _ => ?_)
          exact (tX11_goes_50 d) v0 μ h hN10 k0
    · refine J.cge (pc := 8) (tgt := 50) dX11_goes_8 (by decide) (fun q => absurd q hc) (fun _ => ?_)
      exact (tX11_goes_50 d) v0 μ h hN k0
def fX11_goes (v0 : Nat) (μ : Mem) : Option (Mem) :=
  (fX11_goes_0 fuel) v0 μ
set_option maxHeartbeats 4000000 in
theorem tX11_goes {ω : Wd} {l : Launch} (d : Nat) {v0 : Nat} {μ : Mem} {res : Mem} (h : fX11_goes v0 μ = some res) (hN : μ.1 = NN) (k0 : (kd v0).1 = 21) : Ct ω l mX11_goes (d + 1) [.ref v0] μ 0 0 (PE (.inl none) res True) := by
  refine Ct.of pn_RX11 (Nat.le_of_ble_eq_true rfl) ?_
  show J ω l mX11_goes (d + 1) 0 [(0, .ref v0)] [] μ 0 0 _
  unfold fX11_goes at h
  exact (tX11_goes_0 d fuel) v0 μ h hN k0
