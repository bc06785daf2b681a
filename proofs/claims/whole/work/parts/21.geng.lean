def fX6_readAnd_7 (rec : Nat → Int32 → Mem → Option Mem)  : Nat → Nat → Int32 → Int32 → Mem → Option (Mem)
  | 0, _, _, _, _ => none
  | n + 1, v0, v1, v2, μ =>
    if v2 < (700 : Int32) then
      if (μ.2.1 v0 0) = 0 then
        (fX6_isWord v0 6 μ).bind fun r2 =>
        if r2 = 0 then
          some μ
        else
          (fX6_advance v0 μ).bind fun μ6 =>
          (fX6_readNot rec v0 v1 μ6).bind fun μ10 =>
          (gR μ10 v0 9 17).bind fun a13 =>
          (fX7_add a13 (-12 : Int32) μ10).bind fun μ17 =>
          (fX6_readAnd_7 rec n) v0 v1 (v2 + (1 : Int32)) μ17
      else
        some μ
    else
      some μ
set_option maxHeartbeats 4000000 in
theorem tX6_readAnd_7 {ω : Wd} {l : Launch} (d : Nat) {rec : Nat → Int32 → Mem → Option Mem} (hrec : HR ω l d rec) {res : Mem} : ∀ n : Nat, ∀ (v0 : Nat) (v1 : Int32) (v2 : Int32) (μ : Mem), fX6_readAnd_7 rec n v0 v1 v2 μ = some res → μ.1 = NN → (kd v0).1 = 16 → J ω l mX6_readAnd (d + 25) 7 [(0, .ref v0), (1, .int v1), (2, .int v2)] [] μ 0 0 (PE (.inl none) res True) := by
  intro n
  induction n with
  | zero =>
    intro v0 v1 v2 μ h hN k0
    have h9 : (none : Option (Mem)) = some res := h
    cases h9
  | succ n ih =>
    intro v0 v1 v2 μ h hN k0
    unfold fX6_readAnd_7 at h
    refine J.iload_n (pc := 7) dX6_readAnd_7 rfl 2 rfl ?_
    refine J.sipush (pc := 8) dX6_readAnd_8 is_700 ?_
    rcases ifc h with ⟨hc, h⟩ | ⟨hc, h⟩
    · refine J.cge (pc := 11) (tgt := 54) dX6_readAnd_11 (by decide) (fun _ => ?_) (fun q => absurd hc q)
      refine J.aload_n (pc := 14) dX6_readAnd_14 rfl 0 rfl ?_
      refine J.fI (pc := 15) dX6_readAnd_15 fl_RX6_9 k0 (okN hN k0 (by decide)) (Or.inl rfl) ?_
      rcases ifc h with ⟨hc, h⟩ | ⟨hc, h⟩
      · refine J.zne (pc := 18) (tgt := 54) dX6_readAnd_18 (by decide) (fun _ => ?_) (fun q => absurd hc q)
        refine J.aload_n (pc := 21) dX6_readAnd_21 rfl 0 rfl ?_
        refine J.ldcS (pc := 22) (i := 6) dX6_readAnd_22 rfl ?_
        obtain ⟨r2, e1, h⟩ := bnd h
        refine J.callV (pc := 24) (k2 := 0) (n2 := 0) dX6_readAnd_24 ml_RX6_181 mo_X6_isWord mv_X6_isWord rfl (tX6_isWord (d + 19) e1 hN k0 (by decide)) k0 (okN hN k0 (by decide)).1 (okN hN k0 (by decide)).2 cq_6 (by decide) rfl rfl (Nat.le_of_ble_eq_true rfl) (by decide) (by decide) (fun v ν hp => ?_) (fun i ν hp => nrm hp.1)
        obtain ⟨rfl, rfl, hN3, hb4⟩ := PEl hp
        show J _ _ _ _ 27 _ ([.int r2]) _ _ _ _
        rcases ifc h with ⟨hc, h⟩ | ⟨hc, h⟩
        · refine J.zeq (pc := 27) (tgt := 54) dX6_readAnd_27 (by decide) (fun _ => ?_) (fun q => absurd hc q)
          cases h
          exact J.vret (pc := 54) dX6_readAnd_54 rfl ⟨rfl, rfl, hN3, trivial⟩
        · refine J.zeq (pc := 27) (tgt := 54) dX6_readAnd_27 (by decide) (fun q => absurd q hc) (fun _ => ?_)
          refine J.aload_n (pc := 30) dX6_readAnd_30 rfl 0 rfl ?_
          obtain ⟨μ6, e5, h⟩ := bnd h
          refine J.callV (pc := 31) (k2 := 0) (n2 := 0) dX6_readAnd_31 ml_RX6_65 mo_X6_advance mv_X6_advance rfl (tX6_advance (d + 19) e5 hN3 k0) k0 (okN hN3 k0 (by decide)).1 (okN hN3 k0 (by decide)).2 cq_6 (by decide) rfl rfl (Nat.le_of_ble_eq_true rfl) (by decide) (by decide) (fun v ν hp => ?_) (fun i ν hp => nrm hp.1)
          obtain ⟨rfl, rfl, hN7, hb8⟩ := PEl hp
          show J _ _ _ _ 34 _ ([]) _ _ _ _
          refine J.aload_n (pc := 34) dX6_readAnd_34 rfl 0 rfl ?_
          refine J.iload_n (pc := 35) dX6_readAnd_35 rfl 1 rfl ?_
          obtain ⟨μ10, e9, h⟩ := bnd h
          refine J.callV (pc := 36) (k2 := 0) (n2 := 0) dX6_readAnd_36 ml_RX6_205 mo_X6_readNot mv_X6_readNot rfl (tX6_readNot hrec e9 hN7 k0) k0 (okN hN7 k0 (by decide)).1 (okN hN7 k0 (by decide)).2 cq_6 (by decide) rfl rfl (Nat.le_of_ble_eq_true rfl) (by decide) (by decide) (fun v ν hp => ?_) (fun i ν hp => nrm hp.1)
          obtain ⟨rfl, rfl, hN11, hb12⟩ := PEl hp
          show J _ _ _ _ 39 _ ([]) _ _ _ _
          refine J.aload_n (pc := 39) dX6_readAnd_39 rfl 0 rfl ?_
          obtain ⟨a13, e14, h⟩ := bnd h
          have k15 : (kd a13).1 = 17 := gR_k e14
          refine J.fR (pc := 40) dX6_readAnd_40 fl_RX6_53 k0 (okN hN11 k0 (by decide)) rfl e14 ?_
          refine J.bipush (pc := 43) dX6_readAnd_43 ib_m12 ?_
          obtain ⟨μ17, e16, h⟩ := bnd h
          refine J.callV (pc := 45) (k2 := 0) (n2 := 0) dX6_readAnd_45 ml_RX6_202 mo_X7_add mv_X7_add rfl (tX7_add (d + 24) e16 hN11 k15) k15 (okN hN11 k15 (by decide)).1 (okN hN11 k15 (by decide)).2 cq_7 (by decide) rfl rfl (Nat.le_of_ble_eq_true rfl) (by decide) (by decide) (fun v ν hp => ?_) (fun i ν hp => nrm hp.1)
          obtain ⟨rfl, rfl, hN18, hb19⟩ := PEl hp
          show J _ _ _ _ 48 _ ([]) _ _ _ _
          refine J.iinc (pc := 48) (j := 2) ([(2, .int (v2 + (1 : Int32))), (0, .ref v0), (1, .int v1)]) dX6_readAnd_48 rfl (iincv ic_1) (Nat.le_of_ble_eq_true rfl) rfl ?_
          refine J.goto (pc := 51) (tgt := 7) dX6_readAnd_51 (by decide) ?_
          refine J.pick [1, 2, 0] rfl ?_
          exact ih v0 v1 (v2 + (1 : Int32)) μ17 h hN18 k0
      · refine J.zne (pc := 18) (tgt := 54) dX6_readAnd_18 (by decide) (fun q => absurd q hc) (fun _ => ?_)
        cases h
        exact J.vret (pc := 54) dX6_readAnd_54 rfl ⟨rfl, rfl, hN, trivial⟩
    · refine J.cge (pc := 11) (tgt := 54) dX6_readAnd_11 (by decide) (fun q => absurd q hc) (fun _ => ?_)
      cases h
      exact J.vret (pc := 54) dX6_readAnd_54 rfl ⟨rfl, rfl, hN, trivial⟩
def fX6_readAnd (rec : Nat → Int32 → Mem → Option Mem) (v0 : Nat) (v1 : Int32) (μ : Mem) : Option (Mem) :=
  (fX6_readNot rec v0 v1 μ).bind fun μ2 =>
  (fX6_readAnd_7 rec fuel) v0 v1 (0 : Int32) μ2
set_option maxHeartbeats 4000000 in
theorem tX6_readAnd {ω : Wd} {l : Launch} {d : Nat} {rec : Nat → Int32 → Mem → Option Mem} (hrec : HR ω l d rec) {v0 : Nat} {v1 : Int32} {μ : Mem} {res : Mem} (h : fX6_readAnd rec v0 v1 μ = some res) (hN : μ.1 = NN) (k0 : (kd v0).1 = 16) : Ct ω l mX6_readAnd (d + 25) [.ref v0, .int v1] μ 0 0 (PE (.inl none) res True) := by
  refine Ct.of pn_RX6 (Nat.le_of_ble_eq_true rfl) ?_
  show J ω l mX6_readAnd (d + 25) 0 [(0, .ref v0), (1, .int v1)] [] μ 0 0 _
  unfold fX6_readAnd at h
  refine J.aload_n (pc := 0) dX6_readAnd_0 rfl 0 rfl ?_
  refine J.iload_n (pc := 1) dX6_readAnd_1 rfl 1 rfl ?_
  obtain ⟨μ2, e1, h⟩ := bnd h
  refine J.callV (pc := 2) (k2 := 0) (n2 := 0) dX6_readAnd_2 ml_RX6_205 mo_X6_readNot mv_X6_readNot rfl (tX6_readNot hrec e1 hN k0) k0 (okN hN k0 (by decide)).1 (okN hN k0 (by decide)).2 cq_6 (by decide) rfl rfl (Nat.le_of_ble_eq_true rfl) (by decide) (by decide) (fun v ν hp => ?_) (fun i ν hp => nrm hp.1)
  obtain ⟨rfl, rfl, hN3, hb4⟩ := PEl hp
  show J _ _ _ _ 5 _ ([]) _ _ _ _
  refine J.iconst (pc := 5) dX6_readAnd_5 ic_0 ?_
  refine J.istore_n (pc := 6) ([(2, .int (0 : Int32)), (0, .ref v0), (1, .int v1)]) dX6_readAnd_6 rfl (Nat.le_of_ble_eq_true rfl) rfl ?_
  refine J.pick [1, 2, 0] rfl ?_
  exact (tX6_readAnd_7 d hrec fuel) v0 v1 (0 : Int32) μ2 h hN3 k0
def fX6_readExpr_62 (rec : Nat → Int32 → Mem → Option Mem)  : Nat → Nat → Int32 → Int32 → Mem → Option (Mem)
  | 0, _, _, _, _ => none
  | n + 1, v0, v1, v2, μ =>
    if v2 < (700 : Int32) then
      if (μ.2.1 v0 0) = 0 then
        (fX6_isWord v0 7 μ).bind fun r2 =>
        if r2 = 0 then
          some μ
        else
          (fX6_advance v0 μ).bind fun μ6 =>
          (fX6_readAnd rec v0 v1 μ6).bind fun μ10 =>
          (gR μ10 v0 9 17).bind fun a13 =>
          (fX7_add a13 (-11 : Int32) μ10).bind fun μ17 =>
          (fX6_readExpr_62 rec n) v0 v1 (v2 + (1 : Int32)) μ17
      else
        some μ
    else
      some μ
set_option maxHeartbeats 4000000 in
theorem tX6_readExpr_62 {ω : Wd} {l : Launch} (d : Nat) {rec : Nat → Int32 → Mem → Option Mem} (hrec : HR ω l d rec) {res : Mem} : ∀ n : Nat, ∀ (v0 : Nat) (v1 : Int32) (v2 : Int32) (μ : Mem), fX6_readExpr_62 rec n v0 v1 v2 μ = some res → μ.1 = NN → (kd v0).1 = 16 → J ω l mX6_readExpr (d + 26) 62 [(0, .ref v0), (1, .int v1), (2, .int v2)] [] μ 0 0 (PE (.inl none) res True) := by
  intro n
  induction n with
  | zero =>
    intro v0 v1 v2 μ h hN k0
    have h9 : (none : Option (Mem)) = some res := h
    cases h9
  | succ n ih =>
    intro v0 v1 v2 μ h hN k0
    unfold fX6_readExpr_62 at h
    refine J.iload_n (pc := 62) dX6_readExpr_62 rfl 2 rfl ?_
    refine J.sipush (pc := 63) dX6_readExpr_63 is_700 ?_
    rcases ifc h with ⟨hc, h⟩ | ⟨hc, h⟩
    · refine J.cge (pc := 66) (tgt := 109) dX6_readExpr_66 (by decide) (fun _ => ?_) (fun q => absurd hc q)
      refine J.aload_n (pc := 69) dX6_readExpr_69 rfl 0 rfl ?_
      refine J.fI (pc := 70) dX6_readExpr_70 fl_RX6_9 k0 (okN hN k0 (by decide)) (Or.inl rfl) ?_
      rcases ifc h with ⟨hc, h⟩ | ⟨hc, h⟩
      · refine J.zne (pc := 73) (tgt := 109) dX6_readExpr_73 (by decide) (fun _ => ?_) (fun q => absurd hc q)
        refine J.aload_n (pc := 76) dX6_readExpr_76 rfl 0 rfl ?_
        refine J.ldcS (pc := 77) (i := 7) dX6_readExpr_77 rfl ?_
        obtain ⟨r2, e1, h⟩ := bnd h
        refine J.callV (pc := 79) (k2 := 0) (n2 := 0) dX6_readExpr_79 ml_RX6_181 mo_X6_isWord mv_X6_isWord rfl (tX6_isWord (d + 20) e1 hN k0 (by decide)) k0 (okN hN k0 (by decide)).1 (okN hN k0 (by decide)).2 cq_6 (by decide) rfl rfl (Nat.le_of_ble_eq_true rfl) (by decide) (by decide) (fun v ν hp => ?_) (fun i ν hp => nrm hp.1)
        obtain ⟨rfl, rfl, hN3, hb4⟩ := PEl hp
        show J _ _ _ _ 82 _ ([.int r2]) _ _ _ _
        rcases ifc h with ⟨hc, h⟩ | ⟨hc, h⟩
        · refine J.zeq (pc := 82) (tgt := 109) dX6_readExpr_82 (by decide) (fun _ => ?_) (fun q => absurd hc q)
          cases h
          exact J.vret (pc := 109) dX6_readExpr_109 rfl ⟨rfl, rfl, hN3, trivial⟩
        · refine J.zeq (pc := 82) (tgt := 109) dX6_readExpr_82 (by decide) (fun q => absurd q hc) (fun _ => ?_)
          refine J.aload_n (pc := 85) dX6_readExpr_85 rfl 0 rfl ?_
          obtain ⟨μ6, e5, h⟩ := bnd h
          refine J.callV (pc := 86) (k2 := 0) (n2 := 0) dX6_readExpr_86 ml_RX6_65 mo_X6_advance mv_X6_advance rfl (tX6_advance (d + 20) e5 hN3 k0) k0 (okN hN3 k0 (by decide)).1 (okN hN3 k0 (by decide)).2 cq_6 (by decide) rfl rfl (Nat.le_of_ble_eq_true rfl) (by decide) (by decide) (fun v ν hp => ?_) (fun i ν hp => nrm hp.1)
          obtain ⟨rfl, rfl, hN7, hb8⟩ := PEl hp
          show J _ _ _ _ 89 _ ([]) _ _ _ _
          refine J.aload_n (pc := 89) dX6_readExpr_89 rfl 0 rfl ?_
          refine J.iload_n (pc := 90) dX6_readExpr_90 rfl 1 rfl ?_
          obtain ⟨μ10, e9, h⟩ := bnd h
          refine J.callV (pc := 91) (k2 := 0) (n2 := 0) dX6_readExpr_91 ml_RX6_197 mo_X6_readAnd mv_X6_readAnd rfl (tX6_readAnd hrec e9 hN7 k0) k0 (okN hN7 k0 (by decide)).1 (okN hN7 k0 (by decide)).2 cq_6 (by decide) rfl rfl (Nat.le_of_ble_eq_true rfl) (by decide) (by decide) (fun v ν hp => ?_) (fun i ν hp => nrm hp.1)
          obtain ⟨rfl, rfl, hN11, hb12⟩ := PEl hp
          show J _ _ _ _ 94 _ ([]) _ _ _ _
          refine J.aload_n (pc := 94) dX6_readExpr_94 rfl 0 rfl ?_
          obtain ⟨a13, e14, h⟩ := bnd h
          have k15 : (kd a13).1 = 17 := gR_k e14
          refine J.fR (pc := 95) dX6_readExpr_95 fl_RX6_53 k0 (okN hN11 k0 (by decide)) rfl e14 ?_
          refine J.bipush (pc := 98) dX6_readExpr_98 ib_m11 ?_
          obtain ⟨μ17, e16, h⟩ := bnd h
          refine J.callV (pc := 100) (k2 := 0) (n2 := 0) dX6_readExpr_100 ml_RX6_202 mo_X7_add mv_X7_add rfl (tX7_add (d + 25) e16 hN11 k15) k15 (okN hN11 k15 (by decide)).1 (okN hN11 k15 (by decide)).2 cq_7 (by decide) rfl rfl (Nat.le_of_ble_eq_true rfl) (by decide) (by decide) (fun v ν hp => ?_) (fun i ν hp => nrm hp.1)
          obtain ⟨rfl, rfl, hN18, hb19⟩ := PEl hp
          show J _ _ _ _ 103 _ ([]) _ _ _ _
          refine J.iinc (pc := 103) (j := 2) ([(2, .int (v2 + (1 : Int32))), (0, .ref v0), (1, .int v1)]) dX6_readExpr_103 rfl (iincv ic_1) (Nat.le_of_ble_eq_true rfl) rfl ?_
          refine J.goto (pc := 106) (tgt := 62) dX6_readExpr_106 (by decide) ?_
          refine J.pick [1, 2, 0] rfl ?_
          exact ih v0 v1 (v2 + (1 : Int32)) μ17 h hN18 k0
      · refine J.zne (pc := 73) (tgt := 109) dX6_readExpr_73 (by decide) (fun q => absurd q hc) (fun _ => ?_)
        cases h
        exact J.vret (pc := 109) dX6_readExpr_109 rfl ⟨rfl, rfl, hN, trivial⟩
    · refine J.cge (pc := 66) (tgt := 109) dX6_readExpr_66 (by decide) (fun q => absurd q hc) (fun _ => ?_)
      cases h
      exact J.vret (pc := 109) dX6_readExpr_109 rfl ⟨rfl, rfl, hN, trivial⟩
def fX6_readExpr (rec : Nat → Int32 → Mem → Option Mem) (v0 : Nat) (v1 : Int32) (μ : Mem) : Option (Mem) :=
  if v1 < (6 : Int32) then
    (fX6_readAnd rec v0 v1 μ).bind fun μ2 =>
    (fX6_readExpr_62 rec fuel) v0 v1 (0 : Int32) μ2
  else
    if (μ.2.1 v0 6) = (257 : Int32) then
      if (1 : Int32) = 0 then
        (fX6_refuse v0 (1 : Int32) μ).bind fun μ6 =>
        some μ6
      else
        (fX6_refuse v0 (2 : Int32) μ).bind fun μ10 =>
        some μ10
    else
      if (μ.2.1 v0 6) = (256 : Int32) then
        if (1 : Int32) = 0 then
          (fX6_refuse v0 (1 : Int32) μ).bind fun μ14 =>
          some μ14
        else
          (fX6_refuse v0 (2 : Int32) μ).bind fun μ18 =>
          some μ18
      else
        if (μ.2.1 v0 6) = (40 : Int32) then
          if (1 : Int32) = 0 then
            (fX6_refuse v0 (1 : Int32) μ).bind fun μ22 =>
            some μ22
          else
            (fX6_refuse v0 (2 : Int32) μ).bind fun μ26 =>
            some μ26
        else
          if (0 : Int32) = 0 then
            (fX6_refuse v0 (1 : Int32) μ).bind fun μ30 =>
            some μ30
          else
            (fX6_refuse v0 (2 : Int32) μ).bind fun μ34 =>
            some μ34
set_option maxHeartbeats 4000000 in
theorem tX6_readExpr {ω : Wd} {l : Launch} {d : Nat} {rec : Nat → Int32 → Mem → Option Mem} (hrec : HR ω l d rec) {v0 : Nat} {v1 : Int32} {μ : Mem} {res : Mem} (h : fX6_readExpr rec v0 v1 μ = some res) (hN : μ.1 = NN) (k0 : (kd v0).1 = 16) : Ct ω l mX6_readExpr (d + 26) [.ref v0, .int v1] μ 0 0 (PE (.inl none) res True) := by
  refine Ct.of pn_RX6 (Nat.le_of_ble_eq_true rfl) ?_
  show J ω l mX6_readExpr (d + 26) 0 [(0, .ref v0), (1, .int v1)] [] μ 0 0 _
  unfold fX6_readExpr at h
  refine J.iload_n (pc := 0) dX6_readExpr_0 rfl 1 rfl ?_
  refine J.bipush (pc := 1) dX6_readExpr_1 ib_6 ?_
  rcases ifc h with ⟨hc, h⟩ | ⟨hc, h⟩
  · refine J.clt (pc := 3) (tgt := 55) dX6_readExpr_3 (by decide) (fun _ => ?_) (fun q => absurd hc q)
    refine J.aload_n (pc := 55) dX6_readExpr_55 rfl 0 rfl ?_
    refine J.iload_n (pc := 56) dX6_readExpr_56 rfl 1 rfl ?_
    obtain ⟨μ2, e1, h⟩ := bnd h
    refine J.callV (pc := 57) (k2 := 0) (n2 := 0) dX6_readExpr_57 ml_RX6_197 mo_X6_readAnd mv_X6_readAnd rfl (tX6_readAnd hrec e1 hN k0) k0 (okN hN k0 (by decide)).1 (okN hN k0 (by decide)).2 cq_6 (by decide) rfl rfl (Nat.le_of_ble_eq_true rfl) (by decide) (by decide) (fun v ν hp => ?_) (fun i ν hp => nrm hp.1)
    obtain ⟨rfl, rfl, hN3, hb4⟩ := PEl hp
    show J _ _ _ _ 60 _ ([]) _ _ _ _
    refine J.iconst (pc := 60) dX6_readExpr_60 ic_0 ?_
    refine J.istore_n (pc := 61) ([(2, .int (0 : Int32)), (0, .ref v0), (1, .int v1)]) dX6_readExpr_61 rfl (Nat.le_of_ble_eq_true rfl) rfl ?_
    refine J.pick [1, 2, 0] rfl ?_
    exact (tX6_readExpr_62 d hrec fuel) v0 v1 (0 : Int32) μ2 h hN3 k0
  · refine J.clt (pc := 3) (tgt := 55) dX6_readExpr_3 (by decide) (fun q => absurd q hc) (fun _ => ?_)
    refine J.aload_n (pc := 6) dX6_readExpr_6 rfl 0 rfl ?_
    refine J.fI (pc := 7) dX6_readExpr_7 fl_RX6_31 k0 (okN hN k0 (by decide)) (Or.inl rfl) ?_
    refine J.sipush (pc := 10) dX6_readExpr_10 is_257 ?_
    rcases ifc h with ⟨hc, h⟩ | ⟨hc, h⟩
    · refine J.ceq (pc := 13) (tgt := 35) dX6_readExpr_13 (by decide) (fun _ => ?_) (fun q => absurd hc q)
      refine J.iconst (pc := 35) dX6_readExpr_35 ic_1 ?_
      refine J.goto (pc := 36) (tgt := 40) dX6_readExpr_36 (by decide) ?_
      refine J.istore_n (pc := 40) ([(2, .int (1 : Int32)), (0, .ref v0), (1, .int v1)]) dX6_readExpr_40 rfl (Nat.le_of_ble_eq_true rfl) rfl ?_
      refine J.aload_n (pc := 41) dX6_readExpr_41 rfl 1 rfl ?_
      refine J.iload_n (pc := 42) dX6_readExpr_42 rfl 0 rfl ?_
      rcases ifc h with ⟨hc, h⟩ | ⟨hc, h⟩
      · refine J.zeq (pc := 43) (tgt := 50) dX6_readExpr_43 (by decide) (fun _ => ?_) (fun q => absurd hc q)
        refine J.iconst (pc := 50) dX6_readExpr_50 ic_1 ?_
        obtain ⟨μ6, e5, h⟩ := bnd h
        refine J.callV (pc := 51) (k2 := 0) (n2 := 0) dX6_readExpr_51 ml_RX6_109 mo_X6_refuse mv_X6_refuse rfl (tX6_refuse (d + 25) e5 hN k0) k0 (okN hN k0 (by decide)).1 (okN hN k0 (by decide)).2 cq_6 (by decide) rfl rfl (Nat.le_of_ble_eq_true rfl) (by decide) (by decide) (fun v ν hp => ?_) (fun i ν hp => nrm hp.1)
        obtain ⟨rfl, rfl, hN7, hb8⟩ := PEl hp
        show J _ _ _ _ 54 _ ([]) _ _ _ _
        cases h
        exact J.vret (pc := 54) dX6_readExpr_54 rfl ⟨rfl, rfl, hN7, trivial⟩
      · refine J.zeq (pc := 43) (tgt := 50) dX6_readExpr_43 (by decide) (fun q => absurd q hc) (fun _ => ?_)
        refine J.iconst (pc := 46) dX6_readExpr_46 ic_2 ?_
        refine J.goto (pc := 47) (tgt := 51) dX6_readExpr_47 (by decide) ?_
        obtain ⟨μ10, e9, h⟩ := bnd h
        refine J.callV (pc := 51) (k2 := 0) (n2 := 0) dX6_readExpr_51 ml_RX6_109 mo_X6_refuse mv_X6_refuse rfl (tX6_refuse (d + 25) e9 hN k0) k0 (okN hN k0 (by decide)).1 (okN hN k0 (by decide)).2 cq_6 (by decide) rfl rfl (Nat.le_of_ble_eq_true rfl) (by decide) (by decide) (fun v ν hp => ?_) (fun i ν hp => nrm hp.1)
        obtain ⟨rfl, rfl, hN11, hb12⟩ := PEl hp
        show J _ _ _ _ 54 _ ([]) _ _ _ _
        cases h
        exact J.vret (pc := 54) dX6_readExpr_54 rfl ⟨rfl, rfl, hN11, trivial⟩
    · refine J.ceq (pc := 13) (tgt := 35) dX6_readExpr_13 (by decide) (fun q => absurd q hc) (fun _ => ?_)
      refine J.aload_n (pc := 16) dX6_readExpr_16 rfl 0 rfl ?_
      refine J.fI (pc := 17) dX6_readExpr_17 fl_RX6_31 k0 (okN hN k0 (by decide)) (Or.inl rfl) ?_
      refine J.sipush (pc := 20) dX6_readExpr_20 is_256 ?_
      rcases ifc h with ⟨hc, h⟩ | ⟨hc, h⟩
      · refine J.ceq (pc := 23) (tgt := 35) dX6_readExpr_23 (by decide) (fun _ => ?_) (fun q => absurd hc q)
        refine J.iconst (pc := 35) dX6_readExpr_35 ic_1 ?_
        refine J.goto (pc := 36) (tgt := 40) dX6_readExpr_36 (by decide) ?_
        refine J.istore_n (pc := 40) ([(2, .int (1 : Int32)), (0, .ref v0), (1, .int v1)]) dX6_readExpr_40 rfl (Nat.le_of_ble_eq_true rfl) rfl ?_
        refine J.aload_n (pc := 41) dX6_readExpr_41 rfl 1 rfl ?_
        refine J.iload_n (pc := 42) dX6_readExpr_42 rfl 0 rfl ?_
        rcases ifc h with ⟨hc, h⟩ | ⟨hc, h⟩
        · refine J.zeq (pc := 43) (tgt := 50) dX6_readExpr_43 (by decide) (fun _ => ?_) (fun q => absurd hc q)
          refine J.iconst (pc := 50) dX6_readExpr_50 ic_1 ?_
          obtain ⟨μ14, e13, h⟩ := bnd h
          refine J.callV (pc := 51) (k2 := 0) (n2 := 0) dX6_readExpr_51 ml_RX6_109 mo_X6_refuse mv_X6_refuse rfl (tX6_refuse (d + 25) e13 hN k0) k0 (okN hN k0 (by decide)).1 (okN hN k0 (by decide)).2 cq_6 (by decide) rfl rfl (Nat.le_of_ble_eq_true rfl) (by decide) (by decide) (fun v ν hp => ?_) (fun i ν hp => nrm hp.1)
          obtain ⟨rfl, rfl, hN15, hb16⟩ := PEl hp
          show J _ _ _ _ 54 _ ([]) _ _ _ _
          cases h
          exact J.vret (pc := 54) dX6_readExpr_54 rfl ⟨rfl, rfl, hN15, trivial⟩
        · refine J.zeq (pc := 43) (tgt := 50) dX6_readExpr_43 (by decide) (fun q => absurd q hc) (fun _ => ?_)
          refine J.iconst (pc := 46) dX6_readExpr_46 ic_2 ?_
          refine J.goto (pc := 47) (tgt := 51) dX6_readExpr_47 (by decide) ?_
          obtain ⟨μ18, e17, h⟩ := bnd h
          refine J.callV (pc := 51) (k2 := 0) (n2 := 0) dX6_readExpr_51 ml_RX6_109 mo_X6_refuse mv_X6_refuse rfl (tX6_refuse (d + 25) e17 hN k0) k0 (okN hN k0 (by decide)).1 (okN hN k0 (by decide)).2 cq_6 (by decide) rfl rfl (Nat.le_of_ble_eq_true rfl) (by decide) (by decide) (fun v ν hp => ?_) (fun i ν hp => nrm hp.1)
          obtain ⟨rfl, rfl, hN19, hb20⟩ := PEl hp
          show J _ _ _ _ 54 _ ([]) _ _ _ _
          cases h
          exact J.vret (pc := 54) dX6_readExpr_54 rfl ⟨rfl, rfl, hN19, trivial⟩
      · refine J.ceq (pc := 23) (tgt := 35) dX6_readExpr_23 (by decide) (fun q => absurd q hc) (fun _ => ?_)
        refine J.aload_n (pc := 26) dX6_readExpr_26 rfl 0 rfl ?_
        refine J.fI (pc := 27) dX6_readExpr_27 fl_RX6_31 k0 (okN hN k0 (by decide)) (Or.inl rfl) ?_
        refine J.bipush (pc := 30) dX6_readExpr_30 ib_40 ?_
        rcases ifc h with ⟨hc, h⟩ | ⟨hc, h⟩
        · refine J.cne (pc := 32) (tgt := 39) dX6_readExpr_32 (by decide) (fun _ => ?_) (fun q => absurd hc q)
          refine J.iconst (pc := 35) dX6_readExpr_35 ic_1 ?_
          refine J.goto (pc := 36) (tgt := 40) dX6_readExpr_36 (by decide) ?_
          refine J.istore_n (pc := 40) ([(2, .int (1 : Int32)), (0, .ref v0), (1, .int v1)]) dX6_readExpr_40 rfl (Nat.le_of_ble_eq_true rfl) rfl ?_
          refine J.aload_n (pc := 41) dX6_readExpr_41 rfl 1 rfl ?_
          refine J.iload_n (pc := 42) dX6_readExpr_42 rfl 0 rfl ?_
          rcases ifc h with ⟨hc, h⟩ | ⟨hc, h⟩
          · refine J.zeq (pc := 43) (tgt := 50) dX6_readExpr_43 (by decide) (fun _ => ?_) (fun q => absurd hc q)
            refine J.iconst (pc := 50) dX6_readExpr_50 ic_1 ?_
            obtain ⟨μ22, e21, h⟩ := bnd h
            refine J.callV (pc := 51) (k2 := 0) (n2 := 0) dX6_readExpr_51 ml_RX6_109 mo_X6_refuse mv_X6_refuse rfl (tX6_refuse (d + 25) e21 hN k0) k0 (okN hN k0 (by decide)).1 (okN hN k0 (by decide)).2 cq_6 (by decide) rfl rfl (Nat.le_of_ble_eq_true rfl) (by decide) (by decide) (fun v ν hp => ?_) (fun i ν hp => nrm hp.1)
            obtain ⟨rfl, rfl, hN23, hb24⟩ := PEl hp
            show J _ _ _ _ 54 _ ([]) _ _ _ _
            cases h
            exact J.vret (pc := 54) dX6_readExpr_54 rfl ⟨rfl, rfl, hN23, trivial⟩
          · refine J.zeq (pc := 43) (tgt := 50) dX6_readExpr_43 (by decide) (fun q => absurd q hc) (fun _ => ?_)
            refine J.iconst (pc := 46) dX6_readExpr_46 ic_2 ?_
            refine J.goto (pc := 47) (tgt := 51) dX6_readExpr_47 (by decide) ?_
            obtain ⟨μ26, e25, h⟩ := bnd h
            refine J.callV (pc := 51) (k2 := 0) (n2 := 0) dX6_readExpr_51 ml_RX6_109 mo_X6_refuse mv_X6_refuse rfl (tX6_refuse (d + 25) e25 hN k0) k0 (okN hN k0 (by decide)).1 (okN hN k0 (by decide)).2 cq_6 (by decide) rfl rfl (Nat.le_of_ble_eq_true rfl) (by decide) (by decide) (fun v ν hp => ?_) (fun i ν hp => nrm hp.1)
            obtain ⟨rfl, rfl, hN27, hb28⟩ := PEl hp
            show J _ _ _ _ 54 _ ([]) _ _ _ _
            cases h
            exact J.vret (pc := 54) dX6_readExpr_54 rfl ⟨rfl, rfl, hN27, trivial⟩
        · refine J.cne (pc := 32) (tgt := 39) dX6_readExpr_32 (by decide) (fun q => absurd q hc) (fun _ => ?_)
          refine J.iconst (pc := 39) dX6_readExpr_39 ic_0 ?_
          refine J.istore_n (pc := 40) ([(2, .int (0 : Int32)), (0, .ref v0), (1, .int v1)]) dX6_readExpr_40 rfl (Nat.le_of_ble_eq_true rfl) rfl ?_
          refine J.aload_n (pc := 41) dX6_readExpr_41 rfl 1 rfl ?_
          refine J.iload_n (pc := 42) dX6_readExpr_42 rfl 0 rfl ?_
          rcases ifc h with ⟨hc, h⟩ | ⟨hc, h⟩
          · refine J.zeq (pc := 43) (tgt := 50) dX6_readExpr_43 (by decide) (fun _ => ?_) (fun q => absurd hc q)
            refine J.iconst (pc := 50) dX6_readExpr_50 ic_1 ?_
            obtain ⟨μ30, e29, h⟩ := bnd h
            refine J.callV (pc := 51) (k2 := 0) (n2 := 0) dX6_readExpr_51 ml_RX6_109 mo_X6_refuse mv_X6_refuse rfl (tX6_refuse (d + 25) e29 hN k0) k0 (okN hN k0 (by decide)).1 (okN hN k0 (by decide)).2 cq_6 (by decide) rfl rfl (Nat.le_of_ble_eq_true rfl) (by decide) (by decide) (fun v ν hp => ?_) (fun i ν hp => nrm hp.1)
            obtain ⟨rfl, rfl, hN31, hb32⟩ := PEl hp
            show J _ _ _ _ 54 _ ([]) _ _ _ _
            cases h
            exact J.vret (pc := 54) dX6_readExpr_54 rfl ⟨rfl, rfl, hN31, trivial⟩
          · refine J.zeq (pc := 43) (tgt := 50) dX6_readExpr_43 (by decide) (fun q => absurd q hc) (fun _ => ?_)
            refine J.iconst (pc := 46) dX6_readExpr_46 ic_2 ?_
            refine J.goto (pc := 47) (tgt := 51) dX6_readExpr_47 (by decide) ?_
            obtain ⟨μ34, e33, h⟩ := bnd h
            refine J.callV (pc := 51) (k2 := 0) (n2 := 0) dX6_readExpr_51 ml_RX6_109 mo_X6_refuse mv_X6_refuse rfl (tX6_refuse (d + 25) e33 hN k0) k0 (okN hN k0 (by decide)).1 (okN hN k0 (by decide)).2 cq_6 (by decide) rfl rfl (Nat.le_of_ble_eq_true rfl) (by decide) (by decide) (fun v ν hp => ?_) (fun i ν hp => nrm hp.1)
            obtain ⟨rfl, rfl, hN35, hb36⟩ := PEl hp
            show J _ _ _ _ 54 _ ([]) _ _ _ _
            cases h
            exact J.vret (pc := 54) dX6_readExpr_54 rfl ⟨rfl, rfl, hN35, trivial⟩
