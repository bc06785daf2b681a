def fX10_needPerson (v0 : Nat) (v1 : Int32) (μ : Mem) : Option ((Unit ⊕ Nat)) :=
  if v1 < 0 then
    some (.inr 0)
  else
    (gR μ v0 4 11).bind fun a1 =>
    if v1 < (μ.2.1 a1 1) then
      some (.inl ())
    else
      some (.inr 0)
set_option maxHeartbeats 4000000 in
theorem tX10_needPerson {ω : Wd} {l : Launch} (d : Nat) {v0 : Nat} {v1 : Int32} {μ : Mem} {res : (Unit ⊕ Nat)} (h : fX10_needPerson v0 v1 μ = some res) (hN : μ.1 = NN) (k0 : (kd v0).1 = 20) : Ct ω l mX10_needPerson (d + 8) [.ref v0, .int v1] μ 1 6 (PE (oV res) μ True) := by
  refine Ct.of pn_RX10 (Nat.le_of_ble_eq_true rfl) ?_
  show J ω l mX10_needPerson (d + 8) 0 [(0, .ref v0), (1, .int v1)] [] μ 1 6 _
  unfold fX10_needPerson at h
  refine J.iload_n (pc := 0) dX10_needPerson_0 rfl 1 rfl ?_
  rcases ifc h with ⟨hc, h⟩ | ⟨hc, h⟩
  · refine J.zlt (pc := 1) (tgt := 15) dX10_needPerson_1 (by decide) (fun _ => ?_) (fun q => absurd hc q)
    cases h
    exact J.throwN (pc := 15) (j := 11) rfl rfl hN dX10_needPerson_15 dX10_needPerson_18 dX10_needPerson_19 dX10_needPerson_22 dX10_needPerson_25 rfl (Nat.le_of_ble_eq_true rfl) (Nat.le_of_ble_eq_true rfl) ⟨rfl, rfl, hN, trivial⟩
  · refine J.zlt (pc := 1) (tgt := 15) dX10_needPerson_1 (by decide) (fun q => absurd q hc) (fun _ => ?_)
    refine J.iload_n (pc := 4) dX10_needPerson_4 rfl 1 rfl ?_
    refine J.aload_n (pc := 5) dX10_needPerson_5 rfl 0 rfl ?_
    obtain ⟨a1, e2, h⟩ := bnd h
    have k3 : (kd a1).1 = 11 := gR_k e2
    refine J.fR (pc := 6) dX10_needPerson_6 fl_RX10_26 k0 (okN hN k0 (by decide)) rfl e2 ?_
    refine J.fI (pc := 9) dX10_needPerson_9 fl_RX10_147 k3 (okN hN k3 (by decide)) (Or.inl rfl) ?_
    rcases ifc h with ⟨hc, h⟩ | ⟨hc, h⟩
    · refine J.clt (pc := 12) (tgt := 26) dX10_needPerson_12 (by decide) (fun _ => ?_) (fun q => absurd hc q)
      cases h
      exact J.vret (pc := 26) dX10_needPerson_26 rfl ⟨rfl, rfl, hN, trivial⟩
    · refine J.clt (pc := 12) (tgt := 26) dX10_needPerson_12 (by decide) (fun q => absurd q hc) (fun _ => ?_)
      cases h
      exact J.throwN (pc := 15) (j := 11) rfl rfl hN dX10_needPerson_15 dX10_needPerson_18 dX10_needPerson_19 dX10_needPerson_22 dX10_needPerson_25 rfl (Nat.le_of_ble_eq_true rfl) (Nat.le_of_ble_eq_true rfl) ⟨rfl, rfl, hN, trivial⟩
def fX10_weightOf_5  : Nat → Int32 → Int32 → Int32 → Int32 → Int32 → Option (Int32)
  | 0, _, _, _, _, _ => none
  | n + 1, v0, v1, v2, v3, v4 =>
    if v4 < v1 then
      if (fX10_isLit v0 v4) = 0 then
        (fX10_weightOf_5 n) v0 v1 v2 (v3 * v2) (v4 + (1 : Int32))
      else
        (fX10_weightOf_5 n) v0 v1 v2 (v3 * ((10 : Int32) - v2)) (v4 + (1 : Int32))
    else
      some v3
set_option maxHeartbeats 4000000 in
theorem tX10_weightOf_5 {ω : Wd} {l : Launch} (d : Nat) {μ : Mem} (hN : μ.1 = NN) {res : Int32} : ∀ n : Nat, ∀ (v0 : Int32) (v1 : Int32) (v2 : Int32) (v3 : Int32) (v4 : Int32), fX10_weightOf_5 n v0 v1 v2 v3 v4 = some res → J ω l mX10_weightOf (d + 1) 5 [(0, .int v0), (1, .int v1), (2, .int v2), (3, .int v3), (4, .int v4)] [] μ 0 0 (PE (.inl (some (.int res))) μ True) := by
  intro n
  induction n with
  | zero =>
    intro v0 v1 v2 v3 v4 h
    have h9 : (none : Option (Int32)) = some res := h
    cases h9
  | succ n ih =>
    intro v0 v1 v2 v3 v4 h
    unfold fX10_weightOf_5 at h
    refine J.iload (pc := 5) dX10_weightOf_5 4 rfl ?_
    refine J.iload_n (pc := 7) dX10_weightOf_7 rfl 1 rfl ?_
    rcases ifc h with ⟨hc, h⟩ | ⟨hc, h⟩
    · refine J.cge (pc := 8) (tgt := 37) dX10_weightOf_8 (by decide) (fun _ => ?_) (fun q => absurd hc q)
      refine J.iload_n (pc := 11) dX10_weightOf_11 rfl 3 rfl ?_
      refine J.iload_n (pc := 12) dX10_weightOf_12 rfl 0 rfl ?_
      refine J.iload (pc := 13) dX10_weightOf_13 4 rfl ?_
      refine J.callS (Y := mX10_weightOf) (Z := mX10_isLit) (pc := 15) (st := [.int v3]) (k2 := 0) (n2 := 0) dX10_weightOf_15 ml_RX10_366 mo_X10_isLit ms_X10_isLit rfl (tX10_isLit d v0 v4 μ hN ) rfl rfl (Nat.le_of_ble_eq_true rfl) (by decide) (by decide) (fun v ν hp => ?_) (fun i ν hp => nrm hp.1)
      obtain ⟨rfl, rfl, hN2, hb3⟩ := QEl hp
      show J _ _ _ _ 18 _ ([.int (fX10_isLit v0 v4), .int v3]) _ _ _ _
      rcases ifc h with ⟨hc, h⟩ | ⟨hc, h⟩
      · refine J.zeq (pc := 18) (tgt := 28) dX10_weightOf_18 (by decide) (fun _ => ?_) (fun q => absurd hc q)
        refine J.iload_n (pc := 28) dX10_weightOf_28 rfl 2 rfl ?_
        refine J.imul (pc := 29) dX10_weightOf_29 ?_
        refine J.istore_n (pc := 30) ([(3, .int (v3 * v2)), (0, .int v0), (1, .int v1), (2, .int v2), (4, .int v4)]) dX10_weightOf_30 rfl (Nat.le_of_ble_eq_true rfl) rfl ?_
        refine J.iinc (pc := 31) (j := 4) ([(4, .int (v4 + (1 : Int32))), (3, .int (v3 * v2)), (0, .int v0), (1, .int v1), (2, .int v2)]) dX10_weightOf_31 rfl (iincv ic_1) (Nat.le_of_ble_eq_true rfl) rfl ?_
        refine J.goto (pc := 34) (tgt := 5) dX10_weightOf_34 (by decide) ?_
        refine J.pick [2, 3, 4, 1, 0] rfl ?_
        exact ih v0 v1 v2 (v3 * v2) (v4 + (1 : Int32)) h
      · refine J.zeq (pc := 18) (tgt := 28) dX10_weightOf_18 (by decide) (fun q => absurd q hc) (fun _ => ?_)
        refine J.bipush (pc := 21) dX10_weightOf_21 ib_10 ?_
        refine J.iload_n (pc := 23) dX10_weightOf_23 rfl 2 rfl ?_
        refine J.isub (pc := 24) dX10_weightOf_24 ?_
        refine J.goto (pc := 25) (tgt := 29) dX10_weightOf_25 (by decide) ?_
        refine J.imul (pc := 29) dX10_weightOf_29 ?_
        refine J.istore_n (pc := 30) ([(3, .int (v3 * ((10 : Int32) - v2))), (0, .int v0), (1, .int v1), (2, .int v2), (4, .int v4)]) dX10_weightOf_30 rfl (Nat.le_of_ble_eq_true rfl) rfl ?_
        refine J.iinc (pc := 31) (j := 4) ([(4, .int (v4 + (1 : Int32))), (3, .int (v3 * ((10 : Int32) - v2))), (0, .int v0), (1, .int v1), (2, .int v2)]) dX10_weightOf_31 rfl (iincv ic_1) (Nat.le_of_ble_eq_true rfl) rfl ?_
        refine J.goto (pc := 34) (tgt := 5) dX10_weightOf_34 (by decide) ?_
        refine J.pick [2, 3, 4, 1, 0] rfl ?_
        exact ih v0 v1 v2 (v3 * ((10 : Int32) - v2)) (v4 + (1 : Int32)) h
    · refine J.cge (pc := 8) (tgt := 37) dX10_weightOf_8 (by decide) (fun q => absurd q hc) (fun _ => ?_)
      refine J.iload_n (pc := 37) dX10_weightOf_37 rfl 3 rfl ?_
      cases h
      exact J.iret (pc := 38) dX10_weightOf_38 rfl ⟨rfl, rfl, hN, trivial⟩
def fX10_weightOf (v0 : Int32) (v1 : Int32) (v2 : Int32) : Option (Int32) :=
  (fX10_weightOf_5 fuel) v0 v1 v2 (1 : Int32) (0 : Int32)
set_option maxHeartbeats 4000000 in
theorem tX10_weightOf {ω : Wd} {l : Launch} (d : Nat) {v0 : Int32} {v1 : Int32} {v2 : Int32} {μ : Mem} {res : Int32} (h : fX10_weightOf v0 v1 v2 = some res) (hN : μ.1 = NN) : Ct ω l mX10_weightOf (d + 1) [.int v0, .int v1, .int v2] μ 0 0 (PE (.inl (some (.int res))) μ True) := by
  refine Ct.of pn_RX10 (Nat.le_of_ble_eq_true rfl) ?_
  show J ω l mX10_weightOf (d + 1) 0 [(0, .int v0), (1, .int v1), (2, .int v2)] [] μ 0 0 _
  unfold fX10_weightOf at h
  refine J.iconst (pc := 0) dX10_weightOf_0 ic_1 ?_
  refine J.istore_n (pc := 1) ([(3, .int (1 : Int32)), (0, .int v0), (1, .int v1), (2, .int v2)]) dX10_weightOf_1 rfl (Nat.le_of_ble_eq_true rfl) rfl ?_
  refine J.iconst (pc := 2) dX10_weightOf_2 ic_0 ?_
  refine J.istore (pc := 3) ([(4, .int (0 : Int32)), (3, .int (1 : Int32)), (0, .int v0), (1, .int v1), (2, .int v2)]) dX10_weightOf_3 (Nat.le_of_ble_eq_true rfl) rfl ?_
  refine J.pick [2, 3, 4, 1, 0] rfl ?_
  exact (tX10_weightOf_5 d hN fuel) v0 v1 v2 (1 : Int32) (0 : Int32) h
def fX10_candles_26  : Nat → Nat → Int32 → Int32 → Int32 → Int32 → Int32 → Mem → Option ((Int32 ⊕ Nat) × Mem)
  | 0, _, _, _, _, _, _, _ => none
  | n + 1, v0, v1, v2, v3, v4, v5, μ =>
    if v5 < ((1 : Int32) <<< (v2 &&& 31)) then
      (fX10_weightOf v5 v2 v3).bind fun r2 =>
      if 0 < r2 then
        (fX10_hasComeBy v0 v1 v5 v2 μ).bind fun (r7, μ6) =>
        if r7 = 0 then
          (fX10_candles_26 n) v0 v1 v2 v3 v4 (v5 + (1 : Int32)) μ6
        else
          (fX10_candles_26 n) v0 v1 v2 v3 (v4 + r2) (v5 + (1 : Int32)) μ6
      else
        (fX10_candles_26 n) v0 v1 v2 v3 v4 (v5 + (1 : Int32)) μ
    else
      some (.inl v4, μ)
set_option maxHeartbeats 4000000 in
theorem tX10_candles_26 {ω : Wd} {l : Launch} (d : Nat) {res : (Int32 ⊕ Nat) × Mem} : ∀ n : Nat, ∀ (v0 : Nat) (v1 : Int32) (v2 : Int32) (v3 : Int32) (v4 : Int32) (v5 : Int32) (μ : Mem), fX10_candles_26 n v0 v1 v2 v3 v4 v5 μ = some res → μ.1 = NN → (kd v0).1 = 20 → J ω l mX10_candles (d + 9) 26 [(0, .ref v0), (1, .int v1), (2, .int v2), (3, .int v3), (4, .int v4), (5, .int v5)] [] μ 0 0 (PE (oI res.1) res.2 True) := by
  intro n
  induction n with
  | zero =>
    intro v0 v1 v2 v3 v4 v5 μ h hN k0
    have h9 : (none : Option ((Int32 ⊕ Nat) × Mem)) = some res := h
    cases h9
  | succ n ih =>
    intro v0 v1 v2 v3 v4 v5 μ h hN k0
    unfold fX10_candles_26 at h
    refine J.iload (pc := 26) dX10_candles_26 5 rfl ?_
    refine J.iconst (pc := 28) dX10_candles_28 ic_1 ?_
    refine J.iload_n (pc := 29) dX10_candles_29 rfl 2 rfl ?_
    refine J.ishl (pc := 30) dX10_candles_30 ?_
    rcases ifc h with ⟨hc, h⟩ | ⟨hc, h⟩
    · refine J.cge (pc := 31) (tgt := 72) dX10_candles_31 (by decide) (fun _ => ?_) (fun q => absurd hc q)
      refine J.iload (pc := 34) dX10_candles_34 5 rfl ?_
      refine J.iload_n (pc := 36) dX10_candles_36 rfl 2 rfl ?_
      refine J.iload_n (pc := 37) dX10_candles_37 rfl 3 rfl ?_
      obtain ⟨r2, e1, h⟩ := bnd h
      refine J.callS (Y := mX10_candles) (Z := mX10_weightOf) (pc := 38) (st := []) (k2 := 0) (n2 := 0) dX10_candles_38 ml_RX10_358 mo_X10_weightOf ms_X10_weightOf rfl (tX10_weightOf (d + 7) e1 hN ) rfl rfl (Nat.le_of_ble_eq_true rfl) (by decide) (by decide) (fun v ν hp => ?_) (fun i ν hp => nrm hp.1)
      obtain ⟨rfl, rfl, hN3, hb4⟩ := QEl hp
      show J _ _ _ _ 41 _ ([.int r2]) _ _ _ _
      refine J.istore (pc := 41) ([(6, .int r2), (0, .ref v0), (1, .int v1), (2, .int v2), (3, .int v3), (4, .int v4), (5, .int v5)]) dX10_candles_41 (Nat.le_of_ble_eq_true rfl) rfl ?_
      refine J.iload (pc := 43) dX10_candles_43 0 rfl ?_
      rcases ifc h with ⟨hc, h⟩ | ⟨hc, h⟩
      · refine J.zle (pc := 45) (tgt := 66) dX10_candles_45 (by decide) (fun _ => ?_) (fun q => absurd hc q)
        refine J.aload_n (pc := 48) dX10_candles_48 rfl 1 rfl ?_
        refine J.iload_n (pc := 49) dX10_candles_49 rfl 2 rfl ?_
        refine J.iload (pc := 50) dX10_candles_50 6 rfl ?_
        refine J.iload_n (pc := 52) dX10_candles_52 rfl 3 rfl ?_
        obtain ⟨⟨r7, μ6⟩, e5, h⟩ := bnd h
        try dsimp only at h
        refine J.callV (Y := mX10_candles) (Z := mX10_hasComeBy) (pc := 53) (st := []) (k2 := 0) (n2 := 0) dX10_candles_53 ml_RX10_362 mo_X10_hasComeBy mv_X10_hasComeBy rfl (tX10_hasComeBy (d + 3) e5 hN3 k0) k0 (okN hN3 k0 (by decide)).1 (okN hN3 k0 (by decide)).2 cq_10 (by decide) rfl rfl (Nat.le_of_ble_eq_true rfl) (by decide) (by decide) (fun v ν hp => ?_) (fun i ν hp => nrm hp.1)
        obtain ⟨rfl, rfl, hN8, hb9⟩ := QEl hp
        show J _ _ _ _ 56 _ ([.int r7]) _ _ _ _
        rcases ifc h with ⟨hc, h⟩ | ⟨hc, h⟩
        · refine J.zeq (pc := 56) (tgt := 66) dX10_candles_56 (by decide) (fun _ => ?_) (fun q => absurd hc q)
          refine J.iinc (pc := 66) (j := 6) ([(5, .int (v5 + (1 : Int32))), (6, .int r2), (0, .ref v0), (1, .int v1), (2, .int v2), (3, .int v3), (4, .int v4)]) dX10_candles_66 rfl (iincv ic_1) (Nat.le_of_ble_eq_true rfl) rfl ?_
          refine J.goto (pc := 69) (tgt := 26) dX10_candles_69 (by decide) ?_
          refine J.pick [2, 3, 4, 5, 6, 0] rfl ?_
          exact ih v0 v1 v2 v3 v4 (v5 + (1 : Int32)) μ6 h hN8 k0
        · refine J.zeq (pc := 56) (tgt := 66) dX10_candles_56 (by decide) (fun q => absurd q hc) (fun _ => ?_)
          refine J.iload (pc := 59) dX10_candles_59 5 rfl ?_
          refine J.iload (pc := 61) dX10_candles_61 0 rfl ?_
          refine J.iadd (pc := 63) dX10_candles_63 ?_
          refine J.istore (pc := 64) ([(4, .int (v4 + r2)), (6, .int r2), (0, .ref v0), (1, .int v1), (2, .int v2), (3, .int v3), (5, .int v5)]) dX10_candles_64 (Nat.le_of_ble_eq_true rfl) rfl ?_
          refine J.iinc (pc := 66) (j := 6) ([(5, .int (v5 + (1 : Int32))), (4, .int (v4 + r2)), (6, .int r2), (0, .ref v0), (1, .int v1), (2, .int v2), (3, .int v3)]) dX10_candles_66 rfl (iincv ic_1) (Nat.le_of_ble_eq_true rfl) rfl ?_
          refine J.goto (pc := 69) (tgt := 26) dX10_candles_69 (by decide) ?_
          refine J.pick [3, 4, 5, 6, 1, 0] rfl ?_
          exact ih v0 v1 v2 v3 (v4 + r2) (v5 + (1 : Int32)) μ6 h hN8 k0
      · refine J.zle (pc := 45) (tgt := 66) dX10_candles_45 (by decide) (fun q => absurd q hc) (fun _ => ?_)
        refine J.iinc (pc := 66) (j := 6) ([(5, .int (v5 + (1 : Int32))), (6, .int r2), (0, .ref v0), (1, .int v1), (2, .int v2), (3, .int v3), (4, .int v4)]) dX10_candles_66 rfl (iincv ic_1) (Nat.le_of_ble_eq_true rfl) rfl ?_
        refine J.goto (pc := 69) (tgt := 26) dX10_candles_69 (by decide) ?_
        refine J.pick [2, 3, 4, 5, 6, 0] rfl ?_
        exact ih v0 v1 v2 v3 v4 (v5 + (1 : Int32)) μ h hN3 k0
    · refine J.cge (pc := 31) (tgt := 72) dX10_candles_31 (by decide) (fun q => absurd q hc) (fun _ => ?_)
      refine J.iload (pc := 72) dX10_candles_72 4 rfl ?_
      cases h
      exact J.iret (pc := 74) dX10_candles_74 rfl ⟨rfl, rfl, hN, trivial⟩
def fX10_candles (v0 : Nat) (v1 : Int32) (v2 : Int32) (v3 : Int32) (μ : Mem) : Option ((Int32 ⊕ Nat) × Mem) :=
  (fX10_needPerson v0 v1 μ).bind fun
  | .inl _ =>
    (fX10_needWithin v0 v2 (1 : Int32) (5 : Int32)).bind fun
    | .inl _ =>
      (fX10_needWithin v0 v3 (0 : Int32) (10 : Int32)).bind fun
      | .inl _ =>
        (fX10_candles_26 fuel) v0 v1 v2 v3 (0 : Int32) (0 : Int32) μ
      | .inr i10 =>
        some (.inr i10, μ)
    | .inr i11 =>
      some (.inr i11, μ)
  | .inr i12 =>
    some (.inr i12, μ)
set_option maxHeartbeats 4000000 in
theorem tX10_candles {ω : Wd} {l : Launch} (d : Nat) {v0 : Nat} {v1 : Int32} {v2 : Int32} {v3 : Int32} {μ : Mem} {res : (Int32 ⊕ Nat) × Mem} (h : fX10_candles v0 v1 v2 v3 μ = some res) (hN : μ.1 = NN) (k0 : (kd v0).1 = 20) : Ct ω l mX10_candles (d + 9) [.ref v0, .int v1, .int v2, .int v3] μ 3 18 (PE (oI res.1) res.2 True) := by
  refine Ct.of pn_RX10 (Nat.le_of_ble_eq_true rfl) ?_
  show J ω l mX10_candles (d + 9) 0 [(0, .ref v0), (1, .int v1), (2, .int v2), (3, .int v3)] [] μ 3 18 _
  unfold fX10_candles at h
  refine J.aload_n (pc := 0) dX10_candles_0 rfl 0 rfl ?_
  refine J.iload_n (pc := 1) dX10_candles_1 rfl 1 rfl ?_
  obtain ⟨q, e1, h⟩ := bnd h
  rcases q with u | i12
  · try dsimp only at h
    refine J.callV (Y := mX10_candles) (Z := mX10_needPerson) (pc := 2) (st := []) (k2 := 2) (n2 := 12) dX10_candles_2 ml_RX10_211 mo_X10_needPerson mv_X10_needPerson rfl (tX10_needPerson d e1 hN k0) k0 (okN hN k0 (by decide)).1 (okN hN k0 (by decide)).2 cq_10 (by decide) rfl rfl (Nat.le_of_ble_eq_true rfl) (by decide) (by decide) (fun v ν hp => ?_) (fun i ν hp => nrm hp.1)
    obtain ⟨rfl, rfl, hN2, hb3⟩ := QEl hp
    show J _ _ _ _ 5 _ ([]) _ _ _ _
    refine J.aload_n (pc := 5) dX10_candles_5 rfl 0 rfl ?_
    refine J.iload_n (pc := 6) dX10_candles_6 rfl 2 rfl ?_
    refine J.iconst (pc := 7) dX10_candles_7 ic_1 ?_
    refine J.iconst (pc := 8) dX10_candles_8 ic_5 ?_
    obtain ⟨q, e4, h⟩ := bnd h
    rcases q with u | i11
    · try dsimp only at h
      refine J.callV (Y := mX10_candles) (Z := mX10_needWithin) (pc := 9) (st := []) (k2 := 1) (n2 := 6) dX10_candles_9 ml_RX10_260 mo_X10_needWithin mv_X10_needWithin rfl (tX10_needWithin d e4 hN2 k0) k0 (okN hN2 k0 (by decide)).1 (okN hN2 k0 (by decide)).2 cq_10 (by decide) rfl rfl (Nat.le_of_ble_eq_true rfl) (by decide) (by decide) (fun v ν hp => ?_) (fun i ν hp => nrm hp.1)
      obtain ⟨rfl, rfl, hN5, hb6⟩ := QEl hp
      show J _ _ _ _ 12 _ ([]) _ _ _ _
      refine J.aload_n (pc := 12) dX10_candles_12 rfl 0 rfl ?_
      refine J.iload_n (pc := 13) dX10_candles_13 rfl 3 rfl ?_
      refine J.iconst (pc := 14) dX10_candles_14 ic_0 ?_
      refine J.bipush (pc := 15) dX10_candles_15 ib_10 ?_
      obtain ⟨q, e7, h⟩ := bnd h
      rcases q with u | i10
      · try dsimp only at h
        refine J.callV (Y := mX10_candles) (Z := mX10_needWithin) (pc := 17) (st := []) (k2 := 0) (n2 := 0) dX10_candles_17 ml_RX10_260 mo_X10_needWithin mv_X10_needWithin rfl (tX10_needWithin d e7 hN5 k0) k0 (okN hN5 k0 (by decide)).1 (okN hN5 k0 (by decide)).2 cq_10 (by decide) rfl rfl (Nat.le_of_ble_eq_true rfl) (by decide) (by decide) (fun v ν hp => ?_) (fun i ν hp => nrm hp.1)
        obtain ⟨rfl, rfl, hN8, hb9⟩ := QEl hp
        show J _ _ _ _ 20 _ ([]) _ _ _ _
        refine J.iconst (pc := 20) dX10_candles_20 ic_0 ?_
        refine J.istore (pc := 21) ([(4, .int (0 : Int32)), (0, .ref v0), (1, .int v1), (2, .int v2), (3, .int v3)]) dX10_candles_21 (Nat.le_of_ble_eq_true rfl) rfl ?_
        refine J.iconst (pc := 23) dX10_candles_23 ic_0 ?_
        refine J.istore (pc := 24) ([(5, .int (0 : Int32)), (4, .int (0 : Int32)), (0, .ref v0), (1, .int v1), (2, .int v2), (3, .int v3)]) dX10_candles_24 (Nat.le_of_ble_eq_true rfl) rfl ?_
        refine J.pick [2, 3, 4, 5, 1, 0] rfl ?_
        exact (tX10_candles_26 d fuel) v0 v1 v2 v3 (0 : Int32) (0 : Int32) μ h hN8 k0
      · try dsimp only at h
        refine J.callV (Y := mX10_candles) (Z := mX10_needWithin) (pc := 17) (st := []) (k2 := 0) (n2 := 0) dX10_candles_17 ml_RX10_260 mo_X10_needWithin mv_X10_needWithin rfl (tX10_needWithin d e7 hN5 k0) k0 (okN hN5 k0 (by decide)).1 (okN hN5 k0 (by decide)).2 cq_10 (by decide) rfl rfl (Nat.le_of_ble_eq_true rfl) (by decide) (by decide) (fun v ν hp => nlm hp.1) (fun i ν hp => ?_)
        obtain ⟨rfl, rfl, hN9, -⟩ := QEr hp
        cases h
        exact JX.out rfl ⟨rfl, rfl, hN9, trivial⟩
    · try dsimp only at h
      refine J.callV (Y := mX10_candles) (Z := mX10_needWithin) (pc := 9) (st := []) (k2 := 1) (n2 := 6) dX10_candles_9 ml_RX10_260 mo_X10_needWithin mv_X10_needWithin rfl (tX10_needWithin d e4 hN2 k0) k0 (okN hN2 k0 (by decide)).1 (okN hN2 k0 (by decide)).2 cq_10 (by decide) rfl rfl (Nat.le_of_ble_eq_true rfl) (by decide) (by decide) (fun v ν hp => nlm hp.1) (fun i ν hp => ?_)
      obtain ⟨rfl, rfl, hN9, -⟩ := QEr hp
      cases h
      exact JX.out rfl ⟨rfl, rfl, hN9, trivial⟩
  · try dsimp only at h
    refine J.callV (Y := mX10_candles) (Z := mX10_needPerson) (pc := 2) (st := []) (k2 := 2) (n2 := 12) dX10_candles_2 ml_RX10_211 mo_X10_needPerson mv_X10_needPerson rfl (tX10_needPerson d e1 hN k0) k0 (okN hN k0 (by decide)).1 (okN hN k0 (by decide)).2 cq_10 (by decide) rfl rfl (Nat.le_of_ble_eq_true rfl) (by decide) (by decide) (fun v ν hp => nlm hp.1) (fun i ν hp => ?_)
    obtain ⟨rfl, rfl, hN9, -⟩ := QEr hp
    cases h
    exact JX.out rfl ⟨rfl, rfl, hN9, trivial⟩
def fL_candles (v0 : Nat) (v1 : Int32) (v2 : Int32) (v3 : Int32) (v4 : Nat) (μ : Mem) : Option (Int32 × Mem) :=
  (fX10_candles v0 v1 v2 v3 μ).bind fun
  | (.inl r3, μ2) =>
    (stL μ2 v4 (0 : Int32) (r3.toInt64)).bind fun μ6 =>
    some ((0 : Int32), μ6)
  | (.inr i9, μ2) =>
    if i9 = 0 then some ((1 : Int32), μ2) else
    if i9 = 1 then some ((2 : Int32), μ2) else
    none
set_option maxHeartbeats 4000000 in
theorem tL_candles {ω : Wd} {l : Launch} (d : Nat) {v0 : Nat} {v1 : Int32} {v2 : Int32} {v3 : Int32} {v4 : Nat} {μ : Mem} {res : Int32 × Mem} (h : fL_candles v0 v1 v2 v3 v4 μ = some res) (hN : μ.1 = NN) (k0 : (kd v0).1 = 20) (k4 : (kd v4).1 = 1) : Ct ω l mL_candles (d + 10) [.ref v0, .int v1, .int v2, .int v3, .ref v4] μ 3 18 (PE (.inl (some (.int res.1))) res.2 True) := by
  refine Ct.of pn_RL (Nat.le_of_ble_eq_true rfl) ?_
  show J ω l mL_candles (d + 10) 0 [(0, .ref v0), (1, .int v1), (2, .int v2), (3, .int v3), (4, .ref v4)] [] μ 3 18 _
  unfold fL_candles at h
  refine J.aload (pc := 0) dL_candles_0 4 rfl ?_
  refine J.iconst (pc := 2) dL_candles_2 ic_0 ?_
  refine J.aload_n (pc := 3) dL_candles_3 rfl 0 rfl ?_
  refine J.iload_n (pc := 4) dL_candles_4 rfl 1 rfl ?_
  refine J.iload_n (pc := 5) dL_candles_5 rfl 2 rfl ?_
  refine J.iload_n (pc := 6) dL_candles_6 rfl 3 rfl ?_
  obtain ⟨⟨q, μ2⟩, e1, h⟩ := bnd h
  rcases q with r3 | i9
  · try dsimp only at h
    refine J.callV (Y := mL_candles) (Z := mX10_candles) (pc := 7) (st := [.int (0 : Int32), .ref v4]) (k2 := 0) (n2 := 0) dL_candles_7 ml_RL_86 mo_X10_candles mv_X10_candles rfl (tX10_candles d e1 hN k0) k0 (okN hN k0 (by decide)).1 (okN hN k0 (by decide)).2 cq_10 (by decide) rfl rfl (Nat.le_of_ble_eq_true rfl) (by decide) (by decide) (fun v ν hp => ?_) (fun i ν hp => nrm hp.1)
    obtain ⟨rfl, rfl, hN4, hb5⟩ := QEl hp
    show J _ _ _ _ 10 _ ([.int r3, .int (0 : Int32), .ref v4]) _ _ _ _
    refine J.i2l (pc := 10) dL_candles_10 ?_
    obtain ⟨μ6, e7, h⟩ := bnd h
    have hN8 : μ6.1 = NN := stL_N e7 hN4
    refine J.wL (pc := 11) dL_candles_11 k4 (okN hN4 k4 (by decide)) e7 ?_
    refine J.goto (pc := 12) (tgt := 23) dL_candles_12 (by decide) ?_
    refine J.iconst (pc := 23) dL_candles_23 ic_0 ?_
    cases h
    exact J.iret (pc := 24) dL_candles_24 rfl ⟨rfl, rfl, hN8, trivial⟩
  · try dsimp only at h
    refine J.callV (Y := mL_candles) (Z := mX10_candles) (pc := 7) (st := [.int (0 : Int32), .ref v4]) (k2 := 0) (n2 := 0) dL_candles_7 ml_RL_86 mo_X10_candles mv_X10_candles rfl (tX10_candles d e1 hN k0) k0 (okN hN k0 (by decide)).1 (okN hN k0 (by decide)).2 cq_10 (by decide) rfl rfl (Nat.le_of_ble_eq_true rfl) (by decide) (by decide) (fun v ν hp => nlm hp.1) (fun i ν hp => ?_)
    obtain ⟨rfl, rfl, hN9, -⟩ := QEr hp
    rcases ifc h with ⟨hc, h⟩ | ⟨hc, h⟩
    · subst hc
      cases h
      exact JX.catch1 (i := 0) (by decide) rfl rfl (Nat.le_of_ble_eq_true rfl) (Nat.le_of_ble_eq_true rfl) (Or.inl ⟨5, Nat.le_of_ble_eq_true rfl, rfl, dL_candles_15⟩) dL_candles_17 ic_1 dL_candles_18 rfl ⟨rfl, rfl, hN9, trivial⟩
    rcases ifc h with ⟨hc, h⟩ | ⟨hc, h⟩
    · subst hc
      cases h
      exact JX.catch2 rfl rfl (Nat.le_of_ble_eq_true rfl) (Nat.le_of_ble_eq_true rfl) (Or.inl ⟨5, Nat.le_of_ble_eq_true rfl, rfl, dL_candles_19⟩) dL_candles_21 ic_2 dL_candles_22 rfl ⟨rfl, rfl, hN9, trivial⟩
    cases h
def fX0_drop (v0 : Nat) (μ : Mem) : Option (Mem) :=
  (some (sI μ v0 0 (0 : Int32))).bind fun μ1 =>
  (some (sI μ1 v0 1 (0 : Int32))).bind fun μ4 =>
  some μ4
set_option maxHeartbeats 4000000 in
theorem tX0_drop {ω : Wd} {l : Launch} (d : Nat) {v0 : Nat} {μ : Mem} {res : Mem} (h : fX0_drop v0 μ = some res) (hN : μ.1 = NN) (k0 : (kd v0).1 = 10) : Ct ω l mX0_drop d [.ref v0] μ 0 0 (PE (.inl none) res True) := by
  refine Ct.of pn_RX0 (Nat.le_of_ble_eq_true rfl) ?_
  show J ω l mX0_drop d 0 [(0, .ref v0)] [] μ 0 0 _
  unfold fX0_drop at h
  refine J.aload_n (pc := 0) dX0_drop_0 rfl 0 rfl ?_
  refine J.iconst (pc := 1) dX0_drop_1 ic_0 ?_
  obtain ⟨μ1, e2, h⟩ := bnd h
  have hN3 : μ1.1 = NN := smN e2 hN
  refine J.qI (pc := 2) dX0_drop_2 fl_RX0_9 k0 (okN hN k0 (by decide)) rfl rfl e2 ?_
  refine J.aload_n (pc := 5) dX0_drop_5 rfl 0 rfl ?_
  refine J.iconst (pc := 6) dX0_drop_6 ic_0 ?_
  obtain ⟨μ4, e5, h⟩ := bnd h
  have hN6 : μ4.1 = NN := smN e5 hN3
  refine J.qI (pc := 7) dX0_drop_7 fl_RX0_15 k0 (okN hN3 k0 (by decide)) rfl rfl e5 ?_
  cases h
  exact J.vret (pc := 10) dX0_drop_10 rfl ⟨rfl, rfl, hN6, trivial⟩
def fX9_empty_38  : Nat → Nat → Int32 → Mem → Option (Mem)
  | 0, _, _, _ => none
  | n + 1, v0, v1, μ =>
    if v1 < (6 : Int32) then
      (gR μ v0 4 0).bind fun a1 =>
      (stI μ a1 v1 (-1 : Int32)).bind fun μ4 =>
      (gR μ4 v0 5 0).bind fun a7 =>
      (stI μ4 a7 v1 (-1 : Int32)).bind fun μ10 =>
      (gR μ10 v0 6 0).bind fun a13 =>
      (stI μ10 a13 v1 (0 : Int32)).bind fun μ16 =>
      (fX9_empty_38 n) v0 (v1 + (1 : Int32)) μ16
    else
      some μ
set_option maxHeartbeats 4000000 in
theorem tX9_empty_38 {ω : Wd} {l : Launch} (d : Nat) {res : Mem} : ∀ n : Nat, ∀ (v0 : Nat) (v1 : Int32) (μ : Mem), fX9_empty_38 n v0 v1 μ = some res → μ.1 = NN → (kd v0).1 = 19 → J ω l mX9_empty d 38 [(0, .ref v0), (1, .int v1)] [] μ 0 0 (PE (.inl none) res True) := by
  intro n
  induction n with
  | zero =>
    intro v0 v1 μ h hN k0
    have h9 : (none : Option (Mem)) = some res := h
    cases h9
  | succ n ih =>
    intro v0 v1 μ h hN k0
    unfold fX9_empty_38 at h
    refine J.iload_n (pc := 38) dX9_empty_38 rfl 1 rfl ?_
    refine J.bipush (pc := 39) dX9_empty_39 ib_6 ?_
    rcases ifc h with ⟨hc, h⟩ | ⟨hc, h⟩
    · refine J.cge (pc := 41) (tgt := 71) dX9_empty_41 (by decide) (fun _ => ?_) (fun q => absurd hc q)
      refine J.aload_n (pc := 44) dX9_empty_44 rfl 0 rfl ?_
      obtain ⟨a1, e2, h⟩ := bnd h
      have k3 : (kd a1).1 = 0 := gR_k e2
      refine J.fR (pc := 45) dX9_empty_45 fl_RX9_26 k0 (okN hN k0 (by decide)) rfl e2 ?_
      refine J.iload_n (pc := 48) dX9_empty_48 rfl 1 rfl ?_
      refine J.iconst (pc := 49) dX9_empty_49 ic_m1 ?_
      obtain ⟨μ4, e5, h⟩ := bnd h
      have hN6 : μ4.1 = NN := stI_N e5 hN
      refine J.wI (pc := 50) dX9_empty_50 k3 (okN hN k3 (by decide)) e5 ?_
      refine J.aload_n (pc := 51) dX9_empty_51 rfl 0 rfl ?_
      obtain ⟨a7, e8, h⟩ := bnd h
      have k9 : (kd a7).1 = 0 := gR_k e8
      refine J.fR (pc := 52) dX9_empty_52 fl_RX9_29 k0 (okN hN6 k0 (by decide)) rfl e8 ?_
      refine J.iload_n (pc := 55) dX9_empty_55 rfl 1 rfl ?_
      refine J.iconst (pc := 56) dX9_empty_56 ic_m1 ?_
      obtain ⟨μ10, e11, h⟩ := bnd h
      have hN12 : μ10.1 = NN := stI_N e11 hN6
      refine J.wI (pc := 57) dX9_empty_57 k9 (okN hN6 k9 (by decide)) e11 ?_
      refine J.aload_n (pc := 58) dX9_empty_58 rfl 0 rfl ?_
      obtain ⟨a13, e14, h⟩ := bnd h
      have k15 : (kd a13).1 = 0 := gR_k e14
      refine J.fR (pc := 59) dX9_empty_59 fl_RX9_32 k0 (okN hN12 k0 (by decide)) rfl e14 ?_
      refine J.iload_n (pc := 62) dX9_empty_62 rfl 1 rfl ?_
      refine J.iconst (pc := 63) dX9_empty_63 ic_0 ?_
      obtain ⟨μ16, e17, h⟩ := bnd h
      have hN18 : μ16.1 = NN := stI_N e17 hN12
      refine J.wI (pc := 64) dX9_empty_64 k15 (okN hN12 k15 (by decide)) e17 ?_
      refine J.iinc (pc := 65) (j := 1) ([(1, .int (v1 + (1 : Int32))), (0, .ref v0)]) dX9_empty_65 rfl (iincv ic_1) (Nat.le_of_ble_eq_true rfl) rfl ?_
      refine J.goto (pc := 68) (tgt := 38) dX9_empty_68 (by decide) ?_
      refine J.pick [1, 0] rfl ?_
      exact ih v0 (v1 + (1 : Int32)) μ16 h hN18 k0
    · refine J.cge (pc := 41) (tgt := 71) dX9_empty_41 (by decide) (fun q => absurd q hc) (fun _ => ?_)
      cases h
      exact J.vret (pc := 71) dX9_empty_71 rfl ⟨rfl, rfl, hN, trivial⟩
def fX9_empty_17  : Nat → Nat → Int32 → Mem → Option (Mem)
  | 0, _, _, _ => none
  | n + 1, v0, v1, μ =>
    if v1 < (48 : Int32) then
      (gR μ v0 3 0).bind fun a1 =>
      (stI μ a1 v1 (0 : Int32)).bind fun μ4 =>
      (fX9_empty_17 n) v0 (v1 + (1 : Int32)) μ4
    else
      (fX9_empty_38 fuel) v0 (0 : Int32) μ
set_option maxHeartbeats 4000000 in
theorem tX9_empty_17 {ω : Wd} {l : Launch} (d : Nat) {res : Mem} : ∀ n : Nat, ∀ (v0 : Nat) (v1 : Int32) (μ : Mem), fX9_empty_17 n v0 v1 μ = some res → μ.1 = NN → (kd v0).1 = 19 → J ω l mX9_empty d 17 [(0, .ref v0), (1, .int v1)] [] μ 0 0 (PE (.inl none) res True) := by
  intro n
  induction n with
  | zero =>
    intro v0 v1 μ h hN k0
    have h9 : (none : Option (Mem)) = some res := h
    cases h9
  | succ n ih =>
    intro v0 v1 μ h hN k0
    unfold fX9_empty_17 at h
    refine J.iload_n (pc := 17) dX9_empty_17 rfl 1 rfl ?_
    refine J.bipush (pc := 18) dX9_empty_18 ib_48 ?_
    rcases ifc h with ⟨hc, h⟩ | ⟨hc, h⟩
    · refine J.cge (pc := 20) (tgt := 36) dX9_empty_20 (by decide) (fun _ => ?_) (fun q => absurd hc q)
      refine J.aload_n (pc := 23) dX9_empty_23 rfl 0 rfl ?_
      obtain ⟨a1, e2, h⟩ := bnd h
      have k3 : (kd a1).1 = 0 := gR_k e2
      refine J.fR (pc := 24) dX9_empty_24 fl_RX9_22 k0 (okN hN k0 (by decide)) rfl e2 ?_
      refine J.iload_n (pc := 27) dX9_empty_27 rfl 1 rfl ?_
      refine J.iconst (pc := 28) dX9_empty_28 ic_0 ?_
      obtain ⟨μ4, e5, h⟩ := bnd h
      have hN6 : μ4.1 = NN := stI_N e5 hN
      refine J.wI (pc := 29) dX9_empty_29 k3 (okN hN k3 (by decide)) e5 ?_
      refine J.iinc (pc := 30) (j := 1) ([(1, .int (v1 + (1 : Int32))), (0, .ref v0)]) dX9_empty_30 rfl (iincv ic_1) (Nat.le_of_ble_eq_true rfl) rfl ?_
      refine J.goto (pc := 33) (tgt := 17) dX9_empty_33 (by decide) ?_
      refine J.pick [1, 0] rfl ?_
      exact ih v0 (v1 + (1 : Int32)) μ4 h hN6 k0
    · refine J.cge (pc := 20) (tgt := 36) dX9_empty_20 (by decide) (fun q => absurd q hc) (fun _ => ?_)
      refine J.iconst (pc := 36) dX9_empty_36 ic_0 ?_
      refine J.istore_n (pc := 37) ([(1, .int (0 : Int32)), (0, .ref v0)]) dX9_empty_37 rfl (Nat.le_of_ble_eq_true rfl) rfl ?_
      refine J.pick [1, 0] rfl ?_
      exact (tX9_empty_38 d fuel) v0 (0 : Int32) μ h hN k0
def fX9_empty (v0 : Nat) (μ : Mem) : Option (Mem) :=
  (some (sI μ v0 0 (0 : Int32))).bind fun μ1 =>
  (some (sL μ1 v0 1 (0 : Int64))).bind fun μ4 =>
  (some (sL μ4 v0 2 (0 : Int64))).bind fun μ7 =>
  (fX9_empty_17 fuel) v0 (0 : Int32) μ7
set_option maxHeartbeats 4000000 in
theorem tX9_empty {ω : Wd} {l : Launch} (d : Nat) {v0 : Nat} {μ : Mem} {res : Mem} (h : fX9_empty v0 μ = some res) (hN : μ.1 = NN) (k0 : (kd v0).1 = 19) : Ct ω l mX9_empty d [.ref v0] μ 0 0 (PE (.inl none) res True) := by
  refine Ct.of pn_RX9 (Nat.le_of_ble_eq_true rfl) ?_
  show J ω l mX9_empty d 0 [(0, .ref v0)] [] μ 0 0 _
  unfold fX9_empty at h
  refine J.aload_n (pc := 0) dX9_empty_0 rfl 0 rfl ?_
  refine J.iconst (pc := 1) dX9_empty_1 ic_0 ?_
  obtain ⟨μ1, e2, h⟩ := bnd h
  have hN3 : μ1.1 = NN := smN e2 hN
  refine J.qI (pc := 2) dX9_empty_2 fl_RX9_9 k0 (okN hN k0 (by decide)) rfl rfl e2 ?_
  refine J.aload_n (pc := 5) dX9_empty_5 rfl 0 rfl ?_
  refine J.lconst (pc := 6) dX9_empty_6 lc_0 ?_
  obtain ⟨μ4, e5, h⟩ := bnd h
  have hN6 : μ4.1 = NN := smN e5 hN3
  refine J.qL (pc := 7) dX9_empty_7 fl_RX9_15 k0 (okN hN3 k0 (by decide)) rfl rfl e5 ?_
  refine J.aload_n (pc := 10) dX9_empty_10 rfl 0 rfl ?_
  refine J.lconst (pc := 11) dX9_empty_11 lc_0 ?_
  obtain ⟨μ7, e8, h⟩ := bnd h
  have hN9 : μ7.1 = NN := smN e8 hN6
  refine J.qL (pc := 12) dX9_empty_12 fl_RX9_19 k0 (okN hN6 k0 (by decide)) rfl rfl e8 ?_
  refine J.iconst (pc := 15) dX9_empty_15 ic_0 ?_
  refine J.istore_n (pc := 16) ([(1, .int (0 : Int32)), (0, .ref v0)]) dX9_empty_16 rfl (Nat.le_of_ble_eq_true rfl) rfl ?_
  refine J.pick [1, 0] rfl ?_
  exact (tX9_empty_17 d fuel) v0 (0 : Int32) μ7 h hN9 k0
def fX9_emptyA_38  : Nat → Nat → Int32 → Mem → Option (Mem)
  | 0, _, _, _ => none
  | n + 1, v0, v1, μ =>
    if v1 < (6 : Int32) then
      (gA μ v0).bind fun _u =>
      (gR μ v0 4 0).bind fun a2 =>
      (gA μ a2).bind fun _u =>
      (stI μ a2 v1 (-1 : Int32)).bind fun μ5 =>
      (gA μ5 v0).bind fun _u =>
      (gR μ5 v0 5 0).bind fun a9 =>
      (gA μ5 a9).bind fun _u =>
      (stI μ5 a9 v1 (-1 : Int32)).bind fun μ12 =>
      (gA μ12 v0).bind fun _u =>
      (gR μ12 v0 6 0).bind fun a16 =>
      (gA μ12 a16).bind fun _u =>
      (stI μ12 a16 v1 (0 : Int32)).bind fun μ19 =>
      (fX9_emptyA_38 n) v0 (v1 + (1 : Int32)) μ19
    else
      some μ
set_option maxHeartbeats 4000000 in
theorem tX9_emptyA_38 {ω : Wd} {l : Launch} (d : Nat) {res : Mem} : ∀ n : Nat, ∀ (v0 : Nat) (v1 : Int32) (μ : Mem), fX9_emptyA_38 n v0 v1 μ = some res → (kd v0).1 = 19 → J ω l mX9_emptyA d 38 [(0, .ref v0), (1, .int v1)] [] μ 0 0 (PA (.inl none) res) := by
  intro n
  induction n with
  | zero =>
    intro v0 v1 μ h k0
    have h9 : (none : Option (Mem)) = some res := h
    cases h9
  | succ n ih =>
    intro v0 v1 μ h k0
    unfold fX9_emptyA_38 at h
    refine J.iload_n (pc := 38) dX9_empty_38 rfl 1 rfl ?_
    refine J.bipush (pc := 39) dX9_empty_39 ib_6 ?_
    rcases ifc h with ⟨hc, h⟩ | ⟨hc, h⟩
    · refine J.cge (pc := 41) (tgt := 71) dX9_empty_41 (by decide) (fun _ => ?_) (fun q => absurd hc q)
      refine J.aload_n (pc := 44) dX9_empty_44 rfl 0 rfl ?_
      obtain ⟨_, e1, h⟩ := bnd h
      obtain ⟨a2, e3, h⟩ := bnd h
      have k4 : (kd a2).1 = 0 := gR_k e3
      refine J.fR (pc := 45) dX9_empty_45 fl_RX9_26 k0 (gA_ok e1) rfl e3 ?_
      refine J.iload_n (pc := 48) dX9_empty_48 rfl 1 rfl ?_
      refine J.iconst (pc := 49) dX9_empty_49 ic_m1 ?_
      obtain ⟨_, e7, h⟩ := bnd h
      obtain ⟨μ5, e6, h⟩ := bnd h
      refine J.wI (pc := 50) dX9_empty_50 k4 (gA_ok e7) e6 ?_
      refine J.aload_n (pc := 51) dX9_empty_51 rfl 0 rfl ?_
      obtain ⟨_, e8, h⟩ := bnd h
      obtain ⟨a9, e10, h⟩ := bnd h
      have k11 : (kd a9).1 = 0 := gR_k e10
      refine J.fR (pc := 52) dX9_empty_52 fl_RX9_29 k0 (gA_ok e8) rfl e10 ?_
      refine J.iload_n (pc := 55) dX9_empty_55 rfl 1 rfl ?_
      refine J.iconst (pc := 56) dX9_empty_56 ic_m1 ?_
      obtain ⟨_, e14, h⟩ := bnd h
      obtain ⟨μ12, e13, h⟩ := bnd h
      refine J.wI (pc := 57) dX9_empty_57 k11 (gA_ok e14) e13 ?_
      refine J.aload_n (pc := 58) dX9_empty_58 rfl 0 rfl ?_
      obtain ⟨_, e15, h⟩ := bnd h
      obtain ⟨a16, e17, h⟩ := bnd h
      have k18 : (kd a16).1 = 0 := gR_k e17
      refine J.fR (pc := 59) dX9_empty_59 fl_RX9_32 k0 (gA_ok e15) rfl e17 ?_
      refine J.iload_n (pc := 62) dX9_empty_62 rfl 1 rfl ?_
      refine J.iconst (pc := 63) dX9_empty_63 ic_0 ?_
      obtain ⟨_, e21, h⟩ := bnd h
      obtain ⟨μ19, e20, h⟩ := bnd h
      refine J.wI (pc := 64) dX9_empty_64 k18 (gA_ok e21) e20 ?_
      refine J.iinc (pc := 65) (j := 1) ([(1, .int (v1 + (1 : Int32))), (0, .ref v0)]) dX9_empty_65 rfl (iincv ic_1) (Nat.le_of_ble_eq_true rfl) rfl ?_
      refine J.goto (pc := 68) (tgt := 38) dX9_empty_68 (by decide) ?_
      refine J.pick [1, 0] rfl ?_
      exact ih v0 (v1 + (1 : Int32)) μ19 h k0
    · refine J.cge (pc := 41) (tgt := 71) dX9_empty_41 (by decide) (fun q => absurd q hc) (fun _ => ?_)
      cases h
      exact J.vret (pc := 71) dX9_empty_71 rfl ⟨rfl, rfl⟩
def fX9_emptyA_17  : Nat → Nat → Int32 → Mem → Option (Mem)
  | 0, _, _, _ => none
  | n + 1, v0, v1, μ =>
    if v1 < (48 : Int32) then
      (gA μ v0).bind fun _u =>
      (gR μ v0 3 0).bind fun a2 =>
      (gA μ a2).bind fun _u =>
      (stI μ a2 v1 (0 : Int32)).bind fun μ5 =>
      (fX9_emptyA_17 n) v0 (v1 + (1 : Int32)) μ5
    else
      (fX9_emptyA_38 fuel) v0 (0 : Int32) μ
set_option maxHeartbeats 4000000 in
theorem tX9_emptyA_17 {ω : Wd} {l : Launch} (d : Nat) {res : Mem} : ∀ n : Nat, ∀ (v0 : Nat) (v1 : Int32) (μ : Mem), fX9_emptyA_17 n v0 v1 μ = some res → (kd v0).1 = 19 → J ω l mX9_emptyA d 17 [(0, .ref v0), (1, .int v1)] [] μ 0 0 (PA (.inl none) res) := by
  intro n
  induction n with
  | zero =>
    intro v0 v1 μ h k0
    have h9 : (none : Option (Mem)) = some res := h
    cases h9
  | succ n ih =>
    intro v0 v1 μ h k0
    unfold fX9_emptyA_17 at h
    refine J.iload_n (pc := 17) dX9_empty_17 rfl 1 rfl ?_
    refine J.bipush (pc := 18) dX9_empty_18 ib_48 ?_
    rcases ifc h with ⟨hc, h⟩ | ⟨hc, h⟩
    · refine J.cge (pc := 20) (tgt := 36) dX9_empty_20 (by decide) (fun _ => ?_) (fun q => absurd hc q)
      refine J.aload_n (pc := 23) dX9_empty_23 rfl 0 rfl ?_
      obtain ⟨_, e1, h⟩ := bnd h
      obtain ⟨a2, e3, h⟩ := bnd h
      have k4 : (kd a2).1 = 0 := gR_k e3
      refine J.fR (pc := 24) dX9_empty_24 fl_RX9_22 k0 (gA_ok e1) rfl e3 ?_
      refine J.iload_n (pc := 27) dX9_empty_27 rfl 1 rfl ?_
      refine J.iconst (pc := 28) dX9_empty_28 ic_0 ?_
      obtain ⟨_, e7, h⟩ := bnd h
      obtain ⟨μ5, e6, h⟩ := bnd h
      refine J.wI (pc := 29) dX9_empty_29 k4 (gA_ok e7) e6 ?_
      refine J.iinc (pc := 30) (j := 1) ([(1, .int (v1 + (1 : Int32))), (0, .ref v0)]) dX9_empty_30 rfl (iincv ic_1) (Nat.le_of_ble_eq_true rfl) rfl ?_
      refine J.goto (pc := 33) (tgt := 17) dX9_empty_33 (by decide) ?_
      refine J.pick [1, 0] rfl ?_
      exact ih v0 (v1 + (1 : Int32)) μ5 h k0
    · refine J.cge (pc := 20) (tgt := 36) dX9_empty_20 (by decide) (fun q => absurd q hc) (fun _ => ?_)
      refine J.iconst (pc := 36) dX9_empty_36 ic_0 ?_
      refine J.istore_n (pc := 37) ([(1, .int (0 : Int32)), (0, .ref v0)]) dX9_empty_37 rfl (Nat.le_of_ble_eq_true rfl) rfl ?_
      refine J.pick [1, 0] rfl ?_
      exact (tX9_emptyA_38 d fuel) v0 (0 : Int32) μ h k0
def fX9_emptyA (v0 : Nat) (μ : Mem) : Option (Mem) :=
  (ptI μ v0 0 (0 : Int32)).bind fun μ1 =>
  (ptL μ1 v0 1 (0 : Int64)).bind fun μ3 =>
  (ptL μ3 v0 2 (0 : Int64)).bind fun μ5 =>
  (fX9_emptyA_17 fuel) v0 (0 : Int32) μ5
set_option maxHeartbeats 4000000 in
theorem tX9_emptyA {ω : Wd} {l : Launch} (d : Nat) {v0 : Nat} {μ : Mem} {res : Mem} (h : fX9_emptyA v0 μ = some res) (k0 : (kd v0).1 = 19) : Ct ω l mX9_emptyA d [.ref v0] μ 0 0 (PA (.inl none) res) := by
  refine Ct.of pn_RX9 (Nat.le_of_ble_eq_true rfl) ?_
  show J ω l mX9_emptyA d 0 [(0, .ref v0)] [] μ 0 0 _
  unfold fX9_emptyA at h
  refine J.aload_n (pc := 0) dX9_empty_0 rfl 0 rfl ?_
  refine J.iconst (pc := 1) dX9_empty_1 ic_0 ?_
  obtain ⟨μ1, e2, h⟩ := bnd h
  refine J.qI (pc := 2) dX9_empty_2 fl_RX9_9 k0 (ptI_ok e2).1 rfl rfl (ptI_ok e2).2 ?_
  refine J.aload_n (pc := 5) dX9_empty_5 rfl 0 rfl ?_
  refine J.lconst (pc := 6) dX9_empty_6 lc_0 ?_
  obtain ⟨μ3, e4, h⟩ := bnd h
  refine J.qL (pc := 7) dX9_empty_7 fl_RX9_15 k0 (ptL_ok e4).1 rfl rfl (ptL_ok e4).2 ?_
  refine J.aload_n (pc := 10) dX9_empty_10 rfl 0 rfl ?_
  refine J.lconst (pc := 11) dX9_empty_11 lc_0 ?_
  obtain ⟨μ5, e6, h⟩ := bnd h
  refine J.qL (pc := 12) dX9_empty_12 fl_RX9_19 k0 (ptL_ok e6).1 rfl rfl (ptL_ok e6).2 ?_
  refine J.iconst (pc := 15) dX9_empty_15 ic_0 ?_
  refine J.istore_n (pc := 16) ([(1, .int (0 : Int32)), (0, .ref v0)]) dX9_empty_16 rfl (Nat.le_of_ble_eq_true rfl) rfl ?_
  refine J.pick [1, 0] rfl ?_
  exact (tX9_emptyA_17 d fuel) v0 (0 : Int32) μ5 h k0
def fX1_empty_17  : Nat → Nat → Int32 → Mem → Option (Mem)
  | 0, _, _, _ => none
  | n + 1, v0, v1, μ =>
    if v1 < (6 : Int32) then
      (gR μ v0 3 0).bind fun a1 =>
      (stI μ a1 v1 (0 : Int32)).bind fun μ4 =>
      (fX1_empty_17 n) v0 (v1 + (1 : Int32)) μ4
    else
      (gR μ v0 5 17).bind fun a7 =>
      (some (sI μ a7 1 (0 : Int32))).bind fun μ10 =>
      (gR μ10 v0 6 17).bind fun a13 =>
      (some (sI μ10 a13 1 (0 : Int32))).bind fun μ16 =>
      (gR μ16 v0 7 19).bind fun a19 =>
      (fX9_empty a19 μ16).bind fun μ23 =>
      some μ23
set_option maxHeartbeats 4000000 in
theorem tX1_empty_17 {ω : Wd} {l : Launch} (d : Nat) {res : Mem} : ∀ n : Nat, ∀ (v0 : Nat) (v1 : Int32) (μ : Mem), fX1_empty_17 n v0 v1 μ = some res → μ.1 = NN → (kd v0).1 = 11 → J ω l mX1_empty (d + 1) 17 [(0, .ref v0), (1, .int v1)] [] μ 0 0 (PE (.inl none) res True) := by
  intro n
  induction n with
  | zero =>
    intro v0 v1 μ h hN k0
    have h9 : (none : Option (Mem)) = some res := h
    cases h9
  | succ n ih =>
    intro v0 v1 μ h hN k0
    unfold fX1_empty_17 at h
    refine J.iload_n (pc := 17) dX1_empty_17 rfl 1 rfl ?_
    refine J.bipush (pc := 18) dX1_empty_18 ib_6 ?_
    rcases ifc h with ⟨hc, h⟩ | ⟨hc, h⟩
    · refine J.cge (pc := 20) (tgt := 36) dX1_empty_20 (by decide) (fun _ => ?_) (fun q => absurd hc q)
      refine J.aload_n (pc := 23) dX1_empty_23 rfl 0 rfl ?_
      obtain ⟨a1, e2, h⟩ := bnd h
      have k3 : (kd a1).1 = 0 := gR_k e2
      refine J.fR (pc := 24) dX1_empty_24 fl_RX1_22 k0 (okN hN k0 (by decide)) rfl e2 ?_
      refine J.iload_n (pc := 27) dX1_empty_27 rfl 1 rfl ?_
      refine J.iconst (pc := 28) dX1_empty_28 ic_0 ?_
      obtain ⟨μ4, e5, h⟩ := bnd h
      have hN6 : μ4.1 = NN := stI_N e5 hN
      refine J.wI (pc := 29) dX1_empty_29 k3 (okN hN k3 (by decide)) e5 ?_
      refine J.iinc (pc := 30) (j := 1) ([(1, .int (v1 + (1 : Int32))), (0, .ref v0)]) dX1_empty_30 rfl (iincv ic_1) (Nat.le_of_ble_eq_true rfl) rfl ?_
      refine J.goto (pc := 33) (tgt := 17) dX1_empty_33 (by decide) ?_
      refine J.pick [1, 0] rfl ?_
      exact ih v0 (v1 + (1 : Int32)) μ4 h hN6 k0
    · refine J.cge (pc := 20) (tgt := 36) dX1_empty_20 (by decide) (fun q => absurd q hc) (fun _ => ?_)
      refine J.aload_n (pc := 36) dX1_empty_36 rfl 0 rfl ?_
      obtain ⟨a7, e8, h⟩ := bnd h
      have k9 : (kd a7).1 = 17 := gR_k e8
      refine J.fR (pc := 37) dX1_empty_37 fl_RX1_32 k0 (okN hN k0 (by decide)) rfl e8 ?_
      refine J.iconst (pc := 40) dX1_empty_40 ic_0 ?_
      obtain ⟨μ10, e11, h⟩ := bnd h
      have hN12 : μ10.1 = NN := smN e11 hN
      refine J.qI (pc := 41) dX1_empty_41 fl_RX1_46 k9 (okN hN k9 (by decide)) rfl rfl e11 ?_
      refine J.aload_n (pc := 44) dX1_empty_44 rfl 0 rfl ?_
      obtain ⟨a13, e14, h⟩ := bnd h
      have k15 : (kd a13).1 = 17 := gR_k e14
      refine J.fR (pc := 45) dX1_empty_45 fl_RX1_36 k0 (okN hN12 k0 (by decide)) rfl e14 ?_
      refine J.iconst (pc := 48) dX1_empty_48 ic_0 ?_
      obtain ⟨μ16, e17, h⟩ := bnd h
      have hN18 : μ16.1 = NN := smN e17 hN12
      refine J.qI (pc := 49) dX1_empty_49 fl_RX1_46 k15 (okN hN12 k15 (by decide)) rfl rfl e17 ?_
      refine J.aload_n (pc := 52) dX1_empty_52 rfl 0 rfl ?_
      obtain ⟨a19, e20, h⟩ := bnd h
      have k21 : (kd a19).1 = 19 := gR_k e20
      refine J.fR (pc := 53) dX1_empty_53 fl_RX1_42 k0 (okN hN18 k0 (by decide)) rfl e20 ?_
      obtain ⟨μ23, e22, h⟩ := bnd h
      refine J.callV (Y := mX1_empty) (Z := mX9_empty) (pc := 56) (st := []) (k2 := 0) (n2 := 0) dX1_empty_56 ml_RX1_49 mo_X9_empty mv_X9_empty rfl (tX9_empty d e22 hN18 k21) k21 (okN hN18 k21 (by decide)).1 (okN hN18 k21 (by decide)).2 cq_9 (by decide) rfl rfl (Nat.le_of_ble_eq_true rfl) (by decide) (by decide) (fun v ν hp => ?_) (fun i ν hp => nrm hp.1)
      obtain ⟨rfl, rfl, hN24, hb25⟩ := QEl hp
      show J _ _ _ _ 59 _ ([]) _ _ _ _
      cases h
      exact J.vret (pc := 59) dX1_empty_59 rfl ⟨rfl, rfl, hN24, trivial⟩
def fX1_empty (v0 : Nat) (μ : Mem) : Option (Mem) :=
  (some (sI μ v0 0 (0 : Int32))).bind fun μ1 =>
  (some (sI μ1 v0 1 (0 : Int32))).bind fun μ4 =>
  (some (sL μ4 v0 2 (0 : Int64))).bind fun μ7 =>
  (fX1_empty_17 fuel) v0 (0 : Int32) μ7
set_option maxHeartbeats 4000000 in
theorem tX1_empty {ω : Wd} {l : Launch} (d : Nat) {v0 : Nat} {μ : Mem} {res : Mem} (h : fX1_empty v0 μ = some res) (hN : μ.1 = NN) (k0 : (kd v0).1 = 11) : Ct ω l mX1_empty (d + 1) [.ref v0] μ 0 0 (PE (.inl none) res True) := by
  refine Ct.of pn_RX1 (Nat.le_of_ble_eq_true rfl) ?_
  show J ω l mX1_empty (d + 1) 0 [(0, .ref v0)] [] μ 0 0 _
  unfold fX1_empty at h
  refine J.aload_n (pc := 0) dX1_empty_0 rfl 0 rfl ?_
  refine J.iconst (pc := 1) dX1_empty_1 ic_0 ?_
  obtain ⟨μ1, e2, h⟩ := bnd h
  have hN3 : μ1.1 = NN := smN e2 hN
  refine J.qI (pc := 2) dX1_empty_2 fl_RX1_9 k0 (okN hN k0 (by decide)) rfl rfl e2 ?_
  refine J.aload_n (pc := 5) dX1_empty_5 rfl 0 rfl ?_
  refine J.iconst (pc := 6) dX1_empty_6 ic_0 ?_
  obtain ⟨μ4, e5, h⟩ := bnd h
  have hN6 : μ4.1 = NN := smN e5 hN3
  refine J.qI (pc := 7) dX1_empty_7 fl_RX1_15 k0 (okN hN3 k0 (by decide)) rfl rfl e5 ?_
  refine J.aload_n (pc := 10) dX1_empty_10 rfl 0 rfl ?_
  refine J.lconst (pc := 11) dX1_empty_11 lc_0 ?_
  obtain ⟨μ7, e8, h⟩ := bnd h
  have hN9 : μ7.1 = NN := smN e8 hN6
  refine J.qL (pc := 12) dX1_empty_12 fl_RX1_18 k0 (okN hN6 k0 (by decide)) rfl rfl e8 ?_
  refine J.iconst (pc := 15) dX1_empty_15 ic_0 ?_
  refine J.istore_n (pc := 16) ([(1, .int (0 : Int32)), (0, .ref v0)]) dX1_empty_16 rfl (Nat.le_of_ble_eq_true rfl) rfl ?_
  refine J.pick [1, 0] rfl ?_
  exact (tX1_empty_17 d fuel) v0 (0 : Int32) μ7 h hN9 k0
def fX6_isBlank (v0 : Int32) : Int32 :=
  if v0 = (32 : Int32) then
    (1 : Int32)
  else
    if v0 = (10 : Int32) then
      (1 : Int32)
    else
      (0 : Int32)
set_option maxHeartbeats 4000000 in
theorem tX6_isBlank {ω : Wd} {l : Launch} (d : Nat) (v0 : Int32) (μ : Mem) (hN : μ.1 = NN) : Ct ω l mX6_isBlank d [.int v0] μ 0 0 (PE (.inl (some (.int (fX6_isBlank v0)))) μ (isB (fX6_isBlank v0))) := by
  refine Ct.of pn_RX6 (Nat.le_of_ble_eq_true rfl) ?_
  show J ω l mX6_isBlank d 0 [(0, .int v0)] [] μ 0 0 _
  generalize h : fX6_isBlank v0 = res
  unfold fX6_isBlank at h
  refine J.iload_n (pc := 0) dX6_isBlank_0 rfl 0 rfl ?_
  refine J.bipush (pc := 1) dX6_isBlank_1 ib_32 ?_
  rcases ifc h with ⟨hc, h⟩ | ⟨hc, h⟩
  · refine J.ceq (pc := 3) (tgt := 12) dX6_isBlank_3 (by decide) (fun _ => ?_) (fun q => absurd hc q)
    refine J.iconst (pc := 12) dX6_isBlank_12 ic_1 ?_
    refine J.goto (pc := 13) (tgt := 17) dX6_isBlank_13 (by decide) ?_
    cases h
    exact J.zret (pc := 17) dX6_isBlank_17 rfl (narB (Or.inr rfl)) ⟨rfl, rfl, hN, (Or.inr rfl)⟩
  · refine J.ceq (pc := 3) (tgt := 12) dX6_isBlank_3 (by decide) (fun q => absurd q hc) (fun _ => ?_)
    refine J.iload_n (pc := 6) dX6_isBlank_6 rfl 0 rfl ?_
    refine J.bipush (pc := 7) dX6_isBlank_7 ib_10 ?_
    rcases ifc h with ⟨hc, h⟩ | ⟨hc, h⟩
    · refine J.cne (pc := 9) (tgt := 16) dX6_isBlank_9 (by decide) (fun _ => ?_) (fun q => absurd hc q)
      refine J.iconst (pc := 12) dX6_isBlank_12 ic_1 ?_
      refine J.goto (pc := 13) (tgt := 17) dX6_isBlank_13 (by decide) ?_
      cases h
      exact J.zret (pc := 17) dX6_isBlank_17 rfl (narB (Or.inr rfl)) ⟨rfl, rfl, hN, (Or.inr rfl)⟩
    · refine J.cne (pc := 9) (tgt := 16) dX6_isBlank_9 (by decide) (fun q => absurd q hc) (fun _ => ?_)
      refine J.iconst (pc := 16) dX6_isBlank_16 ic_0 ?_
      cases h
      exact J.zret (pc := 17) dX6_isBlank_17 rfl (narB (Or.inl rfl)) ⟨rfl, rfl, hN, (Or.inl rfl)⟩
def fX6_isDigit (v0 : Int32) : Int32 :=
  if v0 < (48 : Int32) then
    (0 : Int32)
  else
    if (57 : Int32) < v0 then
      (0 : Int32)
    else
      (1 : Int32)
set_option maxHeartbeats 4000000 in
theorem tX6_isDigit {ω : Wd} {l : Launch} (d : Nat) (v0 : Int32) (μ : Mem) (hN : μ.1 = NN) : Ct ω l mX6_isDigit d [.int v0] μ 0 0 (PE (.inl (some (.int (fX6_isDigit v0)))) μ (isB (fX6_isDigit v0))) := by
  refine Ct.of pn_RX6 (Nat.le_of_ble_eq_true rfl) ?_
  show J ω l mX6_isDigit d 0 [(0, .int v0)] [] μ 0 0 _
  generalize h : fX6_isDigit v0 = res
  unfold fX6_isDigit at h
  refine J.iload_n (pc := 0) dX6_isDigit_0 rfl 0 rfl ?_
  refine J.bipush (pc := 1) dX6_isDigit_1 ib_48 ?_
  rcases ifc h with ⟨hc, h⟩ | ⟨hc, h⟩
  · refine J.clt (pc := 3) (tgt := 16) dX6_isDigit_3 (by decide) (fun _ => ?_) (fun q => absurd hc q)
    refine J.iconst (pc := 16) dX6_isDigit_16 ic_0 ?_
    cases h
    exact J.zret (pc := 17) dX6_isDigit_17 rfl (narB (Or.inl rfl)) ⟨rfl, rfl, hN, (Or.inl rfl)⟩
  · refine J.clt (pc := 3) (tgt := 16) dX6_isDigit_3 (by decide) (fun q => absurd q hc) (fun _ => ?_)
    refine J.iload_n (pc := 6) dX6_isDigit_6 rfl 0 rfl ?_
    refine J.bipush (pc := 7) dX6_isDigit_7 ib_57 ?_
    rcases ifc h with ⟨hc, h⟩ | ⟨hc, h⟩
    · refine J.cgt (pc := 9) (tgt := 16) dX6_isDigit_9 (by decide) (fun _ => ?_) (fun q => absurd hc q)
      refine J.iconst (pc := 16) dX6_isDigit_16 ic_0 ?_
      cases h
      exact J.zret (pc := 17) dX6_isDigit_17 rfl (narB (Or.inl rfl)) ⟨rfl, rfl, hN, (Or.inl rfl)⟩
    · refine J.cgt (pc := 9) (tgt := 16) dX6_isDigit_9 (by decide) (fun q => absurd q hc) (fun _ => ?_)
      refine J.iconst (pc := 12) dX6_isDigit_12 ic_1 ?_
      refine J.goto (pc := 13) (tgt := 17) dX6_isDigit_13 (by decide) ?_
      cases h
      exact J.zret (pc := 17) dX6_isDigit_17 rfl (narB (Or.inr rfl)) ⟨rfl, rfl, hN, (Or.inr rfl)⟩
def fX6_isLetter (v0 : Int32) : Int32 :=
  if v0 < (97 : Int32) then
    (0 : Int32)
  else
    if (122 : Int32) < v0 then
      (0 : Int32)
    else
      (1 : Int32)
set_option maxHeartbeats 4000000 in
theorem tX6_isLetter {ω : Wd} {l : Launch} (d : Nat) (v0 : Int32) (μ : Mem) (hN : μ.1 = NN) : Ct ω l mX6_isLetter d [.int v0] μ 0 0 (PE (.inl (some (.int (fX6_isLetter v0)))) μ (isB (fX6_isLetter v0))) := by
  refine Ct.of pn_RX6 (Nat.le_of_ble_eq_true rfl) ?_
  show J ω l mX6_isLetter d 0 [(0, .int v0)] [] μ 0 0 _
  generalize h : fX6_isLetter v0 = res
  unfold fX6_isLetter at h
  refine J.iload_n (pc := 0) dX6_isLetter_0 rfl 0 rfl ?_
  refine J.bipush (pc := 1) dX6_isLetter_1 ib_97 ?_
  rcases ifc h with ⟨hc, h⟩ | ⟨hc, h⟩
  · refine J.clt (pc := 3) (tgt := 16) dX6_isLetter_3 (by decide) (fun _ => ?_) (fun q => absurd hc q)
    refine J.iconst (pc := 16) dX6_isLetter_16 ic_0 ?_
    cases h
    exact J.zret (pc := 17) dX6_isLetter_17 rfl (narB (Or.inl rfl)) ⟨rfl, rfl, hN, (Or.inl rfl)⟩
  · refine J.clt (pc := 3) (tgt := 16) dX6_isLetter_3 (by decide) (fun q => absurd q hc) (fun _ => ?_)
    refine J.iload_n (pc := 6) dX6_isLetter_6 rfl 0 rfl ?_
    refine J.bipush (pc := 7) dX6_isLetter_7 ib_122 ?_
    rcases ifc h with ⟨hc, h⟩ | ⟨hc, h⟩
    · refine J.cgt (pc := 9) (tgt := 16) dX6_isLetter_9 (by decide) (fun _ => ?_) (fun q => absurd hc q)
      refine J.iconst (pc := 16) dX6_isLetter_16 ic_0 ?_
      cases h
      exact J.zret (pc := 17) dX6_isLetter_17 rfl (narB (Or.inl rfl)) ⟨rfl, rfl, hN, (Or.inl rfl)⟩
    · refine J.cgt (pc := 9) (tgt := 16) dX6_isLetter_9 (by decide) (fun q => absurd q hc) (fun _ => ?_)
      refine J.iconst (pc := 12) dX6_isLetter_12 ic_1 ?_
      refine J.goto (pc := 13) (tgt := 17) dX6_isLetter_13 (by decide) ?_
      cases h
      exact J.zret (pc := 17) dX6_isLetter_17 rfl (narB (Or.inr rfl)) ⟨rfl, rfl, hN, (Or.inr rfl)⟩
def fX6_isSign (v0 : Int32) (μ : Mem) : Option (Int32) :=
  if 0 < v0 then
    if v0 < (128 : Int32) then
      (fJ0_indexOf_0f7a4 2 ((v0.toUInt32 % 65536).toInt32) μ).bind fun r2 =>
      if r2 < 0 then
        some (0 : Int32)
      else
        some (1 : Int32)
    else
      some (0 : Int32)
  else
    some (0 : Int32)
set_option maxHeartbeats 4000000 in
theorem tX6_isSign {ω : Wd} {l : Launch} (d : Nat) {v0 : Int32} {μ : Mem} {res : Int32} (h : fX6_isSign v0 μ = some res) (hN : μ.1 = NN) : Ct ω l mX6_isSign (d + 4) [.int v0] μ 0 0 (PE (.inl (some (.int res))) μ (isB res)) := by
  refine Ct.of pn_RX6 (Nat.le_of_ble_eq_true rfl) ?_
  show J ω l mX6_isSign (d + 4) 0 [(0, .int v0)] [] μ 0 0 _
  unfold fX6_isSign at h
  refine J.iload_n (pc := 0) dX6_isSign_0 rfl 0 rfl ?_
  rcases ifc h with ⟨hc, h⟩ | ⟨hc, h⟩
  · refine J.zle (pc := 1) (tgt := 25) dX6_isSign_1 (by decide) (fun _ => ?_) (fun q => absurd hc q)
    refine J.iload_n (pc := 4) dX6_isSign_4 rfl 0 rfl ?_
    refine J.sipush (pc := 5) dX6_isSign_5 is_128 ?_
    rcases ifc h with ⟨hc, h⟩ | ⟨hc, h⟩
    · refine J.cge (pc := 8) (tgt := 25) dX6_isSign_8 (by decide) (fun _ => ?_) (fun q => absurd hc q)
      refine J.ldcS (pc := 11) (i := 2) dX6_isSign_11 rfl ?_
      refine J.iload_n (pc := 13) dX6_isSign_13 rfl 0 rfl ?_
      refine J.i2c (pc := 14) dX6_isSign_14 ?_
      obtain ⟨r2, e1, h⟩ := bnd h
      refine J.callT (Y := mX6_isSign) (Z := mJ0_indexOf_0f7a4) (pc := 15) (st := []) (k2 := 0) (n2 := 0) dX6_isSign_15 ml_RX6_92 mo_J0_indexOf_0f7a4 mv_J0_indexOf_0f7a4 rfl rfl (by decide) (tJ0_indexOf_0f7a4 d e1 hN (by decide)) rfl rfl (Nat.le_of_ble_eq_true rfl) (by decide) (by decide) (fun v ν hp => ?_) (fun i ν hp => nrm hp.1)
      obtain ⟨rfl, rfl, hN3, hb4⟩ := QEl hp
      show J _ _ _ _ 18 _ ([.int r2]) _ _ _ _
      rcases ifc h with ⟨hc, h⟩ | ⟨hc, h⟩
      · refine J.zlt (pc := 18) (tgt := 25) dX6_isSign_18 (by decide) (fun _ => ?_) (fun q => absurd hc q)
        refine J.iconst (pc := 25) dX6_isSign_25 ic_0 ?_
        cases h
        exact J.zret (pc := 26) dX6_isSign_26 rfl (narB (Or.inl rfl)) ⟨rfl, rfl, hN3, (Or.inl rfl)⟩
      · refine J.zlt (pc := 18) (tgt := 25) dX6_isSign_18 (by decide) (fun q => absurd q hc) (fun _ => ?_)
        refine J.iconst (pc := 21) dX6_isSign_21 ic_1 ?_
        refine J.goto (pc := 22) (tgt := 26) dX6_isSign_22 (by decide) ?_
        cases h
        exact J.zret (pc := 26) dX6_isSign_26 rfl (narB (Or.inr rfl)) ⟨rfl, rfl, hN3, (Or.inr rfl)⟩
    · refine J.cge (pc := 8) (tgt := 25) dX6_isSign_8 (by decide) (fun q => absurd q hc) (fun _ => ?_)
      refine J.iconst (pc := 25) dX6_isSign_25 ic_0 ?_
      cases h
      exact J.zret (pc := 26) dX6_isSign_26 rfl (narB (Or.inl rfl)) ⟨rfl, rfl, hN, (Or.inl rfl)⟩
  · refine J.zle (pc := 1) (tgt := 25) dX6_isSign_1 (by decide) (fun q => absurd q hc) (fun _ => ?_)
    refine J.iconst (pc := 25) dX6_isSign_25 ic_0 ?_
    cases h
    exact J.zret (pc := 26) dX6_isSign_26 rfl (narB (Or.inl rfl)) ⟨rfl, rfl, hN, (Or.inl rfl)⟩
def fX6_readNumber_12  : Nat → Nat → Mem → Option (Mem)
  | 0, _, _ => none
  | n + 1, v0, μ =>
    if (μ.2.1 v0 5) < (μ.2.1 v0 3) then
      (gR μ v0 2 0).bind fun a1 =>
      (ldI μ a1 (μ.2.1 v0 5)).bind fun x4 =>
      if (fX6_isDigit x4) = 0 then
        some μ
      else
        if ((μ.2.1 v0 5) - (μ.2.1 v0 4)) < (4 : Int32) then
          (gR μ v0 2 0).bind fun a9 =>
          (ldI μ a9 (μ.2.1 v0 5)).bind fun x12 =>
          (some (sI μ v0 7 ((((10 : Int32) * (μ.2.1 v0 7)) + x12) - (48 : Int32)))).bind fun μ14 =>
          (some (sI μ14 v0 5 ((μ14.2.1 v0 5) + (1 : Int32)))).bind fun μ17 =>
          (fX6_readNumber_12 n) v0 μ17
        else
          (some (sI μ v0 7 (μ.2.1 v0 7))).bind fun μ20 =>
          (some (sI μ20 v0 5 ((μ20.2.1 v0 5) + (1 : Int32)))).bind fun μ23 =>
          (fX6_readNumber_12 n) v0 μ23
    else
      some μ
set_option maxHeartbeats 4000000 in
theorem tX6_readNumber_12 {ω : Wd} {l : Launch} (d : Nat) {res : Mem} : ∀ n : Nat, ∀ (v0 : Nat) (μ : Mem), fX6_readNumber_12 n v0 μ = some res → μ.1 = NN → (kd v0).1 = 16 → J ω l mX6_readNumber (d + 1) 12 [(0, .ref v0)] [] μ 0 0 (PE (.inl none) res True) := by
  intro n
  induction n with
  | zero =>
    intro v0 μ h hN k0
    have h9 : (none : Option (Mem)) = some res := h
    cases h9
  | succ n ih =>
    intro v0 μ h hN k0
    unfold fX6_readNumber_12 at h
    refine J.aload_n (pc := 12) dX6_readNumber_12 rfl 0 rfl ?_
    refine J.fI (pc := 13) dX6_readNumber_13 fl_RX6_28 k0 (okN hN k0 (by decide)) (Or.inl rfl) ?_
    refine J.aload_n (pc := 16) dX6_readNumber_16 rfl 0 rfl ?_
    refine J.fI (pc := 17) dX6_readNumber_17 fl_RX6_22 k0 (okN hN k0 (by decide)) (Or.inl rfl) ?_
    rcases ifc h with ⟨hc, h⟩ | ⟨hc, h⟩
    · refine J.cge (pc := 20) (tgt := 95) dX6_readNumber_20 (by decide) (fun _ => ?_) (fun q => absurd hc q)
      refine J.aload_n (pc := 23) dX6_readNumber_23 rfl 0 rfl ?_
      obtain ⟨a1, e2, h⟩ := bnd h
      have k3 : (kd a1).1 = 0 := gR_k e2
      refine J.fR (pc := 24) dX6_readNumber_24 fl_RX6_18 k0 (okN hN k0 (by decide)) rfl e2 ?_
      refine J.aload_n (pc := 27) dX6_readNumber_27 rfl 0 rfl ?_
      refine J.fI (pc := 28) dX6_readNumber_28 fl_RX6_28 k0 (okN hN k0 (by decide)) (Or.inl rfl) ?_
      obtain ⟨x4, e5, h⟩ := bnd h
      refine J.aI (pc := 31) dX6_readNumber_31 k3 (okN hN k3 (by decide)) e5 ?_
      refine J.callS (Y := mX6_readNumber) (Z := mX6_isDigit) (pc := 32) (st := []) (k2 := 0) (n2 := 0) dX6_readNumber_32 ml_RX6_81 mo_X6_isDigit ms_X6_isDigit rfl (tX6_isDigit d x4 μ hN ) rfl rfl (Nat.le_of_ble_eq_true rfl) (by decide) (by decide) (fun v ν hp => ?_) (fun i ν hp => nrm hp.1)
      obtain ⟨rfl, rfl, hN7, hb8⟩ := QEl hp
      show J _ _ _ _ 35 _ ([.int (fX6_isDigit x4)]) _ _ _ _
      rcases ifc h with ⟨hc, h⟩ | ⟨hc, h⟩
      · refine J.zeq (pc := 35) (tgt := 95) dX6_readNumber_35 (by decide) (fun _ => ?_) (fun q => absurd hc q)
        cases h
        exact J.vret (pc := 95) dX6_readNumber_95 rfl ⟨rfl, rfl, hN7, trivial⟩
      · refine J.zeq (pc := 35) (tgt := 95) dX6_readNumber_35 (by decide) (fun q => absurd q hc) (fun _ => ?_)
        refine J.aload_n (pc := 38) dX6_readNumber_38 rfl 0 rfl ?_
        refine J.aload_n (pc := 39) dX6_readNumber_39 rfl 0 rfl ?_
        refine J.fI (pc := 40) dX6_readNumber_40 fl_RX6_28 k0 (okN hN7 k0 (by decide)) (Or.inl rfl) ?_
        refine J.aload_n (pc := 43) dX6_readNumber_43 rfl 0 rfl ?_
        refine J.fI (pc := 44) dX6_readNumber_44 fl_RX6_25 k0 (okN hN7 k0 (by decide)) (Or.inl rfl) ?_
        refine J.isub (pc := 47) dX6_readNumber_47 ?_
        refine J.iconst (pc := 48) dX6_readNumber_48 ic_4 ?_
        rcases ifc h with ⟨hc, h⟩ | ⟨hc, h⟩
        · refine J.cge (pc := 49) (tgt := 75) dX6_readNumber_49 (by decide) (fun _ => ?_) (fun q => absurd hc q)
          refine J.bipush (pc := 52) dX6_readNumber_52 ib_10 ?_
          refine J.aload_n (pc := 54) dX6_readNumber_54 rfl 0 rfl ?_
          refine J.fI (pc := 55) dX6_readNumber_55 fl_RX6_34 k0 (okN hN7 k0 (by decide)) (Or.inl rfl) ?_
          refine J.imul (pc := 58) dX6_readNumber_58 ?_
          refine J.aload_n (pc := 59) dX6_readNumber_59 rfl 0 rfl ?_
          obtain ⟨a9, e10, h⟩ := bnd h
          have k11 : (kd a9).1 = 0 := gR_k e10
          refine J.fR (pc := 60) dX6_readNumber_60 fl_RX6_18 k0 (okN hN7 k0 (by decide)) rfl e10 ?_
          refine J.aload_n (pc := 63) dX6_readNumber_63 rfl 0 rfl ?_
          refine J.fI (pc := 64) dX6_readNumber_64 fl_RX6_28 k0 (okN hN7 k0 (by decide)) (Or.inl rfl) ?_
          obtain ⟨x12, e13, h⟩ := bnd h
          refine J.aI (pc := 67) dX6_readNumber_67 k11 (okN hN7 k11 (by decide)) e13 ?_
          refine J.iadd (pc := 68) dX6_readNumber_68 ?_
          refine J.bipush (pc := 69) dX6_readNumber_69 ib_48 ?_
          refine J.isub (pc := 71) dX6_readNumber_71 ?_
          refine J.goto (pc := 72) (tgt := 79) dX6_readNumber_72 (by decide) ?_
          obtain ⟨μ14, e15, h⟩ := bnd h
          have hN16 : μ14.1 = NN := smN e15 hN7
          refine J.qI (pc := 79) dX6_readNumber_79 fl_RX6_34 k0 (okN hN7 k0 (by decide)) rfl rfl e15 ?_
          refine J.aload_n (pc := 82) dX6_readNumber_82 rfl 0 rfl ?_
          refine J.dup (pc := 83) dX6_readNumber_83 rfl ?_
          refine J.fI (pc := 84) dX6_readNumber_84 fl_RX6_28 k0 (okN hN16 k0 (by decide)) (Or.inl rfl) ?_
          refine J.iconst (pc := 87) dX6_readNumber_87 ic_1 ?_
          refine J.iadd (pc := 88) dX6_readNumber_88 ?_
          obtain ⟨μ17, e18, h⟩ := bnd h
          have hN19 : μ17.1 = NN := smN e18 hN16
          refine J.qI (pc := 89) dX6_readNumber_89 fl_RX6_28 k0 (okN hN16 k0 (by decide)) rfl rfl e18 ?_
          refine J.goto (pc := 92) (tgt := 12) dX6_readNumber_92 (by decide) ?_
          exact ih v0 μ17 h hN19 k0
        · refine J.cge (pc := 49) (tgt := 75) dX6_readNumber_49 (by decide) (fun q => absurd q hc) (fun _ => ?_)
          refine J.aload_n (pc := 75) dX6_readNumber_75 rfl 0 rfl ?_
          refine J.fI (pc := 76) dX6_readNumber_76 fl_RX6_34 k0 (okN hN7 k0 (by decide)) (Or.inl rfl) ?_
          obtain ⟨μ20, e21, h⟩ := bnd h
          have hN22 : μ20.1 = NN := smN e21 hN7
          refine J.qI (pc := 79) dX6_readNumber_79 fl_RX6_34 k0 (okN hN7 k0 (by decide)) rfl rfl e21 ?_
          refine J.aload_n (pc := 82) dX6_readNumber_82 rfl 0 rfl ?_
          refine J.dup (pc := 83) dX6_readNumber_83 rfl ?_
          refine J.fI (pc := 84) dX6_readNumber_84 fl_RX6_28 k0 (okN hN22 k0 (by decide)) (Or.inl rfl) ?_
          refine J.iconst (pc := 87) dX6_readNumber_87 ic_1 ?_
          refine J.iadd (pc := 88) dX6_readNumber_88 ?_
          obtain ⟨μ23, e24, h⟩ := bnd h
          have hN25 : μ23.1 = NN := smN e24 hN22
          refine J.qI (pc := 89) dX6_readNumber_89 fl_RX6_28 k0 (okN hN22 k0 (by decide)) rfl rfl e24 ?_
          refine J.goto (pc := 92) (tgt := 12) dX6_readNumber_92 (by decide) ?_
          exact ih v0 μ23 h hN25 k0
    · refine J.cge (pc := 20) (tgt := 95) dX6_readNumber_20 (by decide) (fun q => absurd q hc) (fun _ => ?_)
      cases h
      exact J.vret (pc := 95) dX6_readNumber_95 rfl ⟨rfl, rfl, hN, trivial⟩
def fX6_readNumber (v0 : Nat) (μ : Mem) : Option (Mem) :=
  (some (sI μ v0 6 (257 : Int32))).bind fun μ1 =>
  (some (sI μ1 v0 7 (0 : Int32))).bind fun μ4 =>
  (fX6_readNumber_12 fuel) v0 μ4
set_option maxHeartbeats 4000000 in
theorem tX6_readNumber {ω : Wd} {l : Launch} (d : Nat) {v0 : Nat} {μ : Mem} {res : Mem} (h : fX6_readNumber v0 μ = some res) (hN : μ.1 = NN) (k0 : (kd v0).1 = 16) : Ct ω l mX6_readNumber (d + 1) [.ref v0] μ 0 0 (PE (.inl none) res True) := by
  refine Ct.of pn_RX6 (Nat.le_of_ble_eq_true rfl) ?_
  show J ω l mX6_readNumber (d + 1) 0 [(0, .ref v0)] [] μ 0 0 _
  unfold fX6_readNumber at h
  refine J.aload_n (pc := 0) dX6_readNumber_0 rfl 0 rfl ?_
  refine J.sipush (pc := 1) dX6_readNumber_1 is_257 ?_
  obtain ⟨μ1, e2, h⟩ := bnd h
  have hN3 : μ1.1 = NN := smN e2 hN
  refine J.qI (pc := 4) dX6_readNumber_4 fl_RX6_31 k0 (okN hN k0 (by decide)) rfl rfl e2 ?_
  refine J.aload_n (pc := 7) dX6_readNumber_7 rfl 0 rfl ?_
  refine J.iconst (pc := 8) dX6_readNumber_8 ic_0 ?_
  obtain ⟨μ4, e5, h⟩ := bnd h
  have hN6 : μ4.1 = NN := smN e5 hN3
  refine J.qI (pc := 9) dX6_readNumber_9 fl_RX6_34 k0 (okN hN3 k0 (by decide)) rfl rfl e5 ?_
  exact (tX6_readNumber_12 d fuel) v0 μ4 h hN6 k0
