def fX6_readWord_7  : Nat → Nat → Mem → Option (Mem)
  | 0, _, _ => none
  | n + 1, v0, μ =>
    if (μ.2.1 v0 5) < (μ.2.1 v0 3) then
      (gR μ v0 2 0).bind fun a1 =>
      (ldI μ a1 (μ.2.1 v0 5)).bind fun x4 =>
      if (fX6_isLetter x4) = 0 then
        some μ
      else
        (some (sI μ v0 5 ((μ.2.1 v0 5) + (1 : Int32)))).bind fun μ9 =>
        (fX6_readWord_7 n) v0 μ9
    else
      some μ
set_option maxHeartbeats 4000000 in
theorem tX6_readWord_7 {ω : Wd} {l : Launch} (d : Nat) {res : Mem} : ∀ n : Nat, ∀ (v0 : Nat) (μ : Mem), fX6_readWord_7 n v0 μ = some res → μ.1 = NN → (kd v0).1 = 16 → J ω l mX6_readWord (d + 1) 7 [(0, .ref v0)] [] μ 0 0 (PE (.inl none) res True) := by
  intro n
  induction n with
  | zero =>
    intro v0 μ h hN k0
    have h9 : (none : Option (Mem)) = some res := h
    cases h9
  | succ n ih =>
    intro v0 μ h hN k0
    unfold fX6_readWord_7 at h
    refine J.aload_n (pc := 7) dX6_readWord_7 rfl 0 rfl ?_
    refine J.fI (pc := 8) dX6_readWord_8 fl_RX6_28 k0 (okN hN k0 (by decide)) (Or.inl rfl) ?_
    refine J.aload_n (pc := 11) dX6_readWord_11 rfl 0 rfl ?_
    refine J.fI (pc := 12) dX6_readWord_12 fl_RX6_22 k0 (okN hN k0 (by decide)) (Or.inl rfl) ?_
    rcases ifc h with ⟨hc, h⟩ | ⟨hc, h⟩
    · refine J.cge (pc := 15) (tgt := 46) dX6_readWord_15 (by decide) (fun _ => ?_) (fun q => absurd hc q)
      refine J.aload_n (pc := 18) dX6_readWord_18 rfl 0 rfl ?_
      obtain ⟨a1, e2, h⟩ := bnd h
      have k3 : (kd a1).1 = 0 := gR_k e2
      refine J.fR (pc := 19) dX6_readWord_19 fl_RX6_18 k0 (okN hN k0 (by decide)) rfl e2 ?_
      refine J.aload_n (pc := 22) dX6_readWord_22 rfl 0 rfl ?_
      refine J.fI (pc := 23) dX6_readWord_23 fl_RX6_28 k0 (okN hN k0 (by decide)) (Or.inl rfl) ?_
      obtain ⟨x4, e5, h⟩ := bnd h
      refine J.aI (pc := 26) dX6_readWord_26 k3 (okN hN k3 (by decide)) e5 ?_
      refine J.callS (Y := mX6_readWord) (Z := mX6_isLetter) (pc := 27) (st := []) (k2 := 0) (n2 := 0) dX6_readWord_27 ml_RX6_75 mo_X6_isLetter ms_X6_isLetter rfl (tX6_isLetter d x4 μ hN ) rfl rfl (Nat.le_of_ble_eq_true rfl) (by decide) (by decide) (fun v ν hp => ?_) (fun i ν hp => nrm hp.1)
      obtain ⟨rfl, rfl, hN7, hb8⟩ := QEl hp
      show J _ _ _ _ 30 _ ([.int (fX6_isLetter x4)]) _ _ _ _
      rcases ifc h with ⟨hc, h⟩ | ⟨hc, h⟩
      · refine J.zeq (pc := 30) (tgt := 46) dX6_readWord_30 (by decide) (fun _ => ?_) (fun q => absurd hc q)
        cases h
        exact J.vret (pc := 46) dX6_readWord_46 rfl ⟨rfl, rfl, hN7, trivial⟩
      · refine J.zeq (pc := 30) (tgt := 46) dX6_readWord_30 (by decide) (fun q => absurd q hc) (fun _ => ?_)
        refine J.aload_n (pc := 33) dX6_readWord_33 rfl 0 rfl ?_
        refine J.dup (pc := 34) dX6_readWord_34 rfl ?_
        refine J.fI (pc := 35) dX6_readWord_35 fl_RX6_28 k0 (okN hN7 k0 (by decide)) (Or.inl rfl) ?_
        refine J.iconst (pc := 38) dX6_readWord_38 ic_1 ?_
        refine J.iadd (pc := 39) dX6_readWord_39 ?_
        obtain ⟨μ9, e10, h⟩ := bnd h
        have hN11 : μ9.1 = NN := smN e10 hN7
        refine J.qI (pc := 40) dX6_readWord_40 fl_RX6_28 k0 (okN hN7 k0 (by decide)) rfl rfl e10 ?_
        refine J.goto (pc := 43) (tgt := 7) dX6_readWord_43 (by decide) ?_
        exact ih v0 μ9 h hN11 k0
    · refine J.cge (pc := 15) (tgt := 46) dX6_readWord_15 (by decide) (fun q => absurd q hc) (fun _ => ?_)
      cases h
      exact J.vret (pc := 46) dX6_readWord_46 rfl ⟨rfl, rfl, hN, trivial⟩
def fX6_readWord (v0 : Nat) (μ : Mem) : Option (Mem) :=
  (some (sI μ v0 6 (256 : Int32))).bind fun μ1 =>
  (fX6_readWord_7 fuel) v0 μ1
set_option maxHeartbeats 4000000 in
theorem tX6_readWord {ω : Wd} {l : Launch} (d : Nat) {v0 : Nat} {μ : Mem} {res : Mem} (h : fX6_readWord v0 μ = some res) (hN : μ.1 = NN) (k0 : (kd v0).1 = 16) : Ct ω l mX6_readWord (d + 1) [.ref v0] μ 0 0 (PE (.inl none) res True) := by
  refine Ct.of pn_RX6 (Nat.le_of_ble_eq_true rfl) ?_
  show J ω l mX6_readWord (d + 1) 0 [(0, .ref v0)] [] μ 0 0 _
  unfold fX6_readWord at h
  refine J.aload_n (pc := 0) dX6_readWord_0 rfl 0 rfl ?_
  refine J.sipush (pc := 1) dX6_readWord_1 is_256 ?_
  obtain ⟨μ1, e2, h⟩ := bnd h
  have hN3 : μ1.1 = NN := smN e2 hN
  refine J.qI (pc := 4) dX6_readWord_4 fl_RX6_31 k0 (okN hN k0 (by decide)) rfl rfl e2 ?_
  exact (tX6_readWord_7 d fuel) v0 μ1 h hN3 k0
def fX6_advance_8  : Nat → Nat → Mem → Option (Mem)
  | 0, _, _ => none
  | n + 1, v0, μ =>
    if (μ.2.1 v0 4) < (μ.2.1 v0 3) then
      (gR μ v0 2 0).bind fun a1 =>
      (ldI μ a1 (μ.2.1 v0 4)).bind fun x4 =>
      if (fX6_isBlank x4) = 0 then
        (some (sI μ v0 5 (μ.2.1 v0 4))).bind fun μ9 =>
        if (μ9.2.1 v0 4) < (μ9.2.1 v0 3) then
          (gR μ9 v0 2 0).bind fun a12 =>
          (ldI μ9 a12 (μ9.2.1 v0 4)).bind fun x15 =>
          if (fX6_isLetter x15) = 0 then
            (gR μ9 v0 2 0).bind fun a20 =>
            (ldI μ9 a20 (μ9.2.1 v0 4)).bind fun x23 =>
            if (fX6_isDigit x23) = 0 then
              (gR μ9 v0 2 0).bind fun a28 =>
              (ldI μ9 a28 (μ9.2.1 v0 4)).bind fun x31 =>
              (fX6_isSign x31 μ9).bind fun r34 =>
              if r34 = 0 then
                (some (sI μ9 v0 6 (258 : Int32))).bind fun μ37 =>
                (some (sI μ37 v0 5 ((μ37.2.1 v0 4) + (1 : Int32)))).bind fun μ40 =>
                some μ40
              else
                (gR μ9 v0 2 0).bind fun a43 =>
                (ldI μ9 a43 (μ9.2.1 v0 4)).bind fun x46 =>
                (some (sI μ9 v0 6 x46)).bind fun μ48 =>
                (some (sI μ48 v0 5 ((μ48.2.1 v0 4) + (1 : Int32)))).bind fun μ51 =>
                some μ51
            else
              (fX6_readNumber v0 μ9).bind fun μ55 =>
              some μ55
          else
            (fX6_readWord v0 μ9).bind fun μ59 =>
            some μ59
        else
          (some (sI μ9 v0 6 (259 : Int32))).bind fun μ62 =>
          some μ62
      else
        (some (sI μ v0 4 ((μ.2.1 v0 4) + (1 : Int32)))).bind fun μ65 =>
        (fX6_advance_8 n) v0 μ65
    else
      (some (sI μ v0 5 (μ.2.1 v0 4))).bind fun μ68 =>
      if (μ68.2.1 v0 4) < (μ68.2.1 v0 3) then
        (gR μ68 v0 2 0).bind fun a71 =>
        (ldI μ68 a71 (μ68.2.1 v0 4)).bind fun x74 =>
        if (fX6_isLetter x74) = 0 then
          (gR μ68 v0 2 0).bind fun a79 =>
          (ldI μ68 a79 (μ68.2.1 v0 4)).bind fun x82 =>
          if (fX6_isDigit x82) = 0 then
            (gR μ68 v0 2 0).bind fun a87 =>
            (ldI μ68 a87 (μ68.2.1 v0 4)).bind fun x90 =>
            (fX6_isSign x90 μ68).bind fun r93 =>
            if r93 = 0 then
              (some (sI μ68 v0 6 (258 : Int32))).bind fun μ96 =>
              (some (sI μ96 v0 5 ((μ96.2.1 v0 4) + (1 : Int32)))).bind fun μ99 =>
              some μ99
            else
              (gR μ68 v0 2 0).bind fun a102 =>
              (ldI μ68 a102 (μ68.2.1 v0 4)).bind fun x105 =>
              (some (sI μ68 v0 6 x105)).bind fun μ107 =>
              (some (sI μ107 v0 5 ((μ107.2.1 v0 4) + (1 : Int32)))).bind fun μ110 =>
              some μ110
          else
            (fX6_readNumber v0 μ68).bind fun μ114 =>
            some μ114
        else
          (fX6_readWord v0 μ68).bind fun μ118 =>
          some μ118
      else
        (some (sI μ68 v0 6 (259 : Int32))).bind fun μ121 =>
        some μ121
set_option maxHeartbeats 4000000 in
theorem tX6_advance_8 {ω : Wd} {l : Launch} (d : Nat) {res : Mem} : ∀ n : Nat, ∀ (v0 : Nat) (μ : Mem), fX6_advance_8 n v0 μ = some res → μ.1 = NN → (kd v0).1 = 16 → J ω l mX6_advance (d + 5) 8 [(0, .ref v0)] [] μ 0 0 (PE (.inl none) res True) := by
  intro n
  induction n with
  | zero =>
    intro v0 μ h hN k0
    have h9 : (none : Option (Mem)) = some res := h
    cases h9
  | succ n ih =>
    intro v0 μ h hN k0
    unfold fX6_advance_8 at h
    refine J.aload_n (pc := 8) dX6_advance_8 rfl 0 rfl ?_
    refine J.fI (pc := 9) dX6_advance_9 fl_RX6_25 k0 (okN hN k0 (by decide)) (Or.inl rfl) ?_
    refine J.aload_n (pc := 12) dX6_advance_12 rfl 0 rfl ?_
    refine J.fI (pc := 13) dX6_advance_13 fl_RX6_22 k0 (okN hN k0 (by decide)) (Or.inl rfl) ?_
    rcases ifc h with ⟨hc, h⟩ | ⟨hc, h⟩
    · refine J.cge (pc := 16) (tgt := 47) dX6_advance_16 (by decide) (fun _ => ?_) (fun q => absurd hc q)
      refine J.aload_n (pc := 19) dX6_advance_19 rfl 0 rfl ?_
      obtain ⟨a1, e2, h⟩ := bnd h
      have k3 : (kd a1).1 = 0 := gR_k e2
      refine J.fR (pc := 20) dX6_advance_20 fl_RX6_18 k0 (okN hN k0 (by decide)) rfl e2 ?_
      refine J.aload_n (pc := 23) dX6_advance_23 rfl 0 rfl ?_
      refine J.fI (pc := 24) dX6_advance_24 fl_RX6_25 k0 (okN hN k0 (by decide)) (Or.inl rfl) ?_
      obtain ⟨x4, e5, h⟩ := bnd h
      refine J.aI (pc := 27) dX6_advance_27 k3 (okN hN k3 (by decide)) e5 ?_
      refine J.callS (Y := mX6_advance) (Z := mX6_isBlank) (pc := 28) (st := []) (k2 := 0) (n2 := 0) dX6_advance_28 ml_RX6_71 mo_X6_isBlank ms_X6_isBlank rfl (tX6_isBlank (d + 4) x4 μ hN ) rfl rfl (Nat.le_of_ble_eq_true rfl) (by decide) (by decide) (fun v ν hp => ?_) (fun i ν hp => nrm hp.1)
      obtain ⟨rfl, rfl, hN7, hb8⟩ := QEl hp
      show J _ _ _ _ 31 _ ([.int (fX6_isBlank x4)]) _ _ _ _
      rcases ifc h with ⟨hc, h⟩ | ⟨hc, h⟩
      · refine J.zeq (pc := 31) (tgt := 47) dX6_advance_31 (by decide) (fun _ => ?_) (fun q => absurd hc q)
        refine J.aload_n (pc := 47) dX6_advance_47 rfl 0 rfl ?_
        refine J.aload_n (pc := 48) dX6_advance_48 rfl 0 rfl ?_
        refine J.fI (pc := 49) dX6_advance_49 fl_RX6_25 k0 (okN hN7 k0 (by decide)) (Or.inl rfl) ?_
        obtain ⟨μ9, e10, h⟩ := bnd h
        have hN11 : μ9.1 = NN := smN e10 hN7
        refine J.qI (pc := 52) dX6_advance_52 fl_RX6_28 k0 (okN hN7 k0 (by decide)) rfl rfl e10 ?_
        refine J.aload_n (pc := 55) dX6_advance_55 rfl 0 rfl ?_
        refine J.fI (pc := 56) dX6_advance_56 fl_RX6_25 k0 (okN hN11 k0 (by decide)) (Or.inl rfl) ?_
        refine J.aload_n (pc := 59) dX6_advance_59 rfl 0 rfl ?_
        refine J.fI (pc := 60) dX6_advance_60 fl_RX6_22 k0 (okN hN11 k0 (by decide)) (Or.inl rfl) ?_
        rcases ifc h with ⟨hc, h⟩ | ⟨hc, h⟩
        · refine J.clt (pc := 63) (tgt := 76) dX6_advance_63 (by decide) (fun _ => ?_) (fun q => absurd hc q)
          refine J.aload_n (pc := 76) dX6_advance_76 rfl 0 rfl ?_
          obtain ⟨a12, e13, h⟩ := bnd h
          have k14 : (kd a12).1 = 0 := gR_k e13
          refine J.fR (pc := 77) dX6_advance_77 fl_RX6_18 k0 (okN hN11 k0 (by decide)) rfl e13 ?_
          refine J.aload_n (pc := 80) dX6_advance_80 rfl 0 rfl ?_
          refine J.fI (pc := 81) dX6_advance_81 fl_RX6_25 k0 (okN hN11 k0 (by decide)) (Or.inl rfl) ?_
          obtain ⟨x15, e16, h⟩ := bnd h
          refine J.aI (pc := 84) dX6_advance_84 k14 (okN hN11 k14 (by decide)) e16 ?_
          refine J.callS (Y := mX6_advance) (Z := mX6_isLetter) (pc := 85) (st := []) (k2 := 0) (n2 := 0) dX6_advance_85 ml_RX6_75 mo_X6_isLetter ms_X6_isLetter rfl (tX6_isLetter (d + 4) x15 μ9 hN11 ) rfl rfl (Nat.le_of_ble_eq_true rfl) (by decide) (by decide) (fun v ν hp => ?_) (fun i ν hp => nrm hp.1)
          obtain ⟨rfl, rfl, hN18, hb19⟩ := QEl hp
          show J _ _ _ _ 88 _ ([.int (fX6_isLetter x15)]) _ _ _ _
          rcases ifc h with ⟨hc, h⟩ | ⟨hc, h⟩
          · refine J.zeq (pc := 88) (tgt := 98) dX6_advance_88 (by decide) (fun _ => ?_) (fun q => absurd hc q)
            refine J.aload_n (pc := 98) dX6_advance_98 rfl 0 rfl ?_
            obtain ⟨a20, e21, h⟩ := bnd h
            have k22 : (kd a20).1 = 0 := gR_k e21
            refine J.fR (pc := 99) dX6_advance_99 fl_RX6_18 k0 (okN hN18 k0 (by decide)) rfl e21 ?_
            refine J.aload_n (pc := 102) dX6_advance_102 rfl 0 rfl ?_
            refine J.fI (pc := 103) dX6_advance_103 fl_RX6_25 k0 (okN hN18 k0 (by decide)) (Or.inl rfl) ?_
            obtain ⟨x23, e24, h⟩ := bnd h
            refine J.aI (pc := 106) dX6_advance_106 k22 (okN hN18 k22 (by decide)) e24 ?_
            refine J.callS (Y := mX6_advance) (Z := mX6_isDigit) (pc := 107) (st := []) (k2 := 0) (n2 := 0) dX6_advance_107 ml_RX6_81 mo_X6_isDigit ms_X6_isDigit rfl (tX6_isDigit (d + 4) x23 μ9 hN18 ) rfl rfl (Nat.le_of_ble_eq_true rfl) (by decide) (by decide) (fun v ν hp => ?_) (fun i ν hp => nrm hp.1)
            obtain ⟨rfl, rfl, hN26, hb27⟩ := QEl hp
            show J _ _ _ _ 110 _ ([.int (fX6_isDigit x23)]) _ _ _ _
            rcases ifc h with ⟨hc, h⟩ | ⟨hc, h⟩
            · refine J.zeq (pc := 110) (tgt := 120) dX6_advance_110 (by decide) (fun _ => ?_) (fun q => absurd hc q)
              refine J.aload_n (pc := 120) dX6_advance_120 rfl 0 rfl ?_
              refine J.aload_n (pc := 121) dX6_advance_121 rfl 0 rfl ?_
              obtain ⟨a28, e29, h⟩ := bnd h
              have k30 : (kd a28).1 = 0 := gR_k e29
              refine J.fR (pc := 122) dX6_advance_122 fl_RX6_18 k0 (okN hN26 k0 (by decide)) rfl e29 ?_
              refine J.aload_n (pc := 125) dX6_advance_125 rfl 0 rfl ?_
              refine J.fI (pc := 126) dX6_advance_126 fl_RX6_25 k0 (okN hN26 k0 (by decide)) (Or.inl rfl) ?_
              obtain ⟨x31, e32, h⟩ := bnd h
              refine J.aI (pc := 129) dX6_advance_129 k30 (okN hN26 k30 (by decide)) e32 ?_
              obtain ⟨r34, e33, h⟩ := bnd h
              refine J.callS (Y := mX6_advance) (Z := mX6_isSign) (pc := 130) (st := [.ref v0]) (k2 := 0) (n2 := 0) dX6_advance_130 ml_RX6_87 mo_X6_isSign ms_X6_isSign rfl (tX6_isSign d e33 hN26 ) rfl rfl (Nat.le_of_ble_eq_true rfl) (by decide) (by decide) (fun v ν hp => ?_) (fun i ν hp => nrm hp.1)
              obtain ⟨rfl, rfl, hN35, hb36⟩ := QEl hp
              show J _ _ _ _ 133 _ ([.int r34, .ref v0]) _ _ _ _
              rcases ifc h with ⟨hc, h⟩ | ⟨hc, h⟩
              · refine J.zeq (pc := 133) (tgt := 148) dX6_advance_133 (by decide) (fun _ => ?_) (fun q => absurd hc q)
                refine J.sipush (pc := 148) dX6_advance_148 is_258 ?_
                obtain ⟨μ37, e38, h⟩ := bnd h
                have hN39 : μ37.1 = NN := smN e38 hN35
                refine J.qI (pc := 151) dX6_advance_151 fl_RX6_31 k0 (okN hN35 k0 (by decide)) rfl rfl e38 ?_
                refine J.aload_n (pc := 154) dX6_advance_154 rfl 0 rfl ?_
                refine J.aload_n (pc := 155) dX6_advance_155 rfl 0 rfl ?_
                refine J.fI (pc := 156) dX6_advance_156 fl_RX6_25 k0 (okN hN39 k0 (by decide)) (Or.inl rfl) ?_
                refine J.iconst (pc := 159) dX6_advance_159 ic_1 ?_
                refine J.iadd (pc := 160) dX6_advance_160 ?_
                obtain ⟨μ40, e41, h⟩ := bnd h
                have hN42 : μ40.1 = NN := smN e41 hN39
                refine J.qI (pc := 161) dX6_advance_161 fl_RX6_28 k0 (okN hN39 k0 (by decide)) rfl rfl e41 ?_
                cases h
                exact J.vret (pc := 164) dX6_advance_164 rfl ⟨rfl, rfl, hN42, trivial⟩
              · refine J.zeq (pc := 133) (tgt := 148) dX6_advance_133 (by decide) (fun q => absurd q hc) (fun _ => ?_)
                refine J.aload_n (pc := 136) dX6_advance_136 rfl 0 rfl ?_
                obtain ⟨a43, e44, h⟩ := bnd h
                have k45 : (kd a43).1 = 0 := gR_k e44
                refine J.fR (pc := 137) dX6_advance_137 fl_RX6_18 k0 (okN hN35 k0 (by decide)) rfl e44 ?_
                refine J.aload_n (pc := 140) dX6_advance_140 rfl 0 rfl ?_
                refine J.fI (pc := 141) dX6_advance_141 fl_RX6_25 k0 (okN hN35 k0 (by decide)) (Or.inl rfl) ?_
                obtain ⟨x46, e47, h⟩ := bnd h
                refine J.aI (pc := 144) dX6_advance_144 k45 (okN hN35 k45 (by decide)) e47 ?_
                refine J.goto (pc := 145) (tgt := 151) dX6_advance_145 (by decide) ?_
                obtain ⟨μ48, e49, h⟩ := bnd h
                have hN50 : μ48.1 = NN := smN e49 hN35
                refine J.qI (pc := 151) dX6_advance_151 fl_RX6_31 k0 (okN hN35 k0 (by decide)) rfl rfl e49 ?_
                refine J.aload_n (pc := 154) dX6_advance_154 rfl 0 rfl ?_
                refine J.aload_n (pc := 155) dX6_advance_155 rfl 0 rfl ?_
                refine J.fI (pc := 156) dX6_advance_156 fl_RX6_25 k0 (okN hN50 k0 (by decide)) (Or.inl rfl) ?_
                refine J.iconst (pc := 159) dX6_advance_159 ic_1 ?_
                refine J.iadd (pc := 160) dX6_advance_160 ?_
                obtain ⟨μ51, e52, h⟩ := bnd h
                have hN53 : μ51.1 = NN := smN e52 hN50
                refine J.qI (pc := 161) dX6_advance_161 fl_RX6_28 k0 (okN hN50 k0 (by decide)) rfl rfl e52 ?_
                cases h
                exact J.vret (pc := 164) dX6_advance_164 rfl ⟨rfl, rfl, hN53, trivial⟩
            · refine J.zeq (pc := 110) (tgt := 120) dX6_advance_110 (by decide) (fun q => absurd q hc) (fun _ => ?_)
              refine J.aload_n (pc := 113) dX6_advance_113 rfl 0 rfl ?_
              obtain ⟨μ55, e54, h⟩ := bnd h
              refine J.callV (Y := mX6_advance) (Z := mX6_readNumber) (pc := 114) (st := []) (k2 := 0) (n2 := 0) dX6_advance_114 ml_RX6_84 mo_X6_readNumber mv_X6_readNumber rfl (tX6_readNumber (d + 3) e54 hN26 k0) k0 (okN hN26 k0 (by decide)).1 (okN hN26 k0 (by decide)).2 cq_6 (by decide) rfl rfl (Nat.le_of_ble_eq_true rfl) (by decide) (by decide) (fun v ν hp => ?_) (fun i ν hp => nrm hp.1)
              obtain ⟨rfl, rfl, hN56, hb57⟩ := QEl hp
              show J _ _ _ _ 117 _ ([]) _ _ _ _
              refine J.goto (pc := 117) (tgt := 164) dX6_advance_117 (by decide) ?_
              cases h
              exact J.vret (pc := 164) dX6_advance_164 rfl ⟨rfl, rfl, hN56, trivial⟩
          · refine J.zeq (pc := 88) (tgt := 98) dX6_advance_88 (by decide) (fun q => absurd q hc) (fun _ => ?_)
            refine J.aload_n (pc := 91) dX6_advance_91 rfl 0 rfl ?_
            obtain ⟨μ59, e58, h⟩ := bnd h
            refine J.callV (Y := mX6_advance) (Z := mX6_readWord) (pc := 92) (st := []) (k2 := 0) (n2 := 0) dX6_advance_92 ml_RX6_78 mo_X6_readWord mv_X6_readWord rfl (tX6_readWord (d + 3) e58 hN18 k0) k0 (okN hN18 k0 (by decide)).1 (okN hN18 k0 (by decide)).2 cq_6 (by decide) rfl rfl (Nat.le_of_ble_eq_true rfl) (by decide) (by decide) (fun v ν hp => ?_) (fun i ν hp => nrm hp.1)
            obtain ⟨rfl, rfl, hN60, hb61⟩ := QEl hp
            show J _ _ _ _ 95 _ ([]) _ _ _ _
            refine J.goto (pc := 95) (tgt := 164) dX6_advance_95 (by decide) ?_
            cases h
            exact J.vret (pc := 164) dX6_advance_164 rfl ⟨rfl, rfl, hN60, trivial⟩
        · refine J.clt (pc := 63) (tgt := 76) dX6_advance_63 (by decide) (fun q => absurd q hc) (fun _ => ?_)
          refine J.aload_n (pc := 66) dX6_advance_66 rfl 0 rfl ?_
          refine J.sipush (pc := 67) dX6_advance_67 is_259 ?_
          obtain ⟨μ62, e63, h⟩ := bnd h
          have hN64 : μ62.1 = NN := smN e63 hN11
          refine J.qI (pc := 70) dX6_advance_70 fl_RX6_31 k0 (okN hN11 k0 (by decide)) rfl rfl e63 ?_
          refine J.goto (pc := 73) (tgt := 164) dX6_advance_73 (by decide) ?_
          cases h
          exact J.vret (pc := 164) dX6_advance_164 rfl ⟨rfl, rfl, hN64, trivial⟩
      · refine J.zeq (pc := 31) (tgt := 47) dX6_advance_31 (by decide) (fun q => absurd q hc) (fun _ => ?_)
        refine J.aload_n (pc := 34) dX6_advance_34 rfl 0 rfl ?_
        refine J.dup (pc := 35) dX6_advance_35 rfl ?_
        refine J.fI (pc := 36) dX6_advance_36 fl_RX6_25 k0 (okN hN7 k0 (by decide)) (Or.inl rfl) ?_
        refine J.iconst (pc := 39) dX6_advance_39 ic_1 ?_
        refine J.iadd (pc := 40) dX6_advance_40 ?_
        obtain ⟨μ65, e66, h⟩ := bnd h
        have hN67 : μ65.1 = NN := smN e66 hN7
        refine J.qI (pc := 41) dX6_advance_41 fl_RX6_25 k0 (okN hN7 k0 (by decide)) rfl rfl e66 ?_
        refine J.goto (pc := 44) (tgt := 8) dX6_advance_44 (by decide) ?_
        exact ih v0 μ65 h hN67 k0
    · refine J.cge (pc := 16) (tgt := 47) dX6_advance_16 (by decide) (fun q => absurd q hc) (fun _ => ?_)
      refine J.aload_n (pc := 47) dX6_advance_47 rfl 0 rfl ?_
      refine J.aload_n (pc := 48) dX6_advance_48 rfl 0 rfl ?_
      refine J.fI (pc := 49) dX6_advance_49 fl_RX6_25 k0 (okN hN k0 (by decide)) (Or.inl rfl) ?_
      obtain ⟨μ68, e69, h⟩ := bnd h
      have hN70 : μ68.1 = NN := smN e69 hN
      refine J.qI (pc := 52) dX6_advance_52 fl_RX6_28 k0 (okN hN k0 (by decide)) rfl rfl e69 ?_
      refine J.aload_n (pc := 55) dX6_advance_55 rfl 0 rfl ?_
      refine J.fI (pc := 56) dX6_advance_56 fl_RX6_25 k0 (okN hN70 k0 (by decide)) (Or.inl rfl) ?_
      refine J.aload_n (pc := 59) dX6_advance_59 rfl 0 rfl ?_
      refine J.fI (pc := 60) dX6_advance_60 fl_RX6_22 k0 (okN hN70 k0 (by decide)) (Or.inl rfl) ?_
      rcases ifc h with ⟨hc, h⟩ | ⟨hc, h⟩
      · refine J.clt (pc := 63) (tgt := 76) dX6_advance_63 (by decide) (fun _ => ?_) (fun q => absurd hc q)
        refine J.aload_n (pc := 76) dX6_advance_76 rfl 0 rfl ?_
        obtain ⟨a71, e72, h⟩ := bnd h
        have k73 : (kd a71).1 = 0 := gR_k e72
        refine J.fR (pc := 77) dX6_advance_77 fl_RX6_18 k0 (okN hN70 k0 (by decide)) rfl e72 ?_
        refine J.aload_n (pc := 80) dX6_advance_80 rfl 0 rfl ?_
        refine J.fI (pc := 81) dX6_advance_81 fl_RX6_25 k0 (okN hN70 k0 (by decide)) (Or.inl rfl) ?_
        obtain ⟨x74, e75, h⟩ := bnd h
        refine J.aI (pc := 84) dX6_advance_84 k73 (okN hN70 k73 (by decide)) e75 ?_
        refine J.callS (Y := mX6_advance) (Z := mX6_isLetter) (pc := 85) (st := []) (k2 := 0) (n2 := 0) dX6_advance_85 ml_RX6_75 mo_X6_isLetter ms_X6_isLetter rfl (tX6_isLetter (d + 4) x74 μ68 hN70 ) rfl rfl (Nat.le_of_ble_eq_true rfl) (by decide) (by decide) (fun v ν hp => ?_) (fun i ν hp => nrm hp.1)
        obtain ⟨rfl, rfl, hN77, hb78⟩ := QEl hp
        show J _ _ _ _ 88 _ ([.int (fX6_isLetter x74)]) _ _ _ _
        rcases ifc h with ⟨hc, h⟩ | ⟨hc, h⟩
        · refine J.zeq (pc := 88) (tgt := 98) dX6_advance_88 (by decide) (fun _ => ?_) (fun q => absurd hc q)
          refine J.aload_n (pc := 98) dX6_advance_98 rfl 0 rfl ?_
          obtain ⟨a79, e80, h⟩ := bnd h
          have k81 : (kd a79).1 = 0 := gR_k e80
          refine J.fR (pc := 99) dX6_advance_99 fl_RX6_18 k0 (okN hN77 k0 (by decide)) rfl e80 ?_
          refine J.aload_n (pc := 102) dX6_advance_102 rfl 0 rfl ?_
          refine J.fI (pc := 103) dX6_advance_103 fl_RX6_25 k0 (okN hN77 k0 (by decide)) (Or.inl rfl) ?_
          obtain ⟨x82, e83, h⟩ := bnd h
          refine J.aI (pc := 106) dX6_advance_106 k81 (okN hN77 k81 (by decide)) e83 ?_
          refine J.callS (Y := mX6_advance) (Z := mX6_isDigit) (pc := 107) (st := []) (k2 := 0) (n2 := 0) dX6_advance_107 ml_RX6_81 mo_X6_isDigit ms_X6_isDigit rfl (tX6_isDigit (d + 4) x82 μ68 hN77 ) rfl rfl (Nat.le_of_ble_eq_true rfl) (by decide) (by decide) (fun v ν hp => ?_) (fun i ν hp => nrm hp.1)
          obtain ⟨rfl, rfl, hN85, hb86⟩ := QEl hp
          show J _ _ _ _ 110 _ ([.int (fX6_isDigit x82)]) _ _ _ _
          rcases ifc h with ⟨hc, h⟩ | ⟨hc, h⟩
          · refine J.zeq (pc := 110) (tgt := 120) dX6_advance_110 (by decide) (fun _ => ?_) (fun q => absurd hc q)
            refine J.aload_n (pc := 120) dX6_advance_120 rfl 0 rfl ?_
            refine J.aload_n (pc := 121) dX6_advance_121 rfl 0 rfl ?_
            obtain ⟨a87, e88, h⟩ := bnd h
            have k89 : (kd a87).1 = 0 := gR_k e88
            refine J.fR (pc := 122) dX6_advance_122 fl_RX6_18 k0 (okN hN85 k0 (by decide)) rfl e88 ?_
            refine J.aload_n (pc := 125) dX6_advance_125 rfl 0 rfl ?_
            refine J.fI (pc := 126) dX6_advance_126 fl_RX6_25 k0 (okN hN85 k0 (by decide)) (Or.inl rfl) ?_
            obtain ⟨x90, e91, h⟩ := bnd h
            refine J.aI (pc := 129) dX6_advance_129 k89 (okN hN85 k89 (by decide)) e91 ?_
            obtain ⟨r93, e92, h⟩ := bnd h
            refine J.callS (Y := mX6_advance) (Z := mX6_isSign) (pc := 130) (st := [.ref v0]) (k2 := 0) (n2 := 0) dX6_advance_130 ml_RX6_87 mo_X6_isSign ms_X6_isSign rfl (tX6_isSign d e92 hN85 ) rfl rfl (Nat.le_of_ble_eq_true rfl) (by decide) (by decide) (fun v ν hp => ?_) (fun i ν hp => nrm hp.1)
            obtain ⟨rfl, rfl, hN94, hb95⟩ := QEl hp
            show J _ _ _ _ 133 _ ([.int r93, .ref v0]) _ _ _ _
            rcases ifc h with ⟨hc, h⟩ | ⟨hc, h⟩
            · refine J.zeq (pc := 133) (tgt := 148) dX6_advance_133 (by decide) (fun _ => ?_) (fun q => absurd hc q)
              refine J.sipush (pc := 148) dX6_advance_148 is_258 ?_
              obtain ⟨μ96, e97, h⟩ := bnd h
              have hN98 : μ96.1 = NN := smN e97 hN94
              refine J.qI (pc := 151) dX6_advance_151 fl_RX6_31 k0 (okN hN94 k0 (by decide)) rfl rfl e97 ?_
              refine J.aload_n (pc := 154) dX6_advance_154 rfl 0 rfl ?_
              refine J.aload_n (pc := 155) dX6_advance_155 rfl 0 rfl ?_
              refine J.fI (pc := 156) dX6_advance_156 fl_RX6_25 k0 (okN hN98 k0 (by decide)) (Or.inl rfl) ?_
              refine J.iconst (pc := 159) dX6_advance_159 ic_1 ?_
              refine J.iadd (pc := 160) dX6_advance_160 ?_
              obtain ⟨μ99, e100, h⟩ := bnd h
              have hN101 : μ99.1 = NN := smN e100 hN98
              refine J.qI (pc := 161) dX6_advance_161 fl_RX6_28 k0 (okN hN98 k0 (by decide)) rfl rfl e100 ?_
              cases h
              exact J.vret (pc := 164) dX6_advance_164 rfl ⟨rfl, rfl, hN101, trivial⟩
            · refine J.zeq (pc := 133) (tgt := 148) dX6_advance_133 (by decide) (fun q => absurd q hc) (fun _ => ?_)
              refine J.aload_n (pc := 136) dX6_advance_136 rfl 0 rfl ?_
              obtain ⟨a102, e103, h⟩ := bnd h
              have k104 : (kd a102).1 = 0 := gR_k e103
              refine J.fR (pc := 137) dX6_advance_137 fl_RX6_18 k0 (okN hN94 k0 (by decide)) rfl e103 ?_
              refine J.aload_n (pc := 140) dX6_advance_140 rfl 0 rfl ?_
              refine J.fI (pc := 141) dX6_advance_141 fl_RX6_25 k0 (okN hN94 k0 (by decide)) (Or.inl rfl) ?_
              obtain ⟨x105, e106, h⟩ := bnd h
              refine J.aI (pc := 144) dX6_advance_144 k104 (okN hN94 k104 (by decide)) e106 ?_
              refine J.goto (pc := 145) (tgt := 151) dX6_advance_145 (by decide) ?_
              obtain ⟨μ107, e108, h⟩ := bnd h
              have hN109 : μ107.1 = NN := smN e108 hN94
              refine J.qI (pc := 151) dX6_advance_151 fl_RX6_31 k0 (okN hN94 k0 (by decide)) rfl rfl e108 ?_
              refine J.aload_n (pc := 154) dX6_advance_154 rfl 0 rfl ?_
              refine J.aload_n (pc := 155) dX6_advance_155 rfl 0 rfl ?_
              refine J.fI (pc := 156) dX6_advance_156 fl_RX6_25 k0 (okN hN109 k0 (by decide)) (Or.inl rfl) ?_
              refine J.iconst (pc := 159) dX6_advance_159 ic_1 ?_
              refine J.iadd (pc := 160) dX6_advance_160 ?_
              obtain ⟨μ110, e111, h⟩ := bnd h
              have hN112 : μ110.1 = NN := smN e111 hN109
              refine J.qI (pc := 161) dX6_advance_161 fl_RX6_28 k0 (okN hN109 k0 (by decide)) rfl rfl e111 ?_
              cases h
              exact J.vret (pc := 164) dX6_advance_164 rfl ⟨rfl, rfl, hN112, trivial⟩
          · refine J.zeq (pc := 110) (tgt := 120) dX6_advance_110 (by decide) (fun q => absurd q hc) (fun _ => ?_)
            refine J.aload_n (pc := 113) dX6_advance_113 rfl 0 rfl ?_
            obtain ⟨μ114, e113, h⟩ := bnd h
            refine J.callV (Y := mX6_advance) (Z := mX6_readNumber) (pc := 114) (st := []) (k2 := 0) (n2 := 0) dX6_advance_114 ml_RX6_84 mo_X6_readNumber mv_X6_readNumber rfl (tX6_readNumber (d + 3) e113 hN85 k0) k0 (okN hN85 k0 (by decide)).1 (okN hN85 k0 (by decide)).2 cq_6 (by decide) rfl rfl (Nat.le_of_ble_eq_true rfl) (by decide) (by decide) (fun v ν hp => ?_) (fun i ν hp => nrm hp.1)
            obtain ⟨rfl, rfl, hN115, hb116⟩ := QEl hp
            show J _ _ _ _ 117 _ ([]) _ _ _ _
            refine J.goto (pc := 117) (tgt := 164) dX6_advance_117 (by decide) ?_
            cases h
            exact J.vret (pc := 164) dX6_advance_164 rfl ⟨rfl, rfl, hN115, trivial⟩
        · refine J.zeq (pc := 88) (tgt := 98) dX6_advance_88 (by decide) (fun q => absurd q hc) (fun _ => ?_)
          refine J.aload_n (pc := 91) dX6_advance_91 rfl 0 rfl ?_
          obtain ⟨μ118, e117, h⟩ := bnd h
          refine J.callV (Y := mX6_advance) (Z := mX6_readWord) (pc := 92) (st := []) (k2 := 0) (n2 := 0) dX6_advance_92 ml_RX6_78 mo_X6_readWord mv_X6_readWord rfl (tX6_readWord (d + 3) e117 hN77 k0) k0 (okN hN77 k0 (by decide)).1 (okN hN77 k0 (by decide)).2 cq_6 (by decide) rfl rfl (Nat.le_of_ble_eq_true rfl) (by decide) (by decide) (fun v ν hp => ?_) (fun i ν hp => nrm hp.1)
          obtain ⟨rfl, rfl, hN119, hb120⟩ := QEl hp
          show J _ _ _ _ 95 _ ([]) _ _ _ _
          refine J.goto (pc := 95) (tgt := 164) dX6_advance_95 (by decide) ?_
          cases h
          exact J.vret (pc := 164) dX6_advance_164 rfl ⟨rfl, rfl, hN119, trivial⟩
      · refine J.clt (pc := 63) (tgt := 76) dX6_advance_63 (by decide) (fun q => absurd q hc) (fun _ => ?_)
        refine J.aload_n (pc := 66) dX6_advance_66 rfl 0 rfl ?_
        refine J.sipush (pc := 67) dX6_advance_67 is_259 ?_
        obtain ⟨μ121, e122, h⟩ := bnd h
        have hN123 : μ121.1 = NN := smN e122 hN70
        refine J.qI (pc := 70) dX6_advance_70 fl_RX6_31 k0 (okN hN70 k0 (by decide)) rfl rfl e122 ?_
        refine J.goto (pc := 73) (tgt := 164) dX6_advance_73 (by decide) ?_
        cases h
        exact J.vret (pc := 164) dX6_advance_164 rfl ⟨rfl, rfl, hN123, trivial⟩
def fX6_advance (v0 : Nat) (μ : Mem) : Option (Mem) :=
  (some (sI μ v0 4 (μ.2.1 v0 5))).bind fun μ1 =>
  (fX6_advance_8 fuel) v0 μ1
set_option maxHeartbeats 4000000 in
theorem tX6_advance {ω : Wd} {l : Launch} (d : Nat) {v0 : Nat} {μ : Mem} {res : Mem} (h : fX6_advance v0 μ = some res) (hN : μ.1 = NN) (k0 : (kd v0).1 = 16) : Ct ω l mX6_advance (d + 5) [.ref v0] μ 0 0 (PE (.inl none) res True) := by
  refine Ct.of pn_RX6 (Nat.le_of_ble_eq_true rfl) ?_
  show J ω l mX6_advance (d + 5) 0 [(0, .ref v0)] [] μ 0 0 _
  unfold fX6_advance at h
  refine J.aload_n (pc := 0) dX6_advance_0 rfl 0 rfl ?_
  refine J.aload_n (pc := 1) dX6_advance_1 rfl 0 rfl ?_
  refine J.fI (pc := 2) dX6_advance_2 fl_RX6_28 k0 (okN hN k0 (by decide)) (Or.inl rfl) ?_
  obtain ⟨μ1, e2, h⟩ := bnd h
  have hN3 : μ1.1 = NN := smN e2 hN
  refine J.qI (pc := 5) dX6_advance_5 fl_RX6_25 k0 (okN hN k0 (by decide)) rfl rfl e2 ?_
  exact (tX6_advance_8 d fuel) v0 μ1 h hN3 k0
def fX6_refuse (v0 : Nat) (v1 : Int32) (μ : Mem) : Option (Mem) :=
  if (μ.2.1 v0 0) = 0 then
    (some (sI μ v0 0 v1)).bind fun μ1 =>
    (some (sI μ1 v0 1 (μ1.2.1 v0 4))).bind fun μ4 =>
    some μ4
  else
    some μ
set_option maxHeartbeats 4000000 in
theorem tX6_refuse {ω : Wd} {l : Launch} (d : Nat) {v0 : Nat} {v1 : Int32} {μ : Mem} {res : Mem} (h : fX6_refuse v0 v1 μ = some res) (hN : μ.1 = NN) (k0 : (kd v0).1 = 16) : Ct ω l mX6_refuse d [.ref v0, .int v1] μ 0 0 (PE (.inl none) res True) := by
  refine Ct.of pn_RX6 (Nat.le_of_ble_eq_true rfl) ?_
  show J ω l mX6_refuse d 0 [(0, .ref v0), (1, .int v1)] [] μ 0 0 _
  unfold fX6_refuse at h
  refine J.aload_n (pc := 0) dX6_refuse_0 rfl 0 rfl ?_
  refine J.fI (pc := 1) dX6_refuse_1 fl_RX6_9 k0 (okN hN k0 (by decide)) (Or.inl rfl) ?_
  rcases ifc h with ⟨hc, h⟩ | ⟨hc, h⟩
  · refine J.zne (pc := 4) (tgt := 20) dX6_refuse_4 (by decide) (fun _ => ?_) (fun q => absurd hc q)
    refine J.aload_n (pc := 7) dX6_refuse_7 rfl 0 rfl ?_
    refine J.iload_n (pc := 8) dX6_refuse_8 rfl 1 rfl ?_
    obtain ⟨μ1, e2, h⟩ := bnd h
    have hN3 : μ1.1 = NN := smN e2 hN
    refine J.qI (pc := 9) dX6_refuse_9 fl_RX6_9 k0 (okN hN k0 (by decide)) rfl rfl e2 ?_
    refine J.aload_n (pc := 12) dX6_refuse_12 rfl 0 rfl ?_
    refine J.aload_n (pc := 13) dX6_refuse_13 rfl 0 rfl ?_
    refine J.fI (pc := 14) dX6_refuse_14 fl_RX6_25 k0 (okN hN3 k0 (by decide)) (Or.inl rfl) ?_
    obtain ⟨μ4, e5, h⟩ := bnd h
    have hN6 : μ4.1 = NN := smN e5 hN3
    refine J.qI (pc := 17) dX6_refuse_17 fl_RX6_15 k0 (okN hN3 k0 (by decide)) rfl rfl e5 ?_
    cases h
    exact J.vret (pc := 20) dX6_refuse_20 rfl ⟨rfl, rfl, hN6, trivial⟩
  · refine J.zne (pc := 4) (tgt := 20) dX6_refuse_4 (by decide) (fun q => absurd q hc) (fun _ => ?_)
    cases h
    exact J.vret (pc := 20) dX6_refuse_20 rfl ⟨rfl, rfl, hN, trivial⟩
def fX6_pass (v0 : Nat) (v1 : Int32) (μ : Mem) : Option (Mem) :=
  if (μ.2.1 v0 0) = 0 then
    if (μ.2.1 v0 6) = v1 then
      (fX6_advance v0 μ).bind fun μ2 =>
      some μ2
    else
      (fX6_refuse v0 (1 : Int32) μ).bind fun μ6 =>
      some μ6
  else
    some μ
set_option maxHeartbeats 4000000 in
theorem tX6_pass {ω : Wd} {l : Launch} (d : Nat) {v0 : Nat} {v1 : Int32} {μ : Mem} {res : Mem} (h : fX6_pass v0 v1 μ = some res) (hN : μ.1 = NN) (k0 : (kd v0).1 = 16) : Ct ω l mX6_pass (d + 6) [.ref v0, .int v1] μ 0 0 (PE (.inl none) res True) := by
  refine Ct.of pn_RX6 (Nat.le_of_ble_eq_true rfl) ?_
  show J ω l mX6_pass (d + 6) 0 [(0, .ref v0), (1, .int v1)] [] μ 0 0 _
  unfold fX6_pass at h
  refine J.aload_n (pc := 0) dX6_pass_0 rfl 0 rfl ?_
  refine J.fI (pc := 1) dX6_pass_1 fl_RX6_9 k0 (okN hN k0 (by decide)) (Or.inl rfl) ?_
  rcases ifc h with ⟨hc, h⟩ | ⟨hc, h⟩
  · refine J.zeq (pc := 4) (tgt := 8) dX6_pass_4 (by decide) (fun _ => ?_) (fun q => absurd hc q)
    refine J.aload_n (pc := 8) dX6_pass_8 rfl 0 rfl ?_
    refine J.fI (pc := 9) dX6_pass_9 fl_RX6_31 k0 (okN hN k0 (by decide)) (Or.inl rfl) ?_
    refine J.iload_n (pc := 12) dX6_pass_12 rfl 1 rfl ?_
    rcases ifc h with ⟨hc, h⟩ | ⟨hc, h⟩
    · refine J.ceq (pc := 13) (tgt := 24) dX6_pass_13 (by decide) (fun _ => ?_) (fun q => absurd hc q)
      refine J.aload_n (pc := 24) dX6_pass_24 rfl 0 rfl ?_
      obtain ⟨μ2, e1, h⟩ := bnd h
      refine J.callV (Y := mX6_pass) (Z := mX6_advance) (pc := 25) (st := []) (k2 := 0) (n2 := 0) dX6_pass_25 ml_RX6_65 mo_X6_advance mv_X6_advance rfl (tX6_advance d e1 hN k0) k0 (okN hN k0 (by decide)).1 (okN hN k0 (by decide)).2 cq_6 (by decide) rfl rfl (Nat.le_of_ble_eq_true rfl) (by decide) (by decide) (fun v ν hp => ?_) (fun i ν hp => nrm hp.1)
      obtain ⟨rfl, rfl, hN3, hb4⟩ := QEl hp
      show J _ _ _ _ 28 _ ([]) _ _ _ _
      cases h
      exact J.vret (pc := 28) dX6_pass_28 rfl ⟨rfl, rfl, hN3, trivial⟩
    · refine J.ceq (pc := 13) (tgt := 24) dX6_pass_13 (by decide) (fun q => absurd q hc) (fun _ => ?_)
      refine J.aload_n (pc := 16) dX6_pass_16 rfl 0 rfl ?_
      refine J.iconst (pc := 17) dX6_pass_17 ic_1 ?_
      obtain ⟨μ6, e5, h⟩ := bnd h
      refine J.callV (Y := mX6_pass) (Z := mX6_refuse) (pc := 18) (st := []) (k2 := 0) (n2 := 0) dX6_pass_18 ml_RX6_109 mo_X6_refuse mv_X6_refuse rfl (tX6_refuse (d + 5) e5 hN k0) k0 (okN hN k0 (by decide)).1 (okN hN k0 (by decide)).2 cq_6 (by decide) rfl rfl (Nat.le_of_ble_eq_true rfl) (by decide) (by decide) (fun v ν hp => ?_) (fun i ν hp => nrm hp.1)
      obtain ⟨rfl, rfl, hN7, hb8⟩ := QEl hp
      show J _ _ _ _ 21 _ ([]) _ _ _ _
      refine J.goto (pc := 21) (tgt := 28) dX6_pass_21 (by decide) ?_
      cases h
      exact J.vret (pc := 28) dX6_pass_28 rfl ⟨rfl, rfl, hN7, trivial⟩
  · refine J.zeq (pc := 4) (tgt := 8) dX6_pass_4 (by decide) (fun q => absurd q hc) (fun _ => ?_)
    cases h
    exact J.vret (pc := 7) dX6_pass_7 rfl ⟨rfl, rfl, hN, trivial⟩
def fX1_addPlace (v0 : Nat) (v1 : Int32) (v2 : Int32) (μ : Mem) : Option (Mem) :=
  (gR μ v0 3 0).bind fun a1 =>
  (ldI μ a1 v1).bind fun x4 =>
  (gR μ v0 3 0).bind fun a6 =>
  (ldI μ a6 v1).bind fun x9 =>
  (stI μ a6 v1 (x9 + (1 : Int32))).bind fun μ11 =>
  (some (sL μ11 v0 2 ((μ11.2.2.1 v0 2) ||| (fX10_bit (((8 : Int32) * v1) + x4))))).bind fun μ17 =>
  (gR μ17 v0 7 19).bind fun a20 =>
  (fX9_setInk a20 (((8 : Int32) * v1) + x4) v2 μ17).bind fun μ24 =>
  some μ24
set_option maxHeartbeats 4000000 in
theorem tX1_addPlace {ω : Wd} {l : Launch} (d : Nat) {v0 : Nat} {v1 : Int32} {v2 : Int32} {μ : Mem} {res : Mem} (h : fX1_addPlace v0 v1 v2 μ = some res) (hN : μ.1 = NN) (k0 : (kd v0).1 = 11) : Ct ω l mX1_addPlace (d + 2) [.ref v0, .int v1, .int v2] μ 0 0 (PE (.inl none) res True) := by
  refine Ct.of pn_RX1 (Nat.le_of_ble_eq_true rfl) ?_
  show J ω l mX1_addPlace (d + 2) 0 [(0, .ref v0), (1, .int v1), (2, .int v2)] [] μ 0 0 _
  unfold fX1_addPlace at h
  refine J.bipush (pc := 0) dX1_addPlace_0 ib_8 ?_
  refine J.iload_n (pc := 2) dX1_addPlace_2 rfl 1 rfl ?_
  refine J.imul (pc := 3) dX1_addPlace_3 ?_
  refine J.aload_n (pc := 4) dX1_addPlace_4 rfl 0 rfl ?_
  obtain ⟨a1, e2, h⟩ := bnd h
  have k3 : (kd a1).1 = 0 := gR_k e2
  refine J.fR (pc := 5) dX1_addPlace_5 fl_RX1_22 k0 (okN hN k0 (by decide)) rfl e2 ?_
  refine J.iload_n (pc := 8) dX1_addPlace_8 rfl 1 rfl ?_
  obtain ⟨x4, e5, h⟩ := bnd h
  refine J.aI (pc := 9) dX1_addPlace_9 k3 (okN hN k3 (by decide)) e5 ?_
  refine J.iadd (pc := 10) dX1_addPlace_10 ?_
  refine J.istore_n (pc := 11) ([(3, .int (((8 : Int32) * v1) + x4)), (0, .ref v0), (1, .int v1), (2, .int v2)]) dX1_addPlace_11 rfl (Nat.le_of_ble_eq_true rfl) rfl ?_
  refine J.aload_n (pc := 12) dX1_addPlace_12 rfl 1 rfl ?_
  obtain ⟨a6, e7, h⟩ := bnd h
  have k8 : (kd a6).1 = 0 := gR_k e7
  refine J.fR (pc := 13) dX1_addPlace_13 fl_RX1_22 k0 (okN hN k0 (by decide)) rfl e7 ?_
  refine J.iload_n (pc := 16) dX1_addPlace_16 rfl 2 rfl ?_
  refine J.dup2 (pc := 17) dX1_addPlace_17 rfl rfl ?_
  obtain ⟨x9, e10, h⟩ := bnd h
  refine J.aI (pc := 18) dX1_addPlace_18 k8 (okN hN k8 (by decide)) e10 ?_
  refine J.iconst (pc := 19) dX1_addPlace_19 ic_1 ?_
  refine J.iadd (pc := 20) dX1_addPlace_20 ?_
  obtain ⟨μ11, e12, h⟩ := bnd h
  have hN13 : μ11.1 = NN := stI_N e12 hN
  refine J.wI (pc := 21) dX1_addPlace_21 k8 (okN hN k8 (by decide)) e12 ?_
  refine J.aload_n (pc := 22) dX1_addPlace_22 rfl 1 rfl ?_
  refine J.dup (pc := 23) dX1_addPlace_23 rfl ?_
  refine J.fL (pc := 24) dX1_addPlace_24 fl_RX1_18 k0 (okN hN13 k0 (by decide)) rfl ?_
  refine J.iload_n (pc := 27) dX1_addPlace_27 rfl 0 rfl ?_
  refine J.callSN (Y := mX1_addPlace) (Z := mX10_bit) (pc := 28) (st := [.long (μ11.2.2.1 v0 2), .ref v0]) (k2 := 0) (n2 := 0) dX1_addPlace_28 ml_RX1_52 mo_X10_bit ms_X10_bit rfl (tX10_bit (d + 1) (((8 : Int32) * v1) + x4) μ11 hN13 ) (fun i ν hp => nrm hp.1) rfl rfl (Nat.le_of_ble_eq_true rfl) (by decide) (by decide) (fun v ν hp => ?_)
  obtain ⟨rfl, rfl, hN15, hb16⟩ := QEl hp
  show J _ _ _ _ 31 _ ([.long (fX10_bit (((8 : Int32) * v1) + x4)), .long (μ11.2.2.1 v0 2), .ref v0]) _ _ _ _
  refine J.lor (pc := 31) dX1_addPlace_31 ?_
  obtain ⟨μ17, e18, h⟩ := bnd h
  have hN19 : μ17.1 = NN := smN e18 hN15
  refine J.qL (pc := 32) dX1_addPlace_32 fl_RX1_18 k0 (okN hN15 k0 (by decide)) rfl rfl e18 ?_
  refine J.aload_n (pc := 35) dX1_addPlace_35 rfl 1 rfl ?_
  obtain ⟨a20, e21, h⟩ := bnd h
  have k22 : (kd a20).1 = 19 := gR_k e21
  refine J.fR (pc := 36) dX1_addPlace_36 fl_RX1_42 k0 (okN hN19 k0 (by decide)) rfl e21 ?_
  refine J.iload_n (pc := 39) dX1_addPlace_39 rfl 0 rfl ?_
  refine J.iload_n (pc := 40) dX1_addPlace_40 rfl 3 rfl ?_
  obtain ⟨μ24, e23, h⟩ := bnd h
  refine J.callV (Y := mX1_addPlace) (Z := mX9_setInk) (pc := 41) (st := []) (k2 := 0) (n2 := 0) dX1_addPlace_41 ml_RX1_56 mo_X9_setInk mv_X9_setInk rfl (tX9_setInk d e23 hN19 k22) k22 (okN hN19 k22 (by decide)).1 (okN hN19 k22 (by decide)).2 cq_9 (by decide) rfl rfl (Nat.le_of_ble_eq_true rfl) (by decide) (by decide) (fun v ν hp => ?_) (fun i ν hp => nrm hp.1)
  obtain ⟨rfl, rfl, hN25, hb26⟩ := QEl hp
  show J _ _ _ _ 44 _ ([]) _ _ _ _
  cases h
  exact J.vret (pc := 44) dX1_addPlace_44 rfl ⟨rfl, rfl, hN25, trivial⟩
def fX6_numberBelow (v0 : Nat) (v1 : Int32) (v2 : Int32) (μ : Mem) : Option (Int32 × Mem) :=
  if (μ.2.1 v0 0) = 0 then
    if (μ.2.1 v0 6) = (257 : Int32) then
      if (4 : Int32) < ((μ.2.1 v0 5) - (μ.2.1 v0 4)) then
        (fX6_refuse v0 (2 : Int32) μ).bind fun μ2 =>
        if (μ2.2.1 v0 0) = 0 then
          some ((μ2.2.1 v0 7), μ2)
        else
          some ((0 : Int32), μ2)
      else
        if (μ.2.1 v0 7) < v1 then
          if (μ.2.1 v0 0) = 0 then
            some ((μ.2.1 v0 7), μ)
          else
            some ((0 : Int32), μ)
        else
          (fX6_refuse v0 v2 μ).bind fun μ6 =>
          if (μ6.2.1 v0 0) = 0 then
            some ((μ6.2.1 v0 7), μ6)
          else
            some ((0 : Int32), μ6)
    else
      (fX6_refuse v0 (1 : Int32) μ).bind fun μ10 =>
      if (μ10.2.1 v0 0) = 0 then
        some ((μ10.2.1 v0 7), μ10)
      else
        some ((0 : Int32), μ10)
  else
    some ((0 : Int32), μ)
set_option maxHeartbeats 4000000 in
theorem tX6_numberBelow {ω : Wd} {l : Launch} (d : Nat) {v0 : Nat} {v1 : Int32} {v2 : Int32} {μ : Mem} {res : Int32 × Mem} (h : fX6_numberBelow v0 v1 v2 μ = some res) (hN : μ.1 = NN) (k0 : (kd v0).1 = 16) : Ct ω l mX6_numberBelow (d + 1) [.ref v0, .int v1, .int v2] μ 0 0 (PE (.inl (some (.int res.1))) res.2 True) := by
  refine Ct.of pn_RX6 (Nat.le_of_ble_eq_true rfl) ?_
  show J ω l mX6_numberBelow (d + 1) 0 [(0, .ref v0), (1, .int v1), (2, .int v2)] [] μ 0 0 _
  unfold fX6_numberBelow at h
  refine J.aload_n (pc := 0) dX6_numberBelow_0 rfl 0 rfl ?_
  refine J.fI (pc := 1) dX6_numberBelow_1 fl_RX6_9 k0 (okN hN k0 (by decide)) (Or.inl rfl) ?_
  rcases ifc h with ⟨hc, h⟩ | ⟨hc, h⟩
  · refine J.zeq (pc := 4) (tgt := 9) dX6_numberBelow_4 (by decide) (fun _ => ?_) (fun q => absurd hc q)
    refine J.aload_n (pc := 9) dX6_numberBelow_9 rfl 0 rfl ?_
    refine J.fI (pc := 10) dX6_numberBelow_10 fl_RX6_31 k0 (okN hN k0 (by decide)) (Or.inl rfl) ?_
    refine J.sipush (pc := 13) dX6_numberBelow_13 is_257 ?_
    rcases ifc h with ⟨hc, h⟩ | ⟨hc, h⟩
    · refine J.ceq (pc := 16) (tgt := 27) dX6_numberBelow_16 (by decide) (fun _ => ?_) (fun q => absurd hc q)
      refine J.aload_n (pc := 27) dX6_numberBelow_27 rfl 0 rfl ?_
      refine J.fI (pc := 28) dX6_numberBelow_28 fl_RX6_28 k0 (okN hN k0 (by decide)) (Or.inl rfl) ?_
      refine J.aload_n (pc := 31) dX6_numberBelow_31 rfl 0 rfl ?_
      refine J.fI (pc := 32) dX6_numberBelow_32 fl_RX6_25 k0 (okN hN k0 (by decide)) (Or.inl rfl) ?_
      refine J.isub (pc := 35) dX6_numberBelow_35 ?_
      refine J.iconst (pc := 36) dX6_numberBelow_36 ic_4 ?_
      rcases ifc h with ⟨hc, h⟩ | ⟨hc, h⟩
      · refine J.cle (pc := 37) (tgt := 48) dX6_numberBelow_37 (by decide) (fun _ => ?_) (fun q => absurd hc q)
        refine J.aload_n (pc := 40) dX6_numberBelow_40 rfl 0 rfl ?_
        refine J.iconst (pc := 41) dX6_numberBelow_41 ic_2 ?_
        obtain ⟨μ2, e1, h⟩ := bnd h
        refine J.callV (Y := mX6_numberBelow) (Z := mX6_refuse) (pc := 42) (st := []) (k2 := 0) (n2 := 0) dX6_numberBelow_42 ml_RX6_109 mo_X6_refuse mv_X6_refuse rfl (tX6_refuse d e1 hN k0) k0 (okN hN k0 (by decide)).1 (okN hN k0 (by decide)).2 cq_6 (by decide) rfl rfl (Nat.le_of_ble_eq_true rfl) (by decide) (by decide) (fun v ν hp => ?_) (fun i ν hp => nrm hp.1)
        obtain ⟨rfl, rfl, hN3, hb4⟩ := QEl hp
        show J _ _ _ _ 45 _ ([]) _ _ _ _
        refine J.goto (pc := 45) (tgt := 61) dX6_numberBelow_45 (by decide) ?_
        refine J.aload_n (pc := 61) dX6_numberBelow_61 rfl 0 rfl ?_
        refine J.fI (pc := 62) dX6_numberBelow_62 fl_RX6_9 k0 (okN hN3 k0 (by decide)) (Or.inl rfl) ?_
        rcases ifc h with ⟨hc, h⟩ | ⟨hc, h⟩
        · refine J.zne (pc := 65) (tgt := 75) dX6_numberBelow_65 (by decide) (fun _ => ?_) (fun q => absurd hc q)
          refine J.aload_n (pc := 68) dX6_numberBelow_68 rfl 0 rfl ?_
          refine J.fI (pc := 69) dX6_numberBelow_69 fl_RX6_34 k0 (okN hN3 k0 (by decide)) (Or.inl rfl) ?_
          refine J.goto (pc := 72) (tgt := 76) dX6_numberBelow_72 (by decide) ?_
          cases h
          exact J.iret (pc := 76) dX6_numberBelow_76 rfl ⟨rfl, rfl, hN3, trivial⟩
        · refine J.zne (pc := 65) (tgt := 75) dX6_numberBelow_65 (by decide) (fun q => absurd q hc) (fun _ => ?_)
          refine J.iconst (pc := 75) dX6_numberBelow_75 ic_0 ?_
          cases h
          exact J.iret (pc := 76) dX6_numberBelow_76 rfl ⟨rfl, rfl, hN3, trivial⟩
      · refine J.cle (pc := 37) (tgt := 48) dX6_numberBelow_37 (by decide) (fun q => absurd q hc) (fun _ => ?_)
        refine J.aload_n (pc := 48) dX6_numberBelow_48 rfl 0 rfl ?_
        refine J.fI (pc := 49) dX6_numberBelow_49 fl_RX6_34 k0 (okN hN k0 (by decide)) (Or.inl rfl) ?_
        refine J.iload_n (pc := 52) dX6_numberBelow_52 rfl 1 rfl ?_
        rcases ifc h with ⟨hc, h⟩ | ⟨hc, h⟩
        · refine J.clt (pc := 53) (tgt := 61) dX6_numberBelow_53 (by decide) (fun _ => ?_) (fun q => absurd hc q)
          refine J.aload_n (pc := 61) dX6_numberBelow_61 rfl 0 rfl ?_
          refine J.fI (pc := 62) dX6_numberBelow_62 fl_RX6_9 k0 (okN hN k0 (by decide)) (Or.inl rfl) ?_
          rcases ifc h with ⟨hc, h⟩ | ⟨hc, h⟩
          · refine J.zne (pc := 65) (tgt := 75) dX6_numberBelow_65 (by decide) (fun _ => ?_) (fun q => absurd hc q)
            refine J.aload_n (pc := 68) dX6_numberBelow_68 rfl 0 rfl ?_
            refine J.fI (pc := 69) dX6_numberBelow_69 fl_RX6_34 k0 (okN hN k0 (by decide)) (Or.inl rfl) ?_
            refine J.goto (pc := 72) (tgt := 76) dX6_numberBelow_72 (by decide) ?_
            cases h
            exact J.iret (pc := 76) dX6_numberBelow_76 rfl ⟨rfl, rfl, hN, trivial⟩
          · refine J.zne (pc := 65) (tgt := 75) dX6_numberBelow_65 (by decide) (fun q => absurd q hc) (fun _ => ?_)
            refine J.iconst (pc := 75) dX6_numberBelow_75 ic_0 ?_
            cases h
            exact J.iret (pc := 76) dX6_numberBelow_76 rfl ⟨rfl, rfl, hN, trivial⟩
        · refine J.clt (pc := 53) (tgt := 61) dX6_numberBelow_53 (by decide) (fun q => absurd q hc) (fun _ => ?_)
          refine J.aload_n (pc := 56) dX6_numberBelow_56 rfl 0 rfl ?_
          refine J.iload_n (pc := 57) dX6_numberBelow_57 rfl 2 rfl ?_
          obtain ⟨μ6, e5, h⟩ := bnd h
          refine J.callV (Y := mX6_numberBelow) (Z := mX6_refuse) (pc := 58) (st := []) (k2 := 0) (n2 := 0) dX6_numberBelow_58 ml_RX6_109 mo_X6_refuse mv_X6_refuse rfl (tX6_refuse d e5 hN k0) k0 (okN hN k0 (by decide)).1 (okN hN k0 (by decide)).2 cq_6 (by decide) rfl rfl (Nat.le_of_ble_eq_true rfl) (by decide) (by decide) (fun v ν hp => ?_) (fun i ν hp => nrm hp.1)
          obtain ⟨rfl, rfl, hN7, hb8⟩ := QEl hp
          show J _ _ _ _ 61 _ ([]) _ _ _ _
          refine J.aload_n (pc := 61) dX6_numberBelow_61 rfl 0 rfl ?_
          refine J.fI (pc := 62) dX6_numberBelow_62 fl_RX6_9 k0 (okN hN7 k0 (by decide)) (Or.inl rfl) ?_
          rcases ifc h with ⟨hc, h⟩ | ⟨hc, h⟩
          · refine J.zne (pc := 65) (tgt := 75) dX6_numberBelow_65 (by decide) (fun _ => ?_) (fun q => absurd hc q)
            refine J.aload_n (pc := 68) dX6_numberBelow_68 rfl 0 rfl ?_
            refine J.fI (pc := 69) dX6_numberBelow_69 fl_RX6_34 k0 (okN hN7 k0 (by decide)) (Or.inl rfl) ?_
            refine J.goto (pc := 72) (tgt := 76) dX6_numberBelow_72 (by decide) ?_
            cases h
            exact J.iret (pc := 76) dX6_numberBelow_76 rfl ⟨rfl, rfl, hN7, trivial⟩
          · refine J.zne (pc := 65) (tgt := 75) dX6_numberBelow_65 (by decide) (fun q => absurd q hc) (fun _ => ?_)
            refine J.iconst (pc := 75) dX6_numberBelow_75 ic_0 ?_
            cases h
            exact J.iret (pc := 76) dX6_numberBelow_76 rfl ⟨rfl, rfl, hN7, trivial⟩
    · refine J.ceq (pc := 16) (tgt := 27) dX6_numberBelow_16 (by decide) (fun q => absurd q hc) (fun _ => ?_)
      refine J.aload_n (pc := 19) dX6_numberBelow_19 rfl 0 rfl ?_
      refine J.iconst (pc := 20) dX6_numberBelow_20 ic_1 ?_
      obtain ⟨μ10, e9, h⟩ := bnd h
      refine J.callV (Y := mX6_numberBelow) (Z := mX6_refuse) (pc := 21) (st := []) (k2 := 0) (n2 := 0) dX6_numberBelow_21 ml_RX6_109 mo_X6_refuse mv_X6_refuse rfl (tX6_refuse d e9 hN k0) k0 (okN hN k0 (by decide)).1 (okN hN k0 (by decide)).2 cq_6 (by decide) rfl rfl (Nat.le_of_ble_eq_true rfl) (by decide) (by decide) (fun v ν hp => ?_) (fun i ν hp => nrm hp.1)
      obtain ⟨rfl, rfl, hN11, hb12⟩ := QEl hp
      show J _ _ _ _ 24 _ ([]) _ _ _ _
      refine J.goto (pc := 24) (tgt := 61) dX6_numberBelow_24 (by decide) ?_
      refine J.aload_n (pc := 61) dX6_numberBelow_61 rfl 0 rfl ?_
      refine J.fI (pc := 62) dX6_numberBelow_62 fl_RX6_9 k0 (okN hN11 k0 (by decide)) (Or.inl rfl) ?_
      rcases ifc h with ⟨hc, h⟩ | ⟨hc, h⟩
      · refine J.zne (pc := 65) (tgt := 75) dX6_numberBelow_65 (by decide) (fun _ => ?_) (fun q => absurd hc q)
        refine J.aload_n (pc := 68) dX6_numberBelow_68 rfl 0 rfl ?_
        refine J.fI (pc := 69) dX6_numberBelow_69 fl_RX6_34 k0 (okN hN11 k0 (by decide)) (Or.inl rfl) ?_
        refine J.goto (pc := 72) (tgt := 76) dX6_numberBelow_72 (by decide) ?_
        cases h
        exact J.iret (pc := 76) dX6_numberBelow_76 rfl ⟨rfl, rfl, hN11, trivial⟩
      · refine J.zne (pc := 65) (tgt := 75) dX6_numberBelow_65 (by decide) (fun q => absurd q hc) (fun _ => ?_)
        refine J.iconst (pc := 75) dX6_numberBelow_75 ic_0 ?_
        cases h
        exact J.iret (pc := 76) dX6_numberBelow_76 rfl ⟨rfl, rfl, hN11, trivial⟩
  · refine J.zeq (pc := 4) (tgt := 9) dX6_numberBelow_4 (by decide) (fun q => absurd q hc) (fun _ => ?_)
    refine J.iconst (pc := 7) dX6_numberBelow_7 ic_0 ?_
    cases h
    exact J.iret (pc := 8) dX6_numberBelow_8 rfl ⟨rfl, rfl, hN, trivial⟩
def fX6_readDeed_39  : Nat → Nat → Int32 → Int32 → Mem → Option (Mem)
  | 0, _, _, _, _ => none
  | n + 1, v0, v1, v2, μ =>
    if (8 : Int32) < v2 then
      some μ
    else
      if (μ.2.1 v0 0) = 0 then
        if v2 = 0 then
          if v2 < (8 : Int32) then
            (fX6_numberBelow v0 (10 : Int32) (2 : Int32) μ).bind fun (r3, μ2) =>
            if (μ2.2.1 v0 0) = 0 then
              (gR μ2 v0 8 11).bind fun a6 =>
              (fX1_addPlace a6 v1 r3 μ2).bind fun μ10 =>
              (fX6_advance v0 μ10).bind fun μ14 =>
              (fX6_readDeed_39 n) v0 v1 (v2 + (1 : Int32)) μ14
            else
              (fX6_readDeed_39 n) v0 v1 (v2 + (1 : Int32)) μ2
          else
            (fX6_numberBelow v0 (0 : Int32) (2 : Int32) μ).bind fun (r19, μ18) =>
            if (μ18.2.1 v0 0) = 0 then
              (gR μ18 v0 8 11).bind fun a22 =>
              (fX1_addPlace a22 v1 r19 μ18).bind fun μ26 =>
              (fX6_advance v0 μ26).bind fun μ30 =>
              (fX6_readDeed_39 n) v0 v1 (v2 + (1 : Int32)) μ30
            else
              (fX6_readDeed_39 n) v0 v1 (v2 + (1 : Int32)) μ18
        else
          if (μ.2.1 v0 6) = (257 : Int32) then
            if v2 < (8 : Int32) then
              (fX6_numberBelow v0 (10 : Int32) (2 : Int32) μ).bind fun (r35, μ34) =>
              if (μ34.2.1 v0 0) = 0 then
                (gR μ34 v0 8 11).bind fun a38 =>
                (fX1_addPlace a38 v1 r35 μ34).bind fun μ42 =>
                (fX6_advance v0 μ42).bind fun μ46 =>
                (fX6_readDeed_39 n) v0 v1 (v2 + (1 : Int32)) μ46
              else
                (fX6_readDeed_39 n) v0 v1 (v2 + (1 : Int32)) μ34
            else
              (fX6_numberBelow v0 (0 : Int32) (2 : Int32) μ).bind fun (r51, μ50) =>
              if (μ50.2.1 v0 0) = 0 then
                (gR μ50 v0 8 11).bind fun a54 =>
                (fX1_addPlace a54 v1 r51 μ50).bind fun μ58 =>
                (fX6_advance v0 μ58).bind fun μ62 =>
                (fX6_readDeed_39 n) v0 v1 (v2 + (1 : Int32)) μ62
              else
                (fX6_readDeed_39 n) v0 v1 (v2 + (1 : Int32)) μ50
          else
            some μ
      else
        some μ
set_option maxHeartbeats 4000000 in
theorem tX6_readDeed_39 {ω : Wd} {l : Launch} (d : Nat) {res : Mem} : ∀ n : Nat, ∀ (v0 : Nat) (v1 : Int32) (v2 : Int32) (μ : Mem), fX6_readDeed_39 n v0 v1 v2 μ = some res → μ.1 = NN → (kd v0).1 = 16 → J ω l mX6_readDeed (d + 6) 39 [(0, .ref v0), (1, .int v1), (2, .int v2)] [] μ 0 0 (PE (.inl none) res True) := by
  intro n
  induction n with
  | zero =>
    intro v0 v1 v2 μ h hN k0
    have h9 : (none : Option (Mem)) = some res := h
    cases h9
  | succ n ih =>
    intro v0 v1 v2 μ h hN k0
    unfold fX6_readDeed_39 at h
    refine J.iload_n (pc := 39) dX6_readDeed_39 rfl 2 rfl ?_
    refine J.bipush (pc := 40) dX6_readDeed_40 ib_8 ?_
    rcases ifc h with ⟨hc, h⟩ | ⟨hc, h⟩
    · refine J.cgt (pc := 42) (tgt := 110) dX6_readDeed_42 (by decide) (fun _ => ?_) (fun q => absurd hc q)
      cases h
      exact J.vret (pc := 110) dX6_readDeed_110 rfl ⟨rfl, rfl, hN, trivial⟩
    · refine J.cgt (pc := 42) (tgt := 110) dX6_readDeed_42 (by decide) (fun q => absurd q hc) (fun _ => ?_)
      refine J.aload_n (pc := 45) dX6_readDeed_45 rfl 0 rfl ?_
      refine J.fI (pc := 46) dX6_readDeed_46 fl_RX6_9 k0 (okN hN k0 (by decide)) (Or.inl rfl) ?_
      rcases ifc h with ⟨hc, h⟩ | ⟨hc, h⟩
      · refine J.zne (pc := 49) (tgt := 110) dX6_readDeed_49 (by decide) (fun _ => ?_) (fun q => absurd hc q)
        refine J.iload_n (pc := 52) dX6_readDeed_52 rfl 2 rfl ?_
        rcases ifc h with ⟨hc, h⟩ | ⟨hc, h⟩
        · refine J.zeq (pc := 53) (tgt := 66) dX6_readDeed_53 (by decide) (fun _ => ?_) (fun q => absurd hc q)
          refine J.aload_n (pc := 66) dX6_readDeed_66 rfl 0 rfl ?_
          refine J.iload_n (pc := 67) dX6_readDeed_67 rfl 2 rfl ?_
          refine J.bipush (pc := 68) dX6_readDeed_68 ib_8 ?_
          rcases ifc h with ⟨hc, h⟩ | ⟨hc, h⟩
          · refine J.cge (pc := 70) (tgt := 78) dX6_readDeed_70 (by decide) (fun _ => ?_) (fun q => absurd hc q)
            refine J.bipush (pc := 73) dX6_readDeed_73 ib_10 ?_
            refine J.goto (pc := 75) (tgt := 79) dX6_readDeed_75 (by decide) ?_
            refine J.iconst (pc := 79) dX6_readDeed_79 ic_2 ?_
            obtain ⟨⟨r3, μ2⟩, e1, h⟩ := bnd h
            try dsimp only at h
            refine J.callV (Y := mX6_readDeed) (Z := mX6_numberBelow) (pc := 80) (st := []) (k2 := 0) (n2 := 0) dX6_readDeed_80 ml_RX6_143 mo_X6_numberBelow mv_X6_numberBelow rfl (tX6_numberBelow (d + 4) e1 hN k0) k0 (okN hN k0 (by decide)).1 (okN hN k0 (by decide)).2 cq_6 (by decide) rfl rfl (Nat.le_of_ble_eq_true rfl) (by decide) (by decide) (fun v ν hp => ?_) (fun i ν hp => nrm hp.1)
            obtain ⟨rfl, rfl, hN4, hb5⟩ := QEl hp
            show J _ _ _ _ 83 _ ([.int r3]) _ _ _ _
            refine J.istore_n (pc := 83) ([(3, .int r3), (0, .ref v0), (1, .int v1), (2, .int v2)]) dX6_readDeed_83 rfl (Nat.le_of_ble_eq_true rfl) rfl ?_
            refine J.aload_n (pc := 84) dX6_readDeed_84 rfl 1 rfl ?_
            refine J.fI (pc := 85) dX6_readDeed_85 fl_RX6_9 k0 (okN hN4 k0 (by decide)) (Or.inl rfl) ?_
            rcases ifc h with ⟨hc, h⟩ | ⟨hc, h⟩
            · refine J.zne (pc := 88) (tgt := 104) dX6_readDeed_88 (by decide) (fun _ => ?_) (fun q => absurd hc q)
              refine J.aload_n (pc := 91) dX6_readDeed_91 rfl 1 rfl ?_
              obtain ⟨a6, e7, h⟩ := bnd h
              have k8 : (kd a6).1 = 11 := gR_k e7
              refine J.fR (pc := 92) dX6_readDeed_92 fl_RX6_43 k0 (okN hN4 k0 (by decide)) rfl e7 ?_
              refine J.iload_n (pc := 95) dX6_readDeed_95 rfl 2 rfl ?_
              refine J.iload_n (pc := 96) dX6_readDeed_96 rfl 0 rfl ?_
              obtain ⟨μ10, e9, h⟩ := bnd h
              refine J.callV (Y := mX6_readDeed) (Z := mX1_addPlace) (pc := 97) (st := []) (k2 := 0) (n2 := 0) dX6_readDeed_97 ml_RX6_146 mo_X1_addPlace mv_X1_addPlace rfl (tX1_addPlace (d + 3) e9 hN4 k8) k8 (okN hN4 k8 (by decide)).1 (okN hN4 k8 (by decide)).2 cq_1 (by decide) rfl rfl (Nat.le_of_ble_eq_true rfl) (by decide) (by decide) (fun v ν hp => ?_) (fun i ν hp => nrm hp.1)
              obtain ⟨rfl, rfl, hN11, hb12⟩ := QEl hp
              show J _ _ _ _ 100 _ ([]) _ _ _ _
              refine J.aload_n (pc := 100) dX6_readDeed_100 rfl 1 rfl ?_
              obtain ⟨μ14, e13, h⟩ := bnd h
              refine J.callV (Y := mX6_readDeed) (Z := mX6_advance) (pc := 101) (st := []) (k2 := 0) (n2 := 0) dX6_readDeed_101 ml_RX6_65 mo_X6_advance mv_X6_advance rfl (tX6_advance d e13 hN11 k0) k0 (okN hN11 k0 (by decide)).1 (okN hN11 k0 (by decide)).2 cq_6 (by decide) rfl rfl (Nat.le_of_ble_eq_true rfl) (by decide) (by decide) (fun v ν hp => ?_) (fun i ν hp => nrm hp.1)
              obtain ⟨rfl, rfl, hN15, hb16⟩ := QEl hp
              show J _ _ _ _ 104 _ ([]) _ _ _ _
              refine J.iinc (pc := 104) (j := 3) ([(2, .int (v2 + (1 : Int32))), (3, .int r3), (0, .ref v0), (1, .int v1)]) dX6_readDeed_104 rfl (iincv ic_1) (Nat.le_of_ble_eq_true rfl) rfl ?_
              refine J.goto (pc := 107) (tgt := 39) dX6_readDeed_107 (by decide) ?_
              refine J.pick [2, 3, 0] rfl ?_
              exact ih v0 v1 (v2 + (1 : Int32)) μ14 h hN15 k0
            · refine J.zne (pc := 88) (tgt := 104) dX6_readDeed_88 (by decide) (fun q => absurd q hc) (fun _ => ?_)
              refine J.iinc (pc := 104) (j := 3) ([(2, .int (v2 + (1 : Int32))), (3, .int r3), (0, .ref v0), (1, .int v1)]) dX6_readDeed_104 rfl (iincv ic_1) (Nat.le_of_ble_eq_true rfl) rfl ?_
              refine J.goto (pc := 107) (tgt := 39) dX6_readDeed_107 (by decide) ?_
              refine J.pick [2, 3, 0] rfl ?_
              exact ih v0 v1 (v2 + (1 : Int32)) μ2 h hN4 k0
          · refine J.cge (pc := 70) (tgt := 78) dX6_readDeed_70 (by decide) (fun q => absurd q hc) (fun _ => ?_)
            refine J.iconst (pc := 78) dX6_readDeed_78 ic_0 ?_
            refine J.iconst (pc := 79) dX6_readDeed_79 ic_2 ?_
            obtain ⟨⟨r19, μ18⟩, e17, h⟩ := bnd h
            try dsimp only at h
            refine J.callV (Y := mX6_readDeed) (Z := mX6_numberBelow) (pc := 80) (st := []) (k2 := 0) (n2 := 0) dX6_readDeed_80 ml_RX6_143 mo_X6_numberBelow mv_X6_numberBelow rfl (tX6_numberBelow (d + 4) e17 hN k0) k0 (okN hN k0 (by decide)).1 (okN hN k0 (by decide)).2 cq_6 (by decide) rfl rfl (Nat.le_of_ble_eq_true rfl) (by decide) (by decide) (fun v ν hp => ?_) (fun i ν hp => nrm hp.1)
            obtain ⟨rfl, rfl, hN20, hb21⟩ := QEl hp
            show J _ _ _ _ 83 _ ([.int r19]) _ _ _ _
            refine J.istore_n (pc := 83) ([(3, .int r19), (0, .ref v0), (1, .int v1), (2, .int v2)]) dX6_readDeed_83 rfl (Nat.le_of_ble_eq_true rfl) rfl ?_
            refine J.aload_n (pc := 84) dX6_readDeed_84 rfl 1 rfl ?_
            refine J.fI (pc := 85) dX6_readDeed_85 fl_RX6_9 k0 (okN hN20 k0 (by decide)) (Or.inl rfl) ?_
            rcases ifc h with ⟨hc, h⟩ | ⟨hc, h⟩
            · refine J.zne (pc := 88) (tgt := 104) dX6_readDeed_88 (by decide) (fun _ => ?_) (fun q => absurd hc q)
              refine J.aload_n (pc := 91) dX6_readDeed_91 rfl 1 rfl ?_
              obtain ⟨a22, e23, h⟩ := bnd h
              have k24 : (kd a22).1 = 11 := gR_k e23
              refine J.fR (pc := 92) dX6_readDeed_92 fl_RX6_43 k0 (okN hN20 k0 (by decide)) rfl e23 ?_
              refine J.iload_n (pc := 95) dX6_readDeed_95 rfl 2 rfl ?_
              refine J.iload_n (pc := 96) dX6_readDeed_96 rfl 0 rfl ?_
              obtain ⟨μ26, e25, h⟩ := bnd h
              refine J.callV (Y := mX6_readDeed) (Z := mX1_addPlace) (pc := 97) (st := []) (k2 := 0) (n2 := 0) dX6_readDeed_97 ml_RX6_146 mo_X1_addPlace mv_X1_addPlace rfl (tX1_addPlace (d + 3) e25 hN20 k24) k24 (okN hN20 k24 (by decide)).1 (okN hN20 k24 (by decide)).2 cq_1 (by decide) rfl rfl (Nat.le_of_ble_eq_true rfl) (by decide) (by decide) (fun v ν hp => ?_) (fun i ν hp => nrm hp.1)
              obtain ⟨rfl, rfl, hN27, hb28⟩ := QEl hp
              show J _ _ _ _ 100 _ ([]) _ _ _ _
              refine J.aload_n (pc := 100) dX6_readDeed_100 rfl 1 rfl ?_
              obtain ⟨μ30, e29, h⟩ := bnd h
              refine J.callV (Y := mX6_readDeed) (Z := mX6_advance) (pc := 101) (st := []) (k2 := 0) (n2 := 0) dX6_readDeed_101 ml_RX6_65 mo_X6_advance mv_X6_advance rfl (tX6_advance d e29 hN27 k0) k0 (okN hN27 k0 (by decide)).1 (okN hN27 k0 (by decide)).2 cq_6 (by decide) rfl rfl (Nat.le_of_ble_eq_true rfl) (by decide) (by decide) (fun v ν hp => ?_) (fun i ν hp => nrm hp.1)
              obtain ⟨rfl, rfl, hN31, hb32⟩ := QEl hp
              show J _ _ _ _ 104 _ ([]) _ _ _ _
              refine J.iinc (pc := 104) (j := 3) ([(2, .int (v2 + (1 : Int32))), (3, .int r19), (0, .ref v0), (1, .int v1)]) dX6_readDeed_104 rfl (iincv ic_1) (Nat.le_of_ble_eq_true rfl) rfl ?_
              refine J.goto (pc := 107) (tgt := 39) dX6_readDeed_107 (by decide) ?_
              refine J.pick [2, 3, 0] rfl ?_
              exact ih v0 v1 (v2 + (1 : Int32)) μ30 h hN31 k0
            · refine J.zne (pc := 88) (tgt := 104) dX6_readDeed_88 (by decide) (fun q => absurd q hc) (fun _ => ?_)
              refine J.iinc (pc := 104) (j := 3) ([(2, .int (v2 + (1 : Int32))), (3, .int r19), (0, .ref v0), (1, .int v1)]) dX6_readDeed_104 rfl (iincv ic_1) (Nat.le_of_ble_eq_true rfl) rfl ?_
              refine J.goto (pc := 107) (tgt := 39) dX6_readDeed_107 (by decide) ?_
              refine J.pick [2, 3, 0] rfl ?_
              exact ih v0 v1 (v2 + (1 : Int32)) μ18 h hN20 k0
        · refine J.zeq (pc := 53) (tgt := 66) dX6_readDeed_53 (by decide) (fun q => absurd q hc) (fun _ => ?_)
          refine J.aload_n (pc := 56) dX6_readDeed_56 rfl 0 rfl ?_
          refine J.fI (pc := 57) dX6_readDeed_57 fl_RX6_31 k0 (okN hN k0 (by decide)) (Or.inl rfl) ?_
          refine J.sipush (pc := 60) dX6_readDeed_60 is_257 ?_
          rcases ifc h with ⟨hc, h⟩ | ⟨hc, h⟩
          · refine J.cne (pc := 63) (tgt := 110) dX6_readDeed_63 (by decide) (fun _ => ?_) (fun q => absurd hc q)
            refine J.aload_n (pc := 66) dX6_readDeed_66 rfl 0 rfl ?_
            refine J.iload_n (pc := 67) dX6_readDeed_67 rfl 2 rfl ?_
            refine J.bipush (pc := 68) dX6_readDeed_68 ib_8 ?_
            rcases ifc h with ⟨hc, h⟩ | ⟨hc, h⟩
            · refine J.cge (pc := 70) (tgt := 78) dX6_readDeed_70 (by decide) (fun _ => ?_) (fun q => absurd hc q)
              refine J.bipush (pc := 73) dX6_readDeed_73 ib_10 ?_
              refine J.goto (pc := 75) (tgt := 79) dX6_readDeed_75 (by decide) ?_
              refine J.iconst (pc := 79) dX6_readDeed_79 ic_2 ?_
              obtain ⟨⟨r35, μ34⟩, e33, h⟩ := bnd h
              try dsimp only at h
              refine J.callV (Y := mX6_readDeed) (Z := mX6_numberBelow) (pc := 80) (st := []) (k2 := 0) (n2 := 0) dX6_readDeed_80 ml_RX6_143 mo_X6_numberBelow mv_X6_numberBelow rfl (tX6_numberBelow (d + 4) e33 hN k0) k0 (okN hN k0 (by decide)).1 (okN hN k0 (by decide)).2 cq_6 (by decide) rfl rfl (Nat.le_of_ble_eq_true rfl) (by decide) (by decide) (fun v ν hp => ?_) (fun i ν hp => nrm hp.1)
              obtain ⟨rfl, rfl, hN36, hb37⟩ := QEl hp
              show J _ _ _ _ 83 _ ([.int r35]) _ _ _ _
              refine J.istore_n (pc := 83) ([(3, .int r35), (0, .ref v0), (1, .int v1), (2, .int v2)]) dX6_readDeed_83 rfl (Nat.le_of_ble_eq_true rfl) rfl ?_
              refine J.aload_n (pc := 84) dX6_readDeed_84 rfl 1 rfl ?_
              refine J.fI (pc := 85) dX6_readDeed_85 fl_RX6_9 k0 (okN hN36 k0 (by decide)) (Or.inl rfl) ?_
              rcases ifc h with ⟨hc, h⟩ | ⟨hc, h⟩
              · refine J.zne (pc := 88) (tgt := 104) dX6_readDeed_88 (by decide) (fun _ => ?_) (fun q => absurd hc q)
                refine J.aload_n (pc := 91) dX6_readDeed_91 rfl 1 rfl ?_
                obtain ⟨a38, e39, h⟩ := bnd h
                have k40 : (kd a38).1 = 11 := gR_k e39
                refine J.fR (pc := 92) dX6_readDeed_92 fl_RX6_43 k0 (okN hN36 k0 (by decide)) rfl e39 ?_
                refine J.iload_n (pc := 95) dX6_readDeed_95 rfl 2 rfl ?_
                refine J.iload_n (pc := 96) dX6_readDeed_96 rfl 0 rfl ?_
                obtain ⟨μ42, e41, h⟩ := bnd h
                refine J.callV (Y := mX6_readDeed) (Z := mX1_addPlace) (pc := 97) (st := []) (k2 := 0) (n2 := 0) dX6_readDeed_97 ml_RX6_146 mo_X1_addPlace mv_X1_addPlace rfl (tX1_addPlace (d + 3) e41 hN36 k40) k40 (okN hN36 k40 (by decide)).1 (okN hN36 k40 (by decide)).2 cq_1 (by decide) rfl rfl (Nat.le_of_ble_eq_true rfl) (by decide) (by decide) (fun v ν hp => ?_) (fun i ν hp => nrm hp.1)
                obtain ⟨rfl, rfl, hN43, hb44⟩ := QEl hp
                show J _ _ _ _ 100 _ ([]) _ _ _ _
                refine J.aload_n (pc := 100) dX6_readDeed_100 rfl 1 rfl ?_
                obtain ⟨μ46, e45, h⟩ := bnd h
                refine J.callV (Y := mX6_readDeed) (Z := mX6_advance) (pc := 101) (st := []) (k2 := 0) (n2 := 0) dX6_readDeed_101 ml_RX6_65 mo_X6_advance mv_X6_advance rfl (tX6_advance d e45 hN43 k0) k0 (okN hN43 k0 (by decide)).1 (okN hN43 k0 (by decide)).2 cq_6 (by decide) rfl rfl (Nat.le_of_ble_eq_true rfl) (by decide) (by decide) (fun v ν hp => ?_) (fun i ν hp => nrm hp.1)
                obtain ⟨rfl, rfl, hN47, hb48⟩ := QEl hp
                show J _ _ _ _ 104 _ ([]) _ _ _ _
                refine J.iinc (pc := 104) (j := 3) ([(2, .int (v2 + (1 : Int32))), (3, .int r35), (0, .ref v0), (1, .int v1)]) dX6_readDeed_104 rfl (iincv ic_1) (Nat.le_of_ble_eq_true rfl) rfl ?_
                refine J.goto (pc := 107) (tgt := 39) dX6_readDeed_107 (by decide) ?_
                refine J.pick [2, 3, 0] rfl ?_
                exact ih v0 v1 (v2 + (1 : Int32)) μ46 h hN47 k0
              · refine J.zne (pc := 88) (tgt := 104) dX6_readDeed_88 (by decide) (fun q => absurd q hc) (fun _ => ?_)
                refine J.iinc (pc := 104) (j := 3) ([(2, .int (v2 + (1 : Int32))), (3, .int r35), (0, .ref v0), (1, .int v1)]) dX6_readDeed_104 rfl (iincv ic_1) (Nat.le_of_ble_eq_true rfl) rfl ?_
                refine J.goto (pc := 107) (tgt := 39) dX6_readDeed_107 (by decide) ?_
                refine J.pick [2, 3, 0] rfl ?_
                exact ih v0 v1 (v2 + (1 : Int32)) μ34 h hN36 k0
            · refine J.cge (pc := 70) (tgt := 78) dX6_readDeed_70 (by decide) (fun q => absurd q hc) (fun _ => ?_)
              refine J.iconst (pc := 78) dX6_readDeed_78 ic_0 ?_
              refine J.iconst (pc := 79) dX6_readDeed_79 ic_2 ?_
              obtain ⟨⟨r51, μ50⟩, e49, h⟩ := bnd h
              try dsimp only at h
              refine J.callV (Y := mX6_readDeed) (Z := mX6_numberBelow) (pc := 80) (st := []) (k2 := 0) (n2 := 0) dX6_readDeed_80 ml_RX6_143 mo_X6_numberBelow mv_X6_numberBelow rfl (tX6_numberBelow (d + 4) e49 hN k0) k0 (okN hN k0 (by decide)).1 (okN hN k0 (by decide)).2 cq_6 (by decide) rfl rfl (Nat.le_of_ble_eq_true rfl) (by decide) (by decide) (fun v ν hp => ?_) (fun i ν hp => nrm hp.1)
              obtain ⟨rfl, rfl, hN52, hb53⟩ := QEl hp
              show J _ _ _ _ 83 _ ([.int r51]) _ _ _ _
              refine J.istore_n (pc := 83) ([(3, .int r51), (0, .ref v0), (1, .int v1), (2, .int v2)]) dX6_readDeed_83 rfl (Nat.le_of_ble_eq_true rfl) rfl ?_
              refine J.aload_n (pc := 84) dX6_readDeed_84 rfl 1 rfl ?_
              refine J.fI (pc := 85) dX6_readDeed_85 fl_RX6_9 k0 (okN hN52 k0 (by decide)) (Or.inl rfl) ?_
              rcases ifc h with ⟨hc, h⟩ | ⟨hc, h⟩
              · refine J.zne (pc := 88) (tgt := 104) dX6_readDeed_88 (by decide) (fun _ => ?_) (fun q => absurd hc q)
                refine J.aload_n (pc := 91) dX6_readDeed_91 rfl 1 rfl ?_
                obtain ⟨a54, e55, h⟩ := bnd h
                have k56 : (kd a54).1 = 11 := gR_k e55
                refine J.fR (pc := 92) dX6_readDeed_92 fl_RX6_43 k0 (okN hN52 k0 (by decide)) rfl e55 ?_
                refine J.iload_n (pc := 95) dX6_readDeed_95 rfl 2 rfl ?_
                refine J.iload_n (pc := 96) dX6_readDeed_96 rfl 0 rfl ?_
                obtain ⟨μ58, e57, h⟩ := bnd h
                refine J.callV (Y := mX6_readDeed) (Z := mX1_addPlace) (pc := 97) (st := []) (k2 := 0) (n2 := 0) dX6_readDeed_97 ml_RX6_146 mo_X1_addPlace mv_X1_addPlace rfl (tX1_addPlace (d + 3) e57 hN52 k56) k56 (okN hN52 k56 (by decide)).1 (okN hN52 k56 (by decide)).2 cq_1 (by decide) rfl rfl (Nat.le_of_ble_eq_true rfl) (by decide) (by decide) (fun v ν hp => ?_) (fun i ν hp => nrm hp.1)
                obtain ⟨rfl, rfl, hN59, hb60⟩ := QEl hp
                show J _ _ _ _ 100 _ ([]) _ _ _ _
                refine J.aload_n (pc := 100) dX6_readDeed_100 rfl 1 rfl ?_
                obtain ⟨μ62, e61, h⟩ := bnd h
                refine J.callV (Y := mX6_readDeed) (Z := mX6_advance) (pc := 101) (st := []) (k2 := 0) (n2 := 0) dX6_readDeed_101 ml_RX6_65 mo_X6_advance mv_X6_advance rfl (tX6_advance d e61 hN59 k0) k0 (okN hN59 k0 (by decide)).1 (okN hN59 k0 (by decide)).2 cq_6 (by decide) rfl rfl (Nat.le_of_ble_eq_true rfl) (by decide) (by decide) (fun v ν hp => ?_) (fun i ν hp => nrm hp.1)
                obtain ⟨rfl, rfl, hN63, hb64⟩ := QEl hp
                show J _ _ _ _ 104 _ ([]) _ _ _ _
                refine J.iinc (pc := 104) (j := 3) ([(2, .int (v2 + (1 : Int32))), (3, .int r51), (0, .ref v0), (1, .int v1)]) dX6_readDeed_104 rfl (iincv ic_1) (Nat.le_of_ble_eq_true rfl) rfl ?_
                refine J.goto (pc := 107) (tgt := 39) dX6_readDeed_107 (by decide) ?_
                refine J.pick [2, 3, 0] rfl ?_
                exact ih v0 v1 (v2 + (1 : Int32)) μ62 h hN63 k0
              · refine J.zne (pc := 88) (tgt := 104) dX6_readDeed_88 (by decide) (fun q => absurd q hc) (fun _ => ?_)
                refine J.iinc (pc := 104) (j := 3) ([(2, .int (v2 + (1 : Int32))), (3, .int r51), (0, .ref v0), (1, .int v1)]) dX6_readDeed_104 rfl (iincv ic_1) (Nat.le_of_ble_eq_true rfl) rfl ?_
                refine J.goto (pc := 107) (tgt := 39) dX6_readDeed_107 (by decide) ?_
                refine J.pick [2, 3, 0] rfl ?_
                exact ih v0 v1 (v2 + (1 : Int32)) μ50 h hN52 k0
          · refine J.cne (pc := 63) (tgt := 110) dX6_readDeed_63 (by decide) (fun q => absurd q hc) (fun _ => ?_)
            cases h
            exact J.vret (pc := 110) dX6_readDeed_110 rfl ⟨rfl, rfl, hN, trivial⟩
      · refine J.zne (pc := 49) (tgt := 110) dX6_readDeed_49 (by decide) (fun q => absurd q hc) (fun _ => ?_)
        cases h
        exact J.vret (pc := 110) dX6_readDeed_110 rfl ⟨rfl, rfl, hN, trivial⟩
def fX6_readDeed (v0 : Nat) (μ : Mem) : Option (Mem) :=
  (gR μ v0 8 11).bind fun a1 =>
  if (μ.2.1 a1 0) < (6 : Int32) then
    (fX6_advance v0 μ).bind fun μ5 =>
    (gR μ5 v0 8 11).bind fun a8 =>
    (some (sI μ5 a8 0 ((μ5.2.1 a8 0) + (1 : Int32)))).bind fun μ11 =>
    (fX6_readDeed_39 fuel) v0 (μ.2.1 a1 0) (0 : Int32) μ11
  else
    (fX6_refuse v0 (2 : Int32) μ).bind fun μ15 =>
    some μ15
set_option maxHeartbeats 4000000 in
theorem tX6_readDeed {ω : Wd} {l : Launch} (d : Nat) {v0 : Nat} {μ : Mem} {res : Mem} (h : fX6_readDeed v0 μ = some res) (hN : μ.1 = NN) (k0 : (kd v0).1 = 16) : Ct ω l mX6_readDeed (d + 6) [.ref v0] μ 0 0 (PE (.inl none) res True) := by
  refine Ct.of pn_RX6 (Nat.le_of_ble_eq_true rfl) ?_
  show J ω l mX6_readDeed (d + 6) 0 [(0, .ref v0)] [] μ 0 0 _
  unfold fX6_readDeed at h
  refine J.aload_n (pc := 0) dX6_readDeed_0 rfl 0 rfl ?_
  obtain ⟨a1, e2, h⟩ := bnd h
  have k3 : (kd a1).1 = 11 := gR_k e2
  refine J.fR (pc := 1) dX6_readDeed_1 fl_RX6_43 k0 (okN hN k0 (by decide)) rfl e2 ?_
  refine J.fI (pc := 4) dX6_readDeed_4 fl_RX6_140 k3 (okN hN k3 (by decide)) (Or.inl rfl) ?_
  refine J.istore_n (pc := 7) ([(1, .int (μ.2.1 a1 0)), (0, .ref v0)]) dX6_readDeed_7 rfl (Nat.le_of_ble_eq_true rfl) rfl ?_
  refine J.iload_n (pc := 8) dX6_readDeed_8 rfl 0 rfl ?_
  refine J.bipush (pc := 9) dX6_readDeed_9 ib_6 ?_
  rcases ifc h with ⟨hc, h⟩ | ⟨hc, h⟩
  · refine J.clt (pc := 11) (tgt := 20) dX6_readDeed_11 (by decide) (fun _ => ?_) (fun q => absurd hc q)
    refine J.aload_n (pc := 20) dX6_readDeed_20 rfl 1 rfl ?_
    obtain ⟨μ5, e4, h⟩ := bnd h
    refine J.callV (Y := mX6_readDeed) (Z := mX6_advance) (pc := 21) (st := []) (k2 := 0) (n2 := 0) dX6_readDeed_21 ml_RX6_65 mo_X6_advance mv_X6_advance rfl (tX6_advance d e4 hN k0) k0 (okN hN k0 (by decide)).1 (okN hN k0 (by decide)).2 cq_6 (by decide) rfl rfl (Nat.le_of_ble_eq_true rfl) (by decide) (by decide) (fun v ν hp => ?_) (fun i ν hp => nrm hp.1)
    obtain ⟨rfl, rfl, hN6, hb7⟩ := QEl hp
    show J _ _ _ _ 24 _ ([]) _ _ _ _
    refine J.aload_n (pc := 24) dX6_readDeed_24 rfl 1 rfl ?_
    obtain ⟨a8, e9, h⟩ := bnd h
    have k10 : (kd a8).1 = 11 := gR_k e9
    refine J.fR (pc := 25) dX6_readDeed_25 fl_RX6_43 k0 (okN hN6 k0 (by decide)) rfl e9 ?_
    refine J.dup (pc := 28) dX6_readDeed_28 rfl ?_
    refine J.fI (pc := 29) dX6_readDeed_29 fl_RX6_140 k10 (okN hN6 k10 (by decide)) (Or.inl rfl) ?_
    refine J.iconst (pc := 32) dX6_readDeed_32 ic_1 ?_
    refine J.iadd (pc := 33) dX6_readDeed_33 ?_
    obtain ⟨μ11, e12, h⟩ := bnd h
    have hN13 : μ11.1 = NN := smN e12 hN6
    refine J.qI (pc := 34) dX6_readDeed_34 fl_RX6_140 k10 (okN hN6 k10 (by decide)) rfl rfl e12 ?_
    refine J.iconst (pc := 37) dX6_readDeed_37 ic_0 ?_
    refine J.istore_n (pc := 38) ([(2, .int (0 : Int32)), (1, .int (μ.2.1 a1 0)), (0, .ref v0)]) dX6_readDeed_38 rfl (Nat.le_of_ble_eq_true rfl) rfl ?_
    refine J.pick [2, 1, 0] rfl ?_
    exact (tX6_readDeed_39 d fuel) v0 (μ.2.1 a1 0) (0 : Int32) μ11 h hN13 k0
  · refine J.clt (pc := 11) (tgt := 20) dX6_readDeed_11 (by decide) (fun q => absurd q hc) (fun _ => ?_)
    refine J.aload_n (pc := 14) dX6_readDeed_14 rfl 1 rfl ?_
    refine J.iconst (pc := 15) dX6_readDeed_15 ic_2 ?_
    obtain ⟨μ15, e14, h⟩ := bnd h
    refine J.callV (Y := mX6_readDeed) (Z := mX6_refuse) (pc := 16) (st := []) (k2 := 0) (n2 := 0) dX6_readDeed_16 ml_RX6_109 mo_X6_refuse mv_X6_refuse rfl (tX6_refuse (d + 5) e14 hN k0) k0 (okN hN k0 (by decide)).1 (okN hN k0 (by decide)).2 cq_6 (by decide) rfl rfl (Nat.le_of_ble_eq_true rfl) (by decide) (by decide) (fun v ν hp => ?_) (fun i ν hp => nrm hp.1)
    obtain ⟨rfl, rfl, hN16, hb17⟩ := QEl hp
    show J _ _ _ _ 19 _ ([]) _ _ _ _
    cases h
    exact J.vret (pc := 19) dX6_readDeed_19 rfl ⟨rfl, rfl, hN16, trivial⟩
