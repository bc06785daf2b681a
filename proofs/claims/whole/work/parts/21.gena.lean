def fJ0_isLatin1_aae02 (v0 : Nat) : Int32 :=
  if (1 : Int32) = 0 then
    (0 : Int32)
  else
    if (0 : Int32) = 0 then
      (1 : Int32)
    else
      (0 : Int32)
set_option maxHeartbeats 4000000 in
theorem tJ0_isLatin1_aae02 {ω : Wd} {l : Launch} (d : Nat) (v0 : Nat) (μ : Mem) (hN : μ.1 = NN) (k0 : v0 < 15) : Ct ω l mJ0_isLatin1_aae02 d [.ref (10000 + v0)] μ 0 0 (PE (.inl (some (.int (fJ0_isLatin1_aae02 v0)))) μ (isB (fJ0_isLatin1_aae02 v0))) := by
  refine Ct.of pn_RJ0 (Nat.le_of_ble_eq_true rfl) ?_
  show J ω l mJ0_isLatin1_aae02 d 0 [(0, .ref (10000 + v0))] [] μ 0 0 _
  generalize h : fJ0_isLatin1_aae02 v0 = res
  unfold fJ0_isLatin1_aae02 at h
  refine J.compact (pc := 0) dJ0_isLatin1_aae02_0 (fl_RJ0_38) ?_
  rcases ifc h with ⟨hc, h⟩ | ⟨hc, h⟩
  · refine J.zeq (pc := 3) (tgt := 17) dJ0_isLatin1_aae02_3 (by decide) (fun _ => ?_) (fun q => absurd hc q)
    refine J.iconst (pc := 17) dJ0_isLatin1_aae02_17 ic_0 ?_
    cases h
    exact J.zret (pc := 18) dJ0_isLatin1_aae02_18 rfl (narB (Or.inl rfl)) ⟨rfl, rfl, hN, (Or.inl rfl)⟩
  · refine J.zeq (pc := 3) (tgt := 17) dJ0_isLatin1_aae02_3 (by decide) (fun q => absurd q hc) (fun _ => ?_)
    refine J.aload_n (pc := 6) dJ0_isLatin1_aae02_6 rfl 0 rfl ?_
    refine J.strC (pc := 7) dJ0_isLatin1_aae02_7 (fl_RJ0_15) k0 ?_
    rcases ifc h with ⟨hc, h⟩ | ⟨hc, h⟩
    · refine J.zne (pc := 10) (tgt := 17) dJ0_isLatin1_aae02_10 (by decide) (fun _ => ?_) (fun q => absurd hc q)
      refine J.iconst (pc := 13) dJ0_isLatin1_aae02_13 ic_1 ?_
      refine J.goto (pc := 14) (tgt := 18) dJ0_isLatin1_aae02_14 (by decide) ?_
      cases h
      exact J.zret (pc := 18) dJ0_isLatin1_aae02_18 rfl (narB (Or.inr rfl)) ⟨rfl, rfl, hN, (Or.inr rfl)⟩
    · refine J.zne (pc := 10) (tgt := 17) dJ0_isLatin1_aae02_10 (by decide) (fun q => absurd q hc) (fun _ => ?_)
      refine J.iconst (pc := 17) dJ0_isLatin1_aae02_17 ic_0 ?_
      cases h
      exact J.zret (pc := 18) dJ0_isLatin1_aae02_18 rfl (narB (Or.inl rfl)) ⟨rfl, rfl, hN, (Or.inl rfl)⟩
def fJ1_charAt_3b067 (v0 : Nat) (v1 : Int32) (μ : Mem) : Option (Int32) :=
  (fJ0_checkIndex_df160 v1 (Int32.ofNat (slen.getD v0 0))).bind fun _ =>
  (ldB v0 v1).bind fun x4 =>
  some (((x4 &&& (255 : Int32)).toUInt32 % 65536).toInt32)
set_option maxHeartbeats 4000000 in
theorem tJ1_charAt_3b067 {ω : Wd} {l : Launch} (d : Nat) {v0 : Nat} {v1 : Int32} {μ : Mem} {res : Int32} (h : fJ1_charAt_3b067 v0 v1 μ = some res) (hN : μ.1 = NN) (k0 : v0 < 15) : Ct ω l mJ1_charAt_3b067 (d + 2) [.ref (20000 + v0), .int v1] μ 0 0 (PE (.inl (some (.int res))) μ (narrow .char (.int res) = .int res)) := by
  refine Ct.of pn_RJ1 (Nat.le_of_ble_eq_true rfl) ?_
  show J ω l mJ1_charAt_3b067 (d + 2) 0 [(0, .ref (20000 + v0)), (1, .int v1)] [] μ 0 0 _
  unfold fJ1_charAt_3b067 at h
  refine J.iload_n (pc := 0) dJ1_charAt_3b067_0 rfl 1 rfl ?_
  refine J.aload_n (pc := 1) dJ1_charAt_3b067_1 rfl 0 rfl ?_
  refine J.lenB (pc := 2) dJ1_charAt_3b067_2 k0 ?_
  obtain ⟨_, e1, h⟩ := bnd h
  refine J.callS (Y := mJ1_charAt_3b067) (Z := mJ0_checkIndex_df160) (pc := 3) (st := []) (k2 := 0) (n2 := 0) dJ1_charAt_3b067_3 ml_RJ1_9 mo_J0_checkIndex_df160 ms_J0_checkIndex_df160 rfl (tJ0_checkIndex_df160 d e1 hN ) rfl rfl (Nat.le_of_ble_eq_true rfl) (by decide) (by decide) (fun v ν hp => ?_) (fun i ν hp => nrm hp.1)
  obtain ⟨rfl, rfl, hN2, hb3⟩ := QEl hp
  show J _ _ _ _ 6 _ ([]) _ _ _ _
  refine J.aload_n (pc := 6) dJ1_charAt_3b067_6 rfl 0 rfl ?_
  refine J.iload_n (pc := 7) dJ1_charAt_3b067_7 rfl 1 rfl ?_
  obtain ⟨x4, e5, h⟩ := bnd h
  refine J.aB (pc := 8) dJ1_charAt_3b067_8 k0 e5 ?_
  refine J.sipush (pc := 9) dJ1_charAt_3b067_9 is_255 ?_
  refine J.iand (pc := 12) dJ1_charAt_3b067_12 ?_
  refine J.i2c (pc := 13) dJ1_charAt_3b067_13 ?_
  cases h
  exact J.zret (pc := 14) dJ1_charAt_3b067_14 rfl (pk_nc _) ⟨rfl, rfl, hN2, (pk_nc _)⟩
def fJ0_charAt_5068e (v0 : Nat) (v1 : Int32) (μ : Mem) : Option (Int32) :=
  if (fJ0_isLatin1_aae02 v0) = 0 then
    none
  else
    (fJ1_charAt_3b067 v0 v1 μ).bind fun r5 =>
    some r5
set_option maxHeartbeats 4000000 in
theorem tJ0_charAt_5068e {ω : Wd} {l : Launch} (d : Nat) {v0 : Nat} {v1 : Int32} {μ : Mem} {res : Int32} (h : fJ0_charAt_5068e v0 v1 μ = some res) (hN : μ.1 = NN) (k0 : v0 < 15) : Ct ω l mJ0_charAt_5068e (d + 3) [.ref (10000 + v0), .int v1] μ 0 0 (PE (.inl (some (.int res))) μ (narrow .char (.int res) = .int res)) := by
  refine Ct.of pn_RJ0 (Nat.le_of_ble_eq_true rfl) ?_
  show J ω l mJ0_charAt_5068e (d + 3) 0 [(0, .ref (10000 + v0)), (1, .int v1)] [] μ 0 0 _
  unfold fJ0_charAt_5068e at h
  refine J.aload_n (pc := 0) dJ0_charAt_5068e_0 rfl 0 rfl ?_
  refine J.callT (Y := mJ0_charAt_5068e) (Z := mJ0_isLatin1_aae02) (pc := 1) (st := []) (k2 := 0) (n2 := 0) dJ0_charAt_5068e_1 ml_RJ0_492 mo_J0_isLatin1_aae02 mv_J0_isLatin1_aae02 rfl rfl k0 (tJ0_isLatin1_aae02 (d + 2) v0 μ hN k0) rfl rfl (Nat.le_of_ble_eq_true rfl) (by decide) (by decide) (fun v ν hp => ?_) (fun i ν hp => nrm hp.1)
  obtain ⟨rfl, rfl, hN2, hb3⟩ := QEl hp
  show J _ _ _ _ 4 _ ([.int (fJ0_isLatin1_aae02 v0)]) _ _ _ _
  rcases ifc h with ⟨hc, h⟩ | ⟨hc, h⟩
  · refine J.zeq (pc := 4) (tgt := 16) dJ0_charAt_5068e_4 (by decide) (fun _ => ?_) (fun q => absurd hc q)
    cases h
  · refine J.zeq (pc := 4) (tgt := 16) dJ0_charAt_5068e_4 (by decide) (fun q => absurd q hc) (fun _ => ?_)
    refine J.aload_n (pc := 7) dJ0_charAt_5068e_7 rfl 0 rfl ?_
    refine J.strV (pc := 8) dJ0_charAt_5068e_8 (fl_RJ0_9) k0 ?_
    refine J.iload_n (pc := 11) dJ0_charAt_5068e_11 rfl 1 rfl ?_
    obtain ⟨r5, e4, h⟩ := bnd h
    refine J.callS (Y := mJ0_charAt_5068e) (Z := mJ1_charAt_3b067) (pc := 12) (st := []) (k2 := 0) (n2 := 0) dJ0_charAt_5068e_12 ml_RJ0_495 mo_J1_charAt_3b067 ms_J1_charAt_3b067 rfl (tJ1_charAt_3b067 d e4 hN2 k0) rfl rfl (Nat.le_of_ble_eq_true rfl) (by decide) (by decide) (fun v ν hp => ?_) (fun i ν hp => nrm hp.1)
    obtain ⟨rfl, rfl, hN6, hb7⟩ := QEl hp
    show J _ _ _ _ 15 _ ([.int r5]) _ _ _ _
    cases h
    exact J.zret (pc := 15) dJ0_charAt_5068e_15 rfl hb7 ⟨rfl, rfl, hN6, hb7⟩
def fJ0_coder_7d493 (v0 : Nat) : Int32 :=
  if (1 : Int32) = 0 then
    (1 : Int32)
  else
    (0 : Int32)
set_option maxHeartbeats 4000000 in
theorem tJ0_coder_7d493 {ω : Wd} {l : Launch} (d : Nat) (v0 : Nat) (μ : Mem) (hN : μ.1 = NN) (k0 : v0 < 15) : Ct ω l mJ0_coder_7d493 d [.ref (10000 + v0)] μ 0 0 (PE (.inl (some (.int (fJ0_coder_7d493 v0)))) μ True) := by
  refine Ct.of pn_RJ0 (Nat.le_of_ble_eq_true rfl) ?_
  show J ω l mJ0_coder_7d493 d 0 [(0, .ref (10000 + v0))] [] μ 0 0 _
  generalize h : fJ0_coder_7d493 v0 = res
  unfold fJ0_coder_7d493 at h
  refine J.compact (pc := 0) dJ0_coder_7d493_0 (fl_RJ0_38) ?_
  rcases ifc h with ⟨hc, h⟩ | ⟨hc, h⟩
  · refine J.zeq (pc := 3) (tgt := 13) dJ0_coder_7d493_3 (by decide) (fun _ => ?_) (fun q => absurd hc q)
    refine J.iconst (pc := 13) dJ0_coder_7d493_13 ic_1 ?_
    cases h
    exact J.zret (pc := 14) dJ0_coder_7d493_14 rfl (by decide +kernel) ⟨rfl, rfl, hN, trivial⟩
  · refine J.zeq (pc := 3) (tgt := 13) dJ0_coder_7d493_3 (by decide) (fun q => absurd q hc) (fun _ => ?_)
    refine J.aload_n (pc := 6) dJ0_coder_7d493_6 rfl 0 rfl ?_
    refine J.strC (pc := 7) dJ0_coder_7d493_7 (fl_RJ0_15) k0 ?_
    refine J.goto (pc := 10) (tgt := 14) dJ0_coder_7d493_10 (by decide) ?_
    cases h
    exact J.zret (pc := 14) dJ0_coder_7d493_14 rfl (by decide +kernel) ⟨rfl, rfl, hN, trivial⟩
def fJ0_length_8abf5 (v0 : Nat) : Int32 :=
  ((Int32.ofNat (slen.getD v0 0)) >>> ((fJ0_coder_7d493 v0) &&& 31))
set_option maxHeartbeats 4000000 in
theorem tJ0_length_8abf5 {ω : Wd} {l : Launch} (d : Nat) (v0 : Nat) (μ : Mem) (hN : μ.1 = NN) (k0 : v0 < 15) : Ct ω l mJ0_length_8abf5 (d + 1) [.ref (10000 + v0)] μ 0 0 (PE (.inl (some (.int (fJ0_length_8abf5 v0)))) μ True) := by
  refine Ct.of pn_RJ0 (Nat.le_of_ble_eq_true rfl) ?_
  show J ω l mJ0_length_8abf5 (d + 1) 0 [(0, .ref (10000 + v0))] [] μ 0 0 _
  generalize h : fJ0_length_8abf5 v0 = res
  unfold fJ0_length_8abf5 at h
  refine J.aload_n (pc := 0) dJ0_length_8abf5_0 rfl 0 rfl ?_
  refine J.strV (pc := 1) dJ0_length_8abf5_1 (fl_RJ0_9) k0 ?_
  refine J.lenB (pc := 4) dJ0_length_8abf5_4 k0 ?_
  refine J.aload_n (pc := 5) dJ0_length_8abf5_5 rfl 0 rfl ?_
  refine J.callT (Y := mJ0_length_8abf5) (Z := mJ0_coder_7d493) (pc := 6) (st := [.int (Int32.ofNat (slen.getD v0 0))]) (k2 := 0) (n2 := 0) dJ0_length_8abf5_6 ml_RJ0_335 mo_J0_coder_7d493 mv_J0_coder_7d493 rfl rfl k0 (tJ0_coder_7d493 d v0 μ hN k0) rfl rfl (Nat.le_of_ble_eq_true rfl) (by decide) (by decide) (fun v ν hp => ?_) (fun i ν hp => nrm hp.1)
  obtain ⟨rfl, rfl, hN2, hb3⟩ := QEl hp
  show J _ _ _ _ 9 _ ([.int (fJ0_coder_7d493 v0), .int (Int32.ofNat (slen.getD v0 0))]) _ _ _ _
  refine J.ishr (pc := 9) dJ0_length_8abf5_9 ?_
  cases h
  exact J.iret (pc := 10) dJ0_length_8abf5_10 rfl ⟨rfl, rfl, hN2, trivial⟩
def fJ1_canEncode_9a6ad (v0 : Int32) : Int32 :=
  if v0 < 0 then
    (0 : Int32)
  else
    if (255 : Int32) < v0 then
      (0 : Int32)
    else
      (1 : Int32)
set_option maxHeartbeats 4000000 in
theorem tJ1_canEncode_9a6ad {ω : Wd} {l : Launch} (d : Nat) (v0 : Int32) (μ : Mem) (hN : μ.1 = NN) : Ct ω l mJ1_canEncode_9a6ad d [.int v0] μ 0 0 (PE (.inl (some (.int (fJ1_canEncode_9a6ad v0)))) μ (isB (fJ1_canEncode_9a6ad v0))) := by
  refine Ct.of pn_RJ1 (Nat.le_of_ble_eq_true rfl) ?_
  show J ω l mJ1_canEncode_9a6ad d 0 [(0, .int v0)] [] μ 0 0 _
  generalize h : fJ1_canEncode_9a6ad v0 = res
  unfold fJ1_canEncode_9a6ad at h
  refine J.iload_n (pc := 0) dJ1_canEncode_9a6ad_0 rfl 0 rfl ?_
  rcases ifc h with ⟨hc, h⟩ | ⟨hc, h⟩
  · refine J.zlt (pc := 1) (tgt := 15) dJ1_canEncode_9a6ad_1 (by decide) (fun _ => ?_) (fun q => absurd hc q)
    refine J.iconst (pc := 15) dJ1_canEncode_9a6ad_15 ic_0 ?_
    cases h
    exact J.zret (pc := 16) dJ1_canEncode_9a6ad_16 rfl (narB (Or.inl rfl)) ⟨rfl, rfl, hN, (Or.inl rfl)⟩
  · refine J.zlt (pc := 1) (tgt := 15) dJ1_canEncode_9a6ad_1 (by decide) (fun q => absurd q hc) (fun _ => ?_)
    refine J.iload_n (pc := 4) dJ1_canEncode_9a6ad_4 rfl 0 rfl ?_
    refine J.sipush (pc := 5) dJ1_canEncode_9a6ad_5 is_255 ?_
    rcases ifc h with ⟨hc, h⟩ | ⟨hc, h⟩
    · refine J.cgt (pc := 8) (tgt := 15) dJ1_canEncode_9a6ad_8 (by decide) (fun _ => ?_) (fun q => absurd hc q)
      refine J.iconst (pc := 15) dJ1_canEncode_9a6ad_15 ic_0 ?_
      cases h
      exact J.zret (pc := 16) dJ1_canEncode_9a6ad_16 rfl (narB (Or.inl rfl)) ⟨rfl, rfl, hN, (Or.inl rfl)⟩
    · refine J.cgt (pc := 8) (tgt := 15) dJ1_canEncode_9a6ad_8 (by decide) (fun q => absurd q hc) (fun _ => ?_)
      refine J.iconst (pc := 11) dJ1_canEncode_9a6ad_11 ic_1 ?_
      refine J.goto (pc := 12) (tgt := 16) dJ1_canEncode_9a6ad_12 (by decide) ?_
      cases h
      exact J.zret (pc := 16) dJ1_canEncode_9a6ad_16 rfl (narB (Or.inr rfl)) ⟨rfl, rfl, hN, (Or.inr rfl)⟩
def fJ1_indexOfChar_4cfef_7 (μ : Mem) : Nat → Nat → Int32 → Int32 → Int32 → Option (Int32)
  | 0, _, _, _, _ => none
  | n + 1, v0, v3, v4, v5 =>
    if v5 < v3 then
      (ldB v0 v5).bind fun x1 =>
      if x1 = v4 then
        some v5
      else
        (fJ1_indexOfChar_4cfef_7 μ n) v0 v3 v4 (v5 + (1 : Int32))
    else
      some (-1 : Int32)
set_option maxHeartbeats 4000000 in
theorem tJ1_indexOfChar_4cfef_7 {ω : Wd} {l : Launch} (d : Nat) {μ : Mem} (hN : μ.1 = NN) {res : Int32} : ∀ n : Nat, ∀ (v0 : Nat) (v3 : Int32) (v4 : Int32) (v5 : Int32), fJ1_indexOfChar_4cfef_7 μ n v0 v3 v4 v5 = some res → v0 < 15 → J ω l mJ1_indexOfChar_4cfef d 7 [(0, .ref (20000 + v0)), (3, .int v3), (4, .int v4), (5, .int v5)] [] μ 0 0 (PE (.inl (some (.int res))) μ True) := by
  intro n
  induction n with
  | zero =>
    intro v0 v3 v4 v5 h k0
    have h9 : (none : Option (Int32)) = some res := h
    cases h9
  | succ n ih =>
    intro v0 v3 v4 v5 h k0
    unfold fJ1_indexOfChar_4cfef_7 at h
    refine J.iload (pc := 7) dJ1_indexOfChar_4cfef_7 3 rfl ?_
    refine J.iload_n (pc := 9) dJ1_indexOfChar_4cfef_9 rfl 1 rfl ?_
    rcases ifc h with ⟨hc, h⟩ | ⟨hc, h⟩
    · refine J.cge (pc := 10) (tgt := 31) dJ1_indexOfChar_4cfef_10 (by decide) (fun _ => ?_) (fun q => absurd hc q)
      refine J.aload_n (pc := 13) dJ1_indexOfChar_4cfef_13 rfl 0 rfl ?_
      refine J.iload (pc := 14) dJ1_indexOfChar_4cfef_14 3 rfl ?_
      obtain ⟨x1, e2, h⟩ := bnd h
      refine J.aB (pc := 16) dJ1_indexOfChar_4cfef_16 k0 e2 ?_
      refine J.iload (pc := 17) dJ1_indexOfChar_4cfef_17 2 rfl ?_
      rcases ifc h with ⟨hc, h⟩ | ⟨hc, h⟩
      · refine J.cne (pc := 19) (tgt := 25) dJ1_indexOfChar_4cfef_19 (by decide) (fun _ => ?_) (fun q => absurd hc q)
        refine J.iload (pc := 22) dJ1_indexOfChar_4cfef_22 3 rfl ?_
        cases h
        exact J.iret (pc := 24) dJ1_indexOfChar_4cfef_24 rfl ⟨rfl, rfl, hN, trivial⟩
      · refine J.cne (pc := 19) (tgt := 25) dJ1_indexOfChar_4cfef_19 (by decide) (fun q => absurd q hc) (fun _ => ?_)
        refine J.iinc (pc := 25) (j := 3) ([(5, .int (v5 + (1 : Int32))), (0, .ref (20000 + v0)), (3, .int v3), (4, .int v4)]) dJ1_indexOfChar_4cfef_25 rfl (iincv ic_1) (Nat.le_of_ble_eq_true rfl) rfl ?_
        refine J.goto (pc := 28) (tgt := 7) dJ1_indexOfChar_4cfef_28 (by decide) ?_
        refine J.pick [1, 2, 3, 0] rfl ?_
        exact ih v0 v3 v4 (v5 + (1 : Int32)) h k0
    · refine J.cge (pc := 10) (tgt := 31) dJ1_indexOfChar_4cfef_10 (by decide) (fun q => absurd q hc) (fun _ => ?_)
      refine J.iconst (pc := 31) dJ1_indexOfChar_4cfef_31 ic_m1 ?_
      cases h
      exact J.iret (pc := 32) dJ1_indexOfChar_4cfef_32 rfl ⟨rfl, rfl, hN, trivial⟩
def fJ1_indexOfChar_4cfef (v0 : Nat) (v1 : Int32) (v2 : Int32) (v3 : Int32) (μ : Mem) : Option (Int32) :=
  (fJ1_indexOfChar_4cfef_7 μ fuel) v0 v3 (v1.toInt8.toInt32) v2
set_option maxHeartbeats 4000000 in
theorem tJ1_indexOfChar_4cfef {ω : Wd} {l : Launch} (d : Nat) {v0 : Nat} {v1 : Int32} {v2 : Int32} {v3 : Int32} {μ : Mem} {res : Int32} (h : fJ1_indexOfChar_4cfef v0 v1 v2 v3 μ = some res) (hN : μ.1 = NN) (k0 : v0 < 15) : Ct ω l mJ1_indexOfChar_4cfef d [.ref (20000 + v0), .int v1, .int v2, .int v3] μ 0 0 (PE (.inl (some (.int res))) μ True) := by
  refine Ct.of pn_RJ1 (Nat.le_of_ble_eq_true rfl) ?_
  show J ω l mJ1_indexOfChar_4cfef d 0 [(0, .ref (20000 + v0)), (1, .int v1), (2, .int v2), (3, .int v3)] [] μ 0 0 _
  unfold fJ1_indexOfChar_4cfef at h
  refine J.iload_n (pc := 0) dJ1_indexOfChar_4cfef_0 rfl 1 rfl ?_
  refine J.i2b (pc := 1) dJ1_indexOfChar_4cfef_1 ?_
  refine J.istore (pc := 2) ([(4, .int (v1.toInt8.toInt32)), (0, .ref (20000 + v0)), (1, .int v1), (2, .int v2), (3, .int v3)]) dJ1_indexOfChar_4cfef_2 (Nat.le_of_ble_eq_true rfl) rfl ?_
  refine J.iload_n (pc := 4) dJ1_indexOfChar_4cfef_4 rfl 3 rfl ?_
  refine J.istore (pc := 5) ([(5, .int v2), (4, .int (v1.toInt8.toInt32)), (0, .ref (20000 + v0)), (1, .int v1), (2, .int v2), (3, .int v3)]) dJ1_indexOfChar_4cfef_5 (Nat.le_of_ble_eq_true rfl) rfl ?_
  refine J.pick [2, 5, 1, 0] rfl ?_
  exact (tJ1_indexOfChar_4cfef_7 d hN fuel) v0 v3 (v1.toInt8.toInt32) v2 h k0
def fJ1_indexOf_4cfef (v0 : Nat) (v1 : Int32) (v2 : Int32) (v3 : Int32) (μ : Mem) : Option (Int32) :=
  if (fJ1_canEncode_9a6ad v1) = 0 then
    some (-1 : Int32)
  else
    if (mxI v2 (0 : Int32)) < (mnI v3 (Int32.ofNat (slen.getD v0 0))) then
      (fJ1_indexOfChar_4cfef v0 v1 (mxI v2 (0 : Int32)) (mnI v3 (Int32.ofNat (slen.getD v0 0))) μ).bind fun r5 =>
      some r5
    else
      some (-1 : Int32)
set_option maxHeartbeats 4000000 in
theorem tJ1_indexOf_4cfef {ω : Wd} {l : Launch} (d : Nat) {v0 : Nat} {v1 : Int32} {v2 : Int32} {v3 : Int32} {μ : Mem} {res : Int32} (h : fJ1_indexOf_4cfef v0 v1 v2 v3 μ = some res) (hN : μ.1 = NN) (k0 : v0 < 15) : Ct ω l mJ1_indexOf_4cfef (d + 1) [.ref (20000 + v0), .int v1, .int v2, .int v3] μ 0 0 (PE (.inl (some (.int res))) μ True) := by
  refine Ct.of pn_RJ1 (Nat.le_of_ble_eq_true rfl) ?_
  show J ω l mJ1_indexOf_4cfef (d + 1) 0 [(0, .ref (20000 + v0)), (1, .int v1), (2, .int v2), (3, .int v3)] [] μ 0 0 _
  unfold fJ1_indexOf_4cfef at h
  refine J.iload_n (pc := 0) dJ1_indexOf_4cfef_0 rfl 1 rfl ?_
  refine J.callS (Y := mJ1_indexOf_4cfef) (Z := mJ1_canEncode_9a6ad) (pc := 1) (st := []) (k2 := 0) (n2 := 0) dJ1_indexOf_4cfef_1 ml_RJ1_88 mo_J1_canEncode_9a6ad ms_J1_canEncode_9a6ad rfl (tJ1_canEncode_9a6ad d v1 μ hN ) rfl rfl (Nat.le_of_ble_eq_true rfl) (by decide) (by decide) (fun v ν hp => ?_) (fun i ν hp => nrm hp.1)
  obtain ⟨rfl, rfl, hN2, hb3⟩ := QEl hp
  show J _ _ _ _ 4 _ ([.int (fJ1_canEncode_9a6ad v1)]) _ _ _ _
  rcases ifc h with ⟨hc, h⟩ | ⟨hc, h⟩
  · refine J.zne (pc := 4) (tgt := 9) dJ1_indexOf_4cfef_4 (by decide) (fun _ => ?_) (fun q => absurd hc q)
    refine J.iconst (pc := 7) dJ1_indexOf_4cfef_7 ic_m1 ?_
    cases h
    exact J.iret (pc := 8) dJ1_indexOf_4cfef_8 rfl ⟨rfl, rfl, hN2, trivial⟩
  · refine J.zne (pc := 4) (tgt := 9) dJ1_indexOf_4cfef_4 (by decide) (fun q => absurd q hc) (fun _ => ?_)
    refine J.iload_n (pc := 9) dJ1_indexOf_4cfef_9 rfl 2 rfl ?_
    refine J.iconst (pc := 10) dJ1_indexOf_4cfef_10 ic_0 ?_
    refine J.mmax (pc := 11) dJ1_indexOf_4cfef_11 ml_RJ1_92 (Nat.le_of_ble_eq_true rfl) ?_
    refine J.istore_n (pc := 14) ([(2, .int (mxI v2 (0 : Int32))), (0, .ref (20000 + v0)), (1, .int v1), (3, .int v3)]) dJ1_indexOf_4cfef_14 rfl (Nat.le_of_ble_eq_true rfl) rfl ?_
    refine J.iload_n (pc := 15) dJ1_indexOf_4cfef_15 rfl 3 rfl ?_
    refine J.aload_n (pc := 16) dJ1_indexOf_4cfef_16 rfl 1 rfl ?_
    refine J.lenB (pc := 17) dJ1_indexOf_4cfef_17 k0 ?_
    refine J.mmin (pc := 18) dJ1_indexOf_4cfef_18 ml_RJ1_38 (Nat.le_of_ble_eq_true rfl) ?_
    refine J.istore_n (pc := 21) ([(3, .int (mnI v3 (Int32.ofNat (slen.getD v0 0)))), (2, .int (mxI v2 (0 : Int32))), (0, .ref (20000 + v0)), (1, .int v1)]) dJ1_indexOf_4cfef_21 rfl (Nat.le_of_ble_eq_true rfl) rfl ?_
    refine J.iload_n (pc := 22) dJ1_indexOf_4cfef_22 rfl 1 rfl ?_
    refine J.iload_n (pc := 23) dJ1_indexOf_4cfef_23 rfl 0 rfl ?_
    rcases ifc h with ⟨hc, h⟩ | ⟨hc, h⟩
    · refine J.clt (pc := 24) (tgt := 29) dJ1_indexOf_4cfef_24 (by decide) (fun _ => ?_) (fun q => absurd hc q)
      refine J.aload_n (pc := 29) dJ1_indexOf_4cfef_29 rfl 2 rfl ?_
      refine J.iload_n (pc := 30) dJ1_indexOf_4cfef_30 rfl 3 rfl ?_
      refine J.iload_n (pc := 31) dJ1_indexOf_4cfef_31 rfl 1 rfl ?_
      refine J.iload_n (pc := 32) dJ1_indexOf_4cfef_32 rfl 0 rfl ?_
      obtain ⟨r5, e4, h⟩ := bnd h
      refine J.callS (Y := mJ1_indexOf_4cfef) (Z := mJ1_indexOfChar_4cfef) (pc := 33) (st := []) (k2 := 0) (n2 := 0) dJ1_indexOf_4cfef_33 ml_RJ1_95 mo_J1_indexOfChar_4cfef ms_J1_indexOfChar_4cfef rfl (tJ1_indexOfChar_4cfef d e4 hN2 k0) rfl rfl (Nat.le_of_ble_eq_true rfl) (by decide) (by decide) (fun v ν hp => ?_) (fun i ν hp => nrm hp.1)
      obtain ⟨rfl, rfl, hN6, hb7⟩ := QEl hp
      show J _ _ _ _ 36 _ ([.int r5]) _ _ _ _
      cases h
      exact J.iret (pc := 36) dJ1_indexOf_4cfef_36 rfl ⟨rfl, rfl, hN6, trivial⟩
    · refine J.clt (pc := 24) (tgt := 29) dJ1_indexOf_4cfef_24 (by decide) (fun q => absurd q hc) (fun _ => ?_)
      refine J.iconst (pc := 27) dJ1_indexOf_4cfef_27 ic_m1 ?_
      cases h
      exact J.iret (pc := 28) dJ1_indexOf_4cfef_28 rfl ⟨rfl, rfl, hN2, trivial⟩
def fJ0_indexOf_7cf53 (v0 : Nat) (v1 : Int32) (v2 : Int32) (μ : Mem) : Option (Int32) :=
  if (fJ0_isLatin1_aae02 v0) = 0 then
    none
  else
    (fJ1_indexOf_4cfef v0 v1 v2 (fJ0_length_8abf5 v0) μ).bind fun r11 =>
    some r11
set_option maxHeartbeats 4000000 in
theorem tJ0_indexOf_7cf53 {ω : Wd} {l : Launch} (d : Nat) {v0 : Nat} {v1 : Int32} {v2 : Int32} {μ : Mem} {res : Int32} (h : fJ0_indexOf_7cf53 v0 v1 v2 μ = some res) (hN : μ.1 = NN) (k0 : v0 < 15) : Ct ω l mJ0_indexOf_7cf53 (d + 2) [.ref (10000 + v0), .int v1, .int v2] μ 0 0 (PE (.inl (some (.int res))) μ True) := by
  refine Ct.of pn_RJ0 (Nat.le_of_ble_eq_true rfl) ?_
  show J ω l mJ0_indexOf_7cf53 (d + 2) 0 [(0, .ref (10000 + v0)), (1, .int v1), (2, .int v2)] [] μ 0 0 _
  unfold fJ0_indexOf_7cf53 at h
  refine J.aload_n (pc := 0) dJ0_indexOf_7cf53_0 rfl 0 rfl ?_
  refine J.callT (Y := mJ0_indexOf_7cf53) (Z := mJ0_isLatin1_aae02) (pc := 1) (st := []) (k2 := 0) (n2 := 0) dJ0_indexOf_7cf53_1 ml_RJ0_492 mo_J0_isLatin1_aae02 mv_J0_isLatin1_aae02 rfl rfl k0 (tJ0_isLatin1_aae02 (d + 1) v0 μ hN k0) rfl rfl (Nat.le_of_ble_eq_true rfl) (by decide) (by decide) (fun v ν hp => ?_) (fun i ν hp => nrm hp.1)
  obtain ⟨rfl, rfl, hN2, hb3⟩ := QEl hp
  show J _ _ _ _ 4 _ ([.int (fJ0_isLatin1_aae02 v0)]) _ _ _ _
  rcases ifc h with ⟨hc, h⟩ | ⟨hc, h⟩
  · refine J.zeq (pc := 4) (tgt := 23) dJ0_indexOf_7cf53_4 (by decide) (fun _ => ?_) (fun q => absurd hc q)
    refine J.aload_n (pc := 23) dJ0_indexOf_7cf53_23 rfl 0 rfl ?_
    refine J.strV (pc := 24) dJ0_indexOf_7cf53_24 (fl_RJ0_9) k0 ?_
    refine J.iload_n (pc := 27) dJ0_indexOf_7cf53_27 rfl 1 rfl ?_
    refine J.iload_n (pc := 28) dJ0_indexOf_7cf53_28 rfl 2 rfl ?_
    refine J.aload_n (pc := 29) dJ0_indexOf_7cf53_29 rfl 0 rfl ?_
    refine J.callT (Y := mJ0_indexOf_7cf53) (Z := mJ0_length_8abf5) (pc := 30) (st := [.int v2, .int v1, .ref (20000 + v0)]) (k2 := 0) (n2 := 0) dJ0_indexOf_7cf53_30 ml_RJ0_505 mo_J0_length_8abf5 mv_J0_length_8abf5 rfl rfl k0 (tJ0_length_8abf5 d v0 μ hN2 k0) rfl rfl (Nat.le_of_ble_eq_true rfl) (by decide) (by decide) (fun v ν hp => ?_) (fun i ν hp => nrm hp.1)
    obtain ⟨rfl, rfl, hN5, hb6⟩ := QEl hp
    show J _ _ _ _ 33 _ ([.int (fJ0_length_8abf5 v0), .int v2, .int v1, .ref (20000 + v0)]) _ _ _ _
    cases h
  · refine J.zeq (pc := 4) (tgt := 23) dJ0_indexOf_7cf53_4 (by decide) (fun q => absurd q hc) (fun _ => ?_)
    refine J.aload_n (pc := 7) dJ0_indexOf_7cf53_7 rfl 0 rfl ?_
    refine J.strV (pc := 8) dJ0_indexOf_7cf53_8 (fl_RJ0_9) k0 ?_
    refine J.iload_n (pc := 11) dJ0_indexOf_7cf53_11 rfl 1 rfl ?_
    refine J.iload_n (pc := 12) dJ0_indexOf_7cf53_12 rfl 2 rfl ?_
    refine J.aload_n (pc := 13) dJ0_indexOf_7cf53_13 rfl 0 rfl ?_
    refine J.callT (Y := mJ0_indexOf_7cf53) (Z := mJ0_length_8abf5) (pc := 14) (st := [.int v2, .int v1, .ref (20000 + v0)]) (k2 := 0) (n2 := 0) dJ0_indexOf_7cf53_14 ml_RJ0_505 mo_J0_length_8abf5 mv_J0_length_8abf5 rfl rfl k0 (tJ0_length_8abf5 d v0 μ hN2 k0) rfl rfl (Nat.le_of_ble_eq_true rfl) (by decide) (by decide) (fun v ν hp => ?_) (fun i ν hp => nrm hp.1)
    obtain ⟨rfl, rfl, hN8, hb9⟩ := QEl hp
    show J _ _ _ _ 17 _ ([.int (fJ0_length_8abf5 v0), .int v2, .int v1, .ref (20000 + v0)]) _ _ _ _
    obtain ⟨r11, e10, h⟩ := bnd h
    refine J.callS (Y := mJ0_indexOf_7cf53) (Z := mJ1_indexOf_4cfef) (pc := 17) (st := []) (k2 := 0) (n2 := 0) dJ0_indexOf_7cf53_17 ml_RJ0_637 mo_J1_indexOf_4cfef ms_J1_indexOf_4cfef rfl (tJ1_indexOf_4cfef d e10 hN8 k0) rfl rfl (Nat.le_of_ble_eq_true rfl) (by decide) (by decide) (fun v ν hp => ?_) (fun i ν hp => nrm hp.1)
    obtain ⟨rfl, rfl, hN12, hb13⟩ := QEl hp
    show J _ _ _ _ 20 _ ([.int r11]) _ _ _ _
    refine J.goto (pc := 20) (tgt := 36) dJ0_indexOf_7cf53_20 (by decide) ?_
    cases h
    exact J.iret (pc := 36) dJ0_indexOf_7cf53_36 rfl ⟨rfl, rfl, hN12, trivial⟩
def fJ0_indexOf_0f7a4 (v0 : Nat) (v1 : Int32) (μ : Mem) : Option (Int32) :=
  (fJ0_indexOf_7cf53 v0 v1 (0 : Int32) μ).bind fun r2 =>
  some r2
set_option maxHeartbeats 4000000 in
theorem tJ0_indexOf_0f7a4 {ω : Wd} {l : Launch} (d : Nat) {v0 : Nat} {v1 : Int32} {μ : Mem} {res : Int32} (h : fJ0_indexOf_0f7a4 v0 v1 μ = some res) (hN : μ.1 = NN) (k0 : v0 < 15) : Ct ω l mJ0_indexOf_0f7a4 (d + 3) [.ref (10000 + v0), .int v1] μ 0 0 (PE (.inl (some (.int res))) μ True) := by
  refine Ct.of pn_RJ0 (Nat.le_of_ble_eq_true rfl) ?_
  show J ω l mJ0_indexOf_0f7a4 (d + 3) 0 [(0, .ref (10000 + v0)), (1, .int v1)] [] μ 0 0 _
  unfold fJ0_indexOf_0f7a4 at h
  refine J.aload_n (pc := 0) dJ0_indexOf_0f7a4_0 rfl 0 rfl ?_
  refine J.iload_n (pc := 1) dJ0_indexOf_0f7a4_1 rfl 1 rfl ?_
  refine J.iconst (pc := 2) dJ0_indexOf_0f7a4_2 ic_0 ?_
  obtain ⟨r2, e1, h⟩ := bnd h
  refine J.callT (Y := mJ0_indexOf_0f7a4) (Z := mJ0_indexOf_7cf53) (pc := 3) (st := []) (k2 := 0) (n2 := 0) dJ0_indexOf_0f7a4_3 ml_RJ0_633 mo_J0_indexOf_7cf53 mv_J0_indexOf_7cf53 rfl rfl k0 (tJ0_indexOf_7cf53 d e1 hN k0) rfl rfl (Nat.le_of_ble_eq_true rfl) (by decide) (by decide) (fun v ν hp => ?_) (fun i ν hp => nrm hp.1)
  obtain ⟨rfl, rfl, hN3, hb4⟩ := QEl hp
  show J _ _ _ _ 6 _ ([.int r2]) _ _ _ _
  cases h
  exact J.iret (pc := 6) dJ0_indexOf_0f7a4_6 rfl ⟨rfl, rfl, hN3, trivial⟩
def fJ13_bitCount_95d88 (v0 : Int64) : Int32 :=
  ((((((((((v0 - (((v0.toUInt64 >>> ((1 : Int32).toInt64.toUInt64 &&& Int64.toUInt64 63)).toInt64) &&& (6148914691236517205 : Int64))) &&& (3689348814741910323 : Int64)) + ((((v0 - (((v0.toUInt64 >>> ((1 : Int32).toInt64.toUInt64 &&& Int64.toUInt64 63)).toInt64) &&& (6148914691236517205 : Int64))).toUInt64 >>> ((2 : Int32).toInt64.toUInt64 &&& Int64.toUInt64 63)).toInt64) &&& (3689348814741910323 : Int64))) + (((((v0 - (((v0.toUInt64 >>> ((1 : Int32).toInt64.toUInt64 &&& Int64.toUInt64 63)).toInt64) &&& (6148914691236517205 : Int64))) &&& (3689348814741910323 : Int64)) + ((((v0 - (((v0.toUInt64 >>> ((1 : Int32).toInt64.toUInt64 &&& Int64.toUInt64 63)).toInt64) &&& (6148914691236517205 : Int64))).toUInt64 >>> ((2 : Int32).toInt64.toUInt64 &&& Int64.toUInt64 63)).toInt64) &&& (3689348814741910323 : Int64))).toUInt64 >>> ((4 : Int32).toInt64.toUInt64 &&& Int64.toUInt64 63)).toInt64)) &&& (1085102592571150095 : Int64)) + (((((((v0 - (((v0.toUInt64 >>> ((1 : Int32).toInt64.toUInt64 &&& Int64.toUInt64 63)).toInt64) &&& (6148914691236517205 : Int64))) &&& (3689348814741910323 : Int64)) + ((((v0 - (((v0.toUInt64 >>> ((1 : Int32).toInt64.toUInt64 &&& Int64.toUInt64 63)).toInt64) &&& (6148914691236517205 : Int64))).toUInt64 >>> ((2 : Int32).toInt64.toUInt64 &&& Int64.toUInt64 63)).toInt64) &&& (3689348814741910323 : Int64))) + (((((v0 - (((v0.toUInt64 >>> ((1 : Int32).toInt64.toUInt64 &&& Int64.toUInt64 63)).toInt64) &&& (6148914691236517205 : Int64))) &&& (3689348814741910323 : Int64)) + ((((v0 - (((v0.toUInt64 >>> ((1 : Int32).toInt64.toUInt64 &&& Int64.toUInt64 63)).toInt64) &&& (6148914691236517205 : Int64))).toUInt64 >>> ((2 : Int32).toInt64.toUInt64 &&& Int64.toUInt64 63)).toInt64) &&& (3689348814741910323 : Int64))).toUInt64 >>> ((4 : Int32).toInt64.toUInt64 &&& Int64.toUInt64 63)).toInt64)) &&& (1085102592571150095 : Int64)).toUInt64 >>> ((8 : Int32).toInt64.toUInt64 &&& Int64.toUInt64 63)).toInt64)) + ((((((((v0 - (((v0.toUInt64 >>> ((1 : Int32).toInt64.toUInt64 &&& Int64.toUInt64 63)).toInt64) &&& (6148914691236517205 : Int64))) &&& (3689348814741910323 : Int64)) + ((((v0 - (((v0.toUInt64 >>> ((1 : Int32).toInt64.toUInt64 &&& Int64.toUInt64 63)).toInt64) &&& (6148914691236517205 : Int64))).toUInt64 >>> ((2 : Int32).toInt64.toUInt64 &&& Int64.toUInt64 63)).toInt64) &&& (3689348814741910323 : Int64))) + (((((v0 - (((v0.toUInt64 >>> ((1 : Int32).toInt64.toUInt64 &&& Int64.toUInt64 63)).toInt64) &&& (6148914691236517205 : Int64))) &&& (3689348814741910323 : Int64)) + ((((v0 - (((v0.toUInt64 >>> ((1 : Int32).toInt64.toUInt64 &&& Int64.toUInt64 63)).toInt64) &&& (6148914691236517205 : Int64))).toUInt64 >>> ((2 : Int32).toInt64.toUInt64 &&& Int64.toUInt64 63)).toInt64) &&& (3689348814741910323 : Int64))).toUInt64 >>> ((4 : Int32).toInt64.toUInt64 &&& Int64.toUInt64 63)).toInt64)) &&& (1085102592571150095 : Int64)) + (((((((v0 - (((v0.toUInt64 >>> ((1 : Int32).toInt64.toUInt64 &&& Int64.toUInt64 63)).toInt64) &&& (6148914691236517205 : Int64))) &&& (3689348814741910323 : Int64)) + ((((v0 - (((v0.toUInt64 >>> ((1 : Int32).toInt64.toUInt64 &&& Int64.toUInt64 63)).toInt64) &&& (6148914691236517205 : Int64))).toUInt64 >>> ((2 : Int32).toInt64.toUInt64 &&& Int64.toUInt64 63)).toInt64) &&& (3689348814741910323 : Int64))) + (((((v0 - (((v0.toUInt64 >>> ((1 : Int32).toInt64.toUInt64 &&& Int64.toUInt64 63)).toInt64) &&& (6148914691236517205 : Int64))) &&& (3689348814741910323 : Int64)) + ((((v0 - (((v0.toUInt64 >>> ((1 : Int32).toInt64.toUInt64 &&& Int64.toUInt64 63)).toInt64) &&& (6148914691236517205 : Int64))).toUInt64 >>> ((2 : Int32).toInt64.toUInt64 &&& Int64.toUInt64 63)).toInt64) &&& (3689348814741910323 : Int64))).toUInt64 >>> ((4 : Int32).toInt64.toUInt64 &&& Int64.toUInt64 63)).toInt64)) &&& (1085102592571150095 : Int64)).toUInt64 >>> ((8 : Int32).toInt64.toUInt64 &&& Int64.toUInt64 63)).toInt64)).toUInt64 >>> ((16 : Int32).toInt64.toUInt64 &&& Int64.toUInt64 63)).toInt64)) + (((((((((v0 - (((v0.toUInt64 >>> ((1 : Int32).toInt64.toUInt64 &&& Int64.toUInt64 63)).toInt64) &&& (6148914691236517205 : Int64))) &&& (3689348814741910323 : Int64)) + ((((v0 - (((v0.toUInt64 >>> ((1 : Int32).toInt64.toUInt64 &&& Int64.toUInt64 63)).toInt64) &&& (6148914691236517205 : Int64))).toUInt64 >>> ((2 : Int32).toInt64.toUInt64 &&& Int64.toUInt64 63)).toInt64) &&& (3689348814741910323 : Int64))) + (((((v0 - (((v0.toUInt64 >>> ((1 : Int32).toInt64.toUInt64 &&& Int64.toUInt64 63)).toInt64) &&& (6148914691236517205 : Int64))) &&& (3689348814741910323 : Int64)) + ((((v0 - (((v0.toUInt64 >>> ((1 : Int32).toInt64.toUInt64 &&& Int64.toUInt64 63)).toInt64) &&& (6148914691236517205 : Int64))).toUInt64 >>> ((2 : Int32).toInt64.toUInt64 &&& Int64.toUInt64 63)).toInt64) &&& (3689348814741910323 : Int64))).toUInt64 >>> ((4 : Int32).toInt64.toUInt64 &&& Int64.toUInt64 63)).toInt64)) &&& (1085102592571150095 : Int64)) + (((((((v0 - (((v0.toUInt64 >>> ((1 : Int32).toInt64.toUInt64 &&& Int64.toUInt64 63)).toInt64) &&& (6148914691236517205 : Int64))) &&& (3689348814741910323 : Int64)) + ((((v0 - (((v0.toUInt64 >>> ((1 : Int32).toInt64.toUInt64 &&& Int64.toUInt64 63)).toInt64) &&& (6148914691236517205 : Int64))).toUInt64 >>> ((2 : Int32).toInt64.toUInt64 &&& Int64.toUInt64 63)).toInt64) &&& (3689348814741910323 : Int64))) + (((((v0 - (((v0.toUInt64 >>> ((1 : Int32).toInt64.toUInt64 &&& Int64.toUInt64 63)).toInt64) &&& (6148914691236517205 : Int64))) &&& (3689348814741910323 : Int64)) + ((((v0 - (((v0.toUInt64 >>> ((1 : Int32).toInt64.toUInt64 &&& Int64.toUInt64 63)).toInt64) &&& (6148914691236517205 : Int64))).toUInt64 >>> ((2 : Int32).toInt64.toUInt64 &&& Int64.toUInt64 63)).toInt64) &&& (3689348814741910323 : Int64))).toUInt64 >>> ((4 : Int32).toInt64.toUInt64 &&& Int64.toUInt64 63)).toInt64)) &&& (1085102592571150095 : Int64)).toUInt64 >>> ((8 : Int32).toInt64.toUInt64 &&& Int64.toUInt64 63)).toInt64)) + ((((((((v0 - (((v0.toUInt64 >>> ((1 : Int32).toInt64.toUInt64 &&& Int64.toUInt64 63)).toInt64) &&& (6148914691236517205 : Int64))) &&& (3689348814741910323 : Int64)) + ((((v0 - (((v0.toUInt64 >>> ((1 : Int32).toInt64.toUInt64 &&& Int64.toUInt64 63)).toInt64) &&& (6148914691236517205 : Int64))).toUInt64 >>> ((2 : Int32).toInt64.toUInt64 &&& Int64.toUInt64 63)).toInt64) &&& (3689348814741910323 : Int64))) + (((((v0 - (((v0.toUInt64 >>> ((1 : Int32).toInt64.toUInt64 &&& Int64.toUInt64 63)).toInt64) &&& (6148914691236517205 : Int64))) &&& (3689348814741910323 : Int64)) + ((((v0 - (((v0.toUInt64 >>> ((1 : Int32).toInt64.toUInt64 &&& Int64.toUInt64 63)).toInt64) &&& (6148914691236517205 : Int64))).toUInt64 >>> ((2 : Int32).toInt64.toUInt64 &&& Int64.toUInt64 63)).toInt64) &&& (3689348814741910323 : Int64))).toUInt64 >>> ((4 : Int32).toInt64.toUInt64 &&& Int64.toUInt64 63)).toInt64)) &&& (1085102592571150095 : Int64)) + (((((((v0 - (((v0.toUInt64 >>> ((1 : Int32).toInt64.toUInt64 &&& Int64.toUInt64 63)).toInt64) &&& (6148914691236517205 : Int64))) &&& (3689348814741910323 : Int64)) + ((((v0 - (((v0.toUInt64 >>> ((1 : Int32).toInt64.toUInt64 &&& Int64.toUInt64 63)).toInt64) &&& (6148914691236517205 : Int64))).toUInt64 >>> ((2 : Int32).toInt64.toUInt64 &&& Int64.toUInt64 63)).toInt64) &&& (3689348814741910323 : Int64))) + (((((v0 - (((v0.toUInt64 >>> ((1 : Int32).toInt64.toUInt64 &&& Int64.toUInt64 63)).toInt64) &&& (6148914691236517205 : Int64))) &&& (3689348814741910323 : Int64)) + ((((v0 - (((v0.toUInt64 >>> ((1 : Int32).toInt64.toUInt64 &&& Int64.toUInt64 63)).toInt64) &&& (6148914691236517205 : Int64))).toUInt64 >>> ((2 : Int32).toInt64.toUInt64 &&& Int64.toUInt64 63)).toInt64) &&& (3689348814741910323 : Int64))).toUInt64 >>> ((4 : Int32).toInt64.toUInt64 &&& Int64.toUInt64 63)).toInt64)) &&& (1085102592571150095 : Int64)).toUInt64 >>> ((8 : Int32).toInt64.toUInt64 &&& Int64.toUInt64 63)).toInt64)).toUInt64 >>> ((16 : Int32).toInt64.toUInt64 &&& Int64.toUInt64 63)).toInt64)).toUInt64 >>> ((32 : Int32).toInt64.toUInt64 &&& Int64.toUInt64 63)).toInt64)).toInt32) &&& (127 : Int32))
set_option maxHeartbeats 4000000 in
theorem tJ13_bitCount_95d88 {ω : Wd} {l : Launch} (d : Nat) (v0 : Int64) (μ : Mem) (hN : μ.1 = NN) : Ct ω l mJ13_bitCount_95d88 d [.long v0] μ 0 0 (PE (.inl (some (.int (fJ13_bitCount_95d88 v0)))) μ True) := by
  refine Ct.of pn_RJ13 (Nat.le_of_ble_eq_true rfl) ?_
  show J ω l mJ13_bitCount_95d88 d 0 [(0, .long v0)] [] μ 0 0 _
  generalize h : fJ13_bitCount_95d88 v0 = res
  unfold fJ13_bitCount_95d88 at h
  refine J.lload_n (pc := 0) dJ13_bitCount_95d88_0 rfl 0 rfl ?_
  refine J.lload_n (pc := 1) dJ13_bitCount_95d88_1 rfl 0 rfl ?_
  refine J.iconst (pc := 2) dJ13_bitCount_95d88_2 ic_1 ?_
  refine J.lushr (pc := 3) dJ13_bitCount_95d88_3 ?_
  refine J.ldc2 (pc := 4) dJ13_bitCount_95d88_4 kl_RJ13_314 ?_
  refine J.land (pc := 7) dJ13_bitCount_95d88_7 ?_
  refine J.lsub (pc := 8) dJ13_bitCount_95d88_8 ?_
  refine J.lstore_n (pc := 9) ([(0, .long (v0 - (((v0.toUInt64 >>> ((1 : Int32).toInt64.toUInt64 &&& Int64.toUInt64 63)).toInt64) &&& (6148914691236517205 : Int64))))]) dJ13_bitCount_95d88_9 rfl (Nat.le_of_ble_eq_true rfl) rfl ?_
  refine J.lload_n (pc := 10) dJ13_bitCount_95d88_10 rfl 0 rfl ?_
  refine J.ldc2 (pc := 11) dJ13_bitCount_95d88_11 kl_RJ13_316 ?_
  refine J.land (pc := 14) dJ13_bitCount_95d88_14 ?_
  refine J.lload_n (pc := 15) dJ13_bitCount_95d88_15 rfl 0 rfl ?_
  refine J.iconst (pc := 16) dJ13_bitCount_95d88_16 ic_2 ?_
  refine J.lushr (pc := 17) dJ13_bitCount_95d88_17 ?_
  refine J.ldc2 (pc := 18) dJ13_bitCount_95d88_18 kl_RJ13_316 ?_
  refine J.land (pc := 21) dJ13_bitCount_95d88_21 ?_
  refine J.ladd (pc := 22) dJ13_bitCount_95d88_22 ?_
  refine J.lstore_n (pc := 23) ([(0, .long (((v0 - (((v0.toUInt64 >>> ((1 : Int32).toInt64.toUInt64 &&& Int64.toUInt64 63)).toInt64) &&& (6148914691236517205 : Int64))) &&& (3689348814741910323 : Int64)) + ((((v0 - (((v0.toUInt64 >>> ((1 : Int32).toInt64.toUInt64 &&& Int64.toUInt64 63)).toInt64) &&& (6148914691236517205 : Int64))).toUInt64 >>> ((2 : Int32).toInt64.toUInt64 &&& Int64.toUInt64 63)).toInt64) &&& (3689348814741910323 : Int64))))]) dJ13_bitCount_95d88_23 rfl (Nat.le_of_ble_eq_true rfl) rfl ?_
  refine J.lload_n (pc := 24) dJ13_bitCount_95d88_24 rfl 0 rfl ?_
  refine J.lload_n (pc := 25) dJ13_bitCount_95d88_25 rfl 0 rfl ?_
  refine J.iconst (pc := 26) dJ13_bitCount_95d88_26 ic_4 ?_
  refine J.lushr (pc := 27) dJ13_bitCount_95d88_27 ?_
  refine J.ladd (pc := 28) dJ13_bitCount_95d88_28 ?_
  refine J.ldc2 (pc := 29) dJ13_bitCount_95d88_29 kl_RJ13_318 ?_
  refine J.land (pc := 32) dJ13_bitCount_95d88_32 ?_
  refine J.lstore_n (pc := 33) ([(0, .long (((((v0 - (((v0.toUInt64 >>> ((1 : Int32).toInt64.toUInt64 &&& Int64.toUInt64 63)).toInt64) &&& (6148914691236517205 : Int64))) &&& (3689348814741910323 : Int64)) + ((((v0 - (((v0.toUInt64 >>> ((1 : Int32).toInt64.toUInt64 &&& Int64.toUInt64 63)).toInt64) &&& (6148914691236517205 : Int64))).toUInt64 >>> ((2 : Int32).toInt64.toUInt64 &&& Int64.toUInt64 63)).toInt64) &&& (3689348814741910323 : Int64))) + (((((v0 - (((v0.toUInt64 >>> ((1 : Int32).toInt64.toUInt64 &&& Int64.toUInt64 63)).toInt64) &&& (6148914691236517205 : Int64))) &&& (3689348814741910323 : Int64)) + ((((v0 - (((v0.toUInt64 >>> ((1 : Int32).toInt64.toUInt64 &&& Int64.toUInt64 63)).toInt64) &&& (6148914691236517205 : Int64))).toUInt64 >>> ((2 : Int32).toInt64.toUInt64 &&& Int64.toUInt64 63)).toInt64) &&& (3689348814741910323 : Int64))).toUInt64 >>> ((4 : Int32).toInt64.toUInt64 &&& Int64.toUInt64 63)).toInt64)) &&& (1085102592571150095 : Int64)))]) dJ13_bitCount_95d88_33 rfl (Nat.le_of_ble_eq_true rfl) rfl ?_
  refine J.lload_n (pc := 34) dJ13_bitCount_95d88_34 rfl 0 rfl ?_
  refine J.lload_n (pc := 35) dJ13_bitCount_95d88_35 rfl 0 rfl ?_
  refine J.bipush (pc := 36) dJ13_bitCount_95d88_36 ib_8 ?_
  refine J.lushr (pc := 38) dJ13_bitCount_95d88_38 ?_
  refine J.ladd (pc := 39) dJ13_bitCount_95d88_39 ?_
  refine J.lstore_n (pc := 40) ([(0, .long ((((((v0 - (((v0.toUInt64 >>> ((1 : Int32).toInt64.toUInt64 &&& Int64.toUInt64 63)).toInt64) &&& (6148914691236517205 : Int64))) &&& (3689348814741910323 : Int64)) + ((((v0 - (((v0.toUInt64 >>> ((1 : Int32).toInt64.toUInt64 &&& Int64.toUInt64 63)).toInt64) &&& (6148914691236517205 : Int64))).toUInt64 >>> ((2 : Int32).toInt64.toUInt64 &&& Int64.toUInt64 63)).toInt64) &&& (3689348814741910323 : Int64))) + (((((v0 - (((v0.toUInt64 >>> ((1 : Int32).toInt64.toUInt64 &&& Int64.toUInt64 63)).toInt64) &&& (6148914691236517205 : Int64))) &&& (3689348814741910323 : Int64)) + ((((v0 - (((v0.toUInt64 >>> ((1 : Int32).toInt64.toUInt64 &&& Int64.toUInt64 63)).toInt64) &&& (6148914691236517205 : Int64))).toUInt64 >>> ((2 : Int32).toInt64.toUInt64 &&& Int64.toUInt64 63)).toInt64) &&& (3689348814741910323 : Int64))).toUInt64 >>> ((4 : Int32).toInt64.toUInt64 &&& Int64.toUInt64 63)).toInt64)) &&& (1085102592571150095 : Int64)) + (((((((v0 - (((v0.toUInt64 >>> ((1 : Int32).toInt64.toUInt64 &&& Int64.toUInt64 63)).toInt64) &&& (6148914691236517205 : Int64))) &&& (3689348814741910323 : Int64)) + ((((v0 - (((v0.toUInt64 >>> ((1 : Int32).toInt64.toUInt64 &&& Int64.toUInt64 63)).toInt64) &&& (6148914691236517205 : Int64))).toUInt64 >>> ((2 : Int32).toInt64.toUInt64 &&& Int64.toUInt64 63)).toInt64) &&& (3689348814741910323 : Int64))) + (((((v0 - (((v0.toUInt64 >>> ((1 : Int32).toInt64.toUInt64 &&& Int64.toUInt64 63)).toInt64) &&& (6148914691236517205 : Int64))) &&& (3689348814741910323 : Int64)) + ((((v0 - (((v0.toUInt64 >>> ((1 : Int32).toInt64.toUInt64 &&& Int64.toUInt64 63)).toInt64) &&& (6148914691236517205 : Int64))).toUInt64 >>> ((2 : Int32).toInt64.toUInt64 &&& Int64.toUInt64 63)).toInt64) &&& (3689348814741910323 : Int64))).toUInt64 >>> ((4 : Int32).toInt64.toUInt64 &&& Int64.toUInt64 63)).toInt64)) &&& (1085102592571150095 : Int64)).toUInt64 >>> ((8 : Int32).toInt64.toUInt64 &&& Int64.toUInt64 63)).toInt64)))]) dJ13_bitCount_95d88_40 rfl (Nat.le_of_ble_eq_true rfl) rfl ?_
  refine J.lload_n (pc := 41) dJ13_bitCount_95d88_41 rfl 0 rfl ?_
  refine J.lload_n (pc := 42) dJ13_bitCount_95d88_42 rfl 0 rfl ?_
  refine J.bipush (pc := 43) dJ13_bitCount_95d88_43 ib_16 ?_
  refine J.lushr (pc := 45) dJ13_bitCount_95d88_45 ?_
  refine J.ladd (pc := 46) dJ13_bitCount_95d88_46 ?_
  refine J.lstore_n (pc := 47) ([(0, .long (((((((v0 - (((v0.toUInt64 >>> ((1 : Int32).toInt64.toUInt64 &&& Int64.toUInt64 63)).toInt64) &&& (6148914691236517205 : Int64))) &&& (3689348814741910323 : Int64)) + ((((v0 - (((v0.toUInt64 >>> ((1 : Int32).toInt64.toUInt64 &&& Int64.toUInt64 63)).toInt64) &&& (6148914691236517205 : Int64))).toUInt64 >>> ((2 : Int32).toInt64.toUInt64 &&& Int64.toUInt64 63)).toInt64) &&& (3689348814741910323 : Int64))) + (((((v0 - (((v0.toUInt64 >>> ((1 : Int32).toInt64.toUInt64 &&& Int64.toUInt64 63)).toInt64) &&& (6148914691236517205 : Int64))) &&& (3689348814741910323 : Int64)) + ((((v0 - (((v0.toUInt64 >>> ((1 : Int32).toInt64.toUInt64 &&& Int64.toUInt64 63)).toInt64) &&& (6148914691236517205 : Int64))).toUInt64 >>> ((2 : Int32).toInt64.toUInt64 &&& Int64.toUInt64 63)).toInt64) &&& (3689348814741910323 : Int64))).toUInt64 >>> ((4 : Int32).toInt64.toUInt64 &&& Int64.toUInt64 63)).toInt64)) &&& (1085102592571150095 : Int64)) + (((((((v0 - (((v0.toUInt64 >>> ((1 : Int32).toInt64.toUInt64 &&& Int64.toUInt64 63)).toInt64) &&& (6148914691236517205 : Int64))) &&& (3689348814741910323 : Int64)) + ((((v0 - (((v0.toUInt64 >>> ((1 : Int32).toInt64.toUInt64 &&& Int64.toUInt64 63)).toInt64) &&& (6148914691236517205 : Int64))).toUInt64 >>> ((2 : Int32).toInt64.toUInt64 &&& Int64.toUInt64 63)).toInt64) &&& (3689348814741910323 : Int64))) + (((((v0 - (((v0.toUInt64 >>> ((1 : Int32).toInt64.toUInt64 &&& Int64.toUInt64 63)).toInt64) &&& (6148914691236517205 : Int64))) &&& (3689348814741910323 : Int64)) + ((((v0 - (((v0.toUInt64 >>> ((1 : Int32).toInt64.toUInt64 &&& Int64.toUInt64 63)).toInt64) &&& (6148914691236517205 : Int64))).toUInt64 >>> ((2 : Int32).toInt64.toUInt64 &&& Int64.toUInt64 63)).toInt64) &&& (3689348814741910323 : Int64))).toUInt64 >>> ((4 : Int32).toInt64.toUInt64 &&& Int64.toUInt64 63)).toInt64)) &&& (1085102592571150095 : Int64)).toUInt64 >>> ((8 : Int32).toInt64.toUInt64 &&& Int64.toUInt64 63)).toInt64)) + ((((((((v0 - (((v0.toUInt64 >>> ((1 : Int32).toInt64.toUInt64 &&& Int64.toUInt64 63)).toInt64) &&& (6148914691236517205 : Int64))) &&& (3689348814741910323 : Int64)) + ((((v0 - (((v0.toUInt64 >>> ((1 : Int32).toInt64.toUInt64 &&& Int64.toUInt64 63)).toInt64) &&& (6148914691236517205 : Int64))).toUInt64 >>> ((2 : Int32).toInt64.toUInt64 &&& Int64.toUInt64 63)).toInt64) &&& (3689348814741910323 : Int64))) + (((((v0 - (((v0.toUInt64 >>> ((1 : Int32).toInt64.toUInt64 &&& Int64.toUInt64 63)).toInt64) &&& (6148914691236517205 : Int64))) &&& (3689348814741910323 : Int64)) + ((((v0 - (((v0.toUInt64 >>> ((1 : Int32).toInt64.toUInt64 &&& Int64.toUInt64 63)).toInt64) &&& (6148914691236517205 : Int64))).toUInt64 >>> ((2 : Int32).toInt64.toUInt64 &&& Int64.toUInt64 63)).toInt64) &&& (3689348814741910323 : Int64))).toUInt64 >>> ((4 : Int32).toInt64.toUInt64 &&& Int64.toUInt64 63)).toInt64)) &&& (1085102592571150095 : Int64)) + (((((((v0 - (((v0.toUInt64 >>> ((1 : Int32).toInt64.toUInt64 &&& Int64.toUInt64 63)).toInt64) &&& (6148914691236517205 : Int64))) &&& (3689348814741910323 : Int64)) + ((((v0 - (((v0.toUInt64 >>> ((1 : Int32).toInt64.toUInt64 &&& Int64.toUInt64 63)).toInt64) &&& (6148914691236517205 : Int64))).toUInt64 >>> ((2 : Int32).toInt64.toUInt64 &&& Int64.toUInt64 63)).toInt64) &&& (3689348814741910323 : Int64))) + (((((v0 - (((v0.toUInt64 >>> ((1 : Int32).toInt64.toUInt64 &&& Int64.toUInt64 63)).toInt64) &&& (6148914691236517205 : Int64))) &&& (3689348814741910323 : Int64)) + ((((v0 - (((v0.toUInt64 >>> ((1 : Int32).toInt64.toUInt64 &&& Int64.toUInt64 63)).toInt64) &&& (6148914691236517205 : Int64))).toUInt64 >>> ((2 : Int32).toInt64.toUInt64 &&& Int64.toUInt64 63)).toInt64) &&& (3689348814741910323 : Int64))).toUInt64 >>> ((4 : Int32).toInt64.toUInt64 &&& Int64.toUInt64 63)).toInt64)) &&& (1085102592571150095 : Int64)).toUInt64 >>> ((8 : Int32).toInt64.toUInt64 &&& Int64.toUInt64 63)).toInt64)).toUInt64 >>> ((16 : Int32).toInt64.toUInt64 &&& Int64.toUInt64 63)).toInt64)))]) dJ13_bitCount_95d88_47 rfl (Nat.le_of_ble_eq_true rfl) rfl ?_
  refine J.lload_n (pc := 48) dJ13_bitCount_95d88_48 rfl 0 rfl ?_
  refine J.lload_n (pc := 49) dJ13_bitCount_95d88_49 rfl 0 rfl ?_
  refine J.bipush (pc := 50) dJ13_bitCount_95d88_50 ib_32 ?_
  refine J.lushr (pc := 52) dJ13_bitCount_95d88_52 ?_
  refine J.ladd (pc := 53) dJ13_bitCount_95d88_53 ?_
  refine J.lstore_n (pc := 54) ([(0, .long ((((((((v0 - (((v0.toUInt64 >>> ((1 : Int32).toInt64.toUInt64 &&& Int64.toUInt64 63)).toInt64) &&& (6148914691236517205 : Int64))) &&& (3689348814741910323 : Int64)) + ((((v0 - (((v0.toUInt64 >>> ((1 : Int32).toInt64.toUInt64 &&& Int64.toUInt64 63)).toInt64) &&& (6148914691236517205 : Int64))).toUInt64 >>> ((2 : Int32).toInt64.toUInt64 &&& Int64.toUInt64 63)).toInt64) &&& (3689348814741910323 : Int64))) + (((((v0 - (((v0.toUInt64 >>> ((1 : Int32).toInt64.toUInt64 &&& Int64.toUInt64 63)).toInt64) &&& (6148914691236517205 : Int64))) &&& (3689348814741910323 : Int64)) + ((((v0 - (((v0.toUInt64 >>> ((1 : Int32).toInt64.toUInt64 &&& Int64.toUInt64 63)).toInt64) &&& (6148914691236517205 : Int64))).toUInt64 >>> ((2 : Int32).toInt64.toUInt64 &&& Int64.toUInt64 63)).toInt64) &&& (3689348814741910323 : Int64))).toUInt64 >>> ((4 : Int32).toInt64.toUInt64 &&& Int64.toUInt64 63)).toInt64)) &&& (1085102592571150095 : Int64)) + (((((((v0 - (((v0.toUInt64 >>> ((1 : Int32).toInt64.toUInt64 &&& Int64.toUInt64 63)).toInt64) &&& (6148914691236517205 : Int64))) &&& (3689348814741910323 : Int64)) + ((((v0 - (((v0.toUInt64 >>> ((1 : Int32).toInt64.toUInt64 &&& Int64.toUInt64 63)).toInt64) &&& (6148914691236517205 : Int64))).toUInt64 >>> ((2 : Int32).toInt64.toUInt64 &&& Int64.toUInt64 63)).toInt64) &&& (3689348814741910323 : Int64))) + (((((v0 - (((v0.toUInt64 >>> ((1 : Int32).toInt64.toUInt64 &&& Int64.toUInt64 63)).toInt64) &&& (6148914691236517205 : Int64))) &&& (3689348814741910323 : Int64)) + ((((v0 - (((v0.toUInt64 >>> ((1 : Int32).toInt64.toUInt64 &&& Int64.toUInt64 63)).toInt64) &&& (6148914691236517205 : Int64))).toUInt64 >>> ((2 : Int32).toInt64.toUInt64 &&& Int64.toUInt64 63)).toInt64) &&& (3689348814741910323 : Int64))).toUInt64 >>> ((4 : Int32).toInt64.toUInt64 &&& Int64.toUInt64 63)).toInt64)) &&& (1085102592571150095 : Int64)).toUInt64 >>> ((8 : Int32).toInt64.toUInt64 &&& Int64.toUInt64 63)).toInt64)) + ((((((((v0 - (((v0.toUInt64 >>> ((1 : Int32).toInt64.toUInt64 &&& Int64.toUInt64 63)).toInt64) &&& (6148914691236517205 : Int64))) &&& (3689348814741910323 : Int64)) + ((((v0 - (((v0.toUInt64 >>> ((1 : Int32).toInt64.toUInt64 &&& Int64.toUInt64 63)).toInt64) &&& (6148914691236517205 : Int64))).toUInt64 >>> ((2 : Int32).toInt64.toUInt64 &&& Int64.toUInt64 63)).toInt64) &&& (3689348814741910323 : Int64))) + (((((v0 - (((v0.toUInt64 >>> ((1 : Int32).toInt64.toUInt64 &&& Int64.toUInt64 63)).toInt64) &&& (6148914691236517205 : Int64))) &&& (3689348814741910323 : Int64)) + ((((v0 - (((v0.toUInt64 >>> ((1 : Int32).toInt64.toUInt64 &&& Int64.toUInt64 63)).toInt64) &&& (6148914691236517205 : Int64))).toUInt64 >>> ((2 : Int32).toInt64.toUInt64 &&& Int64.toUInt64 63)).toInt64) &&& (3689348814741910323 : Int64))).toUInt64 >>> ((4 : Int32).toInt64.toUInt64 &&& Int64.toUInt64 63)).toInt64)) &&& (1085102592571150095 : Int64)) + (((((((v0 - (((v0.toUInt64 >>> ((1 : Int32).toInt64.toUInt64 &&& Int64.toUInt64 63)).toInt64) &&& (6148914691236517205 : Int64))) &&& (3689348814741910323 : Int64)) + ((((v0 - (((v0.toUInt64 >>> ((1 : Int32).toInt64.toUInt64 &&& Int64.toUInt64 63)).toInt64) &&& (6148914691236517205 : Int64))).toUInt64 >>> ((2 : Int32).toInt64.toUInt64 &&& Int64.toUInt64 63)).toInt64) &&& (3689348814741910323 : Int64))) + (((((v0 - (((v0.toUInt64 >>> ((1 : Int32).toInt64.toUInt64 &&& Int64.toUInt64 63)).toInt64) &&& (6148914691236517205 : Int64))) &&& (3689348814741910323 : Int64)) + ((((v0 - (((v0.toUInt64 >>> ((1 : Int32).toInt64.toUInt64 &&& Int64.toUInt64 63)).toInt64) &&& (6148914691236517205 : Int64))).toUInt64 >>> ((2 : Int32).toInt64.toUInt64 &&& Int64.toUInt64 63)).toInt64) &&& (3689348814741910323 : Int64))).toUInt64 >>> ((4 : Int32).toInt64.toUInt64 &&& Int64.toUInt64 63)).toInt64)) &&& (1085102592571150095 : Int64)).toUInt64 >>> ((8 : Int32).toInt64.toUInt64 &&& Int64.toUInt64 63)).toInt64)).toUInt64 >>> ((16 : Int32).toInt64.toUInt64 &&& Int64.toUInt64 63)).toInt64)) + (((((((((v0 - (((v0.toUInt64 >>> ((1 : Int32).toInt64.toUInt64 &&& Int64.toUInt64 63)).toInt64) &&& (6148914691236517205 : Int64))) &&& (3689348814741910323 : Int64)) + ((((v0 - (((v0.toUInt64 >>> ((1 : Int32).toInt64.toUInt64 &&& Int64.toUInt64 63)).toInt64) &&& (6148914691236517205 : Int64))).toUInt64 >>> ((2 : Int32).toInt64.toUInt64 &&& Int64.toUInt64 63)).toInt64) &&& (3689348814741910323 : Int64))) + (((((v0 - (((v0.toUInt64 >>> ((1 : Int32).toInt64.toUInt64 &&& Int64.toUInt64 63)).toInt64) &&& (6148914691236517205 : Int64))) &&& (3689348814741910323 : Int64)) + ((((v0 - (((v0.toUInt64 >>> ((1 : Int32).toInt64.toUInt64 &&& Int64.toUInt64 63)).toInt64) &&& (6148914691236517205 : Int64))).toUInt64 >>> ((2 : Int32).toInt64.toUInt64 &&& Int64.toUInt64 63)).toInt64) &&& (3689348814741910323 : Int64))).toUInt64 >>> ((4 : Int32).toInt64.toUInt64 &&& Int64.toUInt64 63)).toInt64)) &&& (1085102592571150095 : Int64)) + (((((((v0 - (((v0.toUInt64 >>> ((1 : Int32).toInt64.toUInt64 &&& Int64.toUInt64 63)).toInt64) &&& (6148914691236517205 : Int64))) &&& (3689348814741910323 : Int64)) + ((((v0 - (((v0.toUInt64 >>> ((1 : Int32).toInt64.toUInt64 &&& Int64.toUInt64 63)).toInt64) &&& (6148914691236517205 : Int64))).toUInt64 >>> ((2 : Int32).toInt64.toUInt64 &&& Int64.toUInt64 63)).toInt64) &&& (3689348814741910323 : Int64))) + (((((v0 - (((v0.toUInt64 >>> ((1 : Int32).toInt64.toUInt64 &&& Int64.toUInt64 63)).toInt64) &&& (6148914691236517205 : Int64))) &&& (3689348814741910323 : Int64)) + ((((v0 - (((v0.toUInt64 >>> ((1 : Int32).toInt64.toUInt64 &&& Int64.toUInt64 63)).toInt64) &&& (6148914691236517205 : Int64))).toUInt64 >>> ((2 : Int32).toInt64.toUInt64 &&& Int64.toUInt64 63)).toInt64) &&& (3689348814741910323 : Int64))).toUInt64 >>> ((4 : Int32).toInt64.toUInt64 &&& Int64.toUInt64 63)).toInt64)) &&& (1085102592571150095 : Int64)).toUInt64 >>> ((8 : Int32).toInt64.toUInt64 &&& Int64.toUInt64 63)).toInt64)) + ((((((((v0 - (((v0.toUInt64 >>> ((1 : Int32).toInt64.toUInt64 &&& Int64.toUInt64 63)).toInt64) &&& (6148914691236517205 : Int64))) &&& (3689348814741910323 : Int64)) + ((((v0 - (((v0.toUInt64 >>> ((1 : Int32).toInt64.toUInt64 &&& Int64.toUInt64 63)).toInt64) &&& (6148914691236517205 : Int64))).toUInt64 >>> ((2 : Int32).toInt64.toUInt64 &&& Int64.toUInt64 63)).toInt64) &&& (3689348814741910323 : Int64))) + (((((v0 - (((v0.toUInt64 >>> ((1 : Int32).toInt64.toUInt64 &&& Int64.toUInt64 63)).toInt64) &&& (6148914691236517205 : Int64))) &&& (3689348814741910323 : Int64)) + ((((v0 - (((v0.toUInt64 >>> ((1 : Int32).toInt64.toUInt64 &&& Int64.toUInt64 63)).toInt64) &&& (6148914691236517205 : Int64))).toUInt64 >>> ((2 : Int32).toInt64.toUInt64 &&& Int64.toUInt64 63)).toInt64) &&& (3689348814741910323 : Int64))).toUInt64 >>> ((4 : Int32).toInt64.toUInt64 &&& Int64.toUInt64 63)).toInt64)) &&& (1085102592571150095 : Int64)) + (((((((v0 - (((v0.toUInt64 >>> ((1 : Int32).toInt64.toUInt64 &&& Int64.toUInt64 63)).toInt64) &&& (6148914691236517205 : Int64))) &&& (3689348814741910323 : Int64)) + ((((v0 - (((v0.toUInt64 >>> ((1 : Int32).toInt64.toUInt64 &&& Int64.toUInt64 63)).toInt64) &&& (6148914691236517205 : Int64))).toUInt64 >>> ((2 : Int32).toInt64.toUInt64 &&& Int64.toUInt64 63)).toInt64) &&& (3689348814741910323 : Int64))) + (((((v0 - (((v0.toUInt64 >>> ((1 : Int32).toInt64.toUInt64 &&& Int64.toUInt64 63)).toInt64) &&& (6148914691236517205 : Int64))) &&& (3689348814741910323 : Int64)) + ((((v0 - (((v0.toUInt64 >>> ((1 : Int32).toInt64.toUInt64 &&& Int64.toUInt64 63)).toInt64) &&& (6148914691236517205 : Int64))).toUInt64 >>> ((2 : Int32).toInt64.toUInt64 &&& Int64.toUInt64 63)).toInt64) &&& (3689348814741910323 : Int64))).toUInt64 >>> ((4 : Int32).toInt64.toUInt64 &&& Int64.toUInt64 63)).toInt64)) &&& (1085102592571150095 : Int64)).toUInt64 >>> ((8 : Int32).toInt64.toUInt64 &&& Int64.toUInt64 63)).toInt64)).toUInt64 >>> ((16 : Int32).toInt64.toUInt64 &&& Int64.toUInt64 63)).toInt64)).toUInt64 >>> ((32 : Int32).toInt64.toUInt64 &&& Int64.toUInt64 63)).toInt64)))]) dJ13_bitCount_95d88_54 rfl (Nat.le_of_ble_eq_true rfl) rfl ?_
  refine J.lload_n (pc := 55) dJ13_bitCount_95d88_55 rfl 0 rfl ?_
  refine J.l2i (pc := 56) dJ13_bitCount_95d88_56 ?_
  refine J.bipush (pc := 57) dJ13_bitCount_95d88_57 ib_127 ?_
  refine J.iand (pc := 59) dJ13_bitCount_95d88_59 ?_
  cases h
  exact J.iret (pc := 60) dJ13_bitCount_95d88_60 rfl ⟨rfl, rfl, hN, trivial⟩
def fX10_needWhat (v0 : Nat) (v1 : Int32) (v2 : Int32) : Option ((Unit ⊕ Nat)) :=
  if v1 < 0 then
    some (.inr 0)
  else
    if v1 < v2 then
      some (.inl ())
    else
      some (.inr 0)
set_option maxHeartbeats 4000000 in
theorem tX10_needWhat {ω : Wd} {l : Launch} (d : Nat) {v0 : Nat} {v1 : Int32} {v2 : Int32} {μ : Mem} {res : (Unit ⊕ Nat)} (h : fX10_needWhat v0 v1 v2 = some res) (hN : μ.1 = NN) (k0 : (kd v0).1 = 20) : Ct ω l mX10_needWhat (d + 8) [.ref v0, .int v1, .int v2] μ 1 6 (PE (oV res) μ True) := by
  refine Ct.of pn_RX10 (Nat.le_of_ble_eq_true rfl) ?_
  show J ω l mX10_needWhat (d + 8) 0 [(0, .ref v0), (1, .int v1), (2, .int v2)] [] μ 1 6 _
  unfold fX10_needWhat at h
  refine J.iload_n (pc := 0) dX10_needWhat_0 rfl 1 rfl ?_
  rcases ifc h with ⟨hc, h⟩ | ⟨hc, h⟩
  · refine J.zlt (pc := 1) (tgt := 9) dX10_needWhat_1 (by decide) (fun _ => ?_) (fun q => absurd hc q)
    cases h
    exact J.throwN (pc := 9) (j := 9) rfl rfl hN dX10_needWhat_9 dX10_needWhat_12 dX10_needWhat_13 dX10_needWhat_16 dX10_needWhat_19 rfl (Nat.le_of_ble_eq_true rfl) (Nat.le_of_ble_eq_true rfl) ⟨rfl, rfl, hN, trivial⟩
  · refine J.zlt (pc := 1) (tgt := 9) dX10_needWhat_1 (by decide) (fun q => absurd q hc) (fun _ => ?_)
    refine J.iload_n (pc := 4) dX10_needWhat_4 rfl 1 rfl ?_
    refine J.iload_n (pc := 5) dX10_needWhat_5 rfl 2 rfl ?_
    rcases ifc h with ⟨hc, h⟩ | ⟨hc, h⟩
    · refine J.clt (pc := 6) (tgt := 20) dX10_needWhat_6 (by decide) (fun _ => ?_) (fun q => absurd hc q)
      cases h
      exact J.vret (pc := 20) dX10_needWhat_20 rfl ⟨rfl, rfl, hN, trivial⟩
    · refine J.clt (pc := 6) (tgt := 20) dX10_needWhat_6 (by decide) (fun q => absurd q hc) (fun _ => ?_)
      cases h
      exact J.throwN (pc := 9) (j := 9) rfl rfl hN dX10_needWhat_9 dX10_needWhat_12 dX10_needWhat_13 dX10_needWhat_16 dX10_needWhat_19 rfl (Nat.le_of_ble_eq_true rfl) (Nat.le_of_ble_eq_true rfl) ⟨rfl, rfl, hN, trivial⟩
def fX10_needWithin (v0 : Nat) (v1 : Int32) (v2 : Int32) (v3 : Int32) : Option ((Unit ⊕ Nat)) :=
  if v1 < v2 then
    some (.inr 1)
  else
    if v3 < v1 then
      some (.inr 1)
    else
      some (.inl ())
set_option maxHeartbeats 4000000 in
theorem tX10_needWithin {ω : Wd} {l : Launch} (d : Nat) {v0 : Nat} {v1 : Int32} {v2 : Int32} {v3 : Int32} {μ : Mem} {res : (Unit ⊕ Nat)} (h : fX10_needWithin v0 v1 v2 v3 = some res) (hN : μ.1 = NN) (k0 : (kd v0).1 = 20) : Ct ω l mX10_needWithin (d + 8) [.ref v0, .int v1, .int v2, .int v3] μ 1 6 (PE (oV res) μ True) := by
  refine Ct.of pn_RX10 (Nat.le_of_ble_eq_true rfl) ?_
  show J ω l mX10_needWithin (d + 8) 0 [(0, .ref v0), (1, .int v1), (2, .int v2), (3, .int v3)] [] μ 1 6 _
  unfold fX10_needWithin at h
  refine J.iload_n (pc := 0) dX10_needWithin_0 rfl 1 rfl ?_
  refine J.iload_n (pc := 1) dX10_needWithin_1 rfl 2 rfl ?_
  rcases ifc h with ⟨hc, h⟩ | ⟨hc, h⟩
  · refine J.clt (pc := 2) (tgt := 10) dX10_needWithin_2 (by decide) (fun _ => ?_) (fun q => absurd hc q)
    cases h
    exact J.throwAW (pc := 10) (j := 13) rfl rfl hN dX10_needWithin_10 dX10_needWithin_13 dX10_needWithin_14 dX10_needWithin_17 dX10_needWithin_20 rfl (Nat.le_of_ble_eq_true rfl) (Nat.le_of_ble_eq_true rfl) ⟨rfl, rfl, hN, trivial⟩
  · refine J.clt (pc := 2) (tgt := 10) dX10_needWithin_2 (by decide) (fun q => absurd q hc) (fun _ => ?_)
    refine J.iload_n (pc := 5) dX10_needWithin_5 rfl 1 rfl ?_
    refine J.iload_n (pc := 6) dX10_needWithin_6 rfl 3 rfl ?_
    rcases ifc h with ⟨hc, h⟩ | ⟨hc, h⟩
    · refine J.cle (pc := 7) (tgt := 21) dX10_needWithin_7 (by decide) (fun _ => ?_) (fun q => absurd hc q)
      cases h
      exact J.throwAW (pc := 10) (j := 13) rfl rfl hN dX10_needWithin_10 dX10_needWithin_13 dX10_needWithin_14 dX10_needWithin_17 dX10_needWithin_20 rfl (Nat.le_of_ble_eq_true rfl) (Nat.le_of_ble_eq_true rfl) ⟨rfl, rfl, hN, trivial⟩
    · refine J.cle (pc := 7) (tgt := 21) dX10_needWithin_7 (by decide) (fun q => absurd q hc) (fun _ => ?_)
      cases h
      exact J.vret (pc := 21) dX10_needWithin_21 rfl ⟨rfl, rfl, hN, trivial⟩
def fX10_outside (v0 : Int32) : Int32 :=
  if v0 < 0 then
    (-1 : Int32)
  else
    (((v0 / (8 : Int32)) * (10 : Int32)) + (v0 - v0 / (8 : Int32) * (8 : Int32)))
set_option maxHeartbeats 4000000 in
theorem tX10_outside {ω : Wd} {l : Launch} (d : Nat) (v0 : Int32) (μ : Mem) (hN : μ.1 = NN) : Ct ω l mX10_outside d [.int v0] μ 0 0 (PE (.inl (some (.int (fX10_outside v0)))) μ True) := by
  refine Ct.of pn_RX10 (Nat.le_of_ble_eq_true rfl) ?_
  show J ω l mX10_outside d 0 [(0, .int v0)] [] μ 0 0 _
  generalize h : fX10_outside v0 = res
  unfold fX10_outside at h
  refine J.iload_n (pc := 0) dX10_outside_0 rfl 0 rfl ?_
  rcases ifc h with ⟨hc, h⟩ | ⟨hc, h⟩
  · refine J.zge (pc := 1) (tgt := 8) dX10_outside_1 (by decide) (fun _ => ?_) (fun q => absurd hc q)
    refine J.iconst (pc := 4) dX10_outside_4 ic_m1 ?_
    refine J.goto (pc := 5) (tgt := 20) dX10_outside_5 (by decide) ?_
    cases h
    exact J.iret (pc := 20) dX10_outside_20 rfl ⟨rfl, rfl, hN, trivial⟩
  · refine J.zge (pc := 1) (tgt := 8) dX10_outside_1 (by decide) (fun q => absurd q hc) (fun _ => ?_)
    refine J.iload_n (pc := 8) dX10_outside_8 rfl 0 rfl ?_
    refine J.bipush (pc := 9) dX10_outside_9 ib_8 ?_
    refine J.idiv (pc := 11) dX10_outside_11 (by decide) ?_
    refine J.bipush (pc := 12) dX10_outside_12 ib_10 ?_
    refine J.imul (pc := 14) dX10_outside_14 ?_
    refine J.iload_n (pc := 15) dX10_outside_15 rfl 0 rfl ?_
    refine J.bipush (pc := 16) dX10_outside_16 ib_8 ?_
    refine J.irem (pc := 18) dX10_outside_18 (by decide) ?_
    refine J.iadd (pc := 19) dX10_outside_19 ?_
    cases h
    exact J.iret (pc := 20) dX10_outside_20 rfl ⟨rfl, rfl, hN, trivial⟩
def fX9_copyFrom (v0 : Nat) (v1 : Nat) (μ : Mem) : Option (Mem) :=
  (some (sI μ v0 0 (μ.2.1 v1 0))).bind fun μ1 =>
  (some (sL μ1 v0 1 (μ1.2.2.1 v1 1))).bind fun μ4 =>
  (some (sL μ4 v0 2 (μ4.2.2.1 v1 2))).bind fun μ7 =>
  (gR μ7 v1 3 0).bind fun a10 =>
  (gR μ7 v0 3 0).bind fun a13 =>
  (cpI μ7 a10 (0 : Int32) a13 (0 : Int32) (48 : Int32)).bind fun μ16 =>
  (gR μ16 v1 4 0).bind fun a19 =>
  (gR μ16 v0 4 0).bind fun a22 =>
  (cpI μ16 a19 (0 : Int32) a22 (0 : Int32) (6 : Int32)).bind fun μ25 =>
  (gR μ25 v1 5 0).bind fun a28 =>
  (gR μ25 v0 5 0).bind fun a31 =>
  (cpI μ25 a28 (0 : Int32) a31 (0 : Int32) (6 : Int32)).bind fun μ34 =>
  (gR μ34 v1 6 0).bind fun a37 =>
  (gR μ34 v0 6 0).bind fun a40 =>
  (cpI μ34 a37 (0 : Int32) a40 (0 : Int32) (6 : Int32)).bind fun μ43 =>
  some μ43
set_option maxHeartbeats 4000000 in
theorem tX9_copyFrom {ω : Wd} {l : Launch} (d : Nat) {v0 : Nat} {v1 : Nat} {μ : Mem} {res : Mem} (h : fX9_copyFrom v0 v1 μ = some res) (hN : μ.1 = NN) (k0 : (kd v0).1 = 19) (k1 : (kd v1).1 = 19) : Ct ω l mX9_copyFrom (d + 1) [.ref v0, .ref v1] μ 0 0 (PE (.inl none) res True) := by
  refine Ct.of pn_RX9 (Nat.le_of_ble_eq_true rfl) ?_
  show J ω l mX9_copyFrom (d + 1) 0 [(0, .ref v0), (1, .ref v1)] [] μ 0 0 _
  unfold fX9_copyFrom at h
  refine J.aload_n (pc := 0) dX9_copyFrom_0 rfl 0 rfl ?_
  refine J.aload_n (pc := 1) dX9_copyFrom_1 rfl 1 rfl ?_
  refine J.fI (pc := 2) dX9_copyFrom_2 fl_RX9_9 k1 (okN hN k1 (by decide)) (Or.inl rfl) ?_
  obtain ⟨μ1, e2, h⟩ := bnd h
  have hN3 : μ1.1 = NN := smN e2 hN
  refine J.qI (pc := 5) dX9_copyFrom_5 fl_RX9_9 k0 (okN hN k0 (by decide)) rfl rfl e2 ?_
  refine J.aload_n (pc := 8) dX9_copyFrom_8 rfl 0 rfl ?_
  refine J.aload_n (pc := 9) dX9_copyFrom_9 rfl 1 rfl ?_
  refine J.fL (pc := 10) dX9_copyFrom_10 fl_RX9_15 k1 (okN hN3 k1 (by decide)) rfl ?_
  obtain ⟨μ4, e5, h⟩ := bnd h
  have hN6 : μ4.1 = NN := smN e5 hN3
  refine J.qL (pc := 13) dX9_copyFrom_13 fl_RX9_15 k0 (okN hN3 k0 (by decide)) rfl rfl e5 ?_
  refine J.aload_n (pc := 16) dX9_copyFrom_16 rfl 0 rfl ?_
  refine J.aload_n (pc := 17) dX9_copyFrom_17 rfl 1 rfl ?_
  refine J.fL (pc := 18) dX9_copyFrom_18 fl_RX9_19 k1 (okN hN6 k1 (by decide)) rfl ?_
  obtain ⟨μ7, e8, h⟩ := bnd h
  have hN9 : μ7.1 = NN := smN e8 hN6
  refine J.qL (pc := 21) dX9_copyFrom_21 fl_RX9_19 k0 (okN hN6 k0 (by decide)) rfl rfl e8 ?_
  refine J.aload_n (pc := 24) dX9_copyFrom_24 rfl 1 rfl ?_
  obtain ⟨a10, e11, h⟩ := bnd h
  have k12 : (kd a10).1 = 0 := gR_k e11
  refine J.fR (pc := 25) dX9_copyFrom_25 fl_RX9_22 k1 (okN hN9 k1 (by decide)) rfl e11 ?_
  refine J.iconst (pc := 28) dX9_copyFrom_28 ic_0 ?_
  refine J.aload_n (pc := 29) dX9_copyFrom_29 rfl 0 rfl ?_
  obtain ⟨a13, e14, h⟩ := bnd h
  have k15 : (kd a13).1 = 0 := gR_k e14
  refine J.fR (pc := 30) dX9_copyFrom_30 fl_RX9_22 k0 (okN hN9 k0 (by decide)) rfl e14 ?_
  refine J.iconst (pc := 33) dX9_copyFrom_33 ic_0 ?_
  refine J.bipush (pc := 34) dX9_copyFrom_34 ib_48 ?_
  obtain ⟨μ16, e17, h⟩ := bnd h
  have hN18 : μ16.1 = NN := cpI_N e17 hN9
  refine J.copy (pc := 36) dX9_copyFrom_36 ml_RX9_38 ac_1 ac_2 ac_3 hN9 k12 (okN hN9 k12 (by decide)).1 k15 (okN hN9 k15 (by decide)).1 (cpI_ok e17).1 (cpI_ok e17).2.1 (cpI_ok e17).2.2.1 (cpI_ok e17).2.2.2.1 (cpI_ok e17).2.2.2.2.1 (Nat.le_of_ble_eq_true rfl) ?_
  rw [(cpI_ok e17).2.2.2.2.2]
  refine J.aload_n (pc := 39) dX9_copyFrom_39 rfl 1 rfl ?_
  obtain ⟨a19, e20, h⟩ := bnd h
  have k21 : (kd a19).1 = 0 := gR_k e20
  refine J.fR (pc := 40) dX9_copyFrom_40 fl_RX9_26 k1 (okN hN18 k1 (by decide)) rfl e20 ?_
  refine J.iconst (pc := 43) dX9_copyFrom_43 ic_0 ?_
  refine J.aload_n (pc := 44) dX9_copyFrom_44 rfl 0 rfl ?_
  obtain ⟨a22, e23, h⟩ := bnd h
  have k24 : (kd a22).1 = 0 := gR_k e23
  refine J.fR (pc := 45) dX9_copyFrom_45 fl_RX9_26 k0 (okN hN18 k0 (by decide)) rfl e23 ?_
  refine J.iconst (pc := 48) dX9_copyFrom_48 ic_0 ?_
  refine J.bipush (pc := 49) dX9_copyFrom_49 ib_6 ?_
  obtain ⟨μ25, e26, h⟩ := bnd h
  have hN27 : μ25.1 = NN := cpI_N e26 hN18
  refine J.copy (pc := 51) dX9_copyFrom_51 ml_RX9_38 ac_1 ac_2 ac_3 hN18 k21 (okN hN18 k21 (by decide)).1 k24 (okN hN18 k24 (by decide)).1 (cpI_ok e26).1 (cpI_ok e26).2.1 (cpI_ok e26).2.2.1 (cpI_ok e26).2.2.2.1 (cpI_ok e26).2.2.2.2.1 (Nat.le_of_ble_eq_true rfl) ?_
  rw [(cpI_ok e26).2.2.2.2.2]
  refine J.aload_n (pc := 54) dX9_copyFrom_54 rfl 1 rfl ?_
  obtain ⟨a28, e29, h⟩ := bnd h
  have k30 : (kd a28).1 = 0 := gR_k e29
  refine J.fR (pc := 55) dX9_copyFrom_55 fl_RX9_29 k1 (okN hN27 k1 (by decide)) rfl e29 ?_
  refine J.iconst (pc := 58) dX9_copyFrom_58 ic_0 ?_
  refine J.aload_n (pc := 59) dX9_copyFrom_59 rfl 0 rfl ?_
  obtain ⟨a31, e32, h⟩ := bnd h
  have k33 : (kd a31).1 = 0 := gR_k e32
  refine J.fR (pc := 60) dX9_copyFrom_60 fl_RX9_29 k0 (okN hN27 k0 (by decide)) rfl e32 ?_
  refine J.iconst (pc := 63) dX9_copyFrom_63 ic_0 ?_
  refine J.bipush (pc := 64) dX9_copyFrom_64 ib_6 ?_
  obtain ⟨μ34, e35, h⟩ := bnd h
  have hN36 : μ34.1 = NN := cpI_N e35 hN27
  refine J.copy (pc := 66) dX9_copyFrom_66 ml_RX9_38 ac_1 ac_2 ac_3 hN27 k30 (okN hN27 k30 (by decide)).1 k33 (okN hN27 k33 (by decide)).1 (cpI_ok e35).1 (cpI_ok e35).2.1 (cpI_ok e35).2.2.1 (cpI_ok e35).2.2.2.1 (cpI_ok e35).2.2.2.2.1 (Nat.le_of_ble_eq_true rfl) ?_
  rw [(cpI_ok e35).2.2.2.2.2]
  refine J.aload_n (pc := 69) dX9_copyFrom_69 rfl 1 rfl ?_
  obtain ⟨a37, e38, h⟩ := bnd h
  have k39 : (kd a37).1 = 0 := gR_k e38
  refine J.fR (pc := 70) dX9_copyFrom_70 fl_RX9_32 k1 (okN hN36 k1 (by decide)) rfl e38 ?_
  refine J.iconst (pc := 73) dX9_copyFrom_73 ic_0 ?_
  refine J.aload_n (pc := 74) dX9_copyFrom_74 rfl 0 rfl ?_
  obtain ⟨a40, e41, h⟩ := bnd h
  have k42 : (kd a40).1 = 0 := gR_k e41
  refine J.fR (pc := 75) dX9_copyFrom_75 fl_RX9_32 k0 (okN hN36 k0 (by decide)) rfl e41 ?_
  refine J.iconst (pc := 78) dX9_copyFrom_78 ic_0 ?_
  refine J.bipush (pc := 79) dX9_copyFrom_79 ib_6 ?_
  obtain ⟨μ43, e44, h⟩ := bnd h
  have hN45 : μ43.1 = NN := cpI_N e44 hN36
  refine J.copy (pc := 81) dX9_copyFrom_81 ml_RX9_38 ac_1 ac_2 ac_3 hN36 k39 (okN hN36 k39 (by decide)).1 k42 (okN hN36 k42 (by decide)).1 (cpI_ok e44).1 (cpI_ok e44).2.1 (cpI_ok e44).2.2.1 (cpI_ok e44).2.2.2.1 (cpI_ok e44).2.2.2.2.1 (Nat.le_of_ble_eq_true rfl) ?_
  rw [(cpI_ok e44).2.2.2.2.2]
  cases h
  exact J.vret (pc := 84) dX9_copyFrom_84 rfl ⟨rfl, rfl, hN45, trivial⟩
def fX2_begin_20  : Nat → Nat → Nat → Int32 → Mem → Option (Mem)
  | 0, _, _, _, _ => none
  | n + 1, v0, v1, v3, μ =>
    if v3 < (6 : Int32) then
      (gR μ v0 2 0).bind fun a1 =>
      (gR μ v1 4 0).bind fun a4 =>
      (ldI μ a4 v3).bind fun x7 =>
      (stI μ a1 v3 x7).bind fun μ9 =>
      (gR μ9 v0 3 0).bind fun a12 =>
      (stI μ9 a12 v3 (0 : Int32)).bind fun μ15 =>
      (gR μ15 v0 4 0).bind fun a18 =>
      (stI μ15 a18 v3 (0 : Int32)).bind fun μ21 =>
      (fX2_begin_20 n) v0 v1 (v3 + (1 : Int32)) μ21
    else
      some μ
set_option maxHeartbeats 4000000 in
theorem tX2_begin_20 {ω : Wd} {l : Launch} (d : Nat) {res : Mem} : ∀ n : Nat, ∀ (v0 : Nat) (v1 : Nat) (v3 : Int32) (μ : Mem), fX2_begin_20 n v0 v1 v3 μ = some res → μ.1 = NN → (kd v0).1 = 12 → (kd v1).1 = 11 → J ω l mX2_begin (d + 2) 20 [(0, .ref v0), (1, .ref v1), (3, .int v3)] [] μ 0 0 (PE (.inl none) res True) := by
  intro n
  induction n with
  | zero =>
    intro v0 v1 v3 μ h hN k0 k1
    have h9 : (none : Option (Mem)) = some res := h
    cases h9
  | succ n ih =>
    intro v0 v1 v3 μ h hN k0 k1
    unfold fX2_begin_20 at h
    refine J.iload_n (pc := 20) dX2_begin_20 rfl 2 rfl ?_
    refine J.bipush (pc := 21) dX2_begin_21 ib_6 ?_
    rcases ifc h with ⟨hc, h⟩ | ⟨hc, h⟩
    · refine J.cge (pc := 23) (tgt := 58) dX2_begin_23 (by decide) (fun _ => ?_) (fun q => absurd hc q)
      refine J.aload_n (pc := 26) dX2_begin_26 rfl 0 rfl ?_
      obtain ⟨a1, e2, h⟩ := bnd h
      have k3 : (kd a1).1 = 0 := gR_k e2
      refine J.fR (pc := 27) dX2_begin_27 fl_RX2_25 k0 (okN hN k0 (by decide)) rfl e2 ?_
      refine J.iload_n (pc := 30) dX2_begin_30 rfl 2 rfl ?_
      refine J.aload_n (pc := 31) dX2_begin_31 rfl 1 rfl ?_
      obtain ⟨a4, e5, h⟩ := bnd h
      have k6 : (kd a4).1 = 0 := gR_k e5
      refine J.fR (pc := 32) dX2_begin_32 fl_RX2_50 k1 (okN hN k1 (by decide)) rfl e5 ?_
      refine J.iload_n (pc := 35) dX2_begin_35 rfl 2 rfl ?_
      obtain ⟨x7, e8, h⟩ := bnd h
      refine J.aI (pc := 36) dX2_begin_36 k6 (okN hN k6 (by decide)) e8 ?_
      obtain ⟨μ9, e10, h⟩ := bnd h
      have hN11 : μ9.1 = NN := stI_N e10 hN
      refine J.wI (pc := 37) dX2_begin_37 k3 (okN hN k3 (by decide)) e10 ?_
      refine J.aload_n (pc := 38) dX2_begin_38 rfl 0 rfl ?_
      obtain ⟨a12, e13, h⟩ := bnd h
      have k14 : (kd a12).1 = 0 := gR_k e13
      refine J.fR (pc := 39) dX2_begin_39 fl_RX2_29 k0 (okN hN11 k0 (by decide)) rfl e13 ?_
      refine J.iload_n (pc := 42) dX2_begin_42 rfl 2 rfl ?_
      refine J.iconst (pc := 43) dX2_begin_43 ic_0 ?_
      obtain ⟨μ15, e16, h⟩ := bnd h
      have hN17 : μ15.1 = NN := stI_N e16 hN11
      refine J.wI (pc := 44) dX2_begin_44 k14 (okN hN11 k14 (by decide)) e16 ?_
      refine J.aload_n (pc := 45) dX2_begin_45 rfl 0 rfl ?_
      obtain ⟨a18, e19, h⟩ := bnd h
      have k20 : (kd a18).1 = 0 := gR_k e19
      refine J.fR (pc := 46) dX2_begin_46 fl_RX2_32 k0 (okN hN17 k0 (by decide)) rfl e19 ?_
      refine J.iload_n (pc := 49) dX2_begin_49 rfl 2 rfl ?_
      refine J.iconst (pc := 50) dX2_begin_50 ic_0 ?_
      obtain ⟨μ21, e22, h⟩ := bnd h
      have hN23 : μ21.1 = NN := stI_N e22 hN17
      refine J.wI (pc := 51) dX2_begin_51 k20 (okN hN17 k20 (by decide)) e22 ?_
      refine J.iinc (pc := 52) (j := 2) ([(3, .int (v3 + (1 : Int32))), (0, .ref v0), (1, .ref v1)]) dX2_begin_52 rfl (iincv ic_1) (Nat.le_of_ble_eq_true rfl) rfl ?_
      refine J.goto (pc := 55) (tgt := 20) dX2_begin_55 (by decide) ?_
      refine J.pick [1, 2, 0] rfl ?_
      exact ih v0 v1 (v3 + (1 : Int32)) μ21 h hN23 k0 k1
    · refine J.cge (pc := 23) (tgt := 58) dX2_begin_23 (by decide) (fun q => absurd q hc) (fun _ => ?_)
      cases h
      exact J.vret (pc := 58) dX2_begin_58 rfl ⟨rfl, rfl, hN, trivial⟩
def fX2_begin (v0 : Nat) (v1 : Nat) (v2 : Nat) (μ : Mem) : Option (Mem) :=
  (some (sR μ v0 7 (some v1))).bind fun μ1 =>
  (gR μ1 v0 0 19).bind fun a4 =>
  (fX9_copyFrom a4 v2 μ1).bind fun μ8 =>
  (some (sI μ8 v0 5 (0 : Int32))).bind fun μ11 =>
  (fX2_begin_20 fuel) v0 v1 (0 : Int32) μ11
set_option maxHeartbeats 4000000 in
theorem tX2_begin {ω : Wd} {l : Launch} (d : Nat) {v0 : Nat} {v1 : Nat} {v2 : Nat} {μ : Mem} {res : Mem} (h : fX2_begin v0 v1 v2 μ = some res) (hN : μ.1 = NN) (k0 : (kd v0).1 = 12) (k1 : (kd v1).1 = 11) (k2 : (kd v2).1 = 19) : Ct ω l mX2_begin (d + 2) [.ref v0, .ref v1, .ref v2] μ 0 0 (PE (.inl none) res True) := by
  refine Ct.of pn_RX2 (Nat.le_of_ble_eq_true rfl) ?_
  show J ω l mX2_begin (d + 2) 0 [(0, .ref v0), (1, .ref v1), (2, .ref v2)] [] μ 0 0 _
  unfold fX2_begin at h
  refine J.aload_n (pc := 0) dX2_begin_0 rfl 0 rfl ?_
  refine J.aload_n (pc := 1) dX2_begin_1 rfl 1 rfl ?_
  obtain ⟨μ1, e2, h⟩ := bnd h
  have hN3 : μ1.1 = NN := smN e2 hN
  refine J.qR (pc := 2) dX2_begin_2 fl_RX2_42 k0 (okN hN k0 (by decide)) rfl rfl e2 ?_
  refine J.aload_n (pc := 5) dX2_begin_5 rfl 0 rfl ?_
  obtain ⟨a4, e5, h⟩ := bnd h
  have k6 : (kd a4).1 = 19 := gR_k e5
  refine J.fR (pc := 6) dX2_begin_6 fl_RX2_12 k0 (okN hN3 k0 (by decide)) rfl e5 ?_
  refine J.aload_n (pc := 9) dX2_begin_9 rfl 2 rfl ?_
  obtain ⟨μ8, e7, h⟩ := bnd h
  refine J.callV (Y := mX2_begin) (Z := mX9_copyFrom) (pc := 10) (st := []) (k2 := 0) (n2 := 0) dX2_begin_10 ml_RX2_46 mo_X9_copyFrom mv_X9_copyFrom rfl (tX9_copyFrom d e7 hN3 k6 k2) k6 (okN hN3 k6 (by decide)).1 (okN hN3 k6 (by decide)).2 cq_9 (by decide) rfl rfl (Nat.le_of_ble_eq_true rfl) (by decide) (by decide) (fun v ν hp => ?_) (fun i ν hp => nrm hp.1)
  obtain ⟨rfl, rfl, hN9, hb10⟩ := QEl hp
  show J _ _ _ _ 13 _ ([]) _ _ _ _
  refine J.aload_n (pc := 13) dX2_begin_13 rfl 0 rfl ?_
  refine J.iconst (pc := 14) dX2_begin_14 ic_0 ?_
  obtain ⟨μ11, e12, h⟩ := bnd h
  have hN13 : μ11.1 = NN := smN e12 hN9
  refine J.qI (pc := 15) dX2_begin_15 fl_RX2_35 k0 (okN hN9 k0 (by decide)) rfl rfl e12 ?_
  refine J.iconst (pc := 18) dX2_begin_18 ic_0 ?_
  refine J.istore_n (pc := 19) ([(3, .int (0 : Int32)), (0, .ref v0), (1, .ref v1), (2, .ref v2)]) dX2_begin_19 rfl (Nat.le_of_ble_eq_true rfl) rfl ?_
  refine J.pick [1, 2, 0] rfl ?_
  exact (tX2_begin_20 d fuel) v0 v1 (0 : Int32) μ11 h hN13 k0 k1
def fX7_joined (v0 : Int32) (v1 : Int32) (v2 : Int32) : Option (Int32) :=
  if v0 = (-17 : Int32) then
    some (v1 * v2)
  else
  if v0 = (-16 : Int32) then
    some (v1 - v2)
  else
  if v0 = (-15 : Int32) then
    some (v1 + v2)
  else
  if v0 = (-14 : Int32) then
    if v1 = v2 then
      some (1 : Int32)
    else
      some (0 : Int32)
  else
  if v0 = (-13 : Int32) then
    if v1 < v2 then
      some (1 : Int32)
    else
      some (0 : Int32)
  else
  if v0 = (-12 : Int32) then
    if v1 = 0 then
      some (0 : Int32)
    else
      if v2 = 0 then
        some (0 : Int32)
      else
        some (1 : Int32)
  else
  if v0 = (-11 : Int32) then
    if v1 = 0 then
      if v2 = 0 then
        some (0 : Int32)
      else
        some (1 : Int32)
    else
      some (1 : Int32)
  else
  if v2 = 0 then
    some (0 : Int32)
  else
    (dvI v1 v2).bind fun x1 =>
    some x1
set_option maxHeartbeats 4000000 in
theorem tX7_joined {ω : Wd} {l : Launch} (d : Nat) {v0 : Int32} {v1 : Int32} {v2 : Int32} {μ : Mem} {res : Int32} (h : fX7_joined v0 v1 v2 = some res) (hN : μ.1 = NN) : Ct ω l mX7_joined d [.int v0, .int v1, .int v2] μ 0 0 (PE (.inl (some (.int res))) μ True) := by
  refine Ct.of pn_RX7 (Nat.le_of_ble_eq_true rfl) ?_
  show J ω l mX7_joined d 0 [(0, .int v0), (1, .int v1), (2, .int v2)] [] μ 0 0 _
  unfold fX7_joined at h
  refine J.iload_n (pc := 0) dX7_joined_0 rfl 0 rfl ?_
  rcases ifc h with ⟨hc, h⟩ | ⟨ns3, h⟩
  · refine J.tableIn (pc := 1) (off := 101) (tgt := 102) dX7_joined_1 (by rw [hc]; decide) (by rw [hc]; decide) (by rw [hc]; decide) (by decide) ?_
    refine J.iload_n (pc := 102) dX7_joined_102 rfl 1 rfl ?_
    refine J.iload_n (pc := 103) dX7_joined_103 rfl 2 rfl ?_
    refine J.imul (pc := 104) dX7_joined_104 ?_
    cases h
    exact J.iret (pc := 105) dX7_joined_105 rfl ⟨rfl, rfl, hN, trivial⟩
  rcases ifc h with ⟨hc, h⟩ | ⟨ns4, h⟩
  · refine J.tableIn (pc := 1) (off := 97) (tgt := 98) dX7_joined_1 (by rw [hc]; decide) (by rw [hc]; decide) (by rw [hc]; decide) (by decide) ?_
    refine J.iload_n (pc := 98) dX7_joined_98 rfl 1 rfl ?_
    refine J.iload_n (pc := 99) dX7_joined_99 rfl 2 rfl ?_
    refine J.isub (pc := 100) dX7_joined_100 ?_
    cases h
    exact J.iret (pc := 101) dX7_joined_101 rfl ⟨rfl, rfl, hN, trivial⟩
  rcases ifc h with ⟨hc, h⟩ | ⟨ns5, h⟩
  · refine J.tableIn (pc := 1) (off := 93) (tgt := 94) dX7_joined_1 (by rw [hc]; decide) (by rw [hc]; decide) (by rw [hc]; decide) (by decide) ?_
    refine J.iload_n (pc := 94) dX7_joined_94 rfl 1 rfl ?_
    refine J.iload_n (pc := 95) dX7_joined_95 rfl 2 rfl ?_
    refine J.iadd (pc := 96) dX7_joined_96 ?_
    cases h
    exact J.iret (pc := 97) dX7_joined_97 rfl ⟨rfl, rfl, hN, trivial⟩
  rcases ifc h with ⟨hc, h⟩ | ⟨ns6, h⟩
  · refine J.tableIn (pc := 1) (off := 82) (tgt := 83) dX7_joined_1 (by rw [hc]; decide) (by rw [hc]; decide) (by rw [hc]; decide) (by decide) ?_
    refine J.iload_n (pc := 83) dX7_joined_83 rfl 1 rfl ?_
    refine J.iload_n (pc := 84) dX7_joined_84 rfl 2 rfl ?_
    rcases ifc h with ⟨hc, h⟩ | ⟨hc, h⟩
    · refine J.cne (pc := 85) (tgt := 92) dX7_joined_85 (by decide) (fun _ => ?_) (fun q => absurd hc q)
      refine J.iconst (pc := 88) dX7_joined_88 ic_1 ?_
      refine J.goto (pc := 89) (tgt := 93) dX7_joined_89 (by decide) ?_
      cases h
      exact J.iret (pc := 93) dX7_joined_93 rfl ⟨rfl, rfl, hN, trivial⟩
    · refine J.cne (pc := 85) (tgt := 92) dX7_joined_85 (by decide) (fun q => absurd q hc) (fun _ => ?_)
      refine J.iconst (pc := 92) dX7_joined_92 ic_0 ?_
      cases h
      exact J.iret (pc := 93) dX7_joined_93 rfl ⟨rfl, rfl, hN, trivial⟩
  rcases ifc h with ⟨hc, h⟩ | ⟨ns7, h⟩
  · refine J.tableIn (pc := 1) (off := 71) (tgt := 72) dX7_joined_1 (by rw [hc]; decide) (by rw [hc]; decide) (by rw [hc]; decide) (by decide) ?_
    refine J.iload_n (pc := 72) dX7_joined_72 rfl 1 rfl ?_
    refine J.iload_n (pc := 73) dX7_joined_73 rfl 2 rfl ?_
    rcases ifc h with ⟨hc, h⟩ | ⟨hc, h⟩
    · refine J.cge (pc := 74) (tgt := 81) dX7_joined_74 (by decide) (fun _ => ?_) (fun q => absurd hc q)
      refine J.iconst (pc := 77) dX7_joined_77 ic_1 ?_
      refine J.goto (pc := 78) (tgt := 82) dX7_joined_78 (by decide) ?_
      cases h
      exact J.iret (pc := 82) dX7_joined_82 rfl ⟨rfl, rfl, hN, trivial⟩
    · refine J.cge (pc := 74) (tgt := 81) dX7_joined_74 (by decide) (fun q => absurd q hc) (fun _ => ?_)
      refine J.iconst (pc := 81) dX7_joined_81 ic_0 ?_
      cases h
      exact J.iret (pc := 82) dX7_joined_82 rfl ⟨rfl, rfl, hN, trivial⟩
  rcases ifc h with ⟨hc, h⟩ | ⟨ns8, h⟩
  · refine J.tableIn (pc := 1) (off := 57) (tgt := 58) dX7_joined_1 (by rw [hc]; decide) (by rw [hc]; decide) (by rw [hc]; decide) (by decide) ?_
    refine J.iload_n (pc := 58) dX7_joined_58 rfl 1 rfl ?_
    rcases ifc h with ⟨hc, h⟩ | ⟨hc, h⟩
    · refine J.zeq (pc := 59) (tgt := 70) dX7_joined_59 (by decide) (fun _ => ?_) (fun q => absurd hc q)
      refine J.iconst (pc := 70) dX7_joined_70 ic_0 ?_
      cases h
      exact J.iret (pc := 71) dX7_joined_71 rfl ⟨rfl, rfl, hN, trivial⟩
    · refine J.zeq (pc := 59) (tgt := 70) dX7_joined_59 (by decide) (fun q => absurd q hc) (fun _ => ?_)
      refine J.iload_n (pc := 62) dX7_joined_62 rfl 2 rfl ?_
      rcases ifc h with ⟨hc, h⟩ | ⟨hc, h⟩
      · refine J.zeq (pc := 63) (tgt := 70) dX7_joined_63 (by decide) (fun _ => ?_) (fun q => absurd hc q)
        refine J.iconst (pc := 70) dX7_joined_70 ic_0 ?_
        cases h
        exact J.iret (pc := 71) dX7_joined_71 rfl ⟨rfl, rfl, hN, trivial⟩
      · refine J.zeq (pc := 63) (tgt := 70) dX7_joined_63 (by decide) (fun q => absurd q hc) (fun _ => ?_)
        refine J.iconst (pc := 66) dX7_joined_66 ic_1 ?_
        refine J.goto (pc := 67) (tgt := 71) dX7_joined_67 (by decide) ?_
        cases h
        exact J.iret (pc := 71) dX7_joined_71 rfl ⟨rfl, rfl, hN, trivial⟩
  rcases ifc h with ⟨hc, h⟩ | ⟨ns9, h⟩
  · refine J.tableIn (pc := 1) (off := 43) (tgt := 44) dX7_joined_1 (by rw [hc]; decide) (by rw [hc]; decide) (by rw [hc]; decide) (by decide) ?_
    refine J.iload_n (pc := 44) dX7_joined_44 rfl 1 rfl ?_
    rcases ifc h with ⟨hc, h⟩ | ⟨hc, h⟩
    · refine J.zne (pc := 45) (tgt := 52) dX7_joined_45 (by decide) (fun _ => ?_) (fun q => absurd hc q)
      refine J.iload_n (pc := 48) dX7_joined_48 rfl 2 rfl ?_
      rcases ifc h with ⟨hc, h⟩ | ⟨hc, h⟩
      · refine J.zeq (pc := 49) (tgt := 56) dX7_joined_49 (by decide) (fun _ => ?_) (fun q => absurd hc q)
        refine J.iconst (pc := 56) dX7_joined_56 ic_0 ?_
        cases h
        exact J.iret (pc := 57) dX7_joined_57 rfl ⟨rfl, rfl, hN, trivial⟩
      · refine J.zeq (pc := 49) (tgt := 56) dX7_joined_49 (by decide) (fun q => absurd q hc) (fun _ => ?_)
        refine J.iconst (pc := 52) dX7_joined_52 ic_1 ?_
        refine J.goto (pc := 53) (tgt := 57) dX7_joined_53 (by decide) ?_
        cases h
        exact J.iret (pc := 57) dX7_joined_57 rfl ⟨rfl, rfl, hN, trivial⟩
    · refine J.zne (pc := 45) (tgt := 52) dX7_joined_45 (by decide) (fun q => absurd q hc) (fun _ => ?_)
      refine J.iconst (pc := 52) dX7_joined_52 ic_1 ?_
      refine J.goto (pc := 53) (tgt := 57) dX7_joined_53 (by decide) ?_
      cases h
      exact J.iret (pc := 57) dX7_joined_57 rfl ⟨rfl, rfl, hN, trivial⟩
  refine J.tableOut (pc := 1) (tgt := 106) dX7_joined_1 (sw_out (vs := [(-17 : Int32), (-16 : Int32), (-15 : Int32), (-14 : Int32), (-13 : Int32), (-12 : Int32), (-11 : Int32)]) (List.forall_mem_cons.mpr ⟨ns3, (List.forall_mem_cons.mpr ⟨ns4, (List.forall_mem_cons.mpr ⟨ns5, (List.forall_mem_cons.mpr ⟨ns6, (List.forall_mem_cons.mpr ⟨ns7, (List.forall_mem_cons.mpr ⟨ns8, (List.forall_mem_cons.mpr ⟨ns9, (fun _ q => nomatch q)⟩)⟩)⟩)⟩)⟩)⟩)⟩) (sw_hv (by decide))) (by decide) ?_
  refine J.iload_n (pc := 106) dX7_joined_106 rfl 2 rfl ?_
  rcases ifc h with ⟨hc, h⟩ | ⟨hc, h⟩
  · refine J.zne (pc := 107) (tgt := 114) dX7_joined_107 (by decide) (fun _ => ?_) (fun q => absurd hc q)
    refine J.iconst (pc := 110) dX7_joined_110 ic_0 ?_
    refine J.goto (pc := 111) (tgt := 117) dX7_joined_111 (by decide) ?_
    cases h
    exact J.iret (pc := 117) dX7_joined_117 rfl ⟨rfl, rfl, hN, trivial⟩
  · refine J.zne (pc := 107) (tgt := 114) dX7_joined_107 (by decide) (fun q => absurd q hc) (fun _ => ?_)
    refine J.iload_n (pc := 114) dX7_joined_114 rfl 1 rfl ?_
    refine J.iload_n (pc := 115) dX7_joined_115 rfl 2 rfl ?_
    obtain ⟨x1, e2, h⟩ := bnd h
    refine J.dv (pc := 116) dX7_joined_116 e2 ?_
    cases h
    exact J.iret (pc := 117) dX7_joined_117 rfl ⟨rfl, rfl, hN, trivial⟩
def fX7_valueOf (v0 : Nat) (v1 : Int32) (μ : Mem) : Option (Int32) :=
  if v1 < (Int32.ofNat (kd v0).2) then
    (ldI μ v0 v1).bind fun x1 =>
    some x1
  else
    some (0 : Int32)
set_option maxHeartbeats 4000000 in
theorem tX7_valueOf {ω : Wd} {l : Launch} (d : Nat) {v0 : Nat} {v1 : Int32} {μ : Mem} {res : Int32} (h : fX7_valueOf v0 v1 μ = some res) (hN : μ.1 = NN) (k0 : (kd v0).1 = 0) : Ct ω l mX7_valueOf d [.ref v0, .int v1] μ 0 0 (PE (.inl (some (.int res))) μ True) := by
  refine Ct.of pn_RX7 (Nat.le_of_ble_eq_true rfl) ?_
  show J ω l mX7_valueOf d 0 [(0, .ref v0), (1, .int v1)] [] μ 0 0 _
  unfold fX7_valueOf at h
  refine J.iload_n (pc := 0) dX7_valueOf_0 rfl 1 rfl ?_
  refine J.aload_n (pc := 1) dX7_valueOf_1 rfl 0 rfl ?_
  refine J.len (pc := 2) dX7_valueOf_2 k0 (okN hN k0 (by decide)) ?_
  rcases ifc h with ⟨hc, h⟩ | ⟨hc, h⟩
  · refine J.cge (pc := 3) (tgt := 12) dX7_valueOf_3 (by decide) (fun _ => ?_) (fun q => absurd hc q)
    refine J.aload_n (pc := 6) dX7_valueOf_6 rfl 0 rfl ?_
    refine J.iload_n (pc := 7) dX7_valueOf_7 rfl 1 rfl ?_
    obtain ⟨x1, e2, h⟩ := bnd h
    refine J.aI (pc := 8) dX7_valueOf_8 k0 (okN hN k0 (by decide)) e2 ?_
    refine J.goto (pc := 9) (tgt := 13) dX7_valueOf_9 (by decide) ?_
    cases h
    exact J.iret (pc := 13) dX7_valueOf_13 rfl ⟨rfl, rfl, hN, trivial⟩
  · refine J.cge (pc := 3) (tgt := 12) dX7_valueOf_3 (by decide) (fun q => absurd q hc) (fun _ => ?_)
    refine J.iconst (pc := 12) dX7_valueOf_12 ic_0 ?_
    cases h
    exact J.iret (pc := 13) dX7_valueOf_13 rfl ⟨rfl, rfl, hN, trivial⟩
def fX7_evaluate_4  : Nat → Nat → Nat → Int32 → Int32 → Mem → Option (Int32 × Mem)
  | 0, _, _, _, _, _ => none
  | n + 1, v0, v1, v2, v3, μ =>
    if v3 < (μ.2.1 v0 1) then
      (gR μ v0 0 0).bind fun a1 =>
      (ldI μ a1 v3).bind fun x4 =>
      if (-10 : Int32) < x4 then
        (gR μ v0 2 0).bind fun a6 =>
        if v2 < (Int32.ofNat (kd a6).2) then
          (gR μ v0 2 0).bind fun a9 =>
          if x4 < 0 then
            (fX7_valueOf v1 ((-1 : Int32) - x4) μ).bind fun r13 =>
            (stI μ a9 v2 r13).bind fun μ16 =>
            (fX7_evaluate_4 n) v0 v1 (v2 + (1 : Int32)) (v3 + (1 : Int32)) μ16
          else
            (stI μ a9 v2 x4).bind fun μ19 =>
            (fX7_evaluate_4 n) v0 v1 (v2 + (1 : Int32)) (v3 + (1 : Int32)) μ19
        else
          if x4 = (-10 : Int32) then
            if v2 < (1 : Int32) then
              if v2 < (2 : Int32) then
                (fX7_evaluate_4 n) v0 v1 v2 (v3 + (1 : Int32)) μ
              else
                (gR μ v0 2 0).bind fun a22 =>
                (gR μ v0 2 0).bind fun a25 =>
                (ldI μ a25 ((v2 + (-1 : Int32)) - (1 : Int32))).bind fun x28 =>
                (gR μ v0 2 0).bind fun a30 =>
                (ldI μ a30 (v2 + (-1 : Int32))).bind fun x33 =>
                (fX7_joined x4 x28 x33).bind fun r36 =>
                (stI μ a22 ((v2 + (-1 : Int32)) - (1 : Int32)) r36).bind fun μ39 =>
                (fX7_evaluate_4 n) v0 v1 (v2 + (-1 : Int32)) (v3 + (1 : Int32)) μ39
            else
              (gR μ v0 2 0).bind fun a42 =>
              (gR μ v0 2 0).bind fun a45 =>
              (ldI μ a45 (v2 - (1 : Int32))).bind fun x48 =>
              if x48 = 0 then
                (stI μ a42 (v2 - (1 : Int32)) (1 : Int32)).bind fun μ50 =>
                (fX7_evaluate_4 n) v0 v1 v2 (v3 + (1 : Int32)) μ50
              else
                (stI μ a42 (v2 - (1 : Int32)) (0 : Int32)).bind fun μ53 =>
                (fX7_evaluate_4 n) v0 v1 v2 (v3 + (1 : Int32)) μ53
          else
            if v2 < (2 : Int32) then
              (fX7_evaluate_4 n) v0 v1 v2 (v3 + (1 : Int32)) μ
            else
              (gR μ v0 2 0).bind fun a56 =>
              (gR μ v0 2 0).bind fun a59 =>
              (ldI μ a59 ((v2 + (-1 : Int32)) - (1 : Int32))).bind fun x62 =>
              (gR μ v0 2 0).bind fun a64 =>
              (ldI μ a64 (v2 + (-1 : Int32))).bind fun x67 =>
              (fX7_joined x4 x62 x67).bind fun r70 =>
              (stI μ a56 ((v2 + (-1 : Int32)) - (1 : Int32)) r70).bind fun μ73 =>
              (fX7_evaluate_4 n) v0 v1 (v2 + (-1 : Int32)) (v3 + (1 : Int32)) μ73
      else
        if x4 = (-10 : Int32) then
          if v2 < (1 : Int32) then
            if v2 < (2 : Int32) then
              (fX7_evaluate_4 n) v0 v1 v2 (v3 + (1 : Int32)) μ
            else
              (gR μ v0 2 0).bind fun a76 =>
              (gR μ v0 2 0).bind fun a79 =>
              (ldI μ a79 ((v2 + (-1 : Int32)) - (1 : Int32))).bind fun x82 =>
              (gR μ v0 2 0).bind fun a84 =>
              (ldI μ a84 (v2 + (-1 : Int32))).bind fun x87 =>
              (fX7_joined x4 x82 x87).bind fun r90 =>
              (stI μ a76 ((v2 + (-1 : Int32)) - (1 : Int32)) r90).bind fun μ93 =>
              (fX7_evaluate_4 n) v0 v1 (v2 + (-1 : Int32)) (v3 + (1 : Int32)) μ93
          else
            (gR μ v0 2 0).bind fun a96 =>
            (gR μ v0 2 0).bind fun a99 =>
            (ldI μ a99 (v2 - (1 : Int32))).bind fun x102 =>
            if x102 = 0 then
              (stI μ a96 (v2 - (1 : Int32)) (1 : Int32)).bind fun μ104 =>
              (fX7_evaluate_4 n) v0 v1 v2 (v3 + (1 : Int32)) μ104
            else
              (stI μ a96 (v2 - (1 : Int32)) (0 : Int32)).bind fun μ107 =>
              (fX7_evaluate_4 n) v0 v1 v2 (v3 + (1 : Int32)) μ107
        else
          if v2 < (2 : Int32) then
            (fX7_evaluate_4 n) v0 v1 v2 (v3 + (1 : Int32)) μ
          else
            (gR μ v0 2 0).bind fun a110 =>
            (gR μ v0 2 0).bind fun a113 =>
            (ldI μ a113 ((v2 + (-1 : Int32)) - (1 : Int32))).bind fun x116 =>
            (gR μ v0 2 0).bind fun a118 =>
            (ldI μ a118 (v2 + (-1 : Int32))).bind fun x121 =>
            (fX7_joined x4 x116 x121).bind fun r124 =>
            (stI μ a110 ((v2 + (-1 : Int32)) - (1 : Int32)) r124).bind fun μ127 =>
            (fX7_evaluate_4 n) v0 v1 (v2 + (-1 : Int32)) (v3 + (1 : Int32)) μ127
    else
      if 0 < v2 then
        (gR μ v0 2 0).bind fun a130 =>
        (ldI μ a130 (0 : Int32)).bind fun x133 =>
        some (x133, μ)
      else
        some ((0 : Int32), μ)
set_option maxHeartbeats 4000000 in
theorem tX7_evaluate_4 {ω : Wd} {l : Launch} (d : Nat) {res : Int32 × Mem} : ∀ n : Nat, ∀ (v0 : Nat) (v1 : Nat) (v2 : Int32) (v3 : Int32) (μ : Mem), fX7_evaluate_4 n v0 v1 v2 v3 μ = some res → μ.1 = NN → (kd v0).1 = 17 → (kd v1).1 = 0 → J ω l mX7_evaluate (d + 1) 4 [(0, .ref v0), (1, .ref v1), (2, .int v2), (3, .int v3)] [] μ 0 0 (PE (.inl (some (.int res.1))) res.2 True) := by
  intro n
  induction n with
  | zero =>
    intro v0 v1 v2 v3 μ h hN k0 k1
    have h9 : (none : Option (Int32 × Mem)) = some res := h
    cases h9
  | succ n ih =>
    intro v0 v1 v2 v3 μ h hN k0 k1
    unfold fX7_evaluate_4 at h
    refine J.iload_n (pc := 4) dX7_evaluate_4 rfl 3 rfl ?_
    refine J.aload_n (pc := 5) dX7_evaluate_5 rfl 0 rfl ?_
    refine J.fI (pc := 6) dX7_evaluate_6 fl_RX7_15 k0 (okN hN k0 (by decide)) (Or.inl rfl) ?_
    rcases ifc h with ⟨hc, h⟩ | ⟨hc, h⟩
    · refine J.cge (pc := 9) (tgt := 146) dX7_evaluate_9 (by decide) (fun _ => ?_) (fun q => absurd hc q)
      refine J.aload_n (pc := 12) dX7_evaluate_12 rfl 0 rfl ?_
      obtain ⟨a1, e2, h⟩ := bnd h
      have k3 : (kd a1).1 = 0 := gR_k e2
      refine J.fR (pc := 13) dX7_evaluate_13 fl_RX7_9 k0 (okN hN k0 (by decide)) rfl e2 ?_
      refine J.iload_n (pc := 16) dX7_evaluate_16 rfl 3 rfl ?_
      obtain ⟨x4, e5, h⟩ := bnd h
      refine J.aI (pc := 17) dX7_evaluate_17 k3 (okN hN k3 (by decide)) e5 ?_
      refine J.istore (pc := 18) ([(4, .int x4), (0, .ref v0), (1, .ref v1), (2, .int v2), (3, .int v3)]) dX7_evaluate_18 (Nat.le_of_ble_eq_true rfl) rfl ?_
      refine J.iload (pc := 20) dX7_evaluate_20 0 rfl ?_
      refine J.bipush (pc := 22) dX7_evaluate_22 ib_m10 ?_
      rcases ifc h with ⟨hc, h⟩ | ⟨hc, h⟩
      · refine J.cle (pc := 24) (tgt := 66) dX7_evaluate_24 (by decide) (fun _ => ?_) (fun q => absurd hc q)
        refine J.iload_n (pc := 27) dX7_evaluate_27 rfl 3 rfl ?_
        refine J.aload_n (pc := 28) dX7_evaluate_28 rfl 1 rfl ?_
        obtain ⟨a6, e7, h⟩ := bnd h
        have k8 : (kd a6).1 = 0 := gR_k e7
        refine J.fR (pc := 29) dX7_evaluate_29 fl_RX7_19 k0 (okN hN k0 (by decide)) rfl e7 ?_
        refine J.len (pc := 32) dX7_evaluate_32 k8 (okN hN k8 (by decide)) ?_
        rcases ifc h with ⟨hc, h⟩ | ⟨hc, h⟩
        · refine J.cge (pc := 33) (tgt := 66) dX7_evaluate_33 (by decide) (fun _ => ?_) (fun q => absurd hc q)
          refine J.aload_n (pc := 36) dX7_evaluate_36 rfl 1 rfl ?_
          obtain ⟨a9, e10, h⟩ := bnd h
          have k11 : (kd a9).1 = 0 := gR_k e10
          refine J.fR (pc := 37) dX7_evaluate_37 fl_RX7_19 k0 (okN hN k0 (by decide)) rfl e10 ?_
          refine J.iload_n (pc := 40) dX7_evaluate_40 rfl 3 rfl ?_
          refine J.iload (pc := 41) dX7_evaluate_41 0 rfl ?_
          rcases ifc h with ⟨hc, h⟩ | ⟨hc, h⟩
          · refine J.zlt (pc := 43) (tgt := 51) dX7_evaluate_43 (by decide) (fun _ => ?_) (fun q => absurd hc q)
            refine J.aload_n (pc := 51) dX7_evaluate_51 rfl 2 rfl ?_
            refine J.iconst (pc := 52) dX7_evaluate_52 ic_m1 ?_
            refine J.iload (pc := 53) dX7_evaluate_53 0 rfl ?_
            refine J.isub (pc := 55) dX7_evaluate_55 ?_
            obtain ⟨r13, e12, h⟩ := bnd h
            refine J.callS (Y := mX7_evaluate) (Z := mX7_valueOf) (pc := 56) (st := [.int v2, .ref a9]) (k2 := 0) (n2 := 0) dX7_evaluate_56 ml_RX7_26 mo_X7_valueOf ms_X7_valueOf rfl (tX7_valueOf d e12 hN k1) rfl rfl (Nat.le_of_ble_eq_true rfl) (by decide) (by decide) (fun v ν hp => ?_) (fun i ν hp => nrm hp.1)
            obtain ⟨rfl, rfl, hN14, hb15⟩ := QEl hp
            show J _ _ _ _ 59 _ ([.int r13, .int v2, .ref a9]) _ _ _ _
            obtain ⟨μ16, e17, h⟩ := bnd h
            have hN18 : μ16.1 = NN := stI_N e17 hN14
            refine J.wI (pc := 59) dX7_evaluate_59 k11 (okN hN14 k11 (by decide)) e17 ?_
            refine J.iinc (pc := 60) (j := 3) ([(2, .int (v2 + (1 : Int32))), (4, .int x4), (0, .ref v0), (1, .ref v1), (3, .int v3)]) dX7_evaluate_60 rfl (iincv ic_1) (Nat.le_of_ble_eq_true rfl) rfl ?_
            refine J.goto (pc := 63) (tgt := 140) dX7_evaluate_63 (by decide) ?_
            refine J.iinc (pc := 140) (j := 4) ([(3, .int (v3 + (1 : Int32))), (2, .int (v2 + (1 : Int32))), (4, .int x4), (0, .ref v0), (1, .ref v1)]) dX7_evaluate_140 rfl (iincv ic_1) (Nat.le_of_ble_eq_true rfl) rfl ?_
            refine J.goto (pc := 143) (tgt := 4) dX7_evaluate_143 (by decide) ?_
            refine J.pick [3, 4, 1, 0] rfl ?_
            exact ih v0 v1 (v2 + (1 : Int32)) (v3 + (1 : Int32)) μ16 h hN18 k0 k1
          · refine J.zlt (pc := 43) (tgt := 51) dX7_evaluate_43 (by decide) (fun q => absurd q hc) (fun _ => ?_)
            refine J.iload (pc := 46) dX7_evaluate_46 0 rfl ?_
            refine J.goto (pc := 48) (tgt := 59) dX7_evaluate_48 (by decide) ?_
            obtain ⟨μ19, e20, h⟩ := bnd h
            have hN21 : μ19.1 = NN := stI_N e20 hN
            refine J.wI (pc := 59) dX7_evaluate_59 k11 (okN hN k11 (by decide)) e20 ?_
            refine J.iinc (pc := 60) (j := 3) ([(2, .int (v2 + (1 : Int32))), (4, .int x4), (0, .ref v0), (1, .ref v1), (3, .int v3)]) dX7_evaluate_60 rfl (iincv ic_1) (Nat.le_of_ble_eq_true rfl) rfl ?_
            refine J.goto (pc := 63) (tgt := 140) dX7_evaluate_63 (by decide) ?_
            refine J.iinc (pc := 140) (j := 4) ([(3, .int (v3 + (1 : Int32))), (2, .int (v2 + (1 : Int32))), (4, .int x4), (0, .ref v0), (1, .ref v1)]) dX7_evaluate_140 rfl (iincv ic_1) (Nat.le_of_ble_eq_true rfl) rfl ?_
            refine J.goto (pc := 143) (tgt := 4) dX7_evaluate_143 (by decide) ?_
            refine J.pick [3, 4, 1, 0] rfl ?_
            exact ih v0 v1 (v2 + (1 : Int32)) (v3 + (1 : Int32)) μ19 h hN21 k0 k1
        · refine J.cge (pc := 33) (tgt := 66) dX7_evaluate_33 (by decide) (fun q => absurd q hc) (fun _ => ?_)
          refine J.iload (pc := 66) dX7_evaluate_66 0 rfl ?_
          refine J.bipush (pc := 68) dX7_evaluate_68 ib_m10 ?_
          rcases ifc h with ⟨hc, h⟩ | ⟨hc, h⟩
          · refine J.cne (pc := 70) (tgt := 105) dX7_evaluate_70 (by decide) (fun _ => ?_) (fun q => absurd hc q)
            refine J.iload_n (pc := 73) dX7_evaluate_73 rfl 3 rfl ?_
            refine J.iconst (pc := 74) dX7_evaluate_74 ic_1 ?_
            rcases ifc h with ⟨hc, h⟩ | ⟨hc, h⟩
            · refine J.clt (pc := 75) (tgt := 105) dX7_evaluate_75 (by decide) (fun _ => ?_) (fun q => absurd hc q)
              refine J.iload_n (pc := 105) dX7_evaluate_105 rfl 3 rfl ?_
              refine J.iconst (pc := 106) dX7_evaluate_106 ic_2 ?_
              rcases ifc h with ⟨hc, h⟩ | ⟨hc, h⟩
              · refine J.clt (pc := 107) (tgt := 140) dX7_evaluate_107 (by decide) (fun _ => ?_) (fun q => absurd hc q)
                refine J.iinc (pc := 140) (j := 4) ([(3, .int (v3 + (1 : Int32))), (4, .int x4), (0, .ref v0), (1, .ref v1), (2, .int v2)]) dX7_evaluate_140 rfl (iincv ic_1) (Nat.le_of_ble_eq_true rfl) rfl ?_
                refine J.goto (pc := 143) (tgt := 4) dX7_evaluate_143 (by decide) ?_
                refine J.pick [2, 3, 4, 0] rfl ?_
                exact ih v0 v1 v2 (v3 + (1 : Int32)) μ h hN k0 k1
              · refine J.clt (pc := 107) (tgt := 140) dX7_evaluate_107 (by decide) (fun q => absurd q hc) (fun _ => ?_)
                refine J.iinc (pc := 110) (j := 3) ([(2, .int (v2 + (-1 : Int32))), (4, .int x4), (0, .ref v0), (1, .ref v1), (3, .int v3)]) dX7_evaluate_110 rfl (iincv ic_m1) (Nat.le_of_ble_eq_true rfl) rfl ?_
                refine J.aload_n (pc := 113) dX7_evaluate_113 rfl 2 rfl ?_
                obtain ⟨a22, e23, h⟩ := bnd h
                have k24 : (kd a22).1 = 0 := gR_k e23
                refine J.fR (pc := 114) dX7_evaluate_114 fl_RX7_19 k0 (okN hN k0 (by decide)) rfl e23 ?_
                refine J.iload_n (pc := 117) dX7_evaluate_117 rfl 0 rfl ?_
                refine J.iconst (pc := 118) dX7_evaluate_118 ic_1 ?_
                refine J.isub (pc := 119) dX7_evaluate_119 ?_
                refine J.iload (pc := 120) dX7_evaluate_120 1 rfl ?_
                refine J.aload_n (pc := 122) dX7_evaluate_122 rfl 2 rfl ?_
                obtain ⟨a25, e26, h⟩ := bnd h
                have k27 : (kd a25).1 = 0 := gR_k e26
                refine J.fR (pc := 123) dX7_evaluate_123 fl_RX7_19 k0 (okN hN k0 (by decide)) rfl e26 ?_
                refine J.iload_n (pc := 126) dX7_evaluate_126 rfl 0 rfl ?_
                refine J.iconst (pc := 127) dX7_evaluate_127 ic_1 ?_
                refine J.isub (pc := 128) dX7_evaluate_128 ?_
                obtain ⟨x28, e29, h⟩ := bnd h
                refine J.aI (pc := 129) dX7_evaluate_129 k27 (okN hN k27 (by decide)) e29 ?_
                refine J.aload_n (pc := 130) dX7_evaluate_130 rfl 2 rfl ?_
                obtain ⟨a30, e31, h⟩ := bnd h
                have k32 : (kd a30).1 = 0 := gR_k e31
                refine J.fR (pc := 131) dX7_evaluate_131 fl_RX7_19 k0 (okN hN k0 (by decide)) rfl e31 ?_
                refine J.iload_n (pc := 134) dX7_evaluate_134 rfl 0 rfl ?_
                obtain ⟨x33, e34, h⟩ := bnd h
                refine J.aI (pc := 135) dX7_evaluate_135 k32 (okN hN k32 (by decide)) e34 ?_
                obtain ⟨r36, e35, h⟩ := bnd h
                refine J.callS (Y := mX7_evaluate) (Z := mX7_joined) (pc := 136) (st := [.int ((v2 + (-1 : Int32)) - (1 : Int32)), .ref a22]) (k2 := 0) (n2 := 0) dX7_evaluate_136 ml_RX7_30 mo_X7_joined ms_X7_joined rfl (tX7_joined d e35 hN ) rfl rfl (Nat.le_of_ble_eq_true rfl) (by decide) (by decide) (fun v ν hp => ?_) (fun i ν hp => nrm hp.1)
                obtain ⟨rfl, rfl, hN37, hb38⟩ := QEl hp
                show J _ _ _ _ 139 _ ([.int r36, .int ((v2 + (-1 : Int32)) - (1 : Int32)), .ref a22]) _ _ _ _
                obtain ⟨μ39, e40, h⟩ := bnd h
                have hN41 : μ39.1 = NN := stI_N e40 hN37
                refine J.wI (pc := 139) dX7_evaluate_139 k24 (okN hN37 k24 (by decide)) e40 ?_
                refine J.iinc (pc := 140) (j := 4) ([(3, .int (v3 + (1 : Int32))), (2, .int (v2 + (-1 : Int32))), (4, .int x4), (0, .ref v0), (1, .ref v1)]) dX7_evaluate_140 rfl (iincv ic_1) (Nat.le_of_ble_eq_true rfl) rfl ?_
                refine J.goto (pc := 143) (tgt := 4) dX7_evaluate_143 (by decide) ?_
                refine J.pick [3, 4, 1, 0] rfl ?_
                exact ih v0 v1 (v2 + (-1 : Int32)) (v3 + (1 : Int32)) μ39 h hN41 k0 k1
            · refine J.clt (pc := 75) (tgt := 105) dX7_evaluate_75 (by decide) (fun q => absurd q hc) (fun _ => ?_)
              refine J.aload_n (pc := 78) dX7_evaluate_78 rfl 1 rfl ?_
              obtain ⟨a42, e43, h⟩ := bnd h
              have k44 : (kd a42).1 = 0 := gR_k e43
              refine J.fR (pc := 79) dX7_evaluate_79 fl_RX7_19 k0 (okN hN k0 (by decide)) rfl e43 ?_
              refine J.iload_n (pc := 82) dX7_evaluate_82 rfl 3 rfl ?_
              refine J.iconst (pc := 83) dX7_evaluate_83 ic_1 ?_
              refine J.isub (pc := 84) dX7_evaluate_84 ?_
              refine J.aload_n (pc := 85) dX7_evaluate_85 rfl 1 rfl ?_
              obtain ⟨a45, e46, h⟩ := bnd h
              have k47 : (kd a45).1 = 0 := gR_k e46
              refine J.fR (pc := 86) dX7_evaluate_86 fl_RX7_19 k0 (okN hN k0 (by decide)) rfl e46 ?_
              refine J.iload_n (pc := 89) dX7_evaluate_89 rfl 3 rfl ?_
              refine J.iconst (pc := 90) dX7_evaluate_90 ic_1 ?_
              refine J.isub (pc := 91) dX7_evaluate_91 ?_
              obtain ⟨x48, e49, h⟩ := bnd h
              refine J.aI (pc := 92) dX7_evaluate_92 k47 (okN hN k47 (by decide)) e49 ?_
              rcases ifc h with ⟨hc, h⟩ | ⟨hc, h⟩
              · refine J.zne (pc := 93) (tgt := 100) dX7_evaluate_93 (by decide) (fun _ => ?_) (fun q => absurd hc q)
                refine J.iconst (pc := 96) dX7_evaluate_96 ic_1 ?_
                refine J.goto (pc := 97) (tgt := 101) dX7_evaluate_97 (by decide) ?_
                obtain ⟨μ50, e51, h⟩ := bnd h
                have hN52 : μ50.1 = NN := stI_N e51 hN
                refine J.wI (pc := 101) dX7_evaluate_101 k44 (okN hN k44 (by decide)) e51 ?_
                refine J.goto (pc := 102) (tgt := 140) dX7_evaluate_102 (by decide) ?_
                refine J.iinc (pc := 140) (j := 4) ([(3, .int (v3 + (1 : Int32))), (4, .int x4), (0, .ref v0), (1, .ref v1), (2, .int v2)]) dX7_evaluate_140 rfl (iincv ic_1) (Nat.le_of_ble_eq_true rfl) rfl ?_
                refine J.goto (pc := 143) (tgt := 4) dX7_evaluate_143 (by decide) ?_
                refine J.pick [2, 3, 4, 0] rfl ?_
                exact ih v0 v1 v2 (v3 + (1 : Int32)) μ50 h hN52 k0 k1
              · refine J.zne (pc := 93) (tgt := 100) dX7_evaluate_93 (by decide) (fun q => absurd q hc) (fun _ => ?_)
                refine J.iconst (pc := 100) dX7_evaluate_100 ic_0 ?_
                obtain ⟨μ53, e54, h⟩ := bnd h
                have hN55 : μ53.1 = NN := stI_N e54 hN
                refine J.wI (pc := 101) dX7_evaluate_101 k44 (okN hN k44 (by decide)) e54 ?_
                refine J.goto (pc := 102) (tgt := 140) dX7_evaluate_102 (by decide) ?_
                refine J.iinc (pc := 140) (j := 4) ([(3, .int (v3 + (1 : Int32))), (4, .int x4), (0, .ref v0), (1, .ref v1), (2, .int v2)]) dX7_evaluate_140 rfl (iincv ic_1) (Nat.le_of_ble_eq_true rfl) rfl ?_
                refine J.goto (pc := 143) (tgt := 4) dX7_evaluate_143 (by decide) ?_
                refine J.pick [2, 3, 4, 0] rfl ?_
                exact ih v0 v1 v2 (v3 + (1 : Int32)) μ53 h hN55 k0 k1
          · refine J.cne (pc := 70) (tgt := 105) dX7_evaluate_70 (by decide) (fun q => absurd q hc) (fun _ => ?_)
            refine J.iload_n (pc := 105) dX7_evaluate_105 rfl 3 rfl ?_
            refine J.iconst (pc := 106) dX7_evaluate_106 ic_2 ?_
            rcases ifc h with ⟨hc, h⟩ | ⟨hc, h⟩
            · refine J.clt (pc := 107) (tgt := 140) dX7_evaluate_107 (by decide) (fun _ => ?_) (fun q => absurd hc q)
              refine J.iinc (pc := 140) (j := 4) ([(3, .int (v3 + (1 : Int32))), (4, .int x4), (0, .ref v0), (1, .ref v1), (2, .int v2)]) dX7_evaluate_140 rfl (iincv ic_1) (Nat.le_of_ble_eq_true rfl) rfl ?_
              refine J.goto (pc := 143) (tgt := 4) dX7_evaluate_143 (by decide) ?_
              refine J.pick [2, 3, 4, 0] rfl ?_
              exact ih v0 v1 v2 (v3 + (1 : Int32)) μ h hN k0 k1
            · refine J.clt (pc := 107) (tgt := 140) dX7_evaluate_107 (by decide) (fun q => absurd q hc) (fun _ => ?_)
              refine J.iinc (pc := 110) (j := 3) ([(2, .int (v2 + (-1 : Int32))), (4, .int x4), (0, .ref v0), (1, .ref v1), (3, .int v3)]) dX7_evaluate_110 rfl (iincv ic_m1) (Nat.le_of_ble_eq_true rfl) rfl ?_
              refine J.aload_n (pc := 113) dX7_evaluate_113 rfl 2 rfl ?_
              obtain ⟨a56, e57, h⟩ := bnd h
              have k58 : (kd a56).1 = 0 := gR_k e57
              refine J.fR (pc := 114) dX7_evaluate_114 fl_RX7_19 k0 (okN hN k0 (by decide)) rfl e57 ?_
              refine J.iload_n (pc := 117) dX7_evaluate_117 rfl 0 rfl ?_
              refine J.iconst (pc := 118) dX7_evaluate_118 ic_1 ?_
              refine J.isub (pc := 119) dX7_evaluate_119 ?_
              refine J.iload (pc := 120) dX7_evaluate_120 1 rfl ?_
              refine J.aload_n (pc := 122) dX7_evaluate_122 rfl 2 rfl ?_
              obtain ⟨a59, e60, h⟩ := bnd h
              have k61 : (kd a59).1 = 0 := gR_k e60
              refine J.fR (pc := 123) dX7_evaluate_123 fl_RX7_19 k0 (okN hN k0 (by decide)) rfl e60 ?_
              refine J.iload_n (pc := 126) dX7_evaluate_126 rfl 0 rfl ?_
              refine J.iconst (pc := 127) dX7_evaluate_127 ic_1 ?_
              refine J.isub (pc := 128) dX7_evaluate_128 ?_
              obtain ⟨x62, e63, h⟩ := bnd h
              refine J.aI (pc := 129) dX7_evaluate_129 k61 (okN hN k61 (by decide)) e63 ?_
              refine J.aload_n (pc := 130) dX7_evaluate_130 rfl 2 rfl ?_
              obtain ⟨a64, e65, h⟩ := bnd h
              have k66 : (kd a64).1 = 0 := gR_k e65
              refine J.fR (pc := 131) dX7_evaluate_131 fl_RX7_19 k0 (okN hN k0 (by decide)) rfl e65 ?_
              refine J.iload_n (pc := 134) dX7_evaluate_134 rfl 0 rfl ?_
              obtain ⟨x67, e68, h⟩ := bnd h
              refine J.aI (pc := 135) dX7_evaluate_135 k66 (okN hN k66 (by decide)) e68 ?_
              obtain ⟨r70, e69, h⟩ := bnd h
              refine J.callS (Y := mX7_evaluate) (Z := mX7_joined) (pc := 136) (st := [.int ((v2 + (-1 : Int32)) - (1 : Int32)), .ref a56]) (k2 := 0) (n2 := 0) dX7_evaluate_136 ml_RX7_30 mo_X7_joined ms_X7_joined rfl (tX7_joined d e69 hN ) rfl rfl (Nat.le_of_ble_eq_true rfl) (by decide) (by decide) (fun v ν hp => ?_) (fun i ν hp => nrm hp.1)
              obtain ⟨rfl, rfl, hN71, hb72⟩ := QEl hp
              show J _ _ _ _ 139 _ ([.int r70, .int ((v2 + (-1 : Int32)) - (1 : Int32)), .ref a56]) _ _ _ _
              obtain ⟨μ73, e74, h⟩ := bnd h
              have hN75 : μ73.1 = NN := stI_N e74 hN71
              refine J.wI (pc := 139) dX7_evaluate_139 k58 (okN hN71 k58 (by decide)) e74 ?_
              refine J.iinc (pc := 140) (j := 4) ([(3, .int (v3 + (1 : Int32))), (2, .int (v2 + (-1 : Int32))), (4, .int x4), (0, .ref v0), (1, .ref v1)]) dX7_evaluate_140 rfl (iincv ic_1) (Nat.le_of_ble_eq_true rfl) rfl ?_
              refine J.goto (pc := 143) (tgt := 4) dX7_evaluate_143 (by decide) ?_
              refine J.pick [3, 4, 1, 0] rfl ?_
              exact ih v0 v1 (v2 + (-1 : Int32)) (v3 + (1 : Int32)) μ73 h hN75 k0 k1
      · refine J.cle (pc := 24) (tgt := 66) dX7_evaluate_24 (by decide) (fun q => absurd q hc) (fun _ => ?_)
        refine J.iload (pc := 66) dX7_evaluate_66 0 rfl ?_
        refine J.bipush (pc := 68) dX7_evaluate_68 ib_m10 ?_
        rcases ifc h with ⟨hc, h⟩ | ⟨hc, h⟩
        · refine J.cne (pc := 70) (tgt := 105) dX7_evaluate_70 (by decide) (fun _ => ?_) (fun q => absurd hc q)
          refine J.iload_n (pc := 73) dX7_evaluate_73 rfl 3 rfl ?_
          refine J.iconst (pc := 74) dX7_evaluate_74 ic_1 ?_
          rcases ifc h with ⟨hc, h⟩ | ⟨hc, h⟩
          · refine J.clt (pc := 75) (tgt := 105) dX7_evaluate_75 (by decide) (fun _ => ?_) (fun q => absurd hc q)
            refine J.iload_n (pc := 105) dX7_evaluate_105 rfl 3 rfl ?_
            refine J.iconst (pc := 106) dX7_evaluate_106 ic_2 ?_
            rcases ifc h with ⟨hc, h⟩ | ⟨hc, h⟩
            · refine J.clt (pc := 107) (tgt := 140) dX7_evaluate_107 (by decide) (fun _ => ?_) (fun q => absurd hc q)
              refine J.iinc (pc := 140) (j := 4) ([(3, .int (v3 + (1 : Int32))), (4, .int x4), (0, .ref v0), (1, .ref v1), (2, .int v2)]) dX7_evaluate_140 rfl (iincv ic_1) (Nat.le_of_ble_eq_true rfl) rfl ?_
              refine J.goto (pc := 143) (tgt := 4) dX7_evaluate_143 (by decide) ?_
              refine J.pick [2, 3, 4, 0] rfl ?_
              exact ih v0 v1 v2 (v3 + (1 : Int32)) μ h hN k0 k1
            · refine J.clt (pc := 107) (tgt := 140) dX7_evaluate_107 (by decide) (fun q => absurd q hc) (fun _ => ?_)
              refine J.iinc (pc := 110) (j := 3) ([(2, .int (v2 + (-1 : Int32))), (4, .int x4), (0, .ref v0), (1, .ref v1), (3, .int v3)]) dX7_evaluate_110 rfl (iincv ic_m1) (Nat.le_of_ble_eq_true rfl) rfl ?_
              refine J.aload_n (pc := 113) dX7_evaluate_113 rfl 2 rfl ?_
              obtain ⟨a76, e77, h⟩ := bnd h
              have k78 : (kd a76).1 = 0 := gR_k e77
              refine J.fR (pc := 114) dX7_evaluate_114 fl_RX7_19 k0 (okN hN k0 (by decide)) rfl e77 ?_
              refine J.iload_n (pc := 117) dX7_evaluate_117 rfl 0 rfl ?_
              refine J.iconst (pc := 118) dX7_evaluate_118 ic_1 ?_
              refine J.isub (pc := 119) dX7_evaluate_119 ?_
              refine J.iload (pc := 120) dX7_evaluate_120 1 rfl ?_
              refine J.aload_n (pc := 122) dX7_evaluate_122 rfl 2 rfl ?_
              obtain ⟨a79, e80, h⟩ := bnd h
              have k81 : (kd a79).1 = 0 := gR_k e80
              refine J.fR (pc := 123) dX7_evaluate_123 fl_RX7_19 k0 (okN hN k0 (by decide)) rfl e80 ?_
              refine J.iload_n (pc := 126) dX7_evaluate_126 rfl 0 rfl ?_
              refine J.iconst (pc := 127) dX7_evaluate_127 ic_1 ?_
              refine J.isub (pc := 128) dX7_evaluate_128 ?_
              obtain ⟨x82, e83, h⟩ := bnd h
              refine J.aI (pc := 129) dX7_evaluate_129 k81 (okN hN k81 (by decide)) e83 ?_
              refine J.aload_n (pc := 130) dX7_evaluate_130 rfl 2 rfl ?_
              obtain ⟨a84, e85, h⟩ := bnd h
              have k86 : (kd a84).1 = 0 := gR_k e85
              refine J.fR (pc := 131) dX7_evaluate_131 fl_RX7_19 k0 (okN hN k0 (by decide)) rfl e85 ?_
              refine J.iload_n (pc := 134) dX7_evaluate_134 rfl 0 rfl ?_
              obtain ⟨x87, e88, h⟩ := bnd h
              refine J.aI (pc := 135) dX7_evaluate_135 k86 (okN hN k86 (by decide)) e88 ?_
              obtain ⟨r90, e89, h⟩ := bnd h
              refine J.callS (Y := mX7_evaluate) (Z := mX7_joined) (pc := 136) (st := [.int ((v2 + (-1 : Int32)) - (1 : Int32)), .ref a76]) (k2 := 0) (n2 := 0) dX7_evaluate_136 ml_RX7_30 mo_X7_joined ms_X7_joined rfl (tX7_joined d e89 hN ) rfl rfl (Nat.le_of_ble_eq_true rfl) (by decide) (by decide) (fun v ν hp => ?_) (fun i ν hp => nrm hp.1)
              obtain ⟨rfl, rfl, hN91, hb92⟩ := QEl hp
              show J _ _ _ _ 139 _ ([.int r90, .int ((v2 + (-1 : Int32)) - (1 : Int32)), .ref a76]) _ _ _ _
              obtain ⟨μ93, e94, h⟩ := bnd h
              have hN95 : μ93.1 = NN := stI_N e94 hN91
              refine J.wI (pc := 139) dX7_evaluate_139 k78 (okN hN91 k78 (by decide)) e94 ?_
              refine J.iinc (pc := 140) (j := 4) ([(3, .int (v3 + (1 : Int32))), (2, .int (v2 + (-1 : Int32))), (4, .int x4), (0, .ref v0), (1, .ref v1)]) dX7_evaluate_140 rfl (iincv ic_1) (Nat.le_of_ble_eq_true rfl) rfl ?_
              refine J.goto (pc := 143) (tgt := 4) dX7_evaluate_143 (by decide) ?_
              refine J.pick [3, 4, 1, 0] rfl ?_
              exact ih v0 v1 (v2 + (-1 : Int32)) (v3 + (1 : Int32)) μ93 h hN95 k0 k1
          · refine J.clt (pc := 75) (tgt := 105) dX7_evaluate_75 (by decide) (fun q => absurd q hc) (fun _ => ?_)
            refine J.aload_n (pc := 78) dX7_evaluate_78 rfl 1 rfl ?_
            obtain ⟨a96, e97, h⟩ := bnd h
            have k98 : (kd a96).1 = 0 := gR_k e97
            refine J.fR (pc := 79) dX7_evaluate_79 fl_RX7_19 k0 (okN hN k0 (by decide)) rfl e97 ?_
            refine J.iload_n (pc := 82) dX7_evaluate_82 rfl 3 rfl ?_
            refine J.iconst (pc := 83) dX7_evaluate_83 ic_1 ?_
            refine J.isub (pc := 84) dX7_evaluate_84 ?_
            refine J.aload_n (pc := 85) dX7_evaluate_85 rfl 1 rfl ?_
            obtain ⟨a99, e100, h⟩ := bnd h
            have k101 : (kd a99).1 = 0 := gR_k e100
            refine J.fR (pc := 86) dX7_evaluate_86 fl_RX7_19 k0 (okN hN k0 (by decide)) rfl e100 ?_
            refine J.iload_n (pc := 89) dX7_evaluate_89 rfl 3 rfl ?_
            refine J.iconst (pc := 90) dX7_evaluate_90 ic_1 ?_
            refine J.isub (pc := 91) dX7_evaluate_91 ?_
            obtain ⟨x102, e103, h⟩ := bnd h
            refine J.aI (pc := 92) dX7_evaluate_92 k101 (okN hN k101 (by decide)) e103 ?_
            rcases ifc h with ⟨hc, h⟩ | ⟨hc, h⟩
            · refine J.zne (pc := 93) (tgt := 100) dX7_evaluate_93 (by decide) (fun _ => ?_) (fun q => absurd hc q)
              refine J.iconst (pc := 96) dX7_evaluate_96 ic_1 ?_
              refine J.goto (pc := 97) (tgt := 101) dX7_evaluate_97 (by decide) ?_
              obtain ⟨μ104, e105, h⟩ := bnd h
              have hN106 : μ104.1 = NN := stI_N e105 hN
              refine J.wI (pc := 101) dX7_evaluate_101 k98 (okN hN k98 (by decide)) e105 ?_
              refine J.goto (pc := 102) (tgt := 140) dX7_evaluate_102 (by decide) ?_
              refine J.iinc (pc := 140) (j := 4) ([(3, .int (v3 + (1 : Int32))), (4, .int x4), (0, .ref v0), (1, .ref v1), (2, .int v2)]) dX7_evaluate_140 rfl (iincv ic_1) (Nat.le_of_ble_eq_true rfl) rfl ?_
              refine J.goto (pc := 143) (tgt := 4) dX7_evaluate_143 (by decide) ?_
              refine J.pick [2, 3, 4, 0] rfl ?_
              exact ih v0 v1 v2 (v3 + (1 : Int32)) μ104 h hN106 k0 k1
            · refine J.zne (pc := 93) (tgt := 100) dX7_evaluate_93 (by decide) (fun q => absurd q hc) (fun _ => ?_)
              refine J.iconst (pc := 100) dX7_evaluate_100 ic_0 ?_
              obtain ⟨μ107, e108, h⟩ := bnd h
              have hN109 : μ107.1 = NN := stI_N e108 hN
              refine J.wI (pc := 101) dX7_evaluate_101 k98 (okN hN k98 (by decide)) e108 ?_
              refine J.goto (pc := 102) (tgt := 140) dX7_evaluate_102 (by decide) ?_
              refine J.iinc (pc := 140) (j := 4) ([(3, .int (v3 + (1 : Int32))), (4, .int x4), (0, .ref v0), (1, .ref v1), (2, .int v2)]) dX7_evaluate_140 rfl (iincv ic_1) (Nat.le_of_ble_eq_true rfl) rfl ?_
              refine J.goto (pc := 143) (tgt := 4) dX7_evaluate_143 (by decide) ?_
              refine J.pick [2, 3, 4, 0] rfl ?_
              exact ih v0 v1 v2 (v3 + (1 : Int32)) μ107 h hN109 k0 k1
        · refine J.cne (pc := 70) (tgt := 105) dX7_evaluate_70 (by decide) (fun q => absurd q hc) (fun _ => ?_)
          refine J.iload_n (pc := 105) dX7_evaluate_105 rfl 3 rfl ?_
          refine J.iconst (pc := 106) dX7_evaluate_106 ic_2 ?_
          rcases ifc h with ⟨hc, h⟩ | ⟨hc, h⟩
          · refine J.clt (pc := 107) (tgt := 140) dX7_evaluate_107 (by decide) (fun _ => ?_) (fun q => absurd hc q)
            refine J.iinc (pc := 140) (j := 4) ([(3, .int (v3 + (1 : Int32))), (4, .int x4), (0, .ref v0), (1, .ref v1), (2, .int v2)]) dX7_evaluate_140 rfl (iincv ic_1) (Nat.le_of_ble_eq_true rfl) rfl ?_
            refine J.goto (pc := 143) (tgt := 4) dX7_evaluate_143 (by decide) ?_
            refine J.pick [2, 3, 4, 0] rfl ?_
            exact ih v0 v1 v2 (v3 + (1 : Int32)) μ h hN k0 k1
          · refine J.clt (pc := 107) (tgt := 140) dX7_evaluate_107 (by decide) (fun q => absurd q hc) (fun _ => ?_)
            refine J.iinc (pc := 110) (j := 3) ([(2, .int (v2 + (-1 : Int32))), (4, .int x4), (0, .ref v0), (1, .ref v1), (3, .int v3)]) dX7_evaluate_110 rfl (iincv ic_m1) (Nat.le_of_ble_eq_true rfl) rfl ?_
            refine J.aload_n (pc := 113) dX7_evaluate_113 rfl 2 rfl ?_
            obtain ⟨a110, e111, h⟩ := bnd h
            have k112 : (kd a110).1 = 0 := gR_k e111
            refine J.fR (pc := 114) dX7_evaluate_114 fl_RX7_19 k0 (okN hN k0 (by decide)) rfl e111 ?_
            refine J.iload_n (pc := 117) dX7_evaluate_117 rfl 0 rfl ?_
            refine J.iconst (pc := 118) dX7_evaluate_118 ic_1 ?_
            refine J.isub (pc := 119) dX7_evaluate_119 ?_
            refine J.iload (pc := 120) dX7_evaluate_120 1 rfl ?_
            refine J.aload_n (pc := 122) dX7_evaluate_122 rfl 2 rfl ?_
            obtain ⟨a113, e114, h⟩ := bnd h
            have k115 : (kd a113).1 = 0 := gR_k e114
            refine J.fR (pc := 123) dX7_evaluate_123 fl_RX7_19 k0 (okN hN k0 (by decide)) rfl e114 ?_
            refine J.iload_n (pc := 126) dX7_evaluate_126 rfl 0 rfl ?_
            refine J.iconst (pc := 127) dX7_evaluate_127 ic_1 ?_
            refine J.isub (pc := 128) dX7_evaluate_128 ?_
            obtain ⟨x116, e117, h⟩ := bnd h
            refine J.aI (pc := 129) dX7_evaluate_129 k115 (okN hN k115 (by decide)) e117 ?_
            refine J.aload_n (pc := 130) dX7_evaluate_130 rfl 2 rfl ?_
            obtain ⟨a118, e119, h⟩ := bnd h
            have k120 : (kd a118).1 = 0 := gR_k e119
            refine J.fR (pc := 131) dX7_evaluate_131 fl_RX7_19 k0 (okN hN k0 (by decide)) rfl e119 ?_
            refine J.iload_n (pc := 134) dX7_evaluate_134 rfl 0 rfl ?_
            obtain ⟨x121, e122, h⟩ := bnd h
            refine J.aI (pc := 135) dX7_evaluate_135 k120 (okN hN k120 (by decide)) e122 ?_
            obtain ⟨r124, e123, h⟩ := bnd h
            refine J.callS (Y := mX7_evaluate) (Z := mX7_joined) (pc := 136) (st := [.int ((v2 + (-1 : Int32)) - (1 : Int32)), .ref a110]) (k2 := 0) (n2 := 0) dX7_evaluate_136 ml_RX7_30 mo_X7_joined ms_X7_joined rfl (tX7_joined d e123 hN ) rfl rfl (Nat.le_of_ble_eq_true rfl) (by decide) (by decide) (fun v ν hp => ?_) (fun i ν hp => nrm hp.1)
            obtain ⟨rfl, rfl, hN125, hb126⟩ := QEl hp
            show J _ _ _ _ 139 _ ([.int r124, .int ((v2 + (-1 : Int32)) - (1 : Int32)), .ref a110]) _ _ _ _
            obtain ⟨μ127, e128, h⟩ := bnd h
            have hN129 : μ127.1 = NN := stI_N e128 hN125
            refine J.wI (pc := 139) dX7_evaluate_139 k112 (okN hN125 k112 (by decide)) e128 ?_
            refine J.iinc (pc := 140) (j := 4) ([(3, .int (v3 + (1 : Int32))), (2, .int (v2 + (-1 : Int32))), (4, .int x4), (0, .ref v0), (1, .ref v1)]) dX7_evaluate_140 rfl (iincv ic_1) (Nat.le_of_ble_eq_true rfl) rfl ?_
            refine J.goto (pc := 143) (tgt := 4) dX7_evaluate_143 (by decide) ?_
            refine J.pick [3, 4, 1, 0] rfl ?_
            exact ih v0 v1 (v2 + (-1 : Int32)) (v3 + (1 : Int32)) μ127 h hN129 k0 k1
    · refine J.cge (pc := 9) (tgt := 146) dX7_evaluate_9 (by decide) (fun q => absurd q hc) (fun _ => ?_)
      refine J.iload_n (pc := 146) dX7_evaluate_146 rfl 2 rfl ?_
      rcases ifc h with ⟨hc, h⟩ | ⟨hc, h⟩
      · refine J.zle (pc := 147) (tgt := 159) dX7_evaluate_147 (by decide) (fun _ => ?_) (fun q => absurd hc q)
        refine J.aload_n (pc := 150) dX7_evaluate_150 rfl 0 rfl ?_
        obtain ⟨a130, e131, h⟩ := bnd h
        have k132 : (kd a130).1 = 0 := gR_k e131
        refine J.fR (pc := 151) dX7_evaluate_151 fl_RX7_19 k0 (okN hN k0 (by decide)) rfl e131 ?_
        refine J.iconst (pc := 154) dX7_evaluate_154 ic_0 ?_
        obtain ⟨x133, e134, h⟩ := bnd h
        refine J.aI (pc := 155) dX7_evaluate_155 k132 (okN hN k132 (by decide)) e134 ?_
        refine J.goto (pc := 156) (tgt := 160) dX7_evaluate_156 (by decide) ?_
        cases h
        exact J.iret (pc := 160) dX7_evaluate_160 rfl ⟨rfl, rfl, hN, trivial⟩
      · refine J.zle (pc := 147) (tgt := 159) dX7_evaluate_147 (by decide) (fun q => absurd q hc) (fun _ => ?_)
        refine J.iconst (pc := 159) dX7_evaluate_159 ic_0 ?_
        cases h
        exact J.iret (pc := 160) dX7_evaluate_160 rfl ⟨rfl, rfl, hN, trivial⟩
def fX7_evaluate (v0 : Nat) (v1 : Nat) (μ : Mem) : Option (Int32 × Mem) :=
  (fX7_evaluate_4 fuel) v0 v1 (0 : Int32) (0 : Int32) μ
set_option maxHeartbeats 4000000 in
theorem tX7_evaluate {ω : Wd} {l : Launch} (d : Nat) {v0 : Nat} {v1 : Nat} {μ : Mem} {res : Int32 × Mem} (h : fX7_evaluate v0 v1 μ = some res) (hN : μ.1 = NN) (k0 : (kd v0).1 = 17) (k1 : (kd v1).1 = 0) : Ct ω l mX7_evaluate (d + 1) [.ref v0, .ref v1] μ 0 0 (PE (.inl (some (.int res.1))) res.2 True) := by
  refine Ct.of pn_RX7 (Nat.le_of_ble_eq_true rfl) ?_
  show J ω l mX7_evaluate (d + 1) 0 [(0, .ref v0), (1, .ref v1)] [] μ 0 0 _
  unfold fX7_evaluate at h
  refine J.iconst (pc := 0) dX7_evaluate_0 ic_0 ?_
  refine J.istore_n (pc := 1) ([(2, .int (0 : Int32)), (0, .ref v0), (1, .ref v1)]) dX7_evaluate_1 rfl (Nat.le_of_ble_eq_true rfl) rfl ?_
  refine J.iconst (pc := 2) dX7_evaluate_2 ic_0 ?_
  refine J.istore_n (pc := 3) ([(3, .int (0 : Int32)), (2, .int (0 : Int32)), (0, .ref v0), (1, .ref v1)]) dX7_evaluate_3 rfl (Nat.le_of_ble_eq_true rfl) rfl ?_
  refine J.pick [2, 3, 1, 0] rfl ?_
  exact (tX7_evaluate_4 d fuel) v0 v1 (0 : Int32) (0 : Int32) μ h hN k0 k1
