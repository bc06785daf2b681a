abbrev mX9_emptyA : Mt := mX9_empty
/-- what expressions within an expression do -/
def HR (ω : Wd) (l : Launch) (d : Nat) (rec : Nat → Int32 → Mem → Option Mem) : Prop := ∀ (v0 : Nat) (v1 : Int32) (μ ν : Mem), rec v0 v1 μ = some ν → μ.1 = NN → (kd v0).1 = 16 → Ct ω l mX6_readExpr (d + 20) [.ref v0, .int v1] μ 0 0 (PE (.inl none) ν True)
/-- String.checkIndex and Preconditions.checkIndex, within -/
def fJ0_checkIndex_df160 (v0 v1 : Int32) : Option Unit := if v0 < 0 then none else if v0 < v1 then some () else none
theorem tJ3_checkIndex {ω : Wd} {l : Launch} (d : Nat) {v0 v1 : Int32} {w : Value} {μ : Mem} (hw : w = .null ∨ ∃ t, w = .ref (50000 + t)) (h1 : ¬ v0 < 0) (h2 : v0 < v1) (hN : μ.1 = NN) : Ct ω l mJ3_checkIndex_8e157 d [.int v0, .int v1, w] μ 0 0 (PE (.inl (some (.int v0))) μ True) := by
  refine Ct.of pn_RJ3 (by rcases hw with rfl | ⟨t, rfl⟩ <;> exact Nat.le_of_ble_eq_true rfl) ?_
  have hl : lv_args 0 [.int v0, .int v1, w] = [(0, .int v0), (1, .int v1), (2, w)] := rfl
  rw [hl]
  refine J.iload_n (pc := 0) dJ3_checkIndex_8e157_0 rfl 0 rfl ?_
  refine J.zlt (pc := 1) (tgt := 9) dJ3_checkIndex_8e157_1 (by decide) (fun q => absurd q h1) (fun _ => ?_)
  refine J.iload_n (pc := 4) dJ3_checkIndex_8e157_4 rfl 0 rfl ?_
  refine J.iload_n (pc := 5) dJ3_checkIndex_8e157_5 rfl 1 rfl ?_
  refine J.clt (pc := 6) (tgt := 16) dJ3_checkIndex_8e157_6 (by decide) (fun _ => ?_) (fun q => absurd h2 q)
  refine J.iload_n (pc := 16) dJ3_checkIndex_8e157_16 rfl 0 rfl ?_
  exact J.iret (pc := 17) dJ3_checkIndex_8e157_17 rfl ⟨rfl, rfl, hN, trivial⟩
theorem tJ0_checkIndex_df160 {ω : Wd} {l : Launch} (d : Nat) {v0 v1 : Int32} {μ : Mem} {res : Unit} (h : fJ0_checkIndex_df160 v0 v1 = some res) (hN : μ.1 = NN) : Ct ω l mJ0_checkIndex_df160 (d + 1) [.int v0, .int v1] μ 0 0 (PE (.inl none) μ True) := by
  refine Ct.of pn_RJ0 (Nat.le_of_ble_eq_true rfl) ?_
  show J ω l mJ0_checkIndex_df160 (d + 1) 0 [(0, .int v0), (1, .int v1)] [] μ 0 0 _
  unfold fJ0_checkIndex_df160 at h
  rcases ifc h with ⟨hc, h⟩ | ⟨hc, h⟩
  · cases h
  rcases ifc h with ⟨hc2, h⟩ | ⟨hc2, h⟩
  · refine J.iload_n (pc := 0) dJ0_checkIndex_df160_0 rfl 0 rfl ?_
    refine J.iload_n (pc := 1) dJ0_checkIndex_df160_1 rfl 1 rfl ?_
    refine J.getsQ (pc := 2) dJ0_checkIndex_df160_2 sf_1053 (fun w hw => ?_)
    refine J.callS (pc := 5) (k2 := 0) (n2 := 0) dJ0_checkIndex_df160_5 ml_RJ0_1059 mo_J3_checkIndex_8e157 ms_J3_checkIndex_8e157 rfl (tJ3_checkIndex d hw hc hc2 hN) rfl rfl (Nat.le_of_ble_eq_true rfl) (by decide) (by decide) (fun v ν hp => ?_) (fun i ν hp => nrm hp.1)
    obtain ⟨rfl, rfl, hN1, -⟩ := PEl hp
    show J _ _ _ _ 8 _ ([.int v0]) _ _ _ _
    refine J.pop (pc := 8) dJ0_checkIndex_df160_8 rfl ?_
    exact J.vret (pc := 9) dJ0_checkIndex_df160_9 rfl ⟨rfl, rfl, hN1, trivial⟩
  · cases h
theorem QEl {x : Option Value} {ν0 ν : Mem} {B : Prop} {v : Option Value} (h : PE (.inl x) ν0 B (.inl v) ν) : v = x ∧ ν0 = ν ∧ ν0.1 = NN ∧ B := ⟨Sum.inl.inj h.1, h.2.1.symm, h.2.2.1, h.2.2.2⟩
theorem QEr {j i : Nat} {ν0 ν : Mem} {B : Prop} (h : PE (.inr j) ν0 B (.inr i) ν) : i = j ∧ ν0 = ν ∧ ν0.1 = NN ∧ B := ⟨Sum.inr.inj h.1, h.2.1.symm, h.2.2.1, h.2.2.2⟩
theorem QAl {x : Option Value} {ν0 ν : Mem} {v : Option Value} (h : PA (.inl x) ν0 (.inl v) ν) : v = x ∧ ν0 = ν := ⟨Sum.inl.inj h.1, h.2.symm⟩
theorem lc_0 : Int64.ofNat ((0 : Fin 2) : Nat) = 0 := rfl
theorem lc_1 : Int64.ofNat ((1 : Fin 2) : Nat) = 1 := rfl
theorem a40 (j : Nat) (v : Int32) (hj : j ≤ 40) (hv : v = Int32.ofNat (40 - j)) (hc : v < (40 : Int32)) : ∃ i, j = i + 1 := by
  cases j with
  | zero => rw [hv] at hc; exact absurd hc (by decide)
  | succ i => exact ⟨i, rfl⟩
theorem a41' : ∀ j : Fin 40, Int32.ofNat (40 - (j.1 + 1)) + 1 = Int32.ofNat (40 - j.1) := by decide
theorem a41 (j : Nat) (v : Int32) (hj : j + 1 ≤ 40) (hv : v = Int32.ofNat (40 - (j + 1))) : v + 1 = Int32.ofNat (40 - j) := by
  rw [hv]; exact a41' ⟨j, by omega⟩
