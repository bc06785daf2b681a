/-! ACTS: both halves put together -/
def IV (μ : Mem) : Prop := ∃ C G Fd pc k r, INV C G Fd pc k r μ
/-- what the law asks of a call that may throw; of one that may not -/
def QA (fc fr : Mem → Option (Int32 × Mem)) (μ : Mem) : Prop := ∃ kc ν1 v ν2, fc μ = some (kc, ν1) ∧ fr ν1 = some (v, ν2) ∧ fX11_thrown 492 ν2 = kc ∧ (kc = 0 → ldL ν2 518 0 = some v.toInt64) ∧ IV ν2
def QD (fc fr : Mem → Option (Int32 × Mem)) (μ : Mem) : Prop := ∃ v ν1 ν2, fc μ = some (v, ν1) ∧ fr ν1 = some (v, ν2) ∧ IV ν2
theorem QQ.qa {C : Cel} {G Fd : List Itm} {pc : Nat → Int32} {k : Nat} {r : Row} {fc fr : Mem → Option (Int32 × Mem)} {μ : Mem} (h : QQ C G Fd pc k r fc fr μ) : QA fc fr μ := by
  obtain ⟨kc, ν1, v, ν2, h1, h2, h3, h4, h5⟩ := h
  exact ⟨kc, ν1, v, ν2, h1, h2, h3, h4, C, G, Fd, pc, k, r, h5⟩
theorem QA.mk0 {fc fr : Mem → Option (Int32 × Mem)} {μ ν ξ : Mem} {v : Int32} (hc : fc μ = some (0, sLC ν 518 (up (ν.2.2.1 518) 0 v.toInt64))) (hr : fr (sLC ν 518 (up (ν.2.2.1 518) 0 v.toInt64)) = some (v, ξ)) (ht : ξ.2.1 492 0 = 0) (hl : ξ.2.2.1 518 0 = v.toInt64) (hI : IV ξ) : QA fc fr μ := by
  refine ⟨0, _, v, ξ, hc, hr, ht, fun _ => ?_, hI⟩
  rw [show ldL ξ 518 (0 : Int32) = _ from ldL_I (n := 0) kd518 (by omega) (by omega), hl]
def FrC (μ ν : Mem) : Prop := ν.1 = μ.1 ∧ (∀ a f, ¬ (a = 455 ∧ f = 7) → ν.2.2.2 a f = μ.2.2.2 a f) ∧ (∀ c, c ∉ LC → c ≠ 2 → ¬ (33 ≤ c ∧ c < 240) → ν.2.1 c = μ.2.1 c) ∧ (∀ c, c ∉ L2C → ¬ (33 ≤ c ∧ c < 240) → ν.2.2.1 c = μ.2.2.1 c)
def FrF (μ ν : Mem) : Prop := ν.1 = μ.1 ∧ ν.2.2 = μ.2.2 ∧ (∀ c, c ∉ LR → c ≠ 496 → c ≠ 503 → ν.2.1 c = μ.2.1 c) ∧ (∀ f, f ∉ [0, 36, 41, 42, 43, 45, 53] → ν.2.1 492 f = μ.2.1 492 f)
theorem FrC.refl (μ : Mem) : FrC μ μ := ⟨rfl, fun _ _ _ => rfl, fun _ _ _ _ => rfl, fun _ _ _ => rfl⟩
theorem FrC.trans {μ ν ξ : Mem} (h : FrC μ ν) (h' : FrC ν ξ) : FrC μ ξ := ⟨h'.1.trans h.1, fun a f q => (h'.2.1 a f q).trans (h.2.1 a f q), fun c h1 h2 h3 => (h'.2.2.1 c h1 h2 h3).trans (h.2.2.1 c h1 h2 h3), fun c h1 h2 => (h'.2.2.2 c h1 h2).trans (h.2.2.2 c h1 h2)⟩
theorem FrF.refl (μ : Mem) : FrF μ μ := ⟨rfl, rfl, fun _ _ _ _ => rfl, fun _ _ => rfl⟩
theorem FrF.trans {μ ν ξ : Mem} (h : FrF μ ν) (h' : FrF ν ξ) : FrF μ ξ := ⟨h'.1.trans h.1, h'.2.1.trans h.2.1, fun c h1 h2 h3 => (h'.2.2.1 c h1 h2 h3).trans (h.2.2.1 c h1 h2 h3), fun f hf => (h'.2.2.2 f hf).trans (h.2.2.2 f hf)⟩
theorem LR_ge : ∀ c ∈ LR, 492 ≤ c ∧ c ≠ 503 ∧ c ≠ 496 := by decide
theorem LC_lt : ∀ c ∈ LC, c < 492 := by decide
theorem FrC.aa {μ ν : Mem} (h : FrC μ ν) : AA μ ν := by
  refine ⟨h.1, h.2.1, fun c hc => h.2.2.1 c (fun q => hc (Or.inl (List.mem_append_left _ q))) (fun q => hc (Or.inr (Or.inl q))) (fun q => hc (Or.inr (Or.inr (Or.inl q)))), h.2.2.2, fun f _ => ?_⟩
  rw [h.2.2.1 492 LC_492.1 (by decide) (by omega)]
theorem FrF.aa {μ ν : Mem} (h : FrF μ ν) : AA μ ν := by
  refine ⟨h.1, fun a f _ => by rw [h.2.1], fun c hc => h.2.2.1 c (fun q => hc (Or.inl (List.mem_append_right _ q))) (fun q => hc (Or.inr (Or.inr (Or.inr (Or.inl q))))) (fun q => hc (Or.inr (Or.inr (Or.inr (Or.inr q))))), fun c _ _ => by rw [h.2.1], h.2.2.2⟩
theorem FrF.cl {μ ν : Mem} (h : FrF μ ν) {c : Nat} (hc : c < 492) : ν.2.1 c = μ.2.1 c := h.2.2.1 c (fun q => by have := LR_ge c q; omega) (by omega) (by omega)
theorem FrF.sh {C : Cel} {r : Row} {a : Nat} {μ ν : Mem} (h : FrF μ ν) (hS : SH C r a μ) (ha : a < 450) : SH C r a ν :=
  hS.fr (h.cl (by omega)) (by rw [h.2.1]) (h.cl (by omega)) (h.cl (by omega)) (h.cl (by omega)) (h.cl (by omega))
theorem FrF.actC {C : Cel} {K : Nat} {R : Nat → Row} {μ ν : Mem} (h : FrF μ ν) (hA : ActC C K R 38 40 μ) : ActC C K R 38 40 ν := by
  obtain ⟨o, ho, h0, h1, h2⟩ := hA
  refine ⟨o, ho, by rw [h.cl (by omega)]; exact h0, by rw [h.cl (by omega)]; exact h1, fun i hi => h.sh (h2 i hi) (by omega)⟩
theorem FR.ff {μ ν : Mem} (h : FR μ ν) : FrF μ ν := ⟨h.1, h.2.1, fun c hc _ _ => h.2.2.1 c hc, fun f hf => h.2.2.2.1 f (fun q => hf (by simp at q ⊢; omega))⟩
theorem FrB.fc {μ ν : Mem} (h : FrB LC L2C μ ν) : FrC μ ν := ⟨h.1, h.2.1, fun c hc _ _ => h.2.2.1 c hc, fun c hc _ => h.2.2.2 c hc⟩
theorem KF.fc {μ ν : Mem} (h : KF μ ν) : FrC μ ν := ⟨h.1, fun a f _ => by rw [h.2.1], fun c _ _ hc => h.2.2.1 c (by omega), fun c _ hc => h.2.2.2 c (by omega)⟩
theorem FrF.row {μ : Mem} (g : Row) : FrF μ (sC μ 502 g) := ⟨rfl, rfl, fun c hc _ _ => sC_n μ g (fun e => hc (e ▸ (by decide))), fun f _ => by rw [sC_n μ g (by decide)]⟩
theorem FrF.k {μ : Mem} (g : Row) : FrF μ (sC μ 503 g) := ⟨rfl, rfl, fun c hc _ h => sC_n μ g h, fun f _ => by rw [sC_n μ g (by decide)]⟩
theorem FrF.e {μ : Mem} (g : Row) : FrF μ (sC μ 496 g) := ⟨rfl, rfl, fun c hc h _ => sC_n μ g h, fun f _ => by rw [sC_n μ g (by decide)]⟩
theorem FrF.f {μ : Mem} {f : Nat} (v : Int32) (h : f ∈ [0, 36, 41, 42, 43, 45, 53]) : FrF μ (sC μ 492 (up (μ.2.1 492) f v)) := ⟨rfl, rfl, fun c hc _ _ => sC_n μ _ (fun e => hc (e ▸ (by decide))), fun f' hf' => by
  rw [sC_s]
  exact up_n _ _ (fun e => hf' (by rw [e]; exact h))⟩
theorem SH.lc {C : Cel} {r : Row} {a : Nat} {μ : Mem} (h : SH C r a μ) (g : Nat → Int64) (ha : a ≠ 518) : SH C r a (sLC μ 518 g) := h.fr rfl (sLC_n μ g ha) rfl rfl rfl rfl
theorem ActC.lc {C : Cel} {K : Nat} {R : Nat → Row} {μ : Mem} (h : ActC C K R 38 40 μ) (g : Nat → Int64) : ActC C K R 38 40 (sLC μ 518 g) := by
  obtain ⟨o, ho, h0, h1, h2⟩ := h
  exact ⟨o, ho, h0, h1, fun i hi => (h2 i hi).lc g (by omega)⟩
theorem ActC.fr {C : Cel} {K : Nat} {R : Nat → Row} {μ ν : Mem} (h : ActC C K R 38 40 μ) (e1 : ∀ c, 38 ≤ c → c < 240 → ν.2.1 c = μ.2.1 c) (e2 : ∀ c, 38 ≤ c → c < 240 → ν.2.2.1 c = μ.2.2.1 c) : ActC C K R 38 40 ν := by
  obtain ⟨o, ho, h0, h1, h2⟩ := h
  refine ⟨o, ho, by rw [e1 38 (by omega) (by omega)]; exact h0, by rw [e1 38 (by omega) (by omega)]; exact h1, fun i hi => (h2 i hi).fr (e1 _ (by omega) (by omega)) (e2 _ (by omega) (by omega)) (e1 _ (by omega) (by omega)) (e1 _ (by omega) (by omega)) (e1 _ (by omega) (by omega)) (e1 _ (by omega) (by omega))⟩
theorem FrC.lc {μ : Mem} (g : Nat → Int64) : FrC μ (sLC μ 518 g) := ⟨rfl, fun _ _ _ => rfl, fun _ _ _ _ => rfl, fun c hc _ => sLC_n μ g (fun e => hc (e ▸ (by decide)))⟩
section Ac
variable {C : Cel} {G Fd : List Itm} {pc : Nat → Int32} {k : Nat} {r : Row} {μ : Mem}
theorem INV.kept (hI : INV C G Fd pc k r μ) : ∃ K, K ≤ 40 ∧ ActC C K (krow μ 503) 38 40 μ ∧ μ.2.1 492 36 = I K ∧ ∀ i, i < K → Good C pc (krow μ 503 i) := by
  obtain ⟨K, o, h1, h2, h3, h4, h5, h6⟩ := hI.2.2.2.2.2.2.2.2.2.2.2.1
  exact ⟨K, h1, ⟨o, h2, h3, h4, fun i hi => (h6 i hi).1⟩, h5, fun i hi => (h6 i hi).2⟩
theorem act_fin (hI : INV C G Fd pc k r μ) {ν ξ : Mem} {K' : Nat} {R' : Nat → Row} {r' : Row} (h1 : FrC μ ν) (h2 : SH C r' 33 ν) (h3 : ActC C K' R' 38 40 ν) (hK : K' ≤ 40) (f1 : FrF ν ξ) (f2 : E79 (rwb ξ 0) r') (f3 : ξ.2.1 492 36 = I K') (f4 : ∀ i, i < K' → E79 (krow ξ 503 i) (R' i)) (f5 : ∀ i, i < K' → Good C pc (R' i)) (hg : Good C pc r') (h41 : ξ.2.1 492 41 = -1) (h45 : ξ.2.1 492 45 = 0) (href : ∀ i, i < 3 → ξ.2.1 2 i = ξ.2.1 496 i) : INV C G Fd pc k r' ξ := by
  have hC := hI.2.1
  refine hI.act (h1.aa.trans f1.aa) hg (f1.sh h2 (by omega)) f2 ?_ href h41 h45
  obtain ⟨o, ho, g0, g1, g2⟩ := f1.actC h3
  exact ⟨K', o, hK, ho, g0, g1, f3, fun i hi => ⟨(g2 i hi).congr hC (f4 i hi).symm, (f5 i hi).congr hC (f4 i hi).symm⟩⟩
theorem kpK_le {K : Nat} (h : K ≤ 40) : kpK K ≤ 40 := by unfold kpK; split <;> omega
theorem kpR_good {K : Nat} {R : Nat → Row} (h : ∀ i, i < K → Good C pc (R i)) (hr : Good C pc r) : ∀ i, i < kpK K → Good C pc (kpR K R r i) := by
  intro i hi
  unfold kpK at hi
  unfold kpR
  by_cases e : K = 40
  · rw [if_pos e] at hi ⊢
    by_cases e2 : i = 39
    · rw [if_pos e2]; exact hr
    · rw [if_neg e2]; exact h _ (by omega)
  · rw [if_neg e] at hi ⊢
    by_cases e2 : i = K
    · rw [if_pos e2]; exact hr
    · rw [if_neg e2]; exact h _ (by omega)
/-- the reference keeps, behind the class's act -/
theorem rkeepA (hI : INV C G Fd pc k r μ) {ν : Mem} (hc : FrC μ ν) {K : Nat} (hK : K ≤ 40) (h36 : μ.2.1 492 36 = I K) :
    ∃ M, fX11_keeps 492 (thr ν 0) = some M ∧ FrF ν M ∧ M.2.1 492 36 = I (kpK K) ∧ (∀ i, i < kpK K → E79 (krow M 503 i) (kpR K (krow μ 503) r i)) ∧ E79 (M.2.1 502) r ∧ M.2.1 492 0 = 0 ∧ M.2.1 492 41 = -1 ∧ M.2.1 492 45 = 0 ∧ M.2.1 496 = μ.2.1 496 := by
  have e492 : ν.2.1 492 = μ.2.1 492 := hc.2.2.1 492 LC_492.1 (by decide) (by omega)
  have e502 : ν.2.1 502 = μ.2.1 502 := hc.2.2.1 502 LC_492.2 (by decide) (by omega)
  have e503 : ν.2.1 503 = μ.2.1 503 := hc.2.2.1 503 (by decide) (by decide) (by omega)
  have e496 : ν.2.1 496 = μ.2.1 496 := hc.2.2.1 496 (by decide) (by decide) (by omega)
  have h502 : E79 (μ.2.1 502) r := by
    intro j hj
    rw [← hI.2.2.2.2.2.2.2.2.2.2.1 j hj]
    unfold rwb
    rw [Nat.zero_add]
  have hG0 : Gr (thr ν 0) := (hc.aa.gr hI.1).sC _ _
  obtain ⟨g, e1, e2⟩ := rkeep_ok hG0 hK (show (thr ν 0).2.1 492 36 = I K by rw [sC_s, up_n _ _ (by decide), e492]; exact h36)
  refine ⟨_, e1, ?_, ?_, ?_, ?_, ?_, ?_, ?_, ?_⟩
  · refine FrF.trans (ν := thr ν 0) (FrF.f (f := 0) 0 (by decide)) (FrF.trans (FrF.k g) ?_)
    have := FrF.f (μ := sC (thr ν 0) 503 g) (I (kpK K)) (show 36 ∈ [0, 36, 41, 42, 43, 45, 53] by decide)
    rw [sC_n _ _ (by decide : (492 : Nat) ≠ 503)] at this
    exact this
  · rw [sC_s, up_s]
  · intro i hi q hq
    unfold krow
    rw [sC_n _ _ (by decide : (503 : Nat) ≠ 492), sC_s, e2 i hi q hq]
    unfold kpR krow
    rw [sC_n _ _ (by decide : (503 : Nat) ≠ 492), sC_n _ _ (by decide : (502 : Nat) ≠ 492), e503, e502]
    split
    · split
      · exact h502 q hq
      · rfl
    · split
      · exact h502 q hq
      · rfl
  · rw [sC_n _ _ (by decide : (502 : Nat) ≠ 492), sC_n _ _ (by decide : (502 : Nat) ≠ 503), sC_n _ _ (by decide : (502 : Nat) ≠ 492), e502]
    exact h502
  · rw [sC_s, up_n _ _ (by decide), sC_s, up_s]
  · rw [sC_s, up_n _ _ (by decide), sC_s, up_n _ _ (by decide), e492]
    exact hI.2.2.2.2.2.2.2.2.2.2.2.2.2.2.2.2.2.1
  · rw [sC_s, up_n _ _ (by decide), sC_s, up_n _ _ (by decide), e492]
    exact hI.2.2.2.2.2.2.2.2.2.2.2.2.2.2.2.2.2.2
  · rw [sC_n _ _ (by decide : (496 : Nat) ≠ 492), sC_n _ _ (by decide : (496 : Nat) ≠ 503), sC_n _ _ (by decide : (496 : Nat) ≠ 492), e496]
theorem INV.ref (hI : INV C G Fd pc k r μ) : ∀ i, i < 3 → μ.2.1 2 i = μ.2.1 496 i := hI.2.2.2.2.2.2.2.2.2.2.2.2.2.2.2.2.1
/-- an act that changes one number of the row -/
theorem act_one (hI : INV C G Fd pc k r μ) {ν : Mem} {K j : Nat} {v : Int32} (hc : FrC μ ν) (hS : SH C (up r j v) 33 ν) (hA : ActC C (kpK K) (kpR K (krow μ 503) r) 38 40 ν) (hK : K ≤ 40) (h36 : μ.2.1 492 36 = I K) (hgo : ∀ i, i < K → Good C pc (krow μ 503 i)) (h2 : ν.2.1 2 = μ.2.1 2) (hg : Good C pc (up r j v)) :
    ∃ M, fX11_keeps 492 (thr ν 0) = some M ∧ Gr M ∧ E79 (M.2.1 502) r ∧ M.2.1 492 0 = 0 ∧ M.2.2.1 = ν.2.2.1 ∧ INV C G Fd pc k (up r j v) (sC M 502 (up (M.2.1 502) j v)) := by
  obtain ⟨M, e1, e2, e3, e4, e5, e6, e7, e8, e9⟩ := rkeepA hI hc hK h36
  have hGM : Gr M := e2.aa.gr (hc.aa.gr hI.1)
  refine ⟨M, e1, hGM, e5, e6, by rw [e2.2.1], ?_⟩
  refine act_fin hI hc hS hA (kpK_le hK) (e2.trans (FrF.row _)) ?_ ?_ ?_ (kpR_good hgo hI.2.2.2.2.2.2.2.2.1) hg ?_ ?_ ?_
  · intro q hq
    unfold rwb
    rw [sC_s, Nat.zero_add]
    exact (e5.up j v) q hq
  · rw [sC_n _ _ (by decide)]; exact e3
  · intro i hi
    have : krow (sC M 502 (up (M.2.1 502) j v)) 503 i = krow M 503 i := by
      unfold krow
      rw [sC_n _ _ (by decide)]
    rw [this]
    exact e4 i hi
  · rw [sC_n _ _ (by decide)]; exact e7
  · rw [sC_n _ _ (by decide)]; exact e8
  · intro i hi
    rw [sC_n _ _ (by decide), sC_n _ _ (by decide), e2.cl (by omega), h2, e9]
    exact hI.ref i hi
/-- refusals -/
theorem crefuse {α : Type} (hG : Gr μ) {i : Nat} (hi : i < 3) (f : Mem → Option α) : ((gR μ 0 3 0).bind fun a => (ldI μ a (I i)).bind fun x => (stI μ a (I i) (x + 1)).bind f) = f (sC μ 2 (up (μ.2.1 2) i (μ.2.1 2 i + 1))) := by
  rw [g_0_3 hG, bs, ld_2 hi, bs, st_2 hi, bs]
theorem rrefuse (hG : Gr μ) {i : Nat} (hi : i < 3) : fX11_refuses 492 (I i) μ = some (-1, sC μ 496 (up (μ.2.1 496) i (μ.2.1 496 i + 1))) := by
  unfold fX11_refuses
  rw [g_492_11 hG, bs, ld_496 hi, bs, st_496 hi, bs]
theorem INV.refu (hI : INV C G Fd pc k r μ) {ν : Mem} {i : Nat} (hc : FrC μ ν) (e1 : ∀ c, 33 ≤ c → c < 240 → ν.2.1 c = μ.2.1 c) (e2 : ∀ c, 33 ≤ c → c < 240 → ν.2.2.1 c = μ.2.2.1 c) (h2 : ν.2.1 2 = up (μ.2.1 2) i (μ.2.1 2 i + 1)) (hi : i < 3) : INV C G Fd pc k r (sC (thr ν 0) 496 (up ((thr ν 0).2.1 496) i ((thr ν 0).2.1 496 i + 1))) := by
  obtain ⟨K, hK, hA, h36, hgo⟩ := hI.kept
  have e492 : ν.2.1 492 = μ.2.1 492 := hc.2.2.1 492 LC_492.1 (by decide) (by omega)
  have e502 : ν.2.1 502 = μ.2.1 502 := hc.2.2.1 502 LC_492.2 (by decide) (by omega)
  have e503 : ν.2.1 503 = μ.2.1 503 := hc.2.2.1 503 (by decide) (by decide) (by omega)
  have e496 : ν.2.1 496 = μ.2.1 496 := hc.2.2.1 496 (by decide) (by decide) (by omega)
  refine act_fin hI hc (hI.2.2.2.2.2.2.2.2.2.1.fr (e1 _ (by omega) (by omega)) (e2 _ (by omega) (by omega)) (e1 _ (by omega) (by omega)) (e1 _ (by omega) (by omega)) (e1 _ (by omega) (by omega)) (e1 _ (by omega) (by omega))) (hA.fr (fun c h _ => e1 c (by omega) (by omega)) (fun c h _ => e2 c (by omega) (by omega))) hK ((FrF.f (f := 0) 0 (by decide)).trans (FrF.e _)) ?_ ?_ ?_ hgo hI.2.2.2.2.2.2.2.2.1 ?_ ?_ ?_
  · intro q hq
    unfold rwb
    rw [sC_n _ _ (by decide), sC_n _ _ (by decide), e502]
    exact hI.2.2.2.2.2.2.2.2.2.2.1 q hq
  · rw [sC_n _ _ (by decide), sC_s, up_n _ _ (by decide), e492]; exact h36
  · intro q _ j _
    unfold krow
    rw [sC_n _ _ (by decide), sC_n _ _ (by decide), e503]
  · rw [sC_n _ _ (by decide), sC_s, up_n _ _ (by decide), e492]
    exact hI.2.2.2.2.2.2.2.2.2.2.2.2.2.2.2.2.2.1
  · rw [sC_n _ _ (by decide), sC_s, up_n _ _ (by decide), e492]
    exact hI.2.2.2.2.2.2.2.2.2.2.2.2.2.2.2.2.2.2
  · intro q hq
    rw [sC_n _ _ (by decide), sC_n _ _ (by decide), sC_s, h2, sC_n _ _ (by decide), e496, up_e, up_e, hI.ref q hq, hI.ref i hi]
/-- refused by both -/
theorem QA.refu (hI : INV C G Fd pc k r μ) {fc fr : Mem → Option (Int32 × Mem)} {i : Nat} (hi : i < 3) {v : Int32} (hc : fc μ = some (0, sLC (sC μ 2 (up (μ.2.1 2) i (μ.2.1 2 i + 1))) 518 (up (μ.2.2.1 518) 0 v.toInt64))) (hr : ∀ ν, Gr ν → (∀ c, c ≠ 2 → ν.2.1 c = μ.2.1 c) → fr ν = some (v, sC (thr ν 0) 496 (up ((thr ν 0).2.1 496) i ((thr ν 0).2.1 496 i + 1)))) : QA fc fr μ := by
  have hf : FrC μ (sLC (sC μ 2 (up (μ.2.1 2) i (μ.2.1 2 i + 1))) 518 (up (μ.2.2.1 518) 0 v.toInt64)) :=
    FrC.trans (ν := sC μ 2 (up (μ.2.1 2) i (μ.2.1 2 i + 1))) ⟨rfl, fun _ _ _ => rfl, fun c _ h _ => sC_n μ _ h, fun _ _ _ => rfl⟩ (FrC.lc _)
  refine QA.mk0 (ν := sC μ 2 (up (μ.2.1 2) i (μ.2.1 2 i + 1))) hc (hr _ (hf.aa.gr hI.1) (fun c h => by rw [sLC_i, sC_n μ _ h])) ?_ ?_ ⟨C, G, Fd, pc, k, r, INV.refu hI hf ?_ ?_ ?_ hi⟩
  · rw [sC_n _ _ (by decide), sC_s, up_s]
  · show (sLC (sC μ 2 _) 518 _).2.2.1 518 0 = _
    rw [sLC_s, up_s]
  · intro c h1 h2
    rw [sLC_i, sC_n μ _ (by omega)]
  · intro c h1 h2
    rw [sLC_n _ _ (by omega)]
    rfl
  · rw [sLC_i, sC_s]
end Ac
