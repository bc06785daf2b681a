/-! THE CLASS: a day -/
def kbits (c : Int32) (f : Nat → Bool) : Nat → Int32
  | 0 => c
  | j + 1 => if f j = true then kbits c f j ||| bitI j else kbits c f j
theorem mn_9999 (v : Int32) : mnI 9999 v = if (9999 : Int32) < v then 9999 else v := by
  unfold mnI
  by_cases h : v < 9999
  · rw [if_pos h, if_neg (Int32.lt_asymm h)]
  · rw [if_neg h]
    by_cases h2 : (9999 : Int32) < v
    · rw [if_pos h2]
    · rw [if_neg h2]
      exact (Int32.le_antisymm (Int32.not_lt.mp h2) (Int32.not_lt.mp h)).symm
theorem mx_bnd {v m : Int32} (hm : 0 < m) : mxI 0 (mnI m v) = bnd0 v m := by
  unfold mxI mnI bnd0
  by_cases h1 : v < m
  · rw [if_pos h1]
    by_cases h2 : v < 0
    · rw [if_pos h2, if_neg (Int32.lt_asymm h2)]
    · rw [if_neg h2, if_neg (Int32.lt_asymm h1)]
      by_cases h3 : 0 < v
      · rw [if_pos h3]
      · rw [if_neg h3]
        exact Int32.le_antisymm (Int32.not_lt.mp h2) (Int32.not_lt.mp h3)
  · rw [if_neg h1, if_pos hm]
    have h2 : ¬ v < 0 := fun q => h1 (Int32.lt_trans q hm)
    rw [if_neg h2]
    by_cases h3 : m < v
    · rw [if_pos h3]
    · rw [if_neg h3]
      exact Int32.le_antisymm (Int32.not_lt.mp h1) (Int32.not_lt.mp h3)
theorem greet_ok {C : Cel} {G Fd : List Itm} {pc : Nat → Int32} {r : Row} {k : Nat} {μ : Mem} (h : CP C G Fd pc r k μ) (hr : RowOK C r) :
    ∃ M, fX2_greet 455 μ = some M ∧ FrI Lp L2p μ M ∧ SH C (greetR C r C.P) 456 M ∧ M.2.1 455 = up (μ.2.1 455) 5 (kbits (μ.2.1 455 5) (fun p => decide (0 < oth C r p)) C.P) ∧ M.2.1 465 = μ.2.1 465 ∧ M.2.1 466 = μ.2.1 466 := by
  have hC := h.2.1
  have hP := hC.2.1
  unfold fX2_greet
  obtain ⟨⟨j, M⟩, e, i1, i2, i3, i4, i5, i6⟩ := loop_k (S := Nat × Mem) (R := Option Mem)
    (fun n s => fX2_greet_2 n 455 (I s.1) s.2) (fun s => some s.2) C.P
    (fun j s => s.1 = j ∧ FrI Lp L2p μ s.2 ∧ SH C (greetR C r j) 456 s.2 ∧ s.2.2.1 455 = up (μ.2.1 455) 5 (kbits (μ.2.1 455 5) (fun p => decide (0 < oth C r p)) j) ∧ s.2.2.1 465 = μ.2.1 465 ∧ s.2.2.1 466 = μ.2.1 466)
    (by
      rintro n j ⟨j', M⟩ hj ⟨i1, i2, i3, i4, i5, i6⟩
      simp only at i1 i2 i3 i4 i5 i6
      subst i1
      have hpc : ∀ p, p < C.P → greetR C r j' (73 + p) = r (73 + p) := by
        intro p hp
        unfold greetR
        rw [if_neg (by omega)]
      have hCM := h.to i2 i3 hpc
      have hGM := hCM.1
      have hlo : ∀ q, 55 ≤ q → q < 61 → greetR C r j' q = r q := by
        intro q h1 h2
        unfold greetR
        rw [if_neg (by omega)]
      obtain ⟨x, hx1, hx2⟩ := hr.2.1 j' hj
      have hx48 := there_lt hC hx2
      have hv : greetR C r j' (55 + j') ≠ -1 := by
        rw [hlo _ (by omega) (by omega), hx1]
        exact I_m1 (by omega)
      have ho := others_C hGM hC a456 i3 hj hv
      rw [oth_congr hC hlo hj] at ho
      have hmet : M.2.1 460 j' = r (67 + j') := by
        have := i3.2.2.2.2.2.2 j' (by omega)
        rw [if_pos hj] at this
        unfold greetR at this
        rw [if_neg (by omega)] at this
        exact this
      have hpeo : (I j' < M.2.1 k 1) = True := by rw [hCM.2.2.2.2.1.2.1, I_lt (by omega) (by omega)]; exact eq_true hj
      show ∃ s', fX2_greet_2 (n + 1) 455 (I j') M = _ ∧ _
      rw [fX2_greet_2, hCM.2.2.2.1]
      simp only [bs, hpeo, if_true]
      rw [g_455_0 hGM, bs, ho, bs, bs, hGM.met a456, bs, bs, hGM.met a456, bs, ld_460 (by omega), bs, hmet, st_460 (by omega), bs, mn_9999, I_addl]
      have hS1 : SH C (greetR C r (j' + 1)) 456 (sC M 460 (up (M.2.1 460) j' (if (9999 : Int32) < r (67 + j') + oth C r j' then 9999 else r (67 + j') + oth C r j'))) := by
        rw [greetR_s]
        exact i3.met hC hj (sC_n _ _ (by decide)) rfl (sC_n _ _ (by decide)) (sC_n _ _ (by decide)) (sC_n _ _ (by decide)) (sC_s _ _ _)
      by_cases q : 0 < oth C r j'
      · rw [if_pos q, sI_C]
        refine ⟨(j' + 1, _), rfl, rfl, (i2.trans (FrI.c M _ (by decide))).trans (FrI.c _ _ (by decide)), ?_, ?_, ?_, ?_⟩
        · exact hS1.c _ (by omega)
        · show (sC _ 455 _).2.1 455 = _
          rw [sC_s, sC_n _ _ (show (455 : Nat) ≠ 460 by decide), i4, up_up, up_s]
          conv => rhs; unfold kbits
          rw [if_pos (decide_eq_true q)]
        · show (sC (sC M 460 _) 455 _).2.1 465 = _
          rw [sC_n _ _ (by decide), sC_n _ _ (by decide)]; exact i5
        · show (sC (sC M 460 _) 455 _).2.1 466 = _
          rw [sC_n _ _ (by decide), sC_n _ _ (by decide)]; exact i6
      · rw [if_neg q]
        refine ⟨(j' + 1, _), rfl, rfl, i2.trans (FrI.c M _ (by decide)), hS1, ?_, ?_, ?_⟩
        · show (sC M 460 _).2.1 455 = _
          rw [sC_n _ _ (by decide), i4]
          conv => rhs; unfold kbits
          rw [if_neg (fun t => q (of_decide_eq_true t))]
        · show (sC M 460 _).2.1 465 = _
          rw [sC_n _ _ (by decide)]; exact i5
        · show (sC M 460 _).2.1 466 = _
          rw [sC_n _ _ (by decide)]; exact i6)
    (by
      rintro n ⟨j', M⟩ ⟨i1, i2, i3, _⟩
      simp only at i1 i2 i3
      subst i1
      have hCM := h.to i2 i3 (by
        intro p hp
        unfold greetR
        rw [if_neg (by omega)])
      have hpeo : ¬ (I C.P < M.2.1 k 1) := by rw [hCM.2.2.2.2.1.2.1, I_lt (by omega) (by omega)]; omega
      show fX2_greet_2 (n + 1) 455 (I C.P) M = _
      rw [fX2_greet_2, hCM.2.2.2.1, bs, if_neg hpeo])
    C.P fuel 0 (0, μ) rfl (by unfold fuel; omega) ⟨rfl, FrI.refl _ _ μ, (by
      have : greetR C r 0 = r := by funext q; unfold greetR; rw [if_neg (by omega)]
      rw [this]; exact h.2.2.2.2.2.1), (up_id _ _).symm, rfl, rfl⟩
  exact ⟨M, e, i2, i3, i4, i5, i6⟩
theorem cfade_ok {C : Cel} {G Fd : List Itm} {pc : Nat → Int32} {r : Row} {k : Nat} {μ : Mem} (h : CP C G Fd pc r k μ) (hi : InkOK C r) :
    ∃ M, fX2_fade 455 μ = some M ∧ FrI Lp L2p μ M ∧ SH C (fadeR C Fd r 48) 456 M ∧ M.2.1 455 = μ.2.1 455 ∧ M.2.1 465 = μ.2.1 465 ∧ M.2.1 466 = μ.2.1 466 := by
  have hC := h.2.1
  have hP := hC.2.1
  have hk := h.2.2.1
  have hk8 : k + 8 ∈ Lp := by rcases hk with rfl | rfl <;> decide
  unfold fX2_fade
  obtain ⟨⟨j, M⟩, e, i1, i2, i3, i4, i5, i6⟩ := loop_k (S := Nat × Mem) (R := Option Mem)
    (fun n s => fX2_fade_2 n 455 (I s.1) s.2) (fun s => some s.2) 48
    (fun j s => s.1 = j ∧ FrI Lp L2p μ s.2 ∧ SH C (fadeR C Fd r j) 456 s.2 ∧ s.2.2.1 455 = μ.2.1 455 ∧ s.2.2.1 465 = μ.2.1 465 ∧ s.2.2.1 466 = μ.2.1 466)
    (by
      rintro n j ⟨j', M⟩ hj ⟨i1, i2, i3, i4, i5, i6⟩
      simp only at i1 i2 i3 i4 i5 i6
      subst i1
      have hhi : ∀ q, 1 + j' ≤ q → fadeR C Fd r j' q = r q := by
        intro q h1
        unfold fadeR
        rw [if_neg (by omega)]
      have h0 : fadeR C Fd r j' 0 = r 0 := by unfold fadeR; rw [if_neg (by omega)]
      have hCM := h.to i2 i3 (fun p hp => hhi _ (by omega))
      have hGM := hCM.1
      have hink : M.2.1 457 j' = r (1 + j') := by
        have := i3.2.2.2.1 j' hj
        rw [hhi _ (Nat.le_refl _)] at this
        exact this
      show ∃ s', fX2_fade_2 (n + 1) 455 (I j') M = _ ∧ _
      rw [fX2_fade_2, if_pos (show I j' < (48 : Int32) from (I_ltl (by omega) (by decide)).mpr hj), g_455_0 hGM, bs, hGM.ink a456, bs, ld_457 hj, bs, hink]
      by_cases q : 0 < r (1 + j')
      · rw [if_pos q]
        have ht : there C j' = true := by
          cases ht : there C j'
          · rw [hi j' hj ht] at q
            exact absurd q (by decide)
          · rfl
        obtain ⟨V, S, ef⟩ := cfadesBy_ok hCM hj
        have hfb : fadeBy C Fd (fadeR C Fd r j') j' = fadeBy C Fd r j' := fadeBy_congr hC h0 (hhi _ (Nat.le_refl _)) (fun q h1 _ => hhi q (by omega))
        rw [hfb] at ef
        have hF1 : FrI Lp L2p M (sC (sC M 467 V) (k + 8) S) := (FrI.c M V (by decide)).trans (FrI.c _ S hk8)
        have hG1 := hF1.gr hGM
        have hS1 : SH C (fadeR C Fd r j') 456 (sC (sC M 467 V) (k + 8) S) := (i3.c V (by omega)).c S (by omega)
        rw [ef, bs]
        simp only
        rw [g_455_0 hG1, bs, mx_bnd q, setInk_eq hG1 a456 hj, bs, I_addl]
        refine ⟨(j' + 1, _), rfl, rfl, ((i2.trans hF1).trans (FrI.c _ _ (by decide))).trans (FrI.l _ _ (by decide)), ?_, ?_, ?_, ?_⟩
        · rw [fadeR_s, if_pos ⟨ht, q⟩]
          exact hS1.ink hC ht _
        · show (sLC (sC (sC (sC M 467 V) (k + 8) S) (456 + 1) _) 456 _).2.1 455 = _
          rw [sLC_i, sC_n _ _ (by decide), sC_n _ _ (by omega), sC_n _ _ (by decide)]; exact i4
        · show (sLC (sC (sC (sC M 467 V) (k + 8) S) (456 + 1) _) 456 _).2.1 465 = _
          rw [sLC_i, sC_n _ _ (by decide), sC_n _ _ (by omega), sC_n _ _ (by decide)]; exact i5
        · show (sLC (sC (sC (sC M 467 V) (k + 8) S) (456 + 1) _) 456 _).2.1 466 = _
          rw [sLC_i, sC_n _ _ (by decide), sC_n _ _ (by omega), sC_n _ _ (by decide)]; exact i6
      · rw [if_neg q, I_addl]
        refine ⟨(j' + 1, M), rfl, rfl, i2, ?_, i4, i5, i6⟩
        rw [fadeR_s, if_neg (fun t => q t.2)]; exact i3)
    (by
      rintro n ⟨j', M⟩ ⟨i1, i2, i3, _⟩
      simp only at i1
      subst i1
      show fX2_fade_2 (n + 1) 455 (I 48) M = _
      rw [fX2_fade_2, if_neg (by decide)])
    48 fuel 0 (0, μ) rfl (by unfold fuel; omega) ⟨rfl, FrI.refl _ _ μ, (by
      have : fadeR C Fd r 0 = r := by funext q; unfold fadeR; rw [if_neg (by omega)]
      rw [this]; exact h.2.2.2.2.2.1), rfl, rfl, rfl⟩
  exact ⟨M, e, i2, i3, i4, i5, i6⟩
theorem fadeR_ink {C : Cel} {Fd : List Itm} {r : Row} (hi : InkOK C r) : InkOK C (fadeR C Fd r 48) := by
  intro x hx ht
  unfold fadeR
  rw [if_neg]
  · exact hi x hx ht
  · rintro ⟨_, h2, _⟩
    rw [show 1 + x - 1 = x by omega, ht] at h2
    cases h2
theorem InkOK.congr {C : Cel} {r r' : Row} (h : InkOK C r) (he : ∀ k, 1 ≤ k → k < 49 → r' k = r k) : InkOK C r' := by
  intro x hx ht
  rw [he _ (by omega) (by omega)]
  exact h x hx ht
theorem dayR_ink {C : Cel} {G Fd : List Itm} {dark : Bool} {r : Row} (hC : C.ok) (hi : InkOK C r) : InkOK C (dayR C G Fd dark r) := by
  have h1 : InkOK C (greetR C (walkA C G dark r C.P).1 C.P) := hi.congr (fun k h1 h2 => by
    unfold greetR
    rw [if_neg (by omega), walkA_lo (by omega) _ hC.2.1])
  exact (fadeR_ink (Fd := Fd) h1).congr (fun k h1 h2 => up_n _ _ (by omega))
theorem dayR_pace {C : Cel} {G Fd : List Itm} {dark : Bool} {r : Row} (hC : C.ok) {p : Nat} (hp : p < C.P) : dayR C G Fd dark r (73 + p) = r (73 + p) := by
  have hP := hC.2.1
  show up _ 0 _ (73 + p) = _
  rw [up_n _ _ (by omega)]
  unfold fadeR
  rw [if_neg (by omega)]
  unfold greetR
  rw [if_neg (by omega), walkA_lo (by omega) _ hC.2.1]
theorem pass_ok {C : Cel} {G Fd : List Itm} {pc : Nat → Int32} {r : Row} {k : Nat} {μ : Mem} (h : CP C G Fd pc r k μ) (hr : RowOK C r) (hi : InkOK C r) (dark : Bool) {lt : Int32} (hlt : lt = if dark = true then 0 else 1) :
    ∃ ν, fX2_pass 455 lt μ = some ν ∧ FrI Lp L2p μ ν ∧ CP C G Fd pc (dayR C G Fd dark r) k ν ∧ (∀ q, ν.2.1 465 q = μ.2.1 465 q + I (madeD C G dark r q)) ∧ (∀ q, ν.2.1 466 q = μ.2.1 466 q + if cameD C G dark r q = true then 1 else 0) ∧ ν.2.1 455 5 = kbits (μ.2.1 455 5) (fun p => decide (0 < oth C (walkA C G dark r C.P).1 p)) C.P := by
  have hG := h.1
  have hC := h.2.1
  have hP := hC.2.1
  have hk := h.2.2.1
  have hcel := h.2.2.2.1
  obtain ⟨L, el, hgd⟩ := lay_ok (g := 461) (k := k) (a := 456) h.2.2.2.2.1.2.2.1 h.2.2.2.2.2.1 (by decide) (by omega)
  unfold fX2_pass
  rw [g_455_1 hG, bs, hcel, bs, g_455_0 hG, bs, el, bs]
  have hF0 : FrI Lp L2p μ (sLC μ 461 L) := FrI.l μ L (by decide)
  have hS0 : SH C r 456 (sLC μ 461 L) := h.2.2.2.2.2.1.fr rfl (sLC_n _ _ (by decide)) rfl rfl rfl rfl
  have hC0 : CP C G Fd pc r k (sLC μ 461 L) := h.to hF0 hS0 (fun _ _ => rfl)
  obtain ⟨⟨j, M⟩, e, i1, i2, i3, i4, i5, i6, i7⟩ := loop_k (S := Nat × Mem) (R := Option Mem)
    (fun n s => fX2_pass_17 n 455 lt (I s.1) s.2) (fun s => (fX2_greet 455 s.2).bind fun μ17 => (fX2_fade 455 μ17).bind fun μ21 => (gR μ21 455 0 19).bind fun a24 => (some (sI μ21 a24 0 ((μ21.2.1 a24 0) + (1 : Int32)))).bind fun μ27 => some μ27) C.P
    (fun j s => s.1 = j ∧ FrI Lp L2p (sLC μ 461 L) s.2 ∧ SH C (walkA C G dark r j).1 456 s.2 ∧ s.2.2.2.1 461 = (sLC μ 461 L).2.2.1 461 ∧ (∀ q, s.2.2.1 465 q = μ.2.1 465 q + I ((walkA C G dark r j).2.1 q)) ∧ (∀ q, s.2.2.1 466 q = μ.2.1 466 q + if (walkA C G dark r j).2.2 q = true then 1 else 0) ∧ s.2.2.1 455 = μ.2.1 455)
    (by
      rintro n j ⟨j', M⟩ hj ⟨i1, i2, i3, i4, i5, i6, i7⟩
      simp only at i1 i2 i3 i4 i5 i6 i7
      subst i1
      have hCM := hC0.to i2 i3 (fun p hp => walkA_lo (by omega) _ (by omega))
      have hgM : GD C (walkA C G dark r j').1 461 M := (hgd.fr i4).congr hC (fun k hk => walkA_lo (by omega) _ (by omega))
      obtain ⟨ν, w1, w2, w3, w4, w5, w6, w7⟩ := pass_one (n := n) hCM (walkA_ok hC hr j' (by omega)) hgM hj dark hlt
      refine ⟨(j' + 1, ν), w1, rfl, i2.trans w2, ?_, ?_, ?_, ?_, ?_⟩
      · rw [walkA_s]; exact w3
      · show ν.2.2.1 461 = _
        rw [w4]; exact i4
      · intro q
        rw [walkA_s]
        show ν.2.1 465 q = _ + I (up _ j' _ q)
        rw [w5]
        by_cases e : q = j'
        · subst e
          rw [up_s, up_s, i5]
          have hz : (walkA C G dark r q).2.1 q = 0 := by
            have : ∀ j, j ≤ q → (walkA C G dark r j).2.1 q = 0 := by
              intro j
              induction j with
              | zero => intro _; rfl
              | succ j ih =>
                intro hj2
                rw [walkA_s]
                show up _ j _ q = 0
                rw [up_n _ _ (by omega)]
                exact ih (by omega)
            exact this q (Nat.le_refl _)
          rw [hz]
          show μ.2.1 465 q + 0 + _ = _
          rw [Int32.add_zero]
        · rw [up_n _ _ e, up_n _ _ e]; exact i5 q
      · intro q
        rw [walkA_s]
        show ν.2.1 466 q = _ + if up _ j' _ q = true then 1 else 0
        rw [w6]
        by_cases e : q = j'
        · subst e
          rw [up_s, up_s, i6]
          have hz : (walkA C G dark r q).2.2 q = false := by
            have : ∀ j, j ≤ q → (walkA C G dark r j).2.2 q = false := by
              intro j
              induction j with
              | zero => intro _; rfl
              | succ j ih =>
                intro hj2
                rw [walkA_s]
                show up _ j _ q = false
                rw [up_n _ _ (by omega)]
                exact ih (by omega)
            exact this q (Nat.le_refl _)
          rw [hz, if_neg (show ¬ false = true by decide), Int32.add_zero]
        · rw [up_n _ _ e, up_n _ _ e]; exact i6 q
      · show ν.2.1 455 = _
        rw [w7]; exact i7)
    (by
      rintro n ⟨j', M⟩ ⟨i1, i2, i3, _⟩
      simp only at i1 i2 i3
      subst i1
      have hCM := hC0.to i2 i3 (fun p hp => walkA_lo (by omega) _ (by omega))
      have hpeo : ¬ (I C.P < M.2.1 k 1) := by rw [hCM.2.2.2.2.1.2.1, I_lt (by omega) (by omega)]; omega
      show fX2_pass_17 (n + 1) 455 lt (I C.P) M = _
      rw [fX2_pass_17, hCM.2.2.2.1, bs, if_neg hpeo])
    C.P fuel 0 (0, sLC μ 461 L) rfl (by unfold fuel; omega) ⟨rfl, FrI.refl _ _ _, hS0, rfl, fun q => (Int32.add_zero _).symm, fun q => (Int32.add_zero _).symm, rfl⟩
  simp only at e i1 i2 i3 i4 i5 i6 i7
  have hCM := hC0.to i2 i3 (fun p hp => walkA_lo (by omega) _ (by omega))
  obtain ⟨M2, g1, g2, g3, g4, g5, g6⟩ := greet_ok hCM (walkA_ok hC hr C.P (Nat.le_refl _))
  have hC2 := hCM.to g2 g3 (fun p hp => by unfold greetR; rw [if_neg (by omega)])
  have hi2 : InkOK C (greetR C (walkA C G dark r C.P).1 C.P) := hi.congr (fun k h1 h2 => by
    unfold greetR
    rw [if_neg (by omega), walkA_lo (by omega) _ hC.2.1])
  obtain ⟨M3, f1, f2, f3, f4, f5, f6⟩ := cfade_ok hC2 hi2
  have hG3 := f2.gr hC2.1
  have hFin : FrI Lp L2p μ (sC M3 456 (up (M3.2.1 456) 0 (M3.2.1 456 0 + 1))) := (hF0.trans (i2.trans (g2.trans f2))).trans (FrI.c _ _ (by decide))
  have hd3 : M3.2.1 456 0 = fadeR C Fd (greetR C (walkA C G dark r C.P).1 C.P) 48 0 := f3.1
  refine ⟨sC M3 456 (up (M3.2.1 456) 0 (M3.2.1 456 0 + 1)), ?_, hFin, ?_, ?_, ?_, ?_⟩
  · rw [show (0 : Int32) = I 0 from rfl, e, g1, bs, f1, bs, g_455_0 hG3, bs, bs, sI_C]
  · refine h.to hFin ?_ (fun p hp => dayR_pace hC hp)
    exact f3.day hC (by rw [sC_s, up_s, hd3]) rfl (sC_n _ _ (by decide)) (sC_n _ _ (by decide)) (sC_n _ _ (by decide)) (sC_n _ _ (by decide))
  · intro q
    rw [sC_n _ _ (by decide), f5, g5]
    exact i5 q
  · intro q
    rw [sC_n _ _ (by decide), f6, g6]
    exact i6 q
  · rw [sC_n _ _ (by decide), f4, g4, up_s, i7]
