/-! THE CLASS: one walks -/
def Lw : List Nat := [8, 22, 458, 465, 467]
def WC (μ : Mem) (p x : Nat) (M : Mem) : Prop := FrI Lw [462] μ M ∧ M.2.1 458 = up (μ.2.1 458) p (I x) ∧ M.2.1 465 = μ.2.1 465
theorem CE.fl {C : Cel} {G Fd : List Itm} {pc : Nat → Int32} {k : Nat} {L L2 : List Nat} {μ ν : Mem} (h : CE C G Fd pc k μ) (hk : k = 3 ∨ k = 17) (hf : FrI L L2 μ ν) (h1 : ∀ c ∈ [3, 4, 5, 6, 7, 9, 10, 17, 18, 19, 20, 21, 23, 24], c ∉ L) (h2 : 3 ∉ L2 ∧ 17 ∉ L2) : CE C G Fd pc k ν := by
  rcases hk with rfl | rfl
  · exact h.fr (hf.2.2.1 _ (h1 _ (by decide))) (hf.2.2.2 _ h2.1) (hf.2.2.1 _ (h1 _ (by decide))) (hf.2.2.1 _ (h1 _ (by decide))) (hf.2.2.1 _ (h1 _ (by decide))) (hf.2.2.1 _ (h1 _ (by decide))) (hf.2.2.1 _ (h1 _ (by decide))) (hf.2.2.1 _ (h1 _ (by decide)))
  · exact h.fr (hf.2.2.1 _ (h1 _ (by decide))) (hf.2.2.2 _ h2.2) (hf.2.2.1 _ (h1 _ (by decide))) (hf.2.2.1 _ (h1 _ (by decide))) (hf.2.2.1 _ (h1 _ (by decide))) (hf.2.2.1 _ (h1 _ (by decide))) (hf.2.2.1 _ (h1 _ (by decide))) (hf.2.2.1 _ (h1 _ (by decide)))
theorem Lw_ce : ∀ c ∈ [3, 4, 5, 6, 7, 9, 10, 17, 18, 19, 20, 21, 23, 24], c ∉ Lw := by decide
theorem SH.at {C : Cel} {r : Row} {a p : Nat} {v : Int32} {μ ν : Mem} (hC : C.ok) (h : SH C r a μ) (hp : p < C.P) (h0 : ν.2.1 a = μ.2.1 a) (hl : ν.2.2.1 a = μ.2.2.1 a) (h1 : ν.2.1 (a + 1) = μ.2.1 (a + 1)) (h2 : ν.2.1 (a + 2) = up (μ.2.1 (a + 2)) p v) (h3 : ν.2.1 (a + 3) = μ.2.1 (a + 3)) (h4 : ν.2.1 (a + 4) = μ.2.1 (a + 4)) : SH C (up r (55 + p) v) a ν := by
  have hP := hC.2.1
  obtain ⟨b0, b1, b2, b3, b4, b5, b6⟩ := h
  have ew : wh C (up r (55 + p) v) = wh C r := wh_congr hC (fun k _ hk => up_n _ _ (by omega))
  have es : stl (up r (55 + p) v) = stl r := stl_congr (fun k _ hk => up_n _ _ (by omega))
  unfold SH
  rw [h0, hl, h1, h2, h3, h4, ew, es]
  refine ⟨by rw [up_n _ _ (by omega)]; exact b0, b1, b2, fun x hx => by rw [up_n _ _ (by omega)]; exact b3 x hx, ?_, ?_, ?_⟩
  · intro q hq
    by_cases e : q = p
    · subst e; rw [up_s, if_pos hp, up_s]
    · rw [up_n _ _ e, up_n _ _ (by omega)]; exact b4 q hq
  · intro q hq; rw [up_n _ _ (by omega)]; exact b5 q hq
  · intro q hq; rw [up_n _ _ (by omega)]; exact b6 q hq
theorem WC.cp {C : Cel} {G Fd : List Itm} {pc : Nat → Int32} {r : Row} {k : Nat} {μ M : Mem} (h : CP C G Fd pc r k μ) {p x : Nat} (hp : p < C.P) (hW : WC μ p x M) : CP C G Fd pc (up r (55 + p) (I x)) k M := by
  obtain ⟨hG, hC, hk, hcel, hE, hS, hpa⟩ := h
  obtain ⟨hF, h458, h465⟩ := hW
  have hP := hC.2.1
  refine ⟨hF.gr hG, hC, hk, by rw [hF.g]; exact hcel, hE.fl hk hF Lw_ce (by decide), ?_, ?_⟩
  · exact hS.at hC hp (hF.2.2.1 456 (by decide)) (hF.2.2.2 456 (by decide)) (hF.2.2.1 457 (by decide)) h458 (hF.2.2.1 459 (by decide)) (hF.2.2.1 460 (by decide))
  · intro q hq
    rw [hF.2.2.1 464 (by decide), up_n _ _ (by omega)]
    exact hpa q hq
theorem GD.fr {C : Cel} {r : Row} {g : Nat} {μ ν : Mem} (h : GD C r g μ) (h1 : ν.2.2.1 g = μ.2.2.1 g) : GD C r g ν := by
  unfold GD
  rw [h1]
  exact h
theorem step_prop {C : Cel} {r : Row} (hC : C.ok) (hs : StOK C r) {to x d : Nat} (hto : there C to = true) (hd : dst (adj C r) (wh C r) to x = d + 1) (hd48 : d + 1 < 48) : there C (fst48 (isStep C r to x)) = true ∧ dst (adj C r) (wh C r) to (fst48 (isStep C r to x)) = d := by
  have hne : ∃ y, isStep C r to x y = true := by
    rcases dst_wh hC hs hto x with q | ⟨_, q⟩
    · rw [q.1] at hd; omega
    · rw [hd] at q
      obtain ⟨y, ha, hw, hy⟩ := q.step
      refine ⟨y, ?_⟩
      unfold isStep
      rw [ha, hw, dst_of hy, hd]
      simp
  obtain ⟨y, hy⟩ := hne
  obtain ⟨m', hm', h1, h2⟩ := least (p := fun j => isStep C r to x j = true) y hy
  have hst := h1
  unfold isStep at h1
  rw [Bool.and_eq_true, Bool.and_eq_true] at h1
  have ht := wh_there m' h1.1.2
  rw [fst48_of (there_lt hC ht) hst (fun j hj => by cases q : isStep C r to x j; rfl; exact absurd q (h2 j hj))]
  have he := of_decide_eq_true h1.2
  rw [hd] at he
  exact ⟨ht, by omega⟩
theorem cwalk_lp {C : Cel} {G Fd : List Itm} {pc : Nat → Int32} {r : Row} {k : Nat} {μ : Mem} (h : CP C G Fd pc r k μ) (hs : StOK C r) (hg : GD C r 461 μ) {p to : Nat} (hp : p < C.P) (hto : there C to = true) :
    ∀ (d x m : Nat) (M : Mem) (n : Nat), d < n → m + d < 1000 → WC μ p x M → (∀ j, j ≤ d → Lay C r to (M.2.2.1 462 j) j) → there C x = true → dst (adj C r) (wh C r) to x = d → d < 48 →
    ∃ M', fX2_walk_28 n 455 (I p) (I d) (I m) M = some (sC M' 465 (up (M'.2.1 465) p (M'.2.1 465 p + I (wlk C G to p r d x m).2))) ∧ WC μ p (wlk C G to p r d x m).1 M' := by
  intro d
  have hC := h.2.1
  have hP := hC.2.1
  have hk := h.2.2.1
  have hpa := h.2.2.2.2.2.2
  have hk5 : k + 5 ∈ Lw := by rcases hk with rfl | rfl <;> decide
  have hk5n : k + 5 ≠ 458 ∧ k + 5 ≠ 465 := by omega
  induction d with
  | zero =>
    intro x m M n hn hmd hW hL hx hd hd48
    obtain ⟨n, rfl⟩ : ∃ k, n = k + 1 := ⟨n - 1, by omega⟩
    have hGM := hW.1.gr h.1
    refine ⟨M, ?_, hW⟩
    rw [fX2_walk_28, g_455_2 hGM, bs, ld_464 (by omega), bs]
    simp (disch := omega) only [g_455_3 hGM, bs, ld_465, st_465]
    rw [if_neg (show ¬ (0 : Int32) < I 0 by decide)]
    split <;> rfl
  | succ d ih =>
    intro x m M n hn hmd hW hL hx hd hd48
    obtain ⟨n, rfl⟩ : ∃ k, n = k + 1 := ⟨n - 1, by omega⟩
    have hx48 := there_lt hC hx
    have hGM := hW.1.gr h.1
    have hpm : M.2.1 464 p = r (73 + p) := by rw [hW.1.2.2.1 464 (by decide)]; exact hpa p hp
    rw [fX2_walk_28, g_455_2 hGM, bs, ld_464 (by omega), bs, hpm]
    by_cases hpace : I m < r (73 + p)
    · rw [if_pos hpace, if_pos (show (0 : Int32) < I (d + 1) from (l_ltI (m := 0) (by omega) (by decide)).mpr (Nat.succ_pos d))]
      have hCP := hW.cp h hp
      obtain ⟨V, S, eg⟩ := goesOn_ok (m := m) (d := d + 1) hCP hp (by rw [up_s]; exact I_m1 (by omega))
      rw [eg, bs]
      have hW1 : WC μ p x (sC (sC M 467 V) (k + 5) S) := by
        refine ⟨(hW.1.trans (FrI.c M V (by decide))).trans (FrI.c _ S hk5), ?_, ?_⟩
        · rw [sC_n _ _ (fun e => hk5n.1 e.symm), sC_n _ _ (by decide)]; exact hW.2.1
        · rw [sC_n _ _ (fun e => hk5n.2 e.symm), sC_n _ _ (by decide)]; exact hW.2.2
      have hG1 := hW1.1.gr h.1
      by_cases hgo : goOn C G (up r (55 + p) (I x)) p m (d + 1) = true
      · rw [if_pos hgo]
        simp only
        rw [if_neg (by decide)]
        have hat : (sC (sC M 467 V) (k + 5) S).2.1 458 p = I x := by rw [hW1.2.1, up_s]
        have hlg : (sC (sC M 467 V) (k + 5) S).2.2.1 = M.2.2.1 := rfl
        have hgd : GD C r 461 (sC (sC M 467 V) (k + 5) S) := hg.fr (by rw [hW1.1.2.2.2 461 (by decide)])
        obtain ⟨s1, s2, s3⟩ := step_ok hG1 (Or.inl rfl) hC hs hgd hx hto hd (by omega) (by rw [hlg]; exact hL d (by omega))
        obtain ⟨t1, t2⟩ := step_prop hC hs hto hd hd48
        rw [g_455_0 hG1, bs, hG1.at a456, bs, g_455_1 hG1, bs, bs, hG1.at a456, bs, ld_458 (by omega), bs, hat, s1, bs, st_458 (by omega), bs, I_dec (by omega), Nat.add_sub_cancel, I_addl]
        have hW2 : WC μ p (fst48 (isStep C r to x)) (sC (sC (sC M 467 V) (k + 5) S) 458 (up ((sC (sC M 467 V) (k + 5) S).2.1 458) p (I (fst48 (isStep C r to x))))) := by
          refine ⟨hW1.1.trans (FrI.c _ _ (by decide)), ?_, ?_⟩
          · rw [sC_s, hW1.2.1, up_up]
          · rw [sC_n _ _ (by decide)]; exact hW1.2.2
        obtain ⟨M', e1, hM'⟩ := ih (fst48 (isStep C r to x)) (m + 1) _ n (by omega) (by omega) hW2 (fun j hj => hL j (by omega)) t1 t2 (by omega)
        refine ⟨M', ?_, ?_⟩
        · unfold wlk
          rw [if_pos (by rw [decide_eq_true hpace, hgo]; rfl)]
          exact e1
        · unfold wlk
          rw [if_pos (by rw [decide_eq_true hpace, hgo]; rfl)]
          exact hM'
      · rw [if_neg hgo]
        simp only [if_true]
        refine ⟨sC (sC M 467 V) (k + 5) S, ?_, ?_⟩
        · unfold wlk
          rw [if_neg (by rw [Bool.and_eq_true]; exact fun q => hgo q.2), g_455_3 hG1, bs, ld_465 (by omega), bs, st_465 (by omega), bs]
        · unfold wlk
          rw [if_neg (by rw [Bool.and_eq_true]; exact fun q => hgo q.2)]
          exact hW1
    · rw [if_neg hpace]
      refine ⟨M, ?_, ?_⟩
      · unfold wlk
        rw [if_neg (by rw [Bool.and_eq_true]; exact fun q => hpace (of_decide_eq_true q.1)), g_455_3 hGM, bs, ld_465 (by omega), bs, st_465 (by omega), bs]
      · unfold wlk
        rw [if_neg (by rw [Bool.and_eq_true]; exact fun q => hpace (of_decide_eq_true q.1))]
        exact hW
theorem cwalk_ok {C : Cel} {G Fd : List Itm} {pc : Nat → Int32} {r : Row} {k : Nat} {μ : Mem} (h : CP C G Fd pc r k μ) (hs : StOK C r) (hg : GD C r 461 μ) {p to x : Nat} (hp : p < C.P) (hat : r (55 + p) = I x) (hx : there C x = true) (hto1 : r (61 + p) = I to) (hto : there C to = true) :
    ∃ ν, fX2_walk 455 (I p) μ = some ν ∧ FrI Lw [462] μ ν ∧ ν.2.1 458 = up (μ.2.1 458) p (I (wres C G false r p to x).1) ∧ ν.2.1 465 = up (μ.2.1 465) p (μ.2.1 465 p + I (wres C G false r p to x).2) := by
  have hG := h.1
  have hC := h.2.1
  have hP := hC.2.1
  have hS := h.2.2.2.2.2.1
  have e1 : μ.2.1 458 p = I x := by
    have := hS.2.2.2.2.1 p (by omega)
    rw [if_pos hp, hat] at this
    exact this
  have e2 : μ.2.1 459 p = I to := by
    have := hS.2.2.2.2.2.1 p (by omega)
    rw [if_pos hp, hto1] at this
    exact this
  unfold fX2_walk
  rw [g_455_1 hG, bs, g_455_0 hG, bs, hG.at a456, bs, ld_458 (by omega), bs, bs, hG.sent a456, bs, ld_459 (by omega), bs, e1, e2]
  obtain ⟨L, ef, hL⟩ := far_ok hG (Or.inl rfl) hC hs hg hx hto
  rw [ef, bs]
  have hF1 : FrI Lw [462] μ (sLC μ (461 + 1) L) := FrI.l μ L (by decide)
  have hW1 : WC μ p x (sLC μ (461 + 1) L) := ⟨hF1, by rw [sLC_i, ← e1, up_id], rfl⟩
  have hGM := hF1.gr hG
  by_cases hd : dst (adj C r) (wh C r) to x = 9999
  · rw [if_pos hd]
    have hw : wres C G false r p to x = (x, 0) := by unfold wres; rw [if_neg (by decide), if_pos hd]
    rw [hw]
    show ∃ ν, fX2_walk_28 (4999 + 1) 455 (I p) (-1) 0 (sLC μ (461 + 1) L) = some ν ∧ _
    rw [fX2_walk_28, g_455_2 hGM, bs, ld_464 (by omega), bs, if_neg (show ¬ (0 : Int32) < -1 by decide)]
    simp (disch := omega) only [g_455_3 hGM, bs, ld_465, st_465]
    refine ⟨sC (sLC μ (461 + 1) L) 465 (up ((sLC μ (461 + 1) L).2.1 465) p ((sLC μ (461 + 1) L).2.1 465 p + 0)), ?_, hF1.trans (FrI.c _ _ (by decide)), ?_, ?_⟩
    · split <;> rfl
    · rw [sC_n _ _ (by decide)]; exact hW1.2.1
    · rw [sC_s]; rfl
  · rw [if_neg hd]
    have hd48 : dst (adj C r) (wh C r) to x < 48 := by
      rcases dst_wh hC hs hto x with q | q
      · exact absurd q.1 hd
      · exact q.1
    have hw : wres C G false r p to x = wlk C G to p r (dst (adj C r) (wh C r) to x) x 0 := by unfold wres; rw [if_neg (by decide), if_neg hd]
    obtain ⟨M', e3, hM⟩ := cwalk_lp h hs hg hp hto (dst (adj C r) (wh C r) to x) x 0 (sLC μ (461 + 1) L) fuel (by unfold fuel; omega) (by omega) hW1 (fun j hj => by rw [sLC_s μ 462 L]; exact hL hd j hj) hx rfl hd48
    rw [hw]
    refine ⟨_, e3, hM.1.trans (FrI.c _ _ (by decide)), ?_, ?_⟩
    · rw [sC_n _ _ (by decide)]; exact hM.2.1
    · rw [sC_s, hM.2.2]
