/-! THE CELLAR: both -/
section Qc
variable {C : Cel} {G Fd : List Itm} {pc : Nat → Int32} {k : Nat} {r : Row} {μ : Mem}
theorem cell_main (hI : INV C G Fd pc k r μ) {n t : Nat} {B : Nat → Nat} (ht : t ≤ 700) (hnt : n ≤ t) (h01 : μ.2.1 0 1 = I t) (h8 : μ.2.1 492 8 = I t) (hb : ∀ i, i < t → B i < 256 ∧ μ.2.1 1 i = I (B i) ∧ μ.2.1 495 i = I (B i)) : QA (fun μ => fL_cellar 0 (I n) 518 μ) (fun ν => fX11_cellar 492 (I n) ν) μ := by
  have hk := hI.2.2.1
  have hG := hI.1
  obtain ⟨q, hqk⟩ : ∃ q, q = 20 - k := ⟨_, rfl⟩
  have hq : q = 3 ∨ q = 17 := by omega
  have hn : n ≤ 700 := by omega
  have hB : ∀ i, i < n → B i < 256 := fun i hi => (hb i (by omega)).1
  obtain ⟨X, x1, xr, xi, xl, x31, hL⟩ := read_ok hG hn hB hq (fun i hi => (hb i (by omega)).2.1)
  obtain ⟨w, μ', e, O⟩ := hL μ
  -- what the class has
  have key : (w = 0 ∧ ∃ j C' G' Fd' pc' r', CLs B n q X j C' G' Fd' pc' r' μ') ∨ (w ≠ 0 ∧ ∃ p, CFl B n q X w p μ') := by
    rcases O with ⟨o1, j, C', G', Fd', pc', r', o2, _⟩ | ⟨o1, p, o2, _⟩
    · exact Or.inl ⟨o1, j, C', G', Fd', pc', r', o2⟩
    · exact Or.inr ⟨o1, p, o2⟩
  clear O
  have hF : FLc q X μ' := by
    rcases key with ⟨_, j, C', G', Fd', pc', r', o2⟩ | ⟨_, p, o2⟩
    · exact o2.1.2.2.2.2
    · obtain ⟨j, o3⟩ := o2.2.1
      exact o3.2.2.2.2
  have f1 : μ'.1 = μ.1 := hF.1.trans x1
  have f2 : ∀ c f, c ≠ 31 → μ'.2.2.2 c f = μ.2.2.2 c f := fun c f a => (hF.2.1 c f a).trans (xr c f a)
  have f3 : ∀ c, c ≠ 31 → c < q ∨ q + 14 ≤ c → μ'.2.1 c = μ.2.1 c := fun c a b => (hF.2.2.1 c a b).trans (xi c a)
  have f4 : ∀ c, c < q ∨ q + 14 ≤ c → μ'.2.2.1 c = μ.2.2.1 c := fun c b => (hF.2.2.2.1 c b).trans (by rw [xl])
  have hG' : Gr μ' := ⟨f1.trans hG.1, fun x hx => by rw [f2 _ _ (gfix_31 x hx)]; exact hG.2 x hx⟩
  rcases key with ⟨o1, _, C', G', Fd', pc', r', o2⟩ | ⟨o1, p, o2⟩
  · subst o1
    have h31 : μ'.2.1 31 1 = -1 := by rw [(hF.2.2.2.2 o2.2.1).2]; exact x31
    obtain ⟨Y, c1, c2, c3, c4, c5, c6, c7, c8, c9, c10, c11, c12, c13, c14⟩ := ccell_ok hI hqk ht hnt h01 e f1 f2 f3 f4 h31 o2.2.2.2.1
    have y492 : Y.2.1 492 = μ.2.1 492 := c8 492 (by omega)
    have nG : Gr (sC (sLC Y 518 (up (Y.2.2.1 518) 0 (Int32.toInt64 0))) 492 (gCl n (Y.2.1 492))) := (c6.sLC _ _).sC _ _
    obtain ⟨w2, μ2, e2, O2⟩ := hL (sC (sLC Y 518 (up (Y.2.2.1 518) 0 (Int32.toInt64 0))) 492 (gCl n (Y.2.1 492)))
    have heq := Option.some.inj (e2.symm.trans e)
    obtain ⟨rfl, rfl⟩ := Prod.mk.inj heq
    rcases O2 with ⟨_, j, C2, G2, F2, p2, r2, u1, u2, u3⟩ | ⟨u0, _⟩
    · obtain ⟨Y', d1, d2, _⟩ := ccell_ok hI hqk ht hnt h01 e f1 f2 f3 f4 h31 u1.2.2.2.1
      have hYY := Option.some.inj (d1.symm.trans c1)
      obtain ⟨_, rfl⟩ := Prod.mk.inj hYY
      obtain ⟨ν1, v1, v2, _⟩ := rread_ok nG hn hB (fun i hi => by rw [sC_n _ _ (by decide), sLC_i, c8 495 (by omega)]; exact (hb i (by omega)).2.2) (by rw [sC_s]; rfl) (by rw [sC_s]; rfl) (by rw [sC_s]; rfl) (by rw [sC_s]; rfl) (by rw [sC_s]; rfl) (by rw [sC_s]; rfl) (by rw [sC_s]; rfl)
      obtain ⟨ν', w1, w2⟩ := u3 ν1 v2 fuel (by unfold fuel; omega)
      have hend := rend_ok w2 u2
      refine QA.mk0 (ν := Y') (v := 0) ?_ ((rcell ht hnt (by rw [sLC_i, y492]; exact h8)).trans (v1.trans (w1.trans hend))) ?_ ?_ ⟨C2, G2, F2, p2, q, r2, cell_inv hq hn u1.2.2.1 u1.2.2.2.2.1 u1.2.2.2.2.2 d2 c4 (by rw [c5]; congr 1; omega) c6 c7 c9 c10 c11 c12 c13 c14 ?_ ?_ ?_ rfl w2⟩
      · show fL_cellar 0 (I n) 518 μ = _
        unfold fL_cellar
        rw [c1, bs]
        simp only
        rw [stL518, bs]
      · rw [sC_s, up_n _ _ (by decide), up_n _ _ (by decide), up_n _ _ (by decide), up_n _ _ (by decide), up_n _ _ (by decide), up_n _ _ (by decide), up_n _ _ (by decide), w2.1.2.2.2.2.2.2.1 0 (by omega), sC_s]
        rfl
      · show ν'.2.2.1 518 0 = _
        rw [w2.1.2.2.2.2.2.1 518 (by decide)]
        show (sLC Y' 518 _).2.2.1 518 0 = _
        rw [sLC_s, up_s]
      · intro i hi
        rw [c8 2 (by omega), c8 496 (by omega)]
        exact hI.ref i hi
      · rw [y492]; exact hI.f41
      · rw [y492]; exact hI.f45
    · exact absurd rfl u0
  · have hpre := cell_pre hI ht hnt h01 (hqk ▸ e) hG'
    simp only at hpre
    rw [if_neg o1, o2.2.2.2, sC_n _ _ (by decide : (2 : Nat) ≠ 0), f3 2 (by decide) (by omega)] at hpre
    generalize hY : sC (sC μ' 0 (up (up (μ'.2.1 0) 1 0) 2 (I (Pq B n p)))) 2 (up (μ.2.1 2) 0 (μ.2.1 2 0 + 1)) = Y at hpre
    have y1 : Y.1 = μ'.1 := by rw [← hY]; rfl
    have y22 : Y.2.2 = μ'.2.2 := by rw [← hY]; rfl
    have yi : ∀ c, c ≠ 0 → c ≠ 2 → Y.2.1 c = μ'.2.1 c := fun c a b => by rw [← hY, sC_n _ _ b, sC_n _ _ a]
    have y2 : Y.2.1 2 = up (μ.2.1 2) 0 (μ.2.1 2 0 + 1) := by rw [← hY, sC_s]
    have y0 : Y.2.1 0 = up (up (μ.2.1 0) 1 0) 2 (I (Pq B n p)) := by rw [← hY, sC_n _ _ (by decide), sC_s, f3 0 (by decide) (by omega)]
    clear hY
    have y492 : Y.2.1 492 = μ.2.1 492 := (yi 492 (by decide) (by decide)).trans (f3 492 (by decide) (by omega))
    have hGY : Gr Y := hG'.r y1 (by rw [y22])
    have nG : Gr (sC (sLC Y 518 (up (Y.2.2.1 518) 0 w.toInt64)) 492 (gCl n (Y.2.1 492))) := (hGY.sLC _ _).sC _ _
    obtain ⟨w2, μ2, e2, O2⟩ := hL (sC (sLC Y 518 (up (Y.2.2.1 518) 0 w.toInt64)) 492 (gCl n (Y.2.1 492)))
    have heq := Option.some.inj (e2.symm.trans e)
    obtain ⟨rfl, rfl⟩ := Prod.mk.inj heq
    rcases O2 with ⟨u0, _⟩ | ⟨_, p2, u1, u3⟩
    · exact absurd u0 o1
    · obtain ⟨ν1, v1, v2, _⟩ := rread_ok nG hn hB (fun i hi => by rw [sC_n _ _ (by decide), sLC_i, yi 495 (by decide) (by decide), f3 495 (by decide) (by omega)]; exact (hb i (by omega)).2.2) (by rw [sC_s]; rfl) (by rw [sC_s]; rfl) (by rw [sC_s]; rfl) (by rw [sC_s]; rfl) (by rw [sC_s]; rfl) (by rw [sC_s]; rfl) (by rw [sC_s]; rfl)
      obtain ⟨ν', w1, w2'⟩ := u3 ν1 v2 fuel (by unfold fuel; omega)
      have hend := rend_f o1 w2'
      have hpp : I (Pq B n p2) = I (Pq B n p) := by rw [← u1.2.2.2, o2.2.2.2]
      obtain ⟨hX', F, n9, n10⟩ := w2'
      have lo : ∀ c, c ≠ 492 → c < 496 ∨ 501 < c → c ≠ 0 → c ≠ 2 → c ≠ 31 → c < q ∨ q + 14 ≤ c → (sC ν' 496 (up (ν'.2.1 496) 0 (ν'.2.1 496 0 + 1))).2.1 c = μ.2.1 c := by
        intro c a1 a2 a3 a4 a5 a6
        rw [sC_n _ _ (by omega), F.2.2.1 c a1 (by omega), sC_n _ _ a1, sLC_i, yi c a3 a4]
        exact f3 c a5 a6
      have ll : ∀ c, c ≠ 492 → c ≠ 518 → c < q ∨ q + 14 ≤ c → (sC ν' 496 (up (ν'.2.1 496) 0 (ν'.2.1 496 0 + 1))).2.2.1 c = μ.2.2.1 c := by
        intro c a1 a2 a3
        show ν'.2.2.1 c = _
        rw [F.2.2.2.1 c a1]
        show (sLC Y 518 _).2.2.1 c = _
        rw [sLC_n _ _ a2, y22]
        exact f4 c a3
      have ff : ∀ f, f ∉ [0, 8, 9, 10, 12, 13, 20, 21, 22, 23] → f < 9 ∨ (10 < f ∧ f < 13) ∨ 29 ≤ f → (sC ν' 496 (up (ν'.2.1 496) 0 (ν'.2.1 496 0 + 1))).2.1 492 f = μ.2.1 492 f := by
        intro f a1 a2
        rw [sC_n _ _ (by decide), F.2.2.2.2.1 f a2, sC_s, gCl_n _ _ a1, y492]
      have r0 : (sC ν' 496 (up (ν'.2.1 496) 0 (ν'.2.1 496 0 + 1))).2.1 0 = up (up (μ.2.1 0) 1 0) 2 (I (Pq B n p)) := by
        rw [sC_n _ _ (by decide), F.2.2.1 0 (by decide) (by omega), sC_n _ _ (by decide), sLC_i, y0]
      have r496 : ν'.2.1 496 = μ.2.1 496 := by
        rw [F.2.2.1 496 (by decide) (by omega), sC_n _ _ (by decide), sLC_i, yi 496 (by decide) (by decide)]
        exact f3 496 (by decide) (by omega)
      refine QA.mk0 (ν := Y) (v := w2) ?_ ((rcell ht hnt (by rw [sLC_i, y492]; exact h8)).trans (v1.trans (w1.trans hend))) ?_ ?_ ⟨C, G, Fd, pc, k, r, hI.rej ?_ ?_ ?_ ?_ ?_ ?_ ⟨0, by omega, ?_, ?_, fun i hi => absurd hi (Nat.not_lt_zero i)⟩ ?_ ?_⟩
      · show fL_cellar 0 (I n) 518 μ = _
        unfold fL_cellar
        rw [hpre, bs]
        simp only
        rw [stL518, bs]
      · rw [sC_n _ _ (by decide), F.2.2.2.2.1 0 (by omega), sC_s]
        rfl
      · show ν'.2.2.1 518 0 = _
        rw [F.2.2.2.1 518 (by decide)]
        show (sLC Y 518 _).2.2.1 518 0 = _
        rw [sLC_s, up_s]
      · show ν'.1 = _
        rw [F.1]
        exact y1.trans f1
      · intro a f ha
        show ν'.2.2.2 a f = _
        rw [F.2.1]
        show Y.2.2.2 a f = _
        rw [y22]
        exact f2 a f ha
      · intro c hc
        exact ⟨lo c (by omega) (by omega) (by omega) (by omega) (by omega) (by omega), ll c (by omega) (by omega) (by omega)⟩
      · intro c hc
        exact lo c (by omega) (by omega) (by omega) (by omega) (by omega) (by omega)
      · intro f a1 a2
        exact ff f (by simp; omega) (by omega)
      · rw [r0, up_n _ _ (by decide), up_n _ _ (by decide)]
      · rw [r0, up_n _ _ (by decide), up_s]; rfl
      · rw [sC_n _ _ (by decide), F.2.2.2.2.1 8 (by omega), sC_s]; rfl
      · rw [r0, up_s, sC_n _ _ (by decide), n10, hpp]
      · intro i hi
        rw [sC_n _ _ (by decide), sC_s, r496, F.2.2.1 2 (by decide) (by omega), sC_n _ _ (by decide), sLC_i, y2]
        by_cases h0 : i = 0
        · subst h0
          rw [up_s, up_s, hI.ref 0 (by omega)]
        · rw [up_n _ _ h0, up_n _ _ h0, hI.ref i hi]
theorem qa_cellar (hI : INV C G Fd pc k r μ) (a : Int32) : QA (fun μ => fL_cellar 0 a 518 μ) (fun ν => fX11_cellar 492 a ν) μ := by
  obtain ⟨t, ht, h01, h8, hb⟩ := hI.taI
  have hB : ∃ B : Nat → Nat, ∀ i, i < t → B i < 256 ∧ μ.2.1 1 i = I (B i) ∧ μ.2.1 495 i = I (B i) := by
    refine ⟨fun i => if h : i < t then Classical.choose (hb i h) else 0, fun i hi => ?_⟩
    simp only [dif_pos hi]
    exact Classical.choose_spec (hb i hi)
  obtain ⟨B, hB⟩ := hB
  by_cases h1 : a < (0 : Int32)
  · refine QA.thr1 (v := 0) hI ?_ ?_
    · show fL_cellar 0 a 518 μ = _
      unfold fL_cellar fX10_cellar
      rw [if_pos h1, bs]
      rfl
    · show fX11_cellar 492 a μ = _
      unfold fX11_cellar
      rw [bs, sI_C, if_pos h1, right_ok (by rw [sC_s, up_s]) (by decide), if_pos rfl, bs]
      rfl
  · by_cases h2 : I t < a
    · refine QA.thr1 (v := 0) hI ?_ ?_
      · show fL_cellar 0 a 518 μ = _
        unfold fL_cellar fX10_cellar
        rw [if_neg h1, if_pos (by rw [h01]; exact h2), bs]
        rfl
      · show fX11_cellar 492 a μ = _
        unfold fX11_cellar
        rw [bs, sI_C, if_neg h1, if_pos (by rw [sC_s, up_n _ _ (by decide), h8]; exact h2), right_ok (by rw [sC_s, up_s]) (by decide), if_pos rfl, bs]
        rfl
    · obtain ⟨n, _, hnt, rfl⟩ := okR_ex (lo := 0) (hi := t) (by omega) (okR_mk h1 h2) (by omega)
      exact cell_main hI ht hnt h01 h8 hB
end Qc
