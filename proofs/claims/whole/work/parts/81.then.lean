/-! CALLS: then -/
section Th
variable {C : Cel} {G Fd : List Itm} {pc : Nat → Int32} {k : Nat} {r : Row} {μ : Mem}
def codeT (C : Cel) (a b c : Int32) : Int32 := if okP C a = true then (if okW c 4 = true then (if okR b 0 60 = true then 0 else 2) else 1) else 1
noncomputable def valT (C : Cel) (G Fd : List Itm) (r : Row) (a b c : Int32) : Int32 :=
  if c = 0 then dN C G Fd dk0 r (ix b) (55 + ix a) / 8 else if c = 1 then dN C G Fd dk0 r (ix b) (55 + ix a) - dN C G Fd dk0 r (ix b) (55 + ix a) / 8 * 8 else if c = 2 then dN C G Fd dk0 r (ix b) (67 + ix a) else if dN C G Fd dk0 r (ix b) (61 + ix a) = -1 then 0 else 1
theorem CP.atv {k : Nat} (h : CP C G Fd pc r k μ) {p : Nat} (hp : p < C.P) : μ.2.1 458 p = r (55 + p) ∧ μ.2.1 459 p = r (61 + p) ∧ μ.2.1 460 p = r (67 + p) := by
  have hP := h.2.1.2.1
  have hS := h.2.2.2.2.2.1
  have e1 := hS.2.2.2.2.1 p (by omega)
  have e2 := hS.2.2.2.2.2.1 p (by omega)
  have e3 := hS.2.2.2.2.2.2 p (by omega)
  rw [if_pos hp] at e1 e2 e3
  exact ⟨e1, e2, e3⟩
theorem c_then (hI : INV C G Fd pc k r μ) (a b c : Int32) : CQ (fX10_then 0 a b c μ) μ (codeT C a b c) (valT C G Fd r a b c) := by
  have hC := hI.2.1
  have hP := hC.2.1
  unfold fX10_then codeT
  rw [needP_ok hI, bs]
  by_cases h1 : okP C a = true
  · rw [if_pos h1, if_pos h1]
    simp only
    rw [show fX10_needWhat 0 c (4 : Int32) = _ from needW_ok c 4, bs]
    by_cases h2 : okW c 4 = true
    · rw [if_pos h2, if_pos h2]
      simp only
      rw [show fX10_needWithin 0 b (0 : Int32) (60 : Int32) = _ from needN_ok b 0 60, bs]
      by_cases h3 : okR b 0 60 = true
      · rw [if_pos h3, if_pos h3]
        simp only
        obtain ⟨p, hp, rfl⟩ := okP_ex hC h1
        obtain ⟨n, _, hn, rfl⟩ := okR_ex (by decide) h3 (by decide)
        obtain ⟨ν, e, hR⟩ := run_ok hI (n := n) (by omega)
        have hGν := hR.1.gr hI.1
        obtain ⟨v1, v2, v3⟩ := hR.2.1.atv hp
        refine ⟨ν, hR.fq, Or.inl ⟨rfl, ?_⟩⟩
        unfold valT
        rw [ix_I (by omega), ix_I (by omega), e, bs]
        simp (disch := omega) only [g_0_14 hGν, g_455_0 hGν, hGν.at a456, hGν.met a456, hGν.sent a456, bs, ld_458, ld_459, ld_460, v1, v2, v3, Nat.reduceAdd]
        by_cases c0 : c = 0
        · rw [if_pos c0, if_pos c0]
        · rw [if_neg c0, if_neg c0]
          by_cases c1 : c = 1
          · rw [if_pos c1, if_pos c1]
          · rw [if_neg c1, if_neg c1]
            by_cases c2 : c = 2
            · rw [if_pos c2, if_pos c2]
            · rw [if_neg c2, if_neg c2]
              split <;> rfl
      · rw [if_neg h3, if_neg h3]
        exact ⟨μ, FrB.refl _ _ μ, Or.inr (Or.inr ⟨rfl, rfl⟩)⟩
    · rw [if_neg h2, if_neg h2]
      exact ⟨μ, FrB.refl _ _ μ, Or.inr (Or.inl ⟨rfl, rfl⟩)⟩
  · rw [if_neg h1, if_neg h1]
    exact ⟨μ, FrB.refl _ _ μ, Or.inr (Or.inl ⟨rfl, rfl⟩)⟩
/-- the reference's call begins -/
theorem thr0 (μ : Mem) : FR μ (thr μ 0) ∧ (thr μ 0).2.1 492 0 = 0 ∧ (thr μ 0).2.1 492 41 = μ.2.1 492 41 ∧ (thr μ 0).2.1 492 45 = μ.2.1 492 45 := ⟨FR.f 0 (by decide), by rw [sC_s, up_s], by rw [sC_s, up_n _ _ (by decide)], by rw [sC_s, up_n _ _ (by decide)]⟩
/-- and ends, refused -/
theorem RQ.no {μ ν : Mem} {w v val : Int32} (hw : w ≠ 0) (h : FR μ ν) (h41 : ν.2.1 492 41 = μ.2.1 492 41) (h45 : ν.2.1 492 45 = μ.2.1 492 45) : RQ (some (v, thr ν w)) μ w val := by
  refine ⟨v, thr ν w, rfl, h.trans (FR.f w (by decide)), ?_, ?_, ?_, fun q => absurd q hw⟩
  · rw [sC_s, up_n _ _ (by decide)]; exact h41
  · rw [sC_s, up_n _ _ (by decide)]; exact h45
  · rw [sC_s, up_s]
theorem RD.f4 {μ ν : Mem} {b : Nat} (h : RD b μ ν) : ν.2.1 492 0 = μ.2.1 492 0 ∧ ν.2.1 492 41 = μ.2.1 492 41 ∧ ν.2.1 492 45 = μ.2.1 492 45 := ⟨h.1.2.2.2 0 (by decide) (by decide), h.1.2.2.2 41 (by decide) (by decide), h.1.2.2.2 45 (by decide) (by decide)⟩
theorem r_then (hI : INV C G Fd pc k r μ) (a b c : Int32) : RQ (fX11_then 492 a b c μ) μ (codeT C a b c) (valT C G Fd r a b c) := by
  have hC := hI.2.1
  have hP := hC.2.1
  obtain ⟨t1, t2, t3, t4⟩ := thr0 μ
  have hR0 := t1.rc hI.2.2.2.2.2.2.1
  unfold fX11_then codeT
  rw [bs, sI_C, isPerson_ok hR0 t2]
  by_cases h1 : okP C a = true
  · rw [if_pos h1, if_pos h1, bs]
    simp only
    rw [if_neg (by decide), show fX11_isWhat 492 c (3 : Int32) (thr μ 0) = _ from isWhat_ok (m := 3) t2 c (by decide)]
    by_cases h2 : okW c 4 = true
    · rw [if_pos h2, if_pos h2, bs]
      simp only
      rw [if_neg (by decide), show fX11_isSoon 492 b (0 : Int32) (2 : Int32) (thr μ 0) = _ from isSoon_ok t2 b 0 (by decide)]
      by_cases h3 : okR b 0 60 = true
      · rw [if_pos h3, if_pos h3, bs]
        simp only
        rw [if_neg (by decide)]
        obtain ⟨p, hp, rfl⟩ := okP_ex hC h1
        obtain ⟨n, _, hn, rfl⟩ := okR_ex (by decide) h3 (by decide)
        obtain ⟨ξ, e, d1, d2⟩ := goesTo_ok hI t1 t3 t4 (n := n) (by omega)
        obtain ⟨f0, f1, f2⟩ := d1.f4
        have hG := d2.1.1
        have v1 : ξ.2.1 502 (134 + p) = dN C G Fd dk0 r n (55 + p) := by
          rw [← d2.2.2.2 (55 + p) (by omega)]
          show _ = ξ.2.1 502 (79 + (55 + p))
          rw [← Nat.add_assoc]
        have v2 : ξ.2.1 502 (140 + p) = dN C G Fd dk0 r n (61 + p) := by
          rw [← d2.2.2.2 (61 + p) (by omega)]
          show _ = ξ.2.1 502 (79 + (61 + p))
          rw [← Nat.add_assoc]
        have v3 : ξ.2.1 502 (146 + p) = dN C G Fd dk0 r n (67 + p) := by
          rw [← d2.2.2.2 (67 + p) (by omega)]
          show _ = ξ.2.1 502 (79 + (67 + p))
          rw [← Nat.add_assoc]
        refine ⟨valT C G Fd r (I p) (I n) c, ξ, ?_, t1.trans d1.fr, f1.trans t3, f2.trans t4, f0.trans t2, fun _ => rfl⟩
        unfold valT
        rw [ix_I (by omega), ix_I (by omega), e, bs]
        simp (disch := omega) only [g_492_34 hG, bs, l_addI, ld_502, v1, v2, v3]
        by_cases c0 : c = 0
        · rw [if_pos c0, if_pos c0]
        · rw [if_neg c0, if_neg c0]
          by_cases c1 : c = 1
          · rw [if_pos c1, if_pos c1]
          · rw [if_neg c1, if_neg c1]
            by_cases c2 : c = 2
            · rw [if_pos c2, if_pos c2]
            · rw [if_neg c2, if_neg c2]
              split <;> rfl
      · rw [if_neg h3, if_neg h3, bs]
        simp only [if_true]
        exact RQ.no (by decide) t1 t3 t4
    · rw [if_neg h2, if_neg h2, bs]
      simp only [if_true]
      exact RQ.no (by decide) t1 t3 t4
  · rw [if_neg h1, if_neg h1, bs]
    simp only [if_true]
    exact RQ.no (by decide) t1 t3 t4
theorem qq_then (hI : INV C G Fd pc k r μ) (a b c : Int32) : QQ C G Fd pc k r (fun μ => fL_then 0 a b c 518 μ) (fun ν => fX11_then 492 a b c ν) μ := q_then hI a b c (c_then hI a b c) (fun ν h => r_then h a b c)
end Th
