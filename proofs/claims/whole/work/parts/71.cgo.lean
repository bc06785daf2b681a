/-! THE CLASS: goes, fades of a Course -/
/-- the Course is at work on the row r of the cellar k -/
def CP (C : Cel) (G Fd : List Itm) (pc : Nat → Int32) (r : Row) (k : Nat) (μ : Mem) : Prop := Gr μ ∧ C.ok ∧ (k = 3 ∨ k = 17) ∧ gR μ 455 7 11 = some k ∧ CE C G Fd pc k μ ∧ SH C r 456 μ ∧ (∀ p, p < C.P → μ.2.1 464 p = r (73 + p))
theorem a456 : 456 ∈ stA := by decide
theorem st_467l {μ : Mem} {n : Nat} {x : Int32} (h : (OfNat.ofNat n : Nat) < 6) : stI μ 467 (no_index (OfNat.ofNat n) : Int32) x = some (sC μ 467 (up (μ.2.1 467) (OfNat.ofNat n) x)) := st_467 h
theorem SH.c {C : Cel} {r : Row} {a c : Nat} {μ : Mem} (h : SH C r a μ) (g : Row) (hc : c < a ∨ a + 4 < c) : SH C r a (sC μ c g) :=
  h.fr (sC_n μ g (by omega)) rfl (sC_n μ g (by omega)) (sC_n μ g (by omega)) (sC_n μ g (by omega)) (sC_n μ g (by omega))
theorem goesOn_ok {C : Cel} {G Fd : List Itm} {pc : Nat → Int32} {r : Row} {k : Nat} {μ : Mem} (h : CP C G Fd pc r k μ) {p m d : Nat} (hp : p < C.P) (hv : r (55 + p) ≠ -1) :
    ∃ V S, fX2_goesOn 455 (I p) (I m) (I d) μ = some (if goOn C G r p m d = true then 1 else 0, sC (sC μ 467 V) (k + 5) S) := by
  obtain ⟨hG, hC, hk, hcel, hE, hS, hpa⟩ := h
  have hP := hC.2.1
  obtain ⟨_, _, c5, _, _, r0, r2, _, _⟩ := cel_g hG hk
  obtain ⟨_, _, k4, k5, _, _⟩ := cel_k hk
  have hsz := hE.2.2.2.2.2.1
  have hok := hE.2.2.2.2.2.2.2.2.2.1
  unfold fX2_goesOn
  rw [hcel, bs, c5, bs]
  unfold fX7_isTold
  rw [hsz]
  have hl := hok.2.1
  by_cases hg : G = []
  · subst hg
    rw [if_neg (show ¬ (0 : Int32) < I ([] : List Itm).length by decide), if_pos rfl]
    refine ⟨μ.2.1 467, μ.2.1 (k + 5), ?_⟩
    rw [sC_same, sC_same]
    rfl
  · have hlen : 0 < G.length := List.length_pos_iff.mpr hg
    rw [if_pos (show (0 : Int32) < I G.length from (l_ltI (m := 0) (by omega) (by decide)).mpr hlen), if_neg (by decide)]
    have hoth : ∀ T : Row, fX9_others 456 (I p) (sC μ 467 T) = some (oth C r p) := fun T => others_C (hG.sC _ _) hC a456 (hS.c T (by omega)) hp hv
    have hmet : μ.2.1 460 p = r (67 + p) := by
      have := hS.2.2.2.2.2.2 p (by omega)
      rw [if_pos hp] at this
      exact this
    have hday : μ.2.1 456 0 = r 0 := hS.1
    simp (disch := omega) only [bs, gC, g_455_6 hG, g_455_2 hG, g_455_0 hG, hG.met a456, ld_464, ld_460, st_467l, sC_C, sC_row, reduceIte, Nat.reduceEqDiff, hpa p hp, hoth, hmet, hday, hcel, c5, Nat.reduceAdd]
    obtain ⟨S, e⟩ := evaluate_ok (μ := sC μ 467 (up (up (up (up (up (up (μ.2.1 467) 0 (r (73 + p))) 1 (I m)) 2 (I d)) 3 (oth C r p)) 4 (r (67 + p))) 5 (r 0))) (v0 := k + 3) (st := k + 5) (row := k + 4) (vv := 467) (nv := 6) (vals := gvals C r p m d) (l := G) (by rw [gC]; exact r0) (by rw [gC]; exact r2) k4 k5 kd_467 (by omega) (by omega) (by omega) (by rw [sC_n _ _ (by omega)]; exact hsz) hl (by omega)
      (by
        intro w hw
        have hw6 : w = 0 ∨ w = 1 ∨ w = 2 ∨ w = 3 ∨ w = 4 ∨ w = 5 := by omega
        rw [sC_s]
        unfold gvals
        rcases hw6 with rfl | rfl | rfl | rfl | rfl | rfl <;> rfl)
      (by rw [sC_n _ _ (by omega)]; exact hE.2.2.2.2.2.2.1) hok.1 (hok.2.2 hg)
    rw [e]
    refine ⟨up (up (up (up (up (up (μ.2.1 467) 0 (r (73 + p))) 1 (I m)) 2 (I d)) 3 (oth C r p)) 4 (r (67 + p))) 5 (r 0), S, ?_⟩
    simp only [bs]
    have hgo : goOn C G r p m d = decide (0 < evV (gvals C r p m d) G) := by
      unfold goOn
      cases G with
      | nil => exact absurd rfl hg
      | cons t l => rfl
    rw [hgo]
    by_cases q : 0 < evV (gvals C r p m d) G
    · rw [if_pos q, if_pos (decide_eq_true q)]
    · rw [if_neg q, if_neg (fun h => q (of_decide_eq_true h))]
theorem cfadesBy_ok {C : Cel} {G Fd : List Itm} {pc : Nat → Int32} {r : Row} {k : Nat} {μ : Mem} (h : CP C G Fd pc r k μ) {x : Nat} (hx : x < 48) :
    ∃ V S, fX2_fadesBy 455 (I x) μ = some (fadeBy C Fd r x, sC (sC μ 467 V) (k + 8) S) := by
  obtain ⟨hG, hC, hk, hcel, hE, hS, hpa⟩ := h
  obtain ⟨_, _, _, c6, _, _, _, r0, r2⟩ := cel_g hG hk
  obtain ⟨_, _, _, _, k7, k8⟩ := cel_k hk
  have hsz := hE.2.2.2.2.2.2.2.1
  have hok := hE.2.2.2.2.2.2.2.2.2.2
  unfold fX2_fadesBy fadeBy
  rw [hcel, bs, c6, bs]
  unfold fX7_isTold
  rw [hsz]
  have hl := hok.2.1
  have hday : μ.2.1 456 0 = r 0 := hS.1
  by_cases hg : Fd = []
  · subst hg
    rw [if_neg (show ¬ (0 : Int32) < I ([] : List Itm).length by decide), if_pos rfl, g_455_0 hG, bs, hday]
    refine ⟨μ.2.1 467, μ.2.1 (k + 8), ?_⟩
    rw [sC_same, sC_same, if_pos (show List.isEmpty ([] : List Itm) = true from rfl)]
    split <;> rfl
  · have hlen : 0 < Fd.length := List.length_pos_iff.mpr hg
    rw [if_pos (show (0 : Int32) < I Fd.length from (l_ltI (m := 0) (by omega) (by decide)).mpr hlen), if_neg (by decide)]
    have hcr : ∀ T : Row, fX9_crowd 456 (I x) (sC μ 467 T) = some (cntI (fun q => r (55 + q)) (I x) C.P) := fun T => crowd_C (hG.sC _ _) hC a456 (hS.c T (by omega)) (I_m1 (by omega))
    have hink : μ.2.1 457 x = r (1 + x) := hS.2.2.2.1 x hx
    simp (disch := omega) only [bs, gC, g_455_6 hG, g_455_0 hG, hG.ink a456, ld_457, st_467l, sC_C, sC_row, reduceIte, Nat.reduceEqDiff, hcr, hink, hday, hcel, c6, Nat.reduceAdd, I_divl, I_md]
    obtain ⟨S, e⟩ := evaluate_ok (μ := sC μ 467 (up (up (up (up (up (μ.2.1 467) 0 (r (1 + x))) 1 (I (x % 8))) 2 (I (x / 8))) 3 (cntI (fun q => r (55 + q)) (I x) C.P)) 4 (r 0))) (v0 := k + 6) (st := k + 8) (row := k + 7) (vv := 467) (nv := 5) (vals := fvals C r x) (l := Fd) (by rw [gC]; exact r0) (by rw [gC]; exact r2) k7 k8 kd_467 (by omega) (by omega) (by omega) (by rw [sC_n _ _ (by omega)]; exact hsz) hl (by omega)
      (by
        intro w hw
        have hw6 : w = 0 ∨ w = 1 ∨ w = 2 ∨ w = 3 ∨ w = 4 := by omega
        rw [sC_s]
        unfold fvals
        rcases hw6 with rfl | rfl | rfl | rfl | rfl <;> rfl)
      (by rw [sC_n _ _ (by omega)]; exact hE.2.2.2.2.2.2.2.2.1) hok.1 (hok.2.2 hg)
    rw [e]
    refine ⟨up (up (up (up (up (μ.2.1 467) 0 (r (1 + x))) 1 (I (x % 8))) 2 (I (x / 8))) 3 (cntI (fun q => r (55 + q)) (I x) C.P)) 4 (r 0), S, ?_⟩
    simp only [bs]
    rw [if_neg (show ¬ Fd.isEmpty = true by cases Fd with
      | nil => exact absurd rfl hg
      | cons t l => exact Bool.false_ne_true)]
