/-! the image: restore -/
theorem qd_restore {C : Cel} {G Fd : List Itm} {pc : Nat → Int32} {k : Nat} {r : Row} {μ : Mem} (hI : INV C G Fd pc k r μ) : QD (fun μ => fX10_restore 0 μ) (fun ν => fX11_restore 492 ν) μ := by
  have hC := hI.2.1
  have hG := hI.1
  rcases hI.imI with ⟨p1, p2⟩ | ⟨p1, p2, pS, pG, pA, pE⟩
  · obtain ⟨t1, t2, t3, t4⟩ := thr0 μ
    refine ⟨0, μ, thr μ 0, ?_, ?_, C, G, Fd, pc, k, r, hI.q (t1.ag t3 t4)⟩
    · show fX10_restore 0 μ = _
      unfold fX10_restore
      rw [if_pos p1]
    · show fX11_restore 492 μ = _
      unfold fX11_restore
      rw [bs, sI_C, if_pos (by rw [sC_s, up_n _ _ (by decide)]; exact p2)]
  · obtain ⟨K, o, hK, ho, g0, g1, h55, g2⟩ := pA
    have hA : ActC C K (krow μ 516) 249 251 μ := ⟨o, ho, g0, g1, fun i hi => (g2 i hi).1⟩
    obtain ⟨sn, hsn, s0, s1, s2⟩ := pE
    obtain ⟨ν1, e1, f1', S1⟩ := copyFrom_ok hG a33 st244 (Or.inl (by decide)) pS
    have f1 := FrO.of f1'
    have hG1 := f1.gr hG
    obtain ⟨ν2, e2, f2, A2⟩ := cpA (a := 38) (b := 249) (Or.inr ⟨rfl, rfl⟩) hG1 hK (f1.actC hA (Or.inr (by decide)))
    have hG2 := f2.gr hG1
    obtain ⟨ν3, e3, f3, z0, z1⟩ := cpS (a := 240) (b := 451) (Or.inr ⟨rfl, rfl⟩) hG2
    have hG3 := f3.gr hG2
    have fA : FrO 33 244 μ ν3 := ((f1.mono (by decide) (by decide)).trans (f2.mono (by decide) (by decide))).trans (f3.mono (by decide) (by decide))
    have S3 : SH C (μ.2.1 515) 33 ν3 := f3.sh (f2.sh S1 (Or.inl (by decide))) (Or.inl (by decide))
    have A3 : ActC C K (krow μ 516) 38 40 ν3 := f3.actC A2 (Or.inl (by decide))
    have z0' : ν3.2.1 240 0 = I sn := by
      rw [z0, f2.2.2.1 451 (by omega), f1.2.2.1 451 (by omega)]; exact s0
    have z1' : ∀ i, i < 8 → ν3.2.1 241 i = μ.2.1 452 i ∧ ν3.2.1 242 i = μ.2.1 453 i ∧ ν3.2.1 243 i = μ.2.1 454 i := by
      intro i hi
      obtain ⟨q1, q2, q3⟩ := z1 i hi
      refine ⟨q1.trans ?_, q2.trans ?_, q3.trans ?_⟩
      · rw [f2.2.2.1 _ (by omega), f1.2.2.1 _ (by omega)]
      · rw [f2.2.2.1 _ (by omega), f1.2.2.1 _ (by omega)]
      · rw [f2.2.2.1 _ (by omega), f1.2.2.1 _ (by omega)]
    have e492 : ν3.2.1 492 = μ.2.1 492 := fA.2.2.1 492 (by omega)
    refine ⟨1, ν3, sC (sC (sC (sC ν3 492 (up (up (up (μ.2.1 492) 0 0) 36 (I K)) 49 (I sn))) 502 (cpF 79 (μ.2.1 515) (μ.2.1 502))) 503 (cpF 3160 (μ.2.1 516) (μ.2.1 503))) 512 (cpF 24 (μ.2.1 517) (μ.2.1 512)), ?_, ?_, C, G, Fd, pc, k, μ.2.1 515, ?_⟩
    · show fX10_restore 0 μ = _
      unfold fX10_restore
      rw [if_neg (by rw [p1]; decide), g_0_7 hG, bs, g_0_11 hG, bs, e1, bs, g_0_8 hG1, bs, g_0_12 hG1, bs, e2, bs, g_0_9 hG2, bs, g_0_13 hG2, bs, e3, bs]
    · show fX11_restore 492 ν3 = _
      unfold fX11_restore
      rw [bs, sI_C, if_neg (by rw [sC_s, up_n _ _ (by decide), e492, p2]; decide), bs, bs, sI_C, sI_C]
      simp only [sC_C, sC_s]
      rw [e492]
      simp only [up_n _ _ (show (55 : Nat) ≠ 0 by decide), up_n _ _ (show (56 : Nat) ≠ 36 by decide), up_n _ _ (show (56 : Nat) ≠ 0 by decide), h55, s1]
      rw [rres32 (hG3.sC _ _)]
      simp only [sC_n _ _ (show (502 : Nat) ≠ 492 by decide), sC_n _ _ (show (503 : Nat) ≠ 492 by decide), sC_n _ _ (show (512 : Nat) ≠ 492 by decide), sC_n _ _ (show (515 : Nat) ≠ 492 by decide), sC_n _ _ (show (516 : Nat) ≠ 492 by decide), sC_n _ _ (show (517 : Nat) ≠ 492 by decide), fA.2.2.1 502 (by omega), fA.2.2.1 503 (by omega), fA.2.2.1 512 (by omega), fA.2.2.1 515 (by omega), fA.2.2.1 516 (by omega), fA.2.2.1 517 (by omega)]
    · have hlo : ∀ c, c ≠ 492 → c ≠ 502 → c ≠ 503 → c ≠ 512 → (sC (sC (sC (sC ν3 492 (up (up (up (μ.2.1 492) 0 0) 36 (I K)) 49 (I sn))) 502 (cpF 79 (μ.2.1 515) (μ.2.1 502))) 503 (cpF 3160 (μ.2.1 516) (μ.2.1 503))) 512 (cpF 24 (μ.2.1 517) (μ.2.1 512))).2.1 c = ν3.2.1 c := by
        intro c h1 h2 h3 h4
        rw [sC_n _ _ h4, sC_n _ _ h3, sC_n _ _ h2, sC_n _ _ h1]
      have h49 : (sC (sC (sC (sC ν3 492 (up (up (up (μ.2.1 492) 0 0) 36 (I K)) 49 (I sn))) 502 (cpF 79 (μ.2.1 515) (μ.2.1 502))) 503 (cpF 3160 (μ.2.1 516) (μ.2.1 503))) 512 (cpF 24 (μ.2.1 517) (μ.2.1 512))).2.1 492 = up (up (up (μ.2.1 492) 0 0) 36 (I K)) 49 (I sn) := rfl
      have h502 : (sC (sC (sC (sC ν3 492 (up (up (up (μ.2.1 492) 0 0) 36 (I K)) 49 (I sn))) 502 (cpF 79 (μ.2.1 515) (μ.2.1 502))) 503 (cpF 3160 (μ.2.1 516) (μ.2.1 503))) 512 (cpF 24 (μ.2.1 517) (μ.2.1 512))).2.1 502 = cpF 79 (μ.2.1 515) (μ.2.1 502) := rfl
      have h503 : (sC (sC (sC (sC ν3 492 (up (up (up (μ.2.1 492) 0 0) 36 (I K)) 49 (I sn))) 502 (cpF 79 (μ.2.1 515) (μ.2.1 502))) 503 (cpF 3160 (μ.2.1 516) (μ.2.1 503))) 512 (cpF 24 (μ.2.1 517) (μ.2.1 512))).2.1 503 = cpF 3160 (μ.2.1 516) (μ.2.1 503) := rfl
      have h512 : (sC (sC (sC (sC ν3 492 (up (up (up (μ.2.1 492) 0 0) 36 (I K)) 49 (I sn))) 502 (cpF 79 (μ.2.1 515) (μ.2.1 502))) 503 (cpF 3160 (μ.2.1 516) (μ.2.1 503))) 512 (cpF 24 (μ.2.1 517) (μ.2.1 512))).2.1 512 = cpF 24 (μ.2.1 517) (μ.2.1 512) := rfl
      have hL : (sC (sC (sC (sC ν3 492 (up (up (up (μ.2.1 492) 0 0) 36 (I K)) 49 (I sn))) 502 (cpF 79 (μ.2.1 515) (μ.2.1 502))) 503 (cpF 3160 (μ.2.1 516) (μ.2.1 503))) 512 (cpF 24 (μ.2.1 517) (μ.2.1 512))).2.2 = ν3.2.2 := rfl
      have hM : (sC (sC (sC (sC ν3 492 (up (up (up (μ.2.1 492) 0 0) 36 (I K)) 49 (I sn))) 502 (cpF 79 (μ.2.1 515) (μ.2.1 502))) 503 (cpF 3160 (μ.2.1 516) (μ.2.1 503))) 512 (cpF 24 (μ.2.1 517) (μ.2.1 512))).1 = ν3.1 := rfl
      generalize sC (sC (sC (sC ν3 492 (up (up (up (μ.2.1 492) 0 0) 36 (I K)) 49 (I sn))) 502 (cpF 79 (μ.2.1 515) (μ.2.1 502))) 503 (cpF 3160 (μ.2.1 516) (μ.2.1 503))) 512 (cpF 24 (μ.2.1 517) (μ.2.1 512)) = X at hlo h49 h502 h503 h512 hL hM ⊢
      have hcl : ∀ c, c < 33 ∨ 244 ≤ c → c ≠ 492 → c ≠ 502 → c ≠ 503 → c ≠ 512 → X.2.1 c = μ.2.1 c := fun c h1 h2 h3 h4 h5 => (hlo c h2 h3 h4 h5).trans (fA.2.2.1 c (by omega))
      have hlg : ∀ c, c < 33 ∨ 244 ≤ c → X.2.2.1 c = μ.2.2.1 c := fun c h1 => by rw [hL]; exact fA.2.2.2 c (by omega)
      have hfd : ∀ f, f ≠ 0 → f ≠ 36 → f ≠ 49 → X.2.1 492 f = μ.2.1 492 f := fun f h1 h2 h3 => by rw [h49, up_n _ _ h3, up_n _ _ h2, up_n _ _ h1]
      refine hI.set ⟨hM.trans fA.1, fun a f _ => by rw [hL, fA.2.1], fun c h1 h2 => hcl c (by omega) (by omega) (by omega) (by omega) (by omega), fun c h1 => hlg c (by omega), hcl _ (by omega) (by decide) (by decide) (by decide) (by decide), hcl _ (by omega) (by decide) (by decide) (by decide) (by decide), fun f h1 h2 => hfd f (by omega) (by omega) (by omega)⟩ pG (S3.fr5 (fun c h1 h2 => hlo c (by omega) (by omega) (by omega) (by omega)) (by rw [hL])) ?_ ?_ ?_ (hI.imI.fr (by rw [hcl _ (by omega) (by decide) (by decide) (by decide) (by decide)]) (fun c h1 h2 => hcl c (by omega) (by omega) (by omega) (by omega) (by omega)) (fun c h1 h2 => hlg c (by omega)) (fun c h1 h2 => hcl c (by omega) (by omega) (by omega) (by omega) (by omega)) (fun f h1 h2 => hfd f (by omega) (by omega) (by omega))) (hI.taI.fr (by rw [hcl _ (by omega) (by decide) (by decide) (by decide) (by decide)]) (hfd _ (by decide) (by decide) (by decide)) (hcl _ (by omega) (by decide) (by decide) (by decide) (by decide)) (hcl _ (by omega) (by decide) (by decide) (by decide) (by decide))) ?_ ?_ ?_ ?_
      · intro q hq
        unfold rwb
        rw [Nat.zero_add, h502, cpF_in _ _ hq]
      · obtain ⟨o, ho, g0, g1, g3⟩ := A3
        refine ⟨K, o, hK, ho, ?_, ?_, ?_, ?_⟩
        · rw [hlo _ (by omega) (by omega) (by omega) (by omega)]; exact g0
        · rw [hlo _ (by omega) (by omega) (by omega) (by omega)]; exact g1
        · rw [h49, up_n _ _ (by decide), up_s]
        · intro i hi
          have hk : E79 (krow μ 516 i) (krow X 503 i) := by
            intro q hq
            unfold krow
            rw [h503, cpF_in _ _ (by omega)]
          exact ⟨((g3 i hi).fr5 (fun c h1 h2 => hlo c (by omega) (by omega) (by omega) (by omega)) (by rw [hL])).congr hC hk, (g2 i hi).2.congr hC hk⟩
      · refine ⟨sn, hsn, ?_, ?_, ?_⟩
        · rw [hlo _ (by omega) (by omega) (by omega) (by omega)]; exact z0'
        · rw [h49, up_s]
        · intro i hi
          obtain ⟨w, d', b', q1, q2, q3, q4, q5, q6, q7, q8, q9⟩ := s2 i hi
          obtain ⟨y1, y2, y3⟩ := z1' i (by omega)
          refine ⟨w, d', b', q1, q2, q3, ?_, ?_, ?_, ?_, ?_, ?_⟩
          · rw [hlo _ (by omega) (by omega) (by omega) (by omega)]; exact y1.trans q4
          · rw [hlo _ (by omega) (by omega) (by omega) (by omega)]; exact y2.trans q5
          · rw [hlo _ (by omega) (by omega) (by omega) (by omega)]; exact y3.trans q6
          · rw [h512, cpF_in _ _ (by omega)]; exact q7
          · rw [h512, cpF_in _ _ (by omega)]; exact q8
          · rw [h512, cpF_in _ _ (by omega)]; exact q9
      · rw [hcl _ (by omega) (by decide) (by decide) (by decide) (by decide), hfd _ (by decide) (by decide) (by decide)]; exact hI.faI
      · intro i hi
        rw [hcl _ (by omega) (by decide) (by decide) (by decide) (by decide), hcl _ (by omega) (by decide) (by decide) (by decide) (by decide)]
        exact hI.ref i hi
      · rw [hfd _ (by decide) (by decide) (by decide)]; exact hI.f41
      · rw [hfd _ (by decide) (by decide) (by decide)]; exact hI.f45
