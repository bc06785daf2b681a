/-! what was seen, the tape, fault, forget -/
def BS (μ ν : Mem) : Prop := ν.1 = μ.1 ∧ (∀ a f, ¬ (a = 455 ∧ f = 7) → ν.2.2.2 a f = μ.2.2.2 a f) ∧ (∀ c, c < 33 → c ∉ [0, 1, 2, 8, 11, 22, 25, 31, 32] → ν.2.1 c = μ.2.1 c) ∧ (∀ c, c < 33 → ν.2.2.1 c = μ.2.2.1 c) ∧ ν.2.1 493 = μ.2.1 493 ∧ ν.2.1 494 = μ.2.1 494 ∧ ∀ f, 1 ≤ f → f ≤ 4 → ν.2.1 492 f = μ.2.1 492 f
theorem BS.refl (μ : Mem) : BS μ μ := ⟨rfl, fun _ _ _ => rfl, fun _ _ _ => rfl, fun _ _ => rfl, rfl, rfl, fun _ _ _ => rfl⟩
theorem BS.trans {μ ν ξ : Mem} (h : BS μ ν) (h' : BS ν ξ) : BS μ ξ := ⟨h'.1.trans h.1, fun a f q => (h'.2.1 a f q).trans (h.2.1 a f q), fun c h1 h2 => (h'.2.2.1 c h1 h2).trans (h.2.2.1 c h1 h2), fun c h1 => (h'.2.2.2.1 c h1).trans (h.2.2.2.1 c h1), h'.2.2.2.2.1.trans h.2.2.2.2.1, h'.2.2.2.2.2.1.trans h.2.2.2.2.2.1, fun f h1 h2 => (h'.2.2.2.2.2.2 f h1 h2).trans (h.2.2.2.2.2.2 f h1 h2)⟩
theorem BS.c {μ : Mem} {c : Nat} (g : Row) (h : c = 0 ∨ c = 1 ∨ c = 2 ∨ 33 ≤ c) (h1 : c ≠ 492) (h2 : c ≠ 493) (h3 : c ≠ 494) : BS μ (sC μ c g) := by
  refine ⟨rfl, fun _ _ _ => rfl, fun d hd hn => sC_n μ g (fun e => ?_), fun _ _ => rfl, sC_n μ g (fun e => h2 e.symm), sC_n μ g (fun e => h3 e.symm), fun f _ _ => by rw [sC_n μ g (fun e => h1 e.symm)]⟩
  subst e
  simp at hn
  omega
theorem BS.f {μ : Mem} {f : Nat} (v : Int32) (h : f = 0 ∨ 5 ≤ f) : BS μ (sC μ 492 (up (μ.2.1 492) f v)) := by
  refine ⟨rfl, fun _ _ _ => rfl, fun d hd hn => sC_n μ _ (by omega), fun _ _ => rfl, sC_n μ _ (by decide), sC_n μ _ (by decide), fun g h1 h2 => by rw [sC_s, up_n _ _ (by omega)]⟩
theorem BS.l {μ : Mem} {c : Nat} (g : Nat → Int64) (h : 33 ≤ c) : BS μ (sLC μ c g) := ⟨rfl, fun _ _ _ => rfl, fun _ _ _ => rfl, fun d hd => sLC_n μ g (by omega), rfl, rfl, fun _ _ _ => rfl⟩
theorem BS.gr {μ ν : Mem} (h : BS μ ν) (hG : Gr μ) : Gr ν := ⟨h.1.trans hG.1, fun e he => by rw [h.2.1 _ _ (gfix_455 e he)]; exact hG.2 e he⟩
theorem AA.bs {μ ν : Mem} (h : AA μ ν) : BS μ ν := by
  refine ⟨h.1, h.2.1, fun c h1 h2 => ?_, fun c h1 => h.lg (by omega) (by omega), h.hi (by omega), h.hi (by omega), fun f h1 h2 => h.2.2.2.2 f (by simp; omega)⟩
  simp at h2
  exact h.lo (by omega) (by omega) (by omega) (by omega) (by omega) (by omega) (by omega)
theorem ActI.fr {C : Cel} {pc : Nat → Int32} {a rc rf : Nat} {μ ν : Mem} (hA : ActI C pc a (a + 2) rc rf μ) (h1 : ∀ c, a ≤ c → c < a + 202 → ν.2.1 c = μ.2.1 c) (h2 : ∀ c, a ≤ c → c < a + 202 → ν.2.2.1 c = μ.2.2.1 c) (h3 : ν.2.1 rc = μ.2.1 rc) (h4 : ν.2.1 492 rf = μ.2.1 492 rf) : ActI C pc a (a + 2) rc rf ν := by
  obtain ⟨K, o, g1, g2, g3, g4, g5, g6⟩ := hA
  have e2 : ∀ i, krow ν rc i = krow μ rc i := by
    intro i
    unfold krow
    rw [h3]
  refine ⟨K, o, g1, g2, by rw [h1 a (by omega) (by omega)]; exact g3, by rw [h1 a (by omega) (by omega)]; exact g4, by rw [h4]; exact g5, ?_⟩
  intro i hi
  rw [e2]
  exact ⟨(g6 i hi).1.fr (h1 _ (by omega) (by omega)) (h2 _ (by omega) (by omega)) (h1 _ (by omega) (by omega)) (h1 _ (by omega) (by omega)) (h1 _ (by omega) (by omega)) (h1 _ (by omega) (by omega)), (g6 i hi).2⟩
theorem SeeI.fr {C : Cel} {a rc rf : Nat} {μ ν : Mem} (hA : SeeI C a rc rf μ) (h1 : ∀ c, a ≤ c → c < a + 4 → ν.2.1 c = μ.2.1 c) (h3 : ν.2.1 rc = μ.2.1 rc) (h4 : ν.2.1 492 rf = μ.2.1 492 rf) : SeeI C a rc rf ν := by
  obtain ⟨n, g1, g2, g3, g4⟩ := hA
  refine ⟨n, g1, by rw [h1 a (by omega) (by omega)]; exact g2, by rw [h4]; exact g3, ?_⟩
  rw [h1 (a + 1) (by omega) (by omega), h1 (a + 2) (by omega) (by omega), h1 (a + 3) (by omega) (by omega), h3]
  exact g4
theorem SH.fr5 {C : Cel} {r : Row} {a : Nat} {μ ν : Mem} (h : SH C r a μ) (h1 : ∀ c, a ≤ c → c < a + 5 → ν.2.1 c = μ.2.1 c) (h2 : ν.2.2.1 a = μ.2.2.1 a) : SH C r a ν := h.fr (h1 _ (by omega) (by omega)) h2 (h1 _ (by omega) (by omega)) (h1 _ (by omega) (by omega)) (h1 _ (by omega) (by omega)) (h1 _ (by omega) (by omega))
theorem ImgI.fr {C : Cel} {pc : Nat → Int32} {μ ν : Mem} (h : ImgI C pc μ) (h0 : ν.2.1 0 10 = μ.2.1 0 10) (h1 : ∀ c, 244 ≤ c → c < 455 → ν.2.1 c = μ.2.1 c) (h2 : ∀ c, 244 ≤ c → c < 455 → ν.2.2.1 c = μ.2.2.1 c) (h3 : ∀ c, 515 ≤ c → c ≤ 517 → ν.2.1 c = μ.2.1 c) (h4 : ∀ f, 54 ≤ f → f ≤ 56 → ν.2.1 492 f = μ.2.1 492 f) : ImgI C pc ν := by
  unfold ImgI
  rw [h0, h4 54 (by omega) (by omega), h3 515 (by omega) (by omega)]
  rcases h with q | ⟨q1, q2, q3, q4, q5, q6⟩
  · exact Or.inl q
  · exact Or.inr ⟨q1, q2, q3.fr5 (fun c a b => h1 c (by omega) (by omega)) (h2 _ (by omega) (by omega)), q4, ActI.fr (a := 249) q5 (fun c a b => h1 c (by omega) (by omega)) (fun c a b => h2 c (by omega) (by omega)) (h3 _ (by omega) (by omega)) (h4 _ (by omega) (by omega)), q6.fr (fun c a b => h1 c (by omega) (by omega)) (h3 _ (by omega) (by omega)) (h4 _ (by omega) (by omega))⟩
theorem TapI.fr {μ ν : Mem} (h : TapI μ) (h0 : ν.2.1 0 1 = μ.2.1 0 1) (h1 : ν.2.1 492 8 = μ.2.1 492 8) (h2 : ν.2.1 1 = μ.2.1 1) (h3 : ν.2.1 495 = μ.2.1 495) : TapI ν := by
  unfold TapI
  rw [h0, h1, h2, h3]
  exact h
section Se
variable {C : Cel} {G Fd : List Itm} {pc : Nat → Int32} {k : Nat} {r : Row} {μ : Mem}
theorem INV.set (hI : INV C G Fd pc k r μ) {ν : Mem} {r' : Row} (h : BS μ ν) (hg : Good C pc r') (hS : SH C r' 33 ν) (hE : E79 (rwb ν 0) r') (hA : ActI C pc 38 40 503 36 ν) (hSee : SeeI C 240 512 49 ν) (hImg : ImgI C pc ν) (hT : TapI ν) (hf : ν.2.1 0 2 = ν.2.1 492 10) (hR : ∀ i, i < 3 → ν.2.1 2 i = ν.2.1 496 i) (h41 : ν.2.1 492 41 = -1) (h45 : ν.2.1 492 45 = 0) : INV C G Fd pc k r' ν := by
  obtain ⟨a1, a2, a3, a4, a5, a6, a7, a8, a9, a10, a11, a12, a13, a14, a15, a16, a17, a18, a19⟩ := hI
  refine ⟨h.gr a1, a2, a3, by rw [h.2.1 _ _ (by omega)]; exact a4, by rw [h.2.1 _ _ (by omega)]; exact a5, ?_, ?_, ?_, hg, hS, hE, hA, hSee, hImg, hT, hf, hR, h41, h45⟩
  · exact a6.fr (h.2.2.1 _ (by omega) (by simp; omega)) (h.2.2.2.1 _ (by omega)) (h.2.2.1 _ (by omega) (by simp; omega)) (h.2.2.1 _ (by omega) (by simp; omega)) (h.2.2.1 _ (by omega) (by simp; omega)) (h.2.2.1 _ (by omega) (by simp; omega)) (h.2.2.1 _ (by omega) (by simp; omega)) (h.2.2.1 _ (by omega) (by simp; omega))
  · refine ⟨h.gr a1, a2, ?_, ?_, ?_⟩
    · rw [h.2.2.2.2.2.2 1 (by omega) (by omega)]; exact a7.2.2.1
    · rw [h.2.2.2.2.2.2 2 (by omega) (by omega)]; exact a7.2.2.2.1
    · rw [h.2.2.2.2.1]; exact a7.2.2.2.2
  · unfold RK
    rw [h.2.2.2.2.2.1, h.2.2.2.2.2.2 3 (by omega) (by omega), h.2.2.2.2.2.2 4 (by omega) (by omega)]
    exact a8
theorem INV.acI (hI : INV C G Fd pc k r μ) : ActI C pc 38 40 503 36 μ := hI.2.2.2.2.2.2.2.2.2.2.2.1
theorem INV.seI (hI : INV C G Fd pc k r μ) : SeeI C 240 512 49 μ := hI.2.2.2.2.2.2.2.2.2.2.2.2.1
theorem INV.imI (hI : INV C G Fd pc k r μ) : ImgI C pc μ := hI.2.2.2.2.2.2.2.2.2.2.2.2.2.1
theorem INV.taI (hI : INV C G Fd pc k r μ) : TapI μ := hI.2.2.2.2.2.2.2.2.2.2.2.2.2.2.1
theorem INV.faI (hI : INV C G Fd pc k r μ) : μ.2.1 0 2 = μ.2.1 492 10 := hI.2.2.2.2.2.2.2.2.2.2.2.2.2.2.2.1
theorem INV.f41 (hI : INV C G Fd pc k r μ) : μ.2.1 492 41 = -1 := hI.2.2.2.2.2.2.2.2.2.2.2.2.2.2.2.2.2.1
theorem INV.f45 (hI : INV C G Fd pc k r μ) : μ.2.1 492 45 = 0 := hI.2.2.2.2.2.2.2.2.2.2.2.2.2.2.2.2.2.2
theorem INV.row0 (hI : INV C G Fd pc k r μ) : E79 (rwb μ 0) r := hI.2.2.2.2.2.2.2.2.2.2.1
theorem e79_fr {ν : Mem} (h : E79 (rwb μ 0) r) (e : ν.2.1 502 = μ.2.1 502) : E79 (rwb ν 0) r := by
  intro j hj
  unfold rwb
  rw [e]
  exact h j hj
/-- only what was seen, and the tape, and thrown, changes -/
theorem INV.low (hI : INV C G Fd pc k r μ) {ν : Mem} (h : BS μ ν) (h1 : ∀ c, 33 ≤ c → c < 240 → ν.2.1 c = μ.2.1 c) (h2 : ∀ c, 33 ≤ c → c < 455 → ν.2.2.1 c = μ.2.2.1 c) (h3 : ∀ c, 244 ≤ c → c < 455 → ν.2.1 c = μ.2.1 c) (h4 : ∀ c, c = 496 ∨ c = 502 ∨ c = 503 ∨ c = 515 ∨ c = 516 ∨ c = 517 → ν.2.1 c = μ.2.1 c) (h5 : ∀ f, f ≠ 0 → f ≠ 8 → f ≠ 49 → ν.2.1 492 f = μ.2.1 492 f) (h6 : ν.2.1 0 2 = μ.2.1 0 2 ∧ ν.2.1 0 10 = μ.2.1 0 10) (h7 : ν.2.1 2 = μ.2.1 2) (hSee : SeeI C 240 512 49 ν) (hT : TapI ν) : INV C G Fd pc k r ν := by
  refine hI.set h hI.good (hI.sh.fr5 (fun c a b => h1 c (by omega) (by omega)) (h2 _ (by omega) (by omega))) (e79_fr hI.row0 (h4 _ (by omega))) (ActI.fr (a := 38) hI.acI (fun c a b => h1 c (by omega) (by omega)) (fun c a b => h2 c (by omega) (by omega)) (h4 _ (by omega)) (h5 _ (by decide) (by decide) (by decide))) hSee (hI.imI.fr h6.2 h3 (fun c a b => h2 c (by omega) (by omega)) (fun c a b => h4 c (by omega)) (fun f a b => h5 f (by omega) (by omega) (by omega))) hT ?_ ?_ ?_ ?_
  · rw [h6.1, h5 10 (by decide) (by decide) (by decide)]; exact hI.faI
  · intro i hi
    rw [h7, h4 496 (by omega)]
    exact hI.ref i hi
  · rw [h5 41 (by decide) (by decide) (by decide)]; exact hI.f41
  · rw [h5 45 (by decide) (by decide) (by decide)]; exact hI.f45
theorem qa_see (hI : INV C G Fd pc k r μ) (a b c : Int32) : QA (fun μ => fL_see 0 a b c 518 μ) (fun ν => fX11_see 492 a b c ν) μ := by
  have hC := hI.2.1
  have hD := hC.1
  have hP := hC.2.1
  have hG := hI.1
  obtain ⟨t1, t2, t3, t4⟩ := thr0 μ
  by_cases ha : okP C a = true
  · by_cases hb : okD C b = true
    · obtain ⟨n, hn, s0, s1, s2⟩ := hI.seI
      by_cases hq : n < 8 ∧ okR c 0 20 = true
      · obtain ⟨hn8, hc⟩ := hq
        have hc' := hc
        have ha' := ha
        have hb' := hb
        obtain ⟨p, hpP, rfl⟩ := okP_ex hC ha
        obtain ⟨d, hdD, rfl⟩ := okD_ex hC hb
        obtain ⟨t, _, ht, rfl⟩ := okR_ex (by decide) hc (by decide)
        have cl : fX10_see 0 (I p) (I d) (I t) μ = some (.inl (I (n + 1)), sC (sC (sC (sC μ 241 (up (μ.2.1 241) n (I p))) 242 (up (μ.2.1 242) n (I d))) 243 (up (μ.2.1 243) n (I t))) 240 (up (μ.2.1 240) 0 (I (n + 1)))) := by
          unfold fX10_see fX8_keep
          rw [needP_ok hI, if_pos ha', bs]
          simp only
          rw [needD_ok hI, if_pos hb', bs]
          simp only
          rw [g_0_9 hG, bs, s0, if_pos (show I n < (8 : Int32) by rw [I_ltl (by omega) (by decide)]; exact hn8), if_neg (I_neg (by omega)), if_neg (by rw [l_ltI (by omega) (by decide)]; show ¬ 20 < t; omega), bs, s0, if_pos (show I n < (8 : Int32) by rw [I_ltl (by omega) (by decide)]; exact hn8), g_240_1 hG, bs, st_241 hn8, bs, g_240_2 (hG.sC _ _), bs, sC_n _ _ (show (240 : Nat) ≠ 241 by decide), s0, st_242 hn8, bs, g_240_3 ((hG.sC _ _).sC _ _), bs, sC_n _ _ (show (240 : Nat) ≠ 242 by decide), sC_n _ _ (show (240 : Nat) ≠ 241 by decide), s0, st_243 hn8, bs, bs, sI_C, bs, g_0_9 ((((hG.sC _ _).sC _ _).sC _ _).sC _ _), bs, sC_s, up_s]
          simp only [sC_n _ _ (show (240 : Nat) ≠ 241 by decide), sC_n _ _ (show (240 : Nat) ≠ 242 by decide), sC_n _ _ (show (240 : Nat) ≠ 243 by decide), sC_n _ _ (show (242 : Nat) ≠ 241 by decide), sC_n _ _ (show (243 : Nat) ≠ 242 by decide), sC_n _ _ (show (243 : Nat) ≠ 241 by decide), s0, I_addl]
        have hGc : ∀ x : Int64, Gr (sLC (sC (sC (sC (sC μ 241 (up (μ.2.1 241) n (I p))) 242 (up (μ.2.1 242) n (I d))) 243 (up (μ.2.1 243) n (I t))) 240 (up (μ.2.1 240) 0 (I (n + 1)))) 518 (up (μ.2.2.1 518) 0 x)) := fun x => ((((hG.sC _ _).sC _ _).sC _ _).sC _ _).sLC _ _
        have rf : ∀ ν, RC C (thr ν 0) → (thr ν 0).2.1 492 0 = 0 → (thr ν 0).2.1 492 49 = I n → fX11_see 492 (I p) (I d) (I t) ν = some (I (n + 1), sC (sC (thr ν 0) 512 (up (up (up ((thr ν 0).2.1 512) (3 * n) (I p)) (3 * n + 1) (I d)) (3 * n + 2) (I t))) 492 (up ((thr ν 0).2.1 492) 49 (I (n + 1)))) := by
          intro ν hR h0 h49
          unfold fX11_see
          rw [bs, sI_C, isPerson_ok hR h0, if_pos ha', bs]
          simp only
          rw [if_neg (by decide), isDeed_ok hR h0, if_pos hb', bs]
          simp only
          rw [if_neg (by decide), if_neg (by rw [h49, I_eql (by omega) (by decide)]; show ¬ n = 8; omega), show fX11_within (I t) (0 : Int32) (20 : Int32) = _ from within_ok (I t) 0 20, if_pos hc', if_neg (by decide), g_492_50 hR.1, bs, h49, l_mulI, st_512 (by show 3 * n < 24; omega), bs, g_492_50 (hR.1.sC _ _), bs, sC_n (thr ν 0) _ (show (492 : Nat) ≠ 512 by decide), h49, l_mulI, I_addl, st_512 (by show 3 * n + 1 < 24; omega), bs, sC_C, sC_s, g_492_50 (hR.1.sC _ _), bs, sC_n (thr ν 0) _ (show (492 : Nat) ≠ 512 by decide), h49, l_mulI, I_addl, st_512 (by show 3 * n + 2 < 24; omega), bs, sC_C, sC_s, bs, sI_C, sC_n (thr ν 0) _ (show (492 : Nat) ≠ 512 by decide), h49, I_addl]
          congr 2
        refine QA.mk0 (v := I (n + 1)) (ν := sC (sC (sC (sC μ 241 (up (μ.2.1 241) n (I p))) 242 (up (μ.2.1 242) n (I d))) 243 (up (μ.2.1 243) n (I t))) 240 (up (μ.2.1 240) 0 (I (n + 1)))) ?_ (rf _ ⟨(hGc _).sC _ _, hC, ?_, ?_, ?_⟩ ?_ ?_) ?_ ?_ ⟨C, G, Fd, pc, k, r, hI.low ?_ ?_ ?_ ?_ ?_ ?_ ?_ ?_ ?_ ?_⟩
        · show fL_see 0 (I p) (I d) (I t) 518 μ = _
          unfold fL_see
          rw [cl, bs]
          simp only
          rw [stL518, bs]
        · rw [sC_s, up_n _ _ (by decide)]; exact hI.rcc.2.2.1
        · rw [sC_s, up_n _ _ (by decide)]; exact hI.rcc.2.2.2.1
        · exact hI.rcc.2.2.2.2
        · rw [sC_s, up_s]
        · rw [sC_s, up_n _ _ (by decide)]; exact s1
        · rw [sC_s, up_n _ _ (by decide), sC_s, up_s]
        · show (sLC _ 518 _).2.2.1 518 0 = _
          rw [sLC_s, up_s]
        · refine ⟨rfl, fun _ _ _ => rfl, ?_, ?_, rfl, rfl, ?_⟩
          · intro c h1 h2
            rw [sC_n _ _ (by omega), sC_n _ _ (by omega), sC_n _ _ (by omega), sLC_i, sC_n _ _ (by omega), sC_n _ _ (by omega), sC_n _ _ (by omega), sC_n _ _ (by omega)]
          · intro c h1
            show (sLC _ 518 _).2.2.1 c = _
            rw [sLC_n _ _ (by omega)]
            rfl
          · intro f h1 h2
            rw [sC_s, up_n _ _ (by omega), sC_s, up_n _ _ (by omega)]
            rfl
        · intro c h1 h2
          rw [sC_n _ _ (by omega), sC_n _ _ (by omega), sC_n _ _ (by omega), sLC_i, sC_n _ _ (by omega), sC_n _ _ (by omega), sC_n _ _ (by omega), sC_n _ _ (by omega)]
        · intro c h1 h2
          show (sLC _ 518 _).2.2.1 c = _
          rw [sLC_n _ _ (by omega)]
          rfl
        · intro c h1 h2
          rw [sC_n _ _ (by omega), sC_n _ _ (by omega), sC_n _ _ (by omega), sLC_i, sC_n _ _ (by omega), sC_n _ _ (by omega), sC_n _ _ (by omega), sC_n _ _ (by omega)]
        · intro c h1
          rw [sC_n _ _ (by omega), sC_n _ _ (by omega), sC_n _ _ (by omega), sLC_i, sC_n _ _ (by omega), sC_n _ _ (by omega), sC_n _ _ (by omega), sC_n _ _ (by omega)]
        · intro f h1 h2 h3
          rw [sC_s, up_n _ _ h3, sC_s, up_n _ _ h1]
          rfl
        · exact ⟨rfl, rfl⟩
        · rfl
        · refine ⟨n + 1, by omega, ?_, ?_, ?_⟩
          · show up (μ.2.1 240) 0 (I (n + 1)) 0 = _
            rw [up_s]
          · rw [sC_s, up_s]
          · intro i hi
            have e1 : ∀ q, (up (up (up (μ.2.1 512) (3 * n) (I p)) (3 * n + 1) (I d)) (3 * n + 2) (I t)) q = if q = 3 * n + 2 then I t else if q = 3 * n + 1 then I d else if q = 3 * n then I p else μ.2.1 512 q := by
              intro q
              rw [up_e, up_e, up_e]
            by_cases e : i = n
            · subst e
              refine ⟨p, d, t, hpP, hdD, ht, ?_, ?_, ?_, ?_, ?_, ?_⟩
              · show up (μ.2.1 241) i (I p) i = _; rw [up_s]
              · show up (μ.2.1 242) i (I d) i = _; rw [up_s]
              · show up (μ.2.1 243) i (I t) i = _; rw [up_s]
              · show (up (up (up (μ.2.1 512) (3 * i) (I p)) (3 * i + 1) (I d)) (3 * i + 2) (I t)) (3 * i) = _
                rw [e1, if_neg (by omega), if_neg (by omega), if_pos rfl]
              · show (up (up (up (μ.2.1 512) (3 * i) (I p)) (3 * i + 1) (I d)) (3 * i + 2) (I t)) (3 * i + 1) = _
                rw [e1, if_neg (by omega), if_pos rfl]
              · show (up (up (up (μ.2.1 512) (3 * i) (I p)) (3 * i + 1) (I d)) (3 * i + 2) (I t)) (3 * i + 2) = _
                rw [e1, if_pos rfl]
            · obtain ⟨w, d', b', q1, q2, q3, q4, q5, q6, q7, q8, q9⟩ := s2 i (by omega)
              refine ⟨w, d', b', q1, q2, q3, ?_, ?_, ?_, ?_, ?_, ?_⟩
              · show up (μ.2.1 241) n (I p) i = _; rw [up_n _ _ e]; exact q4
              · show up (μ.2.1 242) n (I d) i = _; rw [up_n _ _ e]; exact q5
              · show up (μ.2.1 243) n (I t) i = _; rw [up_n _ _ e]; exact q6
              · show (up (up (up (μ.2.1 512) (3 * n) (I p)) (3 * n + 1) (I d)) (3 * n + 2) (I t)) (3 * i) = _
                rw [e1, if_neg (by omega), if_neg (by omega), if_neg (by omega)]; exact q7
              · show (up (up (up (μ.2.1 512) (3 * n) (I p)) (3 * n + 1) (I d)) (3 * n + 2) (I t)) (3 * i + 1) = _
                rw [e1, if_neg (by omega), if_neg (by omega), if_neg (by omega)]; exact q8
              · show (up (up (up (μ.2.1 512) (3 * n) (I p)) (3 * n + 1) (I d)) (3 * n + 2) (I t)) (3 * i + 2) = _
                rw [e1, if_neg (by omega), if_neg (by omega), if_neg (by omega)]; exact q9
        · refine hI.taI.fr rfl ?_ rfl rfl
          rw [sC_s, up_n _ _ (by decide), sC_s, up_n _ _ (by decide)]
          rfl
      · refine QA.refu hI (i := 2) (by decide) (v := -1) ?_ ?_
        · show fL_see 0 a b c 518 μ = _
          have cl : fX10_see 0 a b c μ = some (.inl (-1), sC μ 2 (up (μ.2.1 2) 2 (μ.2.1 2 2 + 1))) := by
            have q := crefuse hG (i := 2) (by decide) (fun μ10 => some ((Sum.inl (-1 : Int32) : Int32 ⊕ Nat), μ10))
            unfold fX10_see
            rw [needP_ok hI, if_pos ha, bs]
            simp only
            rw [needD_ok hI, if_pos hb, bs]
            simp only
            rw [g_0_9 hG, bs, s0]
            by_cases hn8 : n < 8
            · rw [if_pos (show I n < (8 : Int32) by rw [I_ltl (by omega) (by decide)]; exact hn8)]
              by_cases h1 : c < 0
              · rw [if_pos h1]; exact q
              · rw [if_neg h1]
                by_cases h2 : (20 : Int32) < c
                · rw [if_pos h2]; exact q
                · exact absurd ⟨hn8, okR_mk h1 h2⟩ hq
            · rw [if_neg (show ¬ I n < (8 : Int32) by rw [I_ltl (by omega) (by decide)]; exact hn8)]
              exact q
          unfold fL_see
          rw [cl, bs]
          simp only
          rw [stL518, bs]
          rfl
        · intro ν hν he
          obtain ⟨hR, h0, hr⟩ := rc_ref hI hν he
          have h49 : (thr ν 0).2.1 492 49 = I n := by rw [sC_s, up_n _ _ (by decide), he 492 (by decide)]; exact s1
          show fX11_see 492 a b c ν = _
          unfold fX11_see
          rw [bs, sI_C, isPerson_ok hR h0, if_pos ha, bs]
          simp only
          rw [if_neg (by decide), isDeed_ok hR h0, if_pos hb, bs]
          simp only
          rw [if_neg (by decide)]
          by_cases hn8 : n = 8
          · rw [if_pos (by rw [h49, hn8]; rfl), show fX11_refuses 492 (2 : Int32) _ = _ from rrefuse (i := 2) hR.1 (by decide), bs]
          · rw [if_neg (by rw [h49, I_eql (by omega) (by decide)]; exact hn8), show fX11_within c (0 : Int32) (20 : Int32) = _ from within_ok c 0 20, if_neg (fun q => hq ⟨by omega, q⟩), if_pos rfl, show fX11_refuses 492 (2 : Int32) _ = _ from rrefuse (i := 2) hR.1 (by decide), bs]
    · refine QA.thr1 hI (v := 0) ?_ ?_
      · show fL_see 0 a b c 518 μ = _
        unfold fL_see fX10_see
        rw [needP_ok hI, if_pos ha, bs]
        simp only
        rw [needD_ok hI, if_neg hb, bs]
        rfl
      · show fX11_see 492 a b c μ = _
        unfold fX11_see
        rw [bs, sI_C, isPerson_ok (t1.rc hI.rcc) t2, if_pos ha, bs]
        simp only
        rw [if_neg (by decide), isDeed_ok (t1.rc hI.rcc) t2, if_neg hb, bs]
        simp only [if_true]
  · refine QA.thr1 hI (v := 0) ?_ ?_
    · show fL_see 0 a b c 518 μ = _
      unfold fL_see fX10_see
      rw [needP_ok hI, if_neg ha, bs]
      rfl
    · show fX11_see 492 a b c μ = _
      unfold fX11_see
      rw [bs, sI_C, isPerson_ok (t1.rc hI.rcc) t2, if_neg ha, bs]
      simp only [if_true]
/-- fault, forget -/
theorem fault_ok (hI : INV C G Fd pc k r μ) : fX11_fault 492 μ = some (fX10_fault 0 μ, thr μ 0) ∧ IV (thr μ 0) := by
  obtain ⟨t1, t2, t3, t4⟩ := thr0 μ
  refine ⟨?_, C, G, Fd, pc, k, r, hI.q (t1.ag t3 t4)⟩
  unfold fX11_fault fX10_fault
  rw [bs, sI_C, sC_s, up_n _ _ (by decide), hI.faI]
theorem forget_ok (hI : INV C G Fd pc k r μ) : ∃ ν ξ, fX10_forget 0 μ = some ν ∧ fX11_forget 492 ν = some ξ ∧ IV ξ := by
  have hG := hI.1
  refine ⟨sC μ 240 (up (μ.2.1 240) 0 0), sC (thr (sC μ 240 (up (μ.2.1 240) 0 0)) 0) 492 (up ((thr (sC μ 240 (up (μ.2.1 240) 0 0)) 0).2.1 492) 49 0), ?_, ?_, C, G, Fd, pc, k, r, hI.low ?_ ?_ ?_ ?_ ?_ ?_ ⟨rfl, rfl⟩ rfl ?_ ?_⟩
  · unfold fX10_forget fX8_drop
    rw [g_0_9 hG, bs, bs, sI_C, bs]
  · unfold fX11_forget
    rw [bs, sI_C, bs, sI_C]
  · exact ((BS.c (c := 240) _ (by omega) (by decide) (by decide) (by decide)).trans (BS.f (f := 0) 0 (Or.inl rfl))).trans (BS.f (f := 49) 0 (Or.inr (by decide)))
  · intro c h1 h2
    rw [sC_n _ _ (by omega), sC_n _ _ (by omega), sC_n _ _ (by omega)]
  · intro c h1 h2
    rfl
  · intro c h1 h2
    rw [sC_n _ _ (by omega), sC_n _ _ (by omega), sC_n _ _ (by omega)]
  · intro c h1
    rw [sC_n _ _ (by omega), sC_n _ _ (by omega), sC_n _ _ (by omega)]
  · intro f h1 h2 h3
    rw [sC_s, up_n _ _ h3, sC_s, up_n _ _ h1]
    rfl
  · refine ⟨0, by omega, ?_, ?_, fun i hi => absurd hi (by omega)⟩
    · rw [sC_n _ _ (show (240 : Nat) ≠ 492 by decide), sC_n _ _ (show (240 : Nat) ≠ 492 by decide), sC_s, up_s]; rfl
    · rw [sC_s, up_s]; rfl
  · refine hI.taI.fr rfl ?_ rfl rfl
    rw [sC_s, up_n _ _ (by decide), sC_s, up_n _ _ (by decide)]
    rfl
end Se
