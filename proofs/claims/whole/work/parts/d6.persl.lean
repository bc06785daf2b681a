/-! LINES: a person, by both -/
section Pl
variable {B : Nat → Nat} {n q : Nat} {μ0 μ ν0 ν : Mem} {k : Nat} {C : Cel} {G Fd : List Itm} {pc : Nat → Int32} {r : Row}
theorem numr_f {w : Int32} {p : Nat} (hw : w ≠ 0) (h : RFl B n ν0 w p ν) (a b : Int32) : fX11_number 492 a b ν = some (0, ν) := by
  unfold fX11_number
  rw [if_pos (h.good hw)]
theorem body_person (hn : n ≤ 700) (hB : ∀ i, i < n → B i < 256) (hq : q = 3 ∨ q = 17) (h : CLs B n q μ0 k C G Fd pc r μ) (hw : tkS B n (Pq B n k) ≠ 0) : BOUT B n q μ0 ν0 k C G Fd r (rbod (if C.P = 6 then 1 else 0) 0 (fun ν => fX11_readsPerson 492 ν)) (fX6_readPerson 31 μ) := by
  have hcl := h
  obtain ⟨hb, h0, hE, hS, hA, hkn⟩ := h
  have hC := hA.1
  have hD6 := hC.1
  have hP6 := hC.2.1
  have hk1 := (S_k _ hw).2
  have s9 := q9 hq
  unfold fX6_readPerson
  rw [hb.2.2.2.1, bs, hE.2.1]
  by_cases hP : C.P < 6
  · obtain ⟨g1, e1, b1, g10, _⟩ := hb.adv hn hB
    have hq31 : q ≠ 31 := by omega
    have b2 := b1.c hq (c := q) (up (μ.2.1 q) 1 (I (C.P + 1))) (by omega)
    have f2 : (sC (sC μ 31 g1) q (up (μ.2.1 q) 1 (I (C.P + 1)))).2.1 31 0 = 0 := by rw [sC_n _ _ (by omega), sC_s, g10]; exact h0
    have Z2 : CZ C q (sC (sC μ 31 g1) q (up (μ.2.1 q) 1 (I (C.P + 1)))) := by
      refine ⟨by rw [sC_s, up_n _ _ (by decide)]; exact hE.1, fun d hd => ?_⟩
      rw [sC_n _ _ (by omega), sC_n _ _ (by omega), hE.2.2.2.1 d (by omega), if_pos hd]
    rw [if_pos (show I C.P < (6 : Int32) by rw [I_ltl (by omega) (by decide)]; exact hP), e1, bs, b1.2.2.2.1, bs, bs, sI_C, sC_n _ _ hq31, hE.2.1, I_addl, show C.P + OfNat.ofNat 1 = C.P + 1 from rfl, b2.2.2.2.1, bs, (cel_g b2.2.1 hq).2.2.2.2.1, bs, b2.2.1.at s9, bs]
    -- the reference begins
    have rbeg : ∀ ν, RLs B n ν0 k C G Fd r ν → ∃ ν1, rbod (if C.P = 6 then 1 else 0) 0 (fun ν => fX11_readsPerson 492 ν) ν = fX11_readsPerson 492 ν1 ∧ RLs B n ν0 (k + 1) C G Fd r ν1 := by
      intro ν hν
      obtain ⟨ν1, u1, u2⟩ := beg_ok hn hB hν
      refine ⟨ν1, ?_, u2⟩
      unfold rbod
      rw [if_neg (by omega), u1, bs]
      simp only
      rw [if_neg (by decide)]
    have rz : ∀ ν1 j, RLs B n ν0 j C G Fd r ν1 → RZ C ν1 := fun ν1 j u => ⟨u.2.2.1, u.2.2.2.2.1⟩
    rcases place_ok (ν0 := ν0) hn hB hq hC b2 f2 Z2 with ⟨x, g2, e3, b3, g20, hx, hS2, rx⟩ | ⟨w, p, g2, e3, F3, rx⟩
    · have kd11 : kd (q + 9 + 2) = (0, 6) := (st_at (q + 9) s9).2
      have b4 := b3.c hq (c := q + 9 + 2) (up (μ.2.1 (q + 9 + 2)) C.P (I x)) (by omega)
      have m11 : (sC (sC (sC μ 31 g1) q (up (μ.2.1 q) 1 (I (C.P + 1)))) 31 g2).2.1 (q + 9 + 2) = μ.2.1 (q + 9 + 2) := by rw [sC_n _ _ (by omega), sC_n _ _ (by omega), sC_n _ _ (by omega)]
      rw [e3, bs]
      simp only
      rw [stI_I kd11 hP (by omega), bs, m11, b4.2.2.2.1, bs, (cel_g b4.2.1 hq).2.1, bs]
      have f4 : (sC (sC (sC (sC μ 31 g1) q (up (μ.2.1 q) 1 (I (C.P + 1)))) 31 g2) (q + 9 + 2) (up (μ.2.1 (q + 9 + 2)) C.P (I x))).2.1 31 0 = 0 := by rw [sC_n _ _ (by omega), sC_s]; exact g20
      obtain ⟨n1, n2⟩ := b4.num hn hB f4 10 (w := 2) (by decide)
      have kd2 := (cel_k hq).2.1
      -- the reference at the pace
      have rpl : ∀ ν, RLs B n ν0 k C G Fd r ν → ∃ ν1 N2, RLs B n ν0 (k + 1) C G Fd r ν1 ∧ RLb B n ν0 (k + 1 + 2) N2 ∧ N2.2.1 492 9 = 0 ∧ (∀ f, 19 ≤ f → N2.2.1 492 f = ν1.2.1 492 f) ∧ N2.2.1 497 = ν1.2.1 497 ∧ N2.2.1 499 = ν1.2.1 499 ∧ N2.2.1 498 = up (ν1.2.1 498) (55 + C.P) (I x) ∧ rbod (if C.P = 6 then 1 else 0) 0 (fun ν => fX11_readsPerson 492 ν) ν = ((fX11_number 492 (0 : Int32) (9 : Int32) N2).bind fun y => (stI y.2 498 (I (73 + C.P)) y.1).bind fun μ20 => (gR μ20 492 30 0).bind fun a23 => (stI μ20 a23 (I (61 + C.P)) (-1 : Int32)).bind fun μ26 => if (fX11_isGood 492 μ26) = 0 then (if (fX11_isGood 492 μ26) = 0 then some μ26 else (some (sI μ26 492 21 ((μ26.2.1 492 21) + (1 : Int32)))).bind fun μ35 => some μ35) else (fX11_knownWord 492 μ26).bind fun r39 => if r39 = (11 : Int32) then (fX11_goes 492 μ26).bind fun μ43 => (gR μ43 492 30 0).bind fun a46 => (fX11_readsPlace 492 μ43).bind fun z => (stI z.2 a46 (I (61 + C.P)) z.1).bind fun μ54 => if (fX11_isGood 492 μ54) = 0 then some μ54 else (some (sI μ54 492 21 ((μ54.2.1 492 21) + (1 : Int32)))).bind fun μ60 => some μ60 else if (fX11_isGood 492 μ26) = 0 then some μ26 else (some (sI μ26 492 21 ((μ26.2.1 492 21) + (1 : Int32)))).bind fun μ66 => some μ66) := by
        intro ν hν
        obtain ⟨ν1, u1, u2⟩ := rbeg ν hν
        obtain ⟨g', l', w1, w2, w3⟩ := rx ν1 u2.1 u2.2.1 (rz _ _ u2)
        refine ⟨ν1, sC (rM ν1 g' l') 498 (up (ν1.2.1 498) (55 + C.P) (I x)), u2, w2.c _ (by omega), ?_, ?_, ?_, ?_, by rw [sC_s], ?_⟩
        · rw [sC_n _ _ (by decide), rM_g, w3 9 (by omega)]; exact u2.2.1
        · intro f hf; rw [sC_n _ _ (by decide), rM_g, w3 f (by omega)]
        · rw [sC_n _ _ (by decide), rM_n _ _ _ (by decide)]
        · rw [sC_n _ _ (by decide), rM_n _ _ _ (by decide)]
        · rw [u1]
          unfold fX11_readsPerson
          rw [g_492_30 u2.1.1.1, bs, w1, bs]
          simp only
          rw [u2.2.2.2.1, l_addI, st_498 (by show 55 + C.P < 79; omega), bs, rM_n _ _ _ (by decide : (498 : Nat) ≠ 492), g_492_30 (w2.1.1.sC _ _), bs, l_addI, l_addI]
      by_cases hN : isN B n (k + 1 + 2) 10
      · have hV := tkV_lt hB hN.1
        obtain ⟨pv, hpv⟩ : ∃ pv, tkV B n (Pq B n (k + 1 + 2)) = pv := ⟨_, rfl⟩
        have b5 := b4.c hq (c := q + 2) (up (μ.2.1 (q + 2)) C.P (I pv)) (by omega)
        have m2 : (sC (sC (sC (sC μ 31 g1) q (up (μ.2.1 q) 1 (I (C.P + 1)))) 31 g2) (q + 9 + 2) (up (μ.2.1 (q + 9 + 2)) C.P (I x))).2.1 (q + 2) = μ.2.1 (q + 2) := by rw [sC_n _ _ (by omega), sC_n _ _ (by omega), sC_n _ _ (by omega), sC_n _ _ (by omega)]
        have hS3 := isN_S hN
        obtain ⟨g3, e6, b6, g30, _⟩ := b5.adv hn hB
        have f5 : (sC (sC (sC (sC (sC μ 31 g1) q (up (μ.2.1 q) 1 (I (C.P + 1)))) 31 g2) (q + 9 + 2) (up (μ.2.1 (q + 9 + 2)) C.P (I x))) (q + 2) (up (μ.2.1 (q + 2)) C.P (I pv))).2.1 31 0 = 0 := by rw [sC_n _ _ (by omega)]; exact f4
        have f6 : (sC (sC (sC (sC (sC (sC μ 31 g1) q (up (μ.2.1 q) 1 (I (C.P + 1)))) 31 g2) (q + 9 + 2) (up (μ.2.1 (q + 9 + 2)) C.P (I x))) (q + 2) (up (μ.2.1 (q + 2)) C.P (I pv))) 31 g3).2.1 31 0 = 0 := by rw [sC_s, g30]; exact f5
        have k3n := (S_k _ hS3).2
        rw [n1 hN, bs]
        simp only
        rw [hpv, stI_I kd2 hP (by omega), bs, m2, if_pos f5, e6, bs, if_pos f6, is_w_to hn hB b6.1 (Pq_le _) b6.2.2.1, bs]
        -- the reference behind the pace
        have rnx : ∀ ν, RLs B n ν0 k C G Fd r ν → ∃ ν1 N5, RLs B n ν0 (k + 1) C G Fd r ν1 ∧ RLb B n ν0 (k + 1 + 2 + 1) N5 ∧ N5.2.1 492 9 = 0 ∧ (∀ f, 19 ≤ f → N5.2.1 492 f = ν1.2.1 492 f) ∧ N5.2.1 497 = ν1.2.1 497 ∧ N5.2.1 499 = ν1.2.1 499 ∧ N5.2.1 498 = up (up (up (ν1.2.1 498) (55 + C.P) (I x)) (73 + C.P) (I pv)) (61 + C.P) (-1) ∧ rbod (if C.P = 6 then 1 else 0) 0 (fun ν => fX11_readsPerson 492 ν) ν = (if KW B n (Pq B n (k + 1 + 2 + 1)) = 11 then (fX11_goes 492 N5).bind fun μ43 => (gR μ43 492 30 0).bind fun a46 => (fX11_readsPlace 492 μ43).bind fun z => (stI z.2 a46 (I (61 + C.P)) z.1).bind fun μ54 => if (fX11_isGood 492 μ54) = 0 then some μ54 else (some (sI μ54 492 21 ((μ54.2.1 492 21) + (1 : Int32)))).bind fun μ60 => some μ60 else (some (sI N5 492 21 ((N5.2.1 492 21) + (1 : Int32))))) := by
          intro ν hν
          obtain ⟨ν1, N2, v1, v2, v3, v4, v5, v6, v7, v8⟩ := rpl ν hν
          obtain ⟨g', l', w1, w2, w3⟩ := (v2.nine hn hB v3).1 hN
          rw [hpv] at w1
          have R4 := (w2.c (c := 498) (up (N2.2.1 498) (73 + C.P) (I pv)) (by omega)).c (c := 498) (up (up (N2.2.1 498) (73 + C.P) (I pv)) (61 + C.P) (-1)) (by omega)
          have d9 : (sC (sC (rM N2 g' l') 498 (up (N2.2.1 498) (73 + C.P) (I pv))) 498 (up (up (N2.2.1 498) (73 + C.P) (I pv)) (61 + C.P) (-1))).2.1 492 9 = 0 := by rw [sC_n _ _ (by decide), sC_n _ _ (by decide), rM_g, w3 9 (by omega)]; exact v3
          refine ⟨ν1, sC (sC (rM N2 g' l') 498 (up (N2.2.1 498) (73 + C.P) (I pv))) 498 (up (up (N2.2.1 498) (73 + C.P) (I pv)) (61 + C.P) (-1)), v1, R4, d9, ?_, ?_, ?_, ?_, ?_⟩
          · intro f hf; rw [sC_n _ _ (by decide), sC_n _ _ (by decide), rM_g, w3 f (by omega), v4 f hf]
          · rw [sC_n _ _ (by decide), sC_n _ _ (by decide), rM_n _ _ _ (by decide), v5]
          · rw [sC_n _ _ (by decide), sC_n _ _ (by decide), rM_n _ _ _ (by decide), v6]
          · rw [sC_s, v7]
          · rw [v8, w1, bs]
            simp only
            rw [st_498 (by omega), bs, rM_n _ _ _ (by decide : (498 : Nat) ≠ 492), g_492_30 (w2.1.1.sC _ _), bs, st_498 (by omega), bs, sC_s, if_neg (goodL d9), R4.word hn, bs]
            by_cases z : KW B n (Pq B n (k + 1 + 2 + 1)) = 11
            · rw [if_pos (show (if KW B n (Pq B n (k + 1 + 2 + 1)) = 17 then (-1 : Int32) else I (KW B n (Pq B n (k + 1 + 2 + 1)))) = (11 : Int32) from (kwv 11 (by decide)).mpr z), if_pos z]
            · rw [if_neg (show ¬ (if KW B n (Pq B n (k + 1 + 2 + 1)) = 17 then (-1 : Int32) else I (KW B n (Pq B n (k + 1 + 2 + 1)))) = (11 : Int32) from fun e => z ((kwv 11 (by decide)).mp e)), if_neg z, if_neg (goodL d9), bs]
        by_cases hto : KW B n (Pq B n (k + 1 + 2 + 1)) = 11
        · have hS4 : tkS B n (Pq B n (k + 1 + 2 + 1)) ≠ 0 := by rw [KW_S (by omega)]; decide
          obtain ⟨g4, e7, b7, g40, _⟩ := b6.adv hn hB
          rw [sC_C] at e7 b7
          have f7 : (sC (sC (sC (sC (sC (sC μ 31 g1) q (up (μ.2.1 q) 1 (I (C.P + 1)))) 31 g2) (q + 9 + 2) (up (μ.2.1 (q + 9 + 2)) C.P (I x))) (q + 2) (up (μ.2.1 (q + 2)) C.P (I pv))) 31 g4).2.1 31 0 = 0 := by rw [sC_s, g40]; exact f6
          have Z7 : CZ C q (sC (sC (sC (sC (sC (sC μ 31 g1) q (up (μ.2.1 q) 1 (I (C.P + 1)))) 31 g2) (q + 9 + 2) (up (μ.2.1 (q + 9 + 2)) C.P (I x))) (q + 2) (up (μ.2.1 (q + 2)) C.P (I pv))) 31 g4) := by
            refine ⟨?_, fun d hd => ?_⟩
            · rw [sC_n _ _ (by omega), sC_n _ _ (by omega), sC_n _ _ (by omega), sC_n _ _ (by omega)]; exact Z2.1
            · rw [sC_n _ _ (by omega), sC_n _ _ (by omega), sC_n _ _ (by omega), sC_n _ _ (by omega)]; exact Z2.2 d hd
          have kd12 : kd (q + 9 + 3) = (0, 6) := (st_sent (q + 9) s9).2
          rw [if_pos hto, if_neg (show ¬ (1 : Int32) = 0 by decide), e7, bs, b7.2.2.2.1, bs, (cel_g b7.2.1 hq).2.2.2.2.1, bs, b7.2.1.sent s9, bs]
          rcases place_ok (ν0 := ν0) hn hB hq hC b7 f7 Z7 with ⟨y, g5, e8, b8, g50, hy, hS5, ry⟩ | ⟨w, p, g5, e8, F8, ry⟩
          · rw [sC_C] at e8 b8
            have m12 : (sC (sC (sC (sC (sC (sC μ 31 g1) q (up (μ.2.1 q) 1 (I (C.P + 1)))) 31 g2) (q + 9 + 2) (up (μ.2.1 (q + 9 + 2)) C.P (I x))) (q + 2) (up (μ.2.1 (q + 2)) C.P (I pv))) 31 g5).2.1 (q + 9 + 3) = μ.2.1 (q + 9 + 3) := by rw [sC_n _ _ (by omega), sC_n _ _ (by omega), sC_n _ _ (by omega), sC_n _ _ (by omega), sC_n _ _ (by omega), sC_n _ _ (by omega)]
            have b9 := b8.c hq (c := q + 9 + 3) (up (μ.2.1 (q + 9 + 3)) C.P (I y)) (by omega)
            rw [e8, bs]
            simp only
            rw [stI_I kd12 hP (by omega), bs, m12]
            have hkk := (S_k _ hS5).2
            obtain ⟨pe, ps⟩ := pers_C hq hP hcl (μF := sC (sC (sC (sC (sC (sC (sC μ 31 g1) q (up (μ.2.1 q) 1 (I (C.P + 1)))) 31 g2) (q + 9 + 2) (up (μ.2.1 (q + 9 + 2)) C.P (I x))) (q + 2) (up (μ.2.1 (q + 2)) C.P (I pv))) 31 g5) (q + 9 + 3) (up (μ.2.1 (q + 9 + 3)) C.P (I y))) (x := x) (pv := pv) (v := I y) (by rw [sC_n _ _ (by omega), sC_n _ _ (by omega), sC_n _ _ (by omega), sC_n _ _ (by omega), sC_n _ _ (by omega), sC_s]) (by rw [sC_n _ _ (by omega), sC_n _ _ (by omega), sC_s]) (by rw [sC_n _ _ (by omega), sC_n _ _ (by omega), sC_n _ _ (by omega)]; exact sC_s _ _ _) (by exact sC_s _ _ _) (fun c c1 c2 c3 c4 c5 c6 => by rw [sC_n _ _ (by omega), sC_n _ _ (by omega), sC_n _ _ (by omega), sC_n _ _ (by omega), sC_n _ _ (by omega), sC_n _ _ (by omega), sC_n _ _ (by omega)]) (fun c _ _ => rfl)
            refine ⟨_, rfl, Or.inl ⟨k + 1 + 2 + 1 + 1 + 2, Cp C, G, Fd, up pc C.P (I pv), rP C r x pv (I y), by omega, ⟨b9, by rw [sC_n _ _ (by omega), sC_s]; exact g50, pe, ps, hA.pers hP hx (Or.inr ⟨y, rfl, hy⟩), by omega⟩, ?_⟩⟩
            intro ν hν
            obtain ⟨ν1, N5, v1, v2, v3, v4, v5, v6, v7, v8⟩ := rnx ν hν
            obtain ⟨g', l', w1, w2, w3⟩ := v2.goes hn hB
            have d9 : (rM N5 g' l').2.1 492 9 = 0 := by rw [rM_g, w3 9 (by omega)]; exact v3
            obtain ⟨g'', l'', x1, x2, x3⟩ := ry (rM N5 g' l') w2 d9 ⟨by rw [rM_g, w3 20 (by omega), v4 20 (by omega)]; exact v1.2.2.1, by rw [rM_n _ _ _ (by decide), v5]; exact v1.2.2.2.2.1⟩
            have x3' : ∀ f, f < 13 ∨ 19 ≤ f → g'' f = N5.2.1 492 f := fun f hf => by rw [x3 f hf, rM_g, w3 f hf]
            have d9' : (sC (rM (rM N5 g' l') g'' l'') 498 (up ((rM (rM N5 g' l') g'' l'').2.1 498) (61 + C.P) (I y))).2.1 492 9 = 0 := by rw [sC_n _ _ (by decide), rM_g, x3' 9 (by omega)]; exact v3
            have RF := (x2.c (c := 498) (up ((rM (rM N5 g' l') g'' l'').2.1 498) (61 + C.P) (I y)) (by omega)).f (f := 21) (I (C.P + 1)) (by omega)
            refine ⟨_, ?_, RF, ?_, pers_R v1.2.2 (by omega) (x := x) (pv := pv) (v := I y) ?_ ?_ ?_ ?_ ?_⟩
            · rw [v8, if_pos hto, w1, bs, g_492_30 w2.1.1, bs, x1, bs]
              simp only
              rw [st_498 (by omega), bs, if_neg (goodL d9'), bs, sI_C, sC_n _ _ (by decide : (492 : Nat) ≠ 498), rM_g, x3' 21 (by omega), v4 21 (by omega), v1.2.2.2.1, I_addl]
            · rw [sC_s, up_n _ _ (by decide)]; exact d9'
            · rw [sC_s, up_s]
            · intro f hf
              rw [sC_s, up_n _ _ (by omega), sC_n _ _ (by decide), rM_g, x3' f (by omega), v4 f (by omega)]
            · rw [sC_n _ _ (by decide), sC_n _ _ (by decide), rM_n _ _ _ (by decide), rM_n _ _ _ (by decide), v5]
            · rw [sC_n _ _ (by decide), sC_n _ _ (by decide), rM_n _ _ _ (by decide), rM_n _ _ _ (by decide), v6]
            · rw [sC_n _ _ (by decide), sC_s, rM_n _ _ _ (by decide), rM_n _ _ _ (by decide), v7, up_up]
          · rw [e8, bs]
            simp only
            rw [stI_I kd12 hP (by omega), bs]
            refine ⟨_, rfl, Or.inr ⟨w, p, F8.c hq _ (by omega), ?_⟩⟩
            intro ν hν
            obtain ⟨ν1, N5, v1, v2, v3, v4, v5, v6, v7, v8⟩ := rnx ν hν
            obtain ⟨g', l', w1, w2, w3⟩ := v2.goes hn hB
            have d9 : (rM N5 g' l').2.1 492 9 = 0 := by rw [rM_g, w3 9 (by omega)]; exact v3
            obtain ⟨N7, x1, x2, _⟩ := ry (rM N5 g' l') w2 d9 ⟨by rw [rM_g, w3 20 (by omega), v4 20 (by omega)]; exact v1.2.2.1, by rw [rM_n _ _ _ (by decide), v5]; exact v1.2.2.2.2.1⟩
            have x2' := x2.c (c := 498) (up (N7.2.1 498) (61 + C.P) (-1)) (by omega)
            refine ⟨_, ?_, x2'⟩
            rw [v8, if_pos hto, w1, bs, g_492_30 w2.1.1, bs, x1, bs]
            simp only
            rw [st_498 (by omega), bs, if_pos (x2'.good F8.1)]
        · rw [if_neg hto, if_pos rfl]
          have up12 : ∀ p, up (μ.2.1 (q + 12)) C.P (-1) p = μ.2.1 (q + 12) p := by
            intro p
            rw [up_e]
            split
            · rename_i z
              have := hS.2.2.2.2.2.1 p (by omega)
              rw [if_neg (by omega)] at this
              exact this.symm
            · rfl
          obtain ⟨pe, ps⟩ := pers_C hq hP hcl (μF := sC (sC (sC (sC (sC (sC μ 31 g1) q (up (μ.2.1 q) 1 (I (C.P + 1)))) 31 g2) (q + 9 + 2) (up (μ.2.1 (q + 9 + 2)) C.P (I x))) (q + 2) (up (μ.2.1 (q + 2)) C.P (I pv))) 31 g3) (x := x) (pv := pv) (v := -1) (by rw [sC_n _ _ (by omega), sC_n _ _ (by omega), sC_n _ _ (by omega), sC_n _ _ (by omega), sC_s]) (by rw [sC_n _ _ (by omega), sC_s]) (by rw [sC_n _ _ (by omega), sC_n _ _ (by omega)]; exact sC_s _ _ _) (by rw [sC_n _ _ (by omega), sC_n _ _ (by omega), sC_n _ _ (by omega), sC_n _ _ (by omega), sC_n _ _ (by omega), sC_n _ _ (by omega)]; funext p; exact (up12 p).symm) (fun c c1 c2 c3 c4 c5 c6 => by rw [sC_n _ _ (by omega), sC_n _ _ (by omega), sC_n _ _ (by omega), sC_n _ _ (by omega), sC_n _ _ (by omega), sC_n _ _ (by omega)]) (fun c _ _ => rfl)
          refine ⟨_, rfl, Or.inl ⟨k + 1 + 2 + 1, Cp C, G, Fd, up pc C.P (I pv), rP C r x pv (-1), by omega, ⟨b6, f6, pe, ps, hA.pers hP hx (Or.inl rfl), by omega⟩, ?_⟩⟩
          intro ν hν
          obtain ⟨ν1, N5, v1, v2, v3, v4, v5, v6, v7, v8⟩ := rnx ν hν
          have RF := v2.f (f := 21) (I (C.P + 1)) (by omega)
          refine ⟨_, ?_, RF, ?_, pers_R v1.2.2 (by omega) (x := x) (pv := pv) (v := -1) ?_ ?_ ?_ ?_ ?_⟩
          · rw [v8, if_neg hto, sI_C, v4 21 (by omega), v1.2.2.2.1, I_addl]
          · rw [sC_s, up_n _ _ (by decide)]; exact v3
          · rw [sC_s, up_s]
          · intro f hf
            rw [sC_s, up_n _ _ (by omega), v4 f (by omega)]
          · rw [sC_n _ _ (by decide), v5]
          · rw [sC_n _ _ (by decide), v6]
          · rw [sC_n _ _ (by decide), v7]
      · obtain ⟨g3, e5, F5⟩ := n2 hN
        have F6 := F5.c hq (c := q + 2) (up ((sC (sC (sC (sC (sC μ 31 g1) q (up (μ.2.1 q) 1 (I (C.P + 1)))) 31 g2) (q + 9 + 2) (up (μ.2.1 (q + 9 + 2)) C.P (I x))) 31 g3).2.1 (q + 2)) C.P 0) (by omega)
        rw [e5, bs]
        simp only
        rw [stI_I kd2 hP (by omega), bs, if_neg F6.ne, if_neg F6.ne]
        refine ⟨_, rfl, Or.inr ⟨_, k + 1 + 2, F6, ?_⟩⟩
        intro ν hν
        obtain ⟨ν1, N2, v1, v2, v3, v4, v5, v6, v7, v8⟩ := rpl ν hν
        obtain ⟨v, N3, w1, w2, _⟩ := (v2.nine hn hB v3).2 hN
        have w2' := (w2.c (c := 498) (up (N3.2.1 498) (73 + C.P) v) (by omega)).c (c := 498) (up ((sC N3 498 (up (N3.2.1 498) (73 + C.P) v)).2.1 498) (61 + C.P) (-1)) (by omega)
        refine ⟨_, ?_, w2'⟩
        rw [v8, w1, bs]
        simp only
        rw [st_498 (by omega), bs, g_492_30 (w2.1.1.sC _ _), bs, st_498 (by omega), bs, if_pos (w2'.good F6.1), if_pos (w2'.good F6.1)]
    · have kd11 : kd (q + 9 + 2) = (0, 6) := (st_at (q + 9) s9).2
      have F4 := F3.c hq (c := q + 9 + 2) (up ((sC (sC (sC μ 31 g1) q (up (μ.2.1 q) 1 (I (C.P + 1)))) 31 g2).2.1 (q + 9 + 2)) C.P (-1)) (by omega)
      obtain ⟨j4, b4⟩ := F4.2.1
      have F5 := F4.c hq (c := q + 2) (up ((sC (sC (sC (sC μ 31 g1) q (up (μ.2.1 q) 1 (I (C.P + 1)))) 31 g2) (q + 9 + 2) (up ((sC (sC (sC μ 31 g1) q (up (μ.2.1 q) 1 (I (C.P + 1)))) 31 g2).2.1 (q + 9 + 2)) C.P (-1))).2.1 (q + 2)) C.P 0) (by omega)
      have kd2 := (cel_k hq).2.1
      rw [e3, bs]
      simp only
      rw [stI_I kd11 hP (by omega), bs, b4.2.2.2.1, bs, (cel_g b4.2.1 hq).2.1, bs, num_f F4, bs]
      simp only
      rw [stI_I kd2 hP (by omega), bs, if_neg F5.ne, if_neg F5.ne]
      refine ⟨_, rfl, Or.inr ⟨w, p, F5, ?_⟩⟩
      intro ν hν
      obtain ⟨ν1, u1, u2⟩ := rbeg ν hν
      obtain ⟨N1, x1, x2, x21⟩ := rx ν1 u2.1 u2.2.1 (rz _ _ u2)
      have y1 := x2.c (c := 498) (up (N1.2.1 498) (55 + C.P) (-1)) (by omega)
      have y2 := y1.c (c := 498) (up ((sC N1 498 (up (N1.2.1 498) (55 + C.P) (-1))).2.1 498) (73 + C.P) 0) (by omega)
      have y3 := y2.c (c := 498) (up ((sC (sC N1 498 (up (N1.2.1 498) (55 + C.P) (-1))) 498 (up ((sC N1 498 (up (N1.2.1 498) (55 + C.P) (-1))).2.1 498) (73 + C.P) 0)).2.1 498) (61 + C.P) (-1)) (by omega)
      refine ⟨_, ?_, y3⟩
      rw [u1]
      unfold fX11_readsPerson
      rw [g_492_30 u2.1.1.1, bs, x1, bs]
      simp only
      rw [u2.2.2.2.1, l_addI, st_498 (by show 55 + C.P < 79; omega), bs, g_492_30 (x2.1.1.sC _ _), bs, show OfNat.ofNat 55 + C.P = 55 + C.P from rfl, numr_f F5.1 y1, bs]
      simp only
      rw [l_addI, st_498 (by show 73 + C.P < 79; omega), bs, g_492_30 ((x2.1.1.sC _ _).sC _ _), bs, l_addI, st_498 (by show 61 + C.P < 79; omega), bs, show OfNat.ofNat 73 + C.P = 73 + C.P from rfl, show OfNat.ofNat 61 + C.P = 61 + C.P from rfl, if_pos (y3.good F5.1), if_pos (y3.good F5.1)]
  · obtain ⟨g, e1, F1⟩ := hb.refuse h0 (w := 2) (by decide)
    rw [if_neg (show ¬ I C.P < (6 : Int32) by rw [I_ltl (by omega) (by decide)]; exact hP), e1, bs]
    refine ⟨_, rfl, Or.inr ⟨2, k, F1, ?_⟩⟩
    intro ν hν
    obtain ⟨ν1, u1, u2⟩ := beg_much hν
    refine ⟨ν1, ?_, u2⟩
    unfold rbod
    rw [if_pos (by omega), u1, bs]
    simp only
    rw [if_pos trivial]
end Pl
