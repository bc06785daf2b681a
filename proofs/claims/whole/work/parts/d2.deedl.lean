/-! LINES: a deed -/
section Dl
variable {B : Nat → Nat} {n q : Nat} {μ0 μ ν0 ν : Mem} {k : Nat} {C : Cel} {G Fd : List Itm} {pc : Nat → Int32} {r : Row}
theorem deed_f {w : Int32} {p : Nat} (h : CFl B n q μ0 w p μ) (m : Nat) (v1 v2 : Int32) : fX6_readDeed_39 (m + 1) 31 v1 v2 μ = some μ := by
  rw [fX6_readDeed_39, if_neg h.ne]
  split <;> rfl
/-- how often, as the reference has it -/
def v3D (B : Nat → Nat) (n k i : Nat) : Int32 := if i = 0 ∨ tkS B n (Pq B n (k + 1 + i)) = 2 then 1 else 0
theorem wNm_2 (hS : tkS B n (Pq B n k) = 2) : wNm B n k 2 = 2 := by
  unfold wNm
  rw [if_neg (by omega)]
  split <;> rfl
theorem deedL (hn : n ≤ 700) (hB : ∀ i, i < n → B i < 256) (hq : q = 3 ∨ q = 17) (hA : AI C pc r) (hD : C.D < 6) : ∀ f i r' μ m m', i + f = 8 → f + 1 < m → f + 1 < m' → CLb B n q μ0 (k + 1 + i) μ → μ.2.1 31 0 = 0 → CE (Ci C i) G Fd pc q μ → SH (Ci C i) r' (q + 9) μ → GI C r i r' → k + 1 + i ≤ n →
    ∃ μ', fX6_readDeed_39 m 31 (I C.D) (I i) μ = some μ' ∧ ((∃ j C' r'', k < j ∧ CLs B n q μ0 j C' G Fd pc r'' μ' ∧ ∀ ν, RLs B n ν0 (k + 1 + i) C G Fd r' ν → ∃ ν', fX11_readsDeed_9 m' 492 (I C.D) (I i) (v3D B n k i) ν = some ν' ∧ RLs B n ν0 j C' G Fd r'' ν') ∨ (∃ w p, CFl B n q μ0 w p μ' ∧ ∀ ν, RLs B n ν0 (k + 1 + i) C G Fd r' ν → ∃ ν', fX11_readsDeed_9 m' 492 (I C.D) (I i) (v3D B n k i) ν = some ν' ∧ RFl B n ν0 w p ν')) := by
  have hD6 := hA.1.1
  intro f
  induction f with
  | zero =>
    intro i r' μ m m' h1 h2 h3 hb h0 hE hS hGI hkn
    obtain ⟨m, rfl⟩ : ∃ j, m = j + 2 := ⟨m - 2, by omega⟩
    obtain ⟨m', rfl⟩ : ∃ j, m' = j + 1 := ⟨m' - 1, by omega⟩
    obtain rfl : i = 8 := by omega
    rw [fX6_readDeed_39, if_neg (by decide), if_pos h0, if_neg (by decide)]
    by_cases hs : tkS B n (Pq B n (k + 1 + 8)) = 2
    · have hv3 : v3D B n k 8 = 1 := by unfold v3D; rw [if_pos (Or.inr hs)]
      have hno : ¬ isN B n (k + 1 + 8) 0 := fun z => I_neg (by have := tkV_lt hB hs; omega) z.2.2
      obtain ⟨g, e1, F1⟩ := (hb.num hn hB h0 0 (w := 2) (by decide)).2 hno
      rw [wNm_2 hs] at F1
      rw [if_pos ((k257 hB hb.2.2.1).mpr hs), if_neg (by decide), e1, bs]
      simp only
      rw [if_neg F1.ne, deed_f F1]
      refine ⟨_, rfl, Or.inr ⟨2, k + 1 + 8, F1, ?_⟩⟩
      intro ν hν
      obtain ⟨ν1, e2, R1, _⟩ := hν.1.wrong hν.2.1 2
      have hnum : fX11_number 492 (0 : Int32) (9 : Int32) ν1 = some (0, ν1) := by
        unfold fX11_number
        rw [if_pos (R1.good (by decide))]
      refine ⟨ν1, ?_, R1⟩
      rw [hv3, fX11_readsDeed_9, if_neg (by decide), if_neg (goodL hν.2.1), if_pos (show I 8 = (8 : Int32) from rfl), hν.1.2.1.2.2.1, if_pos (by rw [hs]; rfl), e2, bs, hnum, bs]
      simp only
      rw [if_pos (R1.good (by decide))]
    · have hv3 : v3D B n k 8 = 0 := by unfold v3D; rw [if_neg (by omega)]
      rw [if_neg (fun z => hs ((k257 hB hb.2.2.1).mp z))]
      refine ⟨μ, rfl, Or.inl ⟨k + 1 + 8, Ci C 8, r', by omega, ⟨hb, h0, hE, hS, hGI.ai hA hD (by omega) (by omega), hkn⟩, ?_⟩⟩
      intro ν hν
      have hGν := hν.1.1.1
      refine ⟨sC (sC ν 497 (up (ν.2.1 497) C.D (I 8))) 492 (up (ν.2.1 492) 20 (I (C.D + 1))), ?_, ?_, ?_, ?_⟩
      · rw [hv3, fX11_readsDeed_9, if_pos rfl, g_492_29 hGν, bs, st_497 hD, bs, bs, sI_C, sC_n _ _ (by decide : (492 : Nat) ≠ 497), hν.2.2.1, I_addl]
      · have := (hν.1.c (c := 497) (up (ν.2.1 497) C.D (I 8)) (by omega)).f (f := 20) (I (C.D + 1)) (by omega)
        rw [sC_n _ _ (by decide : (492 : Nat) ≠ 497)] at this
        exact this
      · rw [sC_s, up_n _ _ (by decide)]; exact hν.2.1
      · obtain ⟨a1, a2, a3, a4, t, a5, a6, a7, a8⟩ := hν.2.2
        refine ⟨?_, ?_, ?_, ?_, t, ?_, a6, ?_, ?_⟩
        · rw [sC_s, up_s]; rfl
        · rw [sC_s, up_n _ _ (by decide)]; exact a2
        · intro d hd
          rw [sC_n _ _ (by decide), sC_s]
          show up (ν.2.1 497) C.D (I 8) d = I (up C.z C.D 8 d)
          by_cases z : d = C.D
          · rw [z, up_s, up_s]
          · rw [up_n _ _ z, up_n _ _ z]; exact a3 d (by have : d < C.D + 1 := hd; omega)
        · rw [sC_n _ _ (by decide), sC_n _ _ (by decide)]; exact a4
        · rw [sC_s, up_n _ _ (by decide)]; exact a5
        · rw [sC_n _ _ (by decide), sC_n _ _ (by decide), sC_s, up_n _ _ (by decide)]; exact a7
        · rw [sC_n _ _ (by decide), sC_n _ _ (by decide), sC_s, up_n _ _ (by decide)]; exact a8
  | succ f ih =>
    intro i r' μ m m' h1 h2 h3 hb h0 hE hS hGI hkn
    obtain ⟨m, rfl⟩ : ∃ j, m = j + 2 := ⟨m - 2, by omega⟩
    obtain ⟨m', rfl⟩ : ∃ j, m' = j + 1 := ⟨m' - 1, by omega⟩
    by_cases hgo : i = 0 ∨ tkS B n (Pq B n (k + 1 + i)) = 2
    · have hv3 : v3D B n k i = 1 := by unfold v3D; rw [if_pos hgo]
      -- the class's step
      have hcl : fX6_readDeed_39 (m + 1 + 1) 31 (I C.D) (I i) μ = (fX6_numberBelow 31 (10 : Int32) (2 : Int32) μ).bind fun x => if x.2.2.1 31 0 = 0 then (gR x.2 31 8 11).bind fun a6 => (fX1_addPlace a6 (I C.D) x.1 x.2).bind fun μ10 => (fX6_advance 31 μ10).bind fun μ14 => fX6_readDeed_39 (m + 1) 31 (I C.D) (I (i + 1)) μ14 else fX6_readDeed_39 (m + 1) 31 (I C.D) (I (i + 1)) x.2 := by
        rw [fX6_readDeed_39, if_neg (by rw [l_ltI (by omega) (by decide)]; show ¬ 8 < i; omega), if_pos h0]
        by_cases z : i = 0
        · rw [if_pos (show I i = 0 by rw [z]; rfl), if_pos (by rw [I_ltl (by omega) (by decide)]; show i < 8; omega), I_addl]
        · rw [if_neg (show ¬ I i = (0 : Int32) from fun e => z ((I_inj (m := 0) (by omega) (by omega)).mp e)), if_pos ((k257 hB hb.2.2.1).mpr (by omega)), if_pos (by rw [I_ltl (by omega) (by decide)]; show i < 8; omega), I_addl]
      obtain ⟨n1, n2⟩ := hb.num hn hB h0 10 (w := 2) (by decide)
      by_cases hN : isN B n (k + 1 + i) 10
      · have hSn : tkS B n (Pq B n (k + 1 + i)) ≠ 0 := by rw [hN.1]; decide
        have hk1 := (S_k _ hSn).2
        obtain ⟨μ1, e1, b1, e31, E1, S1⟩ := addPlace_ok hq hb h0 hD (by omega) hE hS (I (tkV B n (Pq B n (k + 1 + i))))
        obtain ⟨g, e2, b2, g0, g1⟩ := b1.adv hn hB
        have hq9 : q ≠ 31 ∧ q + 1 ≠ 31 ∧ q + 2 ≠ 31 ∧ q + 3 ≠ 31 ∧ q + 4 ≠ 31 ∧ q + 6 ≠ 31 ∧ q + 7 ≠ 31 := by omega
        have E2 : CE (Ci C (i + 1)) G Fd pc q (sC μ1 31 g) := E1.fr (sC_n _ _ (by omega)) rfl (sC_n _ _ (by omega)) (sC_n _ _ (by omega)) (sC_n _ _ (by omega)) (sC_n _ _ (by omega)) (sC_n _ _ (by omega)) (sC_n _ _ (by omega))
        have S2 := S1.c (c := 31) g (by omega)
        have b2' : CLb B n q μ0 (k + 1 + (i + 1)) (sC μ1 31 g) := b2
        obtain ⟨μ', e', O⟩ := ih (i + 1) _ (sC μ1 31 g) (m + 1) m' (by omega) (by omega) (by omega) b2' (by rw [sC_s, g0, e31]; exact h0) E2 S2 (hGI.next hD (by omega) _) (by omega)
        rw [hcl, n1 hN, bs]
        simp only
        rw [if_pos h0, hb.2.2.2.1, bs, e1, bs, e2, bs, e']
        -- the reference's step
        have hrs : ∀ ν, RLs B n ν0 (k + 1 + i) C G Fd r' ν → ∃ ν1, fX11_readsDeed_9 (m' + 1) 492 (I C.D) (I i) (v3D B n k i) ν = fX11_readsDeed_9 m' 492 (I C.D) (I (i + 1)) (v3D B n k (i + 1)) ν1 ∧ RLs B n ν0 (k + 1 + (i + 1)) C G Fd (up r' (1 + (8 * C.D + i)) (I (tkV B n (Pq B n (k + 1 + i))))) ν1 := by
          intro ν hν
          obtain ⟨g', l', u1, u2, u3⟩ := (hν.1.nine hn hB hν.2.1).1 hN
          have hG1 := u2.1.1
          have u9 : (rM ν g' l').2.1 492 9 = 0 := by rw [rM_g, u3 9 (by omega)]; exact hν.2.1
          have R1 : RLs B n ν0 (k + 1 + (i + 1)) C G Fd (up r' (1 + (8 * C.D + i)) (I (tkV B n (Pq B n (k + 1 + i))))) (sC (rM ν g' l') 498 (up (ν.2.1 498) (1 + (8 * C.D + i)) (I (tkV B n (Pq B n (k + 1 + i)))))) := by
            refine ⟨u2.c (c := 498) _ (by omega), by rw [sC_n _ _ (by decide)]; exact u9, ?_⟩
            have hfr := hν.2.2.fr (k' := k + 1 + (i + 1)) (ξ := rM ν g' l') (by omega) (fun f h1 h2 => by rw [rM_g, u3 f (by omega)]) (rM_n _ _ _ (by decide)) (rM_n _ _ _ (by decide)) (rM_n _ _ _ (by decide))
            obtain ⟨a1, a2, a3, a4, t, a5, a6, a7, a8⟩ := hfr
            have a4' := hν.2.2.2.2.2.1
            refine ⟨by rw [sC_n _ _ (by decide)]; exact a1, by rw [sC_n _ _ (by decide)]; exact a2, by rw [sC_n _ _ (by decide)]; exact a3, by rw [sC_s]; exact a4'.up _ _, t, by rw [sC_n _ _ (by decide)]; exact a5, a6, by rw [sC_n _ _ (by decide), sC_n _ _ (by decide)]; exact a7, by rw [sC_n _ _ (by decide), sC_n _ _ (by decide)]; exact a8⟩
          refine ⟨_, ?_, R1⟩
          rw [hv3, fX11_readsDeed_9, if_neg (by decide), if_neg (goodL hν.2.1), if_neg (show ¬ I i = (8 : Int32) from fun e => by have := (I_inj (m := 8) (by omega) (by omega)).mp e; omega), u1, bs]
          simp only
          rw [if_neg (goodL u9), g_492_30 hG1, bs, l_mulI, l_addI, I_add, st_498 (by show 1 + 8 * C.D + i < 79; omega), bs, I_addl, rM_n _ _ _ (by decide : (498 : Nat) ≠ 492)]
          have e14 := R1.1.2.1.2.2.1
          have hS4 := S_4 (B := B) (n := n) (Pq B n (k + 1 + (i + 1)))
          rw [show OfNat.ofNat 1 + OfNat.ofNat 8 * C.D + i = 1 + (8 * C.D + i) by show 1 + 8 * C.D + i = _; omega, e14]
          unfold v3D
          by_cases z : tkS B n (Pq B n (k + 1 + (i + 1))) = 2
          · rw [if_pos (show I (tkS B n (Pq B n (k + 1 + (i + 1)))) = (2 : Int32) by rw [z]; rfl), if_pos (Or.inr z)]
          · rw [if_neg (show ¬ I (tkS B n (Pq B n (k + 1 + (i + 1)))) = (2 : Int32) from fun e => z ((I_inj (m := 2) (by omega) (by omega)).mp e)), if_neg (by omega)]
        refine ⟨μ', rfl, ?_⟩
        rcases O with ⟨j, C', r'', y1, y2, y3⟩ | ⟨w, p, y1, y2⟩
        · refine Or.inl ⟨j, C', r'', y1, y2, ?_⟩
          intro ν hν
          obtain ⟨ν1, u1, u2⟩ := hrs ν hν
          rw [u1]
          exact y3 ν1 u2
        · refine Or.inr ⟨w, p, y1, ?_⟩
          intro ν hν
          obtain ⟨ν1, u1, u2⟩ := hrs ν hν
          rw [u1]
          exact y2 ν1 u2
      · obtain ⟨g, e1, F1⟩ := n2 hN
        rw [hcl, e1, bs]
        simp only
        rw [if_neg F1.ne, deed_f F1]
        refine ⟨_, rfl, Or.inr ⟨_, k + 1 + i, F1, ?_⟩⟩
        intro ν hν
        obtain ⟨v, ν1, u1, u2, _⟩ := (hν.1.nine hn hB hν.2.1).2 hN
        refine ⟨ν1, ?_, u2⟩
        rw [hv3, fX11_readsDeed_9, if_neg (by decide), if_neg (goodL hν.2.1), if_neg (show ¬ I i = (8 : Int32) from fun e => by have := (I_inj (m := 8) (by omega) (by omega)).mp e; omega), u1, bs]
        simp only
        rw [if_pos (u2.good F1.1)]
    · have hv3 : v3D B n k i = 0 := by unfold v3D; rw [if_neg hgo]
      rw [fX6_readDeed_39, if_neg (by rw [l_ltI (by omega) (by decide)]; show ¬ 8 < i; omega), if_pos h0, if_neg (show ¬ I i = (0 : Int32) from fun e => hgo (Or.inl ((I_inj (m := 0) (by omega) (by omega)).mp e))), if_neg (fun z => hgo (Or.inr ((k257 hB hb.2.2.1).mp z)))]
      refine ⟨μ, rfl, Or.inl ⟨k + 1 + i, Ci C i, r', by omega, ⟨hb, h0, hE, hS, hGI.ai hA hD (by omega) (by omega), hkn⟩, ?_⟩⟩
      intro ν hν
      have hGν := hν.1.1.1
      refine ⟨sC (sC ν 497 (up (ν.2.1 497) C.D (I i))) 492 (up (ν.2.1 492) 20 (I (C.D + 1))), ?_, ?_, ?_, ?_⟩
      · rw [hv3, fX11_readsDeed_9, if_pos rfl, g_492_29 hGν, bs, st_497 hD, bs, bs, sI_C, sC_n _ _ (by decide : (492 : Nat) ≠ 497), hν.2.2.1, I_addl]
      · have := (hν.1.c (c := 497) (up (ν.2.1 497) C.D (I i)) (by omega)).f (f := 20) (I (C.D + 1)) (by omega)
        rw [sC_n _ _ (by decide : (492 : Nat) ≠ 497)] at this
        exact this
      · rw [sC_s, up_n _ _ (by decide)]; exact hν.2.1
      · obtain ⟨a1, a2, a3, a4, t, a5, a6, a7, a8⟩ := hν.2.2
        refine ⟨?_, ?_, ?_, ?_, t, ?_, a6, ?_, ?_⟩
        · rw [sC_s, up_s]; rfl
        · rw [sC_s, up_n _ _ (by decide)]; exact a2
        · intro d hd
          rw [sC_n _ _ (by decide), sC_s]
          show up (ν.2.1 497) C.D (I i) d = I (up C.z C.D i d)
          by_cases z : d = C.D
          · rw [z, up_s, up_s]
          · rw [up_n _ _ z, up_n _ _ z]; exact a3 d (by have : d < C.D + 1 := hd; omega)
        · rw [sC_n _ _ (by decide), sC_n _ _ (by decide)]; exact a4
        · rw [sC_s, up_n _ _ (by decide)]; exact a5
        · rw [sC_n _ _ (by decide), sC_n _ _ (by decide), sC_s, up_n _ _ (by decide)]; exact a7
        · rw [sC_n _ _ (by decide), sC_n _ _ (by decide), sC_s, up_n _ _ (by decide)]; exact a8
/-- a line's body as the reference has it -/
def rbod (b1 b2 : Int32) (F : Mem → Option Mem) (ν : Mem) : Option Mem := (fX11_begins 492 b1 b2 ν).bind fun x => if x.1 = 0 then some x.2 else F x.2
theorem body_deed (hn : n ≤ 700) (hB : ∀ i, i < n → B i < 256) (hq : q = 3 ∨ q = 17) (h : CLs B n q μ0 k C G Fd pc r μ) (hw : tkS B n (Pq B n k) ≠ 0) : BOUT B n q μ0 ν0 k C G Fd r (rbod (if C.D = 6 then 1 else 0) 0 (fun ν => fX11_readsDeed 492 ν)) (fX6_readDeed 31 μ) := by
  obtain ⟨hb, h0, hE, hS, hA, hkn⟩ := h
  have hD6 := hA.1.1
  have hk1 := (S_k _ hw).2
  unfold fX6_readDeed
  rw [hb.2.2.2.1, bs, hE.1]
  by_cases hD : C.D < 6
  · obtain ⟨g, e1, b1, g0, g1⟩ := hb.adv hn hB
    have hq31 : q ≠ 31 := by omega
    rw [if_pos (show I C.D < (6 : Int32) by rw [I_ltl (by omega) (by decide)]; exact hD), e1, bs, b1.2.2.2.1, bs, bs, sI_C, sC_n _ _ hq31, hE.1, I_addl]
    have b2 := b1.c hq (c := q) (up (μ.2.1 q) 0 (I (C.D + 1))) (by omega)
    have hth : ∀ x, there (Ci C 0) x = there C x := Ci_0
    have hwh : wh (Ci C 0) r = wh C r := by funext x; unfold wh; rw [hth]
    have E2 : CE (Ci C 0) G Fd pc q (sC (sC μ 31 g) q (up (μ.2.1 q) 0 (I (C.D + 1)))) := by
      obtain ⟨e1, e2, e3, e4, e5, e6, e7, e8, e9, e10, e11⟩ := hE
      refine ⟨?_, ?_, ?_, ?_, ?_, ?_, ?_, ?_, ?_, e10, e11⟩
      · rw [sC_s, up_s]; rfl
      · rw [sC_s, up_n _ _ (by decide)]; exact e2
      · intro x; rw [hth]; exact e3 x
      · intro d hd
        rw [sC_n _ _ (by omega), sC_n _ _ (by omega), e4 d hd]
        by_cases z : d = C.D
        · rw [if_neg (by omega), if_pos (show d < (Ci C 0).D by show d < C.D + 1; omega)]
          show _ = I (up C.z C.D 0 d)
          rw [z, up_s]; rfl
        · by_cases z2 : d < C.D
          · rw [if_pos z2, if_pos (show d < (Ci C 0).D by show d < C.D + 1; omega)]
            show _ = I (up C.z C.D 0 d)
            rw [up_n _ _ z]
          · rw [if_neg z2, if_neg (show ¬ d < (Ci C 0).D by show ¬ d < C.D + 1; omega)]
      · intro p hp; rw [sC_n _ _ (by omega), sC_n _ _ (by omega)]; exact e5 p hp
      · rw [sC_n _ _ (by omega), sC_n _ _ (by omega)]; exact e6
      · rw [sC_n _ _ (by omega), sC_n _ _ (by omega)]; exact e7
      · rw [sC_n _ _ (by omega), sC_n _ _ (by omega)]; exact e8
      · rw [sC_n _ _ (by omega), sC_n _ _ (by omega)]; exact e9
    have S2 : SH (Ci C 0) r (q + 9) (sC (sC μ 31 g) q (up (μ.2.1 q) 0 (I (C.D + 1)))) := by
      have := (hS.c (c := 31) g (by omega)).c (c := q) (up (μ.2.1 q) 0 (I (C.D + 1))) (by omega)
      obtain ⟨x0, x1, x2, x3, x4, x5, x6⟩ := this
      refine ⟨x0, ?_, x2, x3, x4, x5, x6⟩
      intro x; rw [hwh]; exact x1 x
    have GI0 : GI C r 0 r := ⟨fun _ _ => rfl, fun y hy hno => by rw [hth] at hno; exact hA.2.1.2.1 y hy hno⟩
    obtain ⟨μ', e', O⟩ := deedL (ν0 := ν0) hn hB hq hA hD 8 0 r _ fuel fuel (by omega) (by unfold fuel; omega) (by unfold fuel; omega) (show CLb B n q μ0 (k + 1 + 0) _ from b2) (by rw [sC_n _ _ (by omega), sC_s, g0]; exact h0) E2 S2 GI0 (by omega)
    rw [show fX6_readDeed_39 fuel 31 (I C.D) (0 : Int32) _ = _ from e']
    have hrb : ∀ ν, RLs B n ν0 k C G Fd r ν → ∃ ν1, rbod (if C.D = 6 then 1 else 0) 0 (fun ν => fX11_readsDeed 492 ν) ν = fX11_readsDeed_9 fuel 492 (I C.D) (I 0) (v3D B n k 0) ν1 ∧ RLs B n ν0 (k + 1 + 0) C G Fd r ν1 := by
      intro ν hν
      obtain ⟨ν1, u1, u2⟩ := beg_ok hn hB hν
      refine ⟨ν1, ?_, u2⟩
      unfold rbod
      rw [if_neg (by omega), u1, bs]
      simp only
      rw [if_neg (by decide)]
      unfold fX11_readsDeed
      rw [u2.2.2.1]
      rfl
    refine ⟨μ', rfl, ?_⟩
    rcases O with ⟨j, C', r'', y1, y2, y3⟩ | ⟨w, p, y1, y2⟩
    · refine Or.inl ⟨j, C', G, Fd, pc, r'', y1, y2, ?_⟩
      intro ν hν
      obtain ⟨ν1, u1, u2⟩ := hrb ν hν
      rw [u1]
      exact y3 ν1 u2
    · refine Or.inr ⟨w, p, y1, ?_⟩
      intro ν hν
      obtain ⟨ν1, u1, u2⟩ := hrb ν hν
      rw [u1]
      exact y2 ν1 u2
  · obtain ⟨g, e1, F1⟩ := hb.refuse h0 (w := 2) (by decide)
    rw [if_neg (show ¬ I C.D < (6 : Int32) by rw [I_ltl (by omega) (by decide)]; exact hD), e1, bs]
    refine ⟨_, rfl, Or.inr ⟨2, k, F1, ?_⟩⟩
    intro ν hν
    obtain ⟨ν1, u1, u2⟩ := beg_much hν
    refine ⟨ν1, ?_, u2⟩
    unfold rbod
    rw [if_pos (by omega), u1, bs]
    simp only
    rw [if_pos trivial]
end Dl
