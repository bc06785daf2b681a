/-! LINES: a stile -/
theorem stl_or {r : Row} {x : Nat} (hx : x < 48) (y : Nat) : stl (up r (49 + x / 8) (r (49 + x / 8) ||| bitI (x % 8))) y = (stl r y || decide (y = x)) := by
  unfold stl
  by_cases hy : y < 48
  · rw [decide_eq_true hy, Bool.true_and, Bool.true_and]
    by_cases e : y / 8 = x / 8
    · rw [e, up_s, tb_or, tb_bitI (by omega)]
      have : decide (y % 8 = x % 8) = decide (y = x) := by
        by_cases q : y = x
        · subst q; simp
        · rw [decide_eq_false q, decide_eq_false (by omega)]
      rw [this]
    · rw [up_n _ _ (by omega), decide_eq_false (show ¬ y = x by intro q; exact e (by rw [q])), Bool.or_false]
  · rw [decide_eq_false hy, decide_eq_false (show ¬ y = x by omega)]
    rfl
theorem SH.stor {C : Cel} {r : Row} {x a : Nat} {μ : Mem} (hC : C.ok) (hS : SH C r a μ) (hx : x < 48) : SH C (up r (49 + x / 8) (r (49 + x / 8) ||| bitI (x % 8))) a (sLC μ a (up (μ.2.2.1 a) 2 (μ.2.2.1 a 2 ||| fX10_bit (I x)))) := by
  have hP := hC.2.1
  obtain ⟨b0, b1, b2, b3, b4, b5, b6⟩ := hS
  have ew : wh C (up r (49 + x / 8) (r (49 + x / 8) ||| bitI (x % 8))) = wh C r := wh_congr hC (fun k _ hk => up_n _ _ (by omega))
  unfold SH
  rw [ew]
  simp only [sLC_i, sLC_s]
  refine ⟨by rw [up_n _ _ (by omega)]; exact b0, fun y => by rw [up_n _ _ (by decide)]; exact b1 y, ?_, fun y hy => by rw [up_n _ _ (by omega)]; exact b3 y hy, ?_, ?_, ?_⟩
  · intro y
    rw [up_s, mb_or, b2 y, mb_bit (by omega), stl_or hx]
  · intro q hq; rw [b4 q hq]; split
    · rw [up_n _ _ (by omega)]
    · rfl
  · intro q hq; rw [b5 q hq]; split
    · rw [up_n _ _ (by omega)]
    · rfl
  · intro q hq; rw [b6 q hq]; split
    · rw [up_n _ _ (by omega)]
    · rfl
theorem AI.stile {C : Cel} {pc : Nat → Int32} {r : Row} (h : AI C pc r) {x : Nat} (hx : there C x = true) (hx8 : there C (x + 8) = true) : AI C pc (up r (49 + x / 8) (r (49 + x / 8) ||| bitI (x % 8))) := by
  have hC := h.1
  have hP := hC.2.1
  have hx48 := there_lt hC hx
  obtain ⟨_, ⟨⟨g1, g2, g3⟩, h2, h3, h4⟩, h7⟩ := h
  refine ⟨hC, ⟨⟨?_, fun q hq => by rw [up_n _ _ (by omega)]; exact g2 q hq, fun q hq => by rw [up_n _ _ (by omega)]; exact g3 q hq⟩, fun y hy hn => by rw [up_n _ _ (by omega)]; exact h2 y hy hn, fun q hq => by rw [up_n _ _ (by omega)]; exact h3 q hq, ?_⟩, fun p hp => by rw [up_n _ _ (by omega)]; exact h7 p hp⟩
  · intro y hy
    rw [stl_or hx48] at hy
    by_cases e : y = x
    · subst e; exact ⟨hx, hx8⟩
    · rw [decide_eq_false e, Bool.or_false] at hy
      exact g1 y hy
  · intro d hd p hp
    by_cases e : d = x / 8
    · subst e
      rw [up_s, tb_or, h4 (x / 8) hd p hp, tb_bitI (by omega), decide_eq_false (by omega)]
      rfl
    · rw [up_n _ _ (by omega)]; exact h4 d hd p hp
theorem mn_I {a b : Nat} (ha : a < 2147483648) (hb : b < 2147483648) : mnI (I a) (I b) = I (min a b) ∧ fX11_lesser (I a) (I b) = I (min a b) := by
  constructor
  · unfold mnI
    by_cases h : b < a
    · rw [if_pos (by rw [I_lt hb ha]; exact h), Nat.min_eq_right (by omega)]
    · rw [if_neg (by rw [I_lt hb ha]; exact h), Nat.min_eq_left (by omega)]
  · unfold fX11_lesser
    by_cases h : a < b
    · rw [if_pos (by rw [I_lt ha hb]; exact h), Nat.min_eq_left (by omega)]
    · rw [if_neg (by rw [I_lt ha hb]; exact h), Nat.min_eq_right (by omega)]
section Sb
variable {B : Nat → Nat} {n q : Nat} {μ0 μ ν0 ν : Mem} {k : Nat} {C : Cel} {G Fd : List Itm} {pc : Nat → Int32} {r : Row}
theorem CE.c31 (hq : q = 3 ∨ q = 17) (h : CE C G Fd pc q μ) (g : Row) : CE C G Fd pc q (sC μ 31 g) := h.fr (sC_n _ _ (by omega)) rfl (sC_n _ _ (by omega)) (sC_n _ _ (by omega)) (sC_n _ _ (by omega)) (sC_n _ _ (by omega)) (sC_n _ _ (by omega)) (sC_n _ _ (by omega))
/-- the class goes by a token, with all it has -/
theorem CLs.adv (hn : n ≤ 700) (hB : ∀ i, i < n → B i < 256) (hq : q = 3 ∨ q = 17) (h : CLs B n q μ0 k C G Fd pc r μ) (hS : tkS B n (Pq B n k) ≠ 0) : ∃ μ', fX6_advance 31 μ = some μ' ∧ CLs B n q μ0 (k + 1) C G Fd pc r μ' := by
  obtain ⟨hb, h0, hE, hSH, hA, hkn⟩ := h
  obtain ⟨g, e1, b1, g0, g1⟩ := hb.adv hn hB
  exact ⟨_, e1, b1, by rw [sC_s, g0]; exact h0, hE.c31 hq g, hSH.c g (by omega), hA, (S_k _ hS).2⟩
theorem isN_S {bd : Int32} (h : isN B n k bd) : tkS B n (Pq B n k) ≠ 0 := by rw [h.1]; decide
theorem readsStile_f {w : Int32} {p : Nat} (hw : w ≠ 0) (h : RFl B n ν0 w p ν) : fX11_readsStile_34 492 ν = some ν := by
  unfold fX11_readsStile_34 fX11_isOneOf
  rw [if_pos (h.good hw), bs]
  simp only
  rw [if_pos trivial]
theorem body_stile (hn : n ≤ 700) (hB : ∀ i, i < n → B i < 256) (hq : q = 3 ∨ q = 17) (h : CLs B n q μ0 k C G Fd pc r μ) (hw : tkS B n (Pq B n k) ≠ 0) : BOUT B n q μ0 ν0 k C G Fd r (rbod 0 0 (fun ν => fX11_readsStile 492 ν)) (fX6_readStile 31 μ) := by
  have hA := h.2.2.2.2.1
  have hC := hA.1
  have hD6 := hC.1
  have hS4 := S_4 (B := B) (n := n) (Pq B n (k + 1))
  have hEL := tkE_le (B := B) (Pq_le (B := B) (n := n) (k + 1))
  obtain ⟨μ1, e1, h1⟩ := h.adv hn hB hq hw
  have rbeg : ∀ ν, RLs B n ν0 k C G Fd r ν → ∃ ν1, rbod 0 0 (fun ν => fX11_readsStile 492 ν) ν = fX11_readsStile 492 ν1 ∧ RLs B n ν0 (k + 1) C G Fd r ν1 := by
    intro ν hν
    obtain ⟨ν1, u1, u2⟩ := beg_ok hn hB hν
    refine ⟨ν1, ?_, u2⟩
    unfold rbod
    rw [u1, bs]
    simp only
    rw [if_neg (by decide)]
  unfold fX6_readStile
  rw [e1, bs, h1.1.2.2.2.1, bs, h1.2.2.1.1]
  obtain ⟨n1, n2⟩ := h1.1.num hn hB h1.2.1 (I C.D - 1) (w := 3) (by decide)
  by_cases hN : isN B n (k + 1) (I C.D - 1)
  · have hV := tkV_lt hB hN.1
    have hD1 : 1 ≤ C.D := by
      refine Classical.byContradiction fun z => ?_
      have e0 : C.D = 0 := by omega
      have := hN.2.2
      rw [e0] at this
      exact absurd (m1_lt (n := tkV B n (Pq B n (k + 1))) (by omega)) (Int32.lt_asymm this)
    have hV1 : tkV B n (Pq B n (k + 1)) + 1 < C.D := by
      have := hN.2.2
      rw [I_subl (by show 1 ≤ C.D; exact hD1), I_lt (by omega) (by show C.D - 1 < _; omega)] at this
      have : tkV B n (Pq B n (k + 1)) < C.D - 1 := this
      omega
    obtain ⟨d, hd⟩ : ∃ d, tkV B n (Pq B n (k + 1)) = d := ⟨_, rfl⟩
    rw [hd] at hV1
    have hz0 := hC.2.2 d (by omega)
    have hz1 := hC.2.2 (d + 1) (by omega)
    obtain ⟨μ2, e2, h2⟩ := h1.adv hn hB hq (isN_S hN)
    obtain ⟨c3, _⟩ := cel_g h2.1.2.1 hq
    obtain ⟨k1, _⟩ := cel_k hq
    have ez : ∀ d', d' < C.D → μ2.2.1 (q + 1) d' = I (C.z d') := fun d' hd' => by rw [h2.2.2.1.2.2.2.1 d' (by omega), if_pos hd']
    rw [n1 hN, bs]
    simp only
    rw [if_pos h1.2.1, e2, bs, h2.1.2.2.2.1, bs, c3, bs, hd, ldI_I k1 (by omega) (by omega), bs, bs, c3, bs, I_addl, show d + OfNat.ofNat 1 = d + 1 from rfl, ldI_I k1 (by omega) (by omega), bs, ez d (by omega), ez (d + 1) hV1, (mn_I (by omega) (by omega)).1]
    -- the reference, at the second number
    have rsec : ∀ ν, RLs B n ν0 k C G Fd r ν → ∃ ν2, RLs B n ν0 (k + 1 + 1) C G Fd r ν2 ∧ rbod 0 0 (fun ν => fX11_readsStile 492 ν) ν = ((fX11_isOneOf 492 (I (min (C.z d) (C.z (d + 1)))) ν2).bind fun x => if x.1 = 0 then some x.2 else (gR x.2 492 30 0).bind fun a28 => (ldI x.2 a28 (I (49 + d))).bind fun x31 => if ((x31 >>> ((x.2.2.1 492 17) &&& 31)) &&& (1 : Int32)) = (1 : Int32) then (fX11_wrong 492 (4 : Int32) x.2).bind fun μ34 => if (fX11_isGood 492 μ34) = 0 then some μ34 else (gR μ34 492 30 0).bind fun a40 => (ldI μ34 a40 (I (49 + d))).bind fun x43 => (stI μ34 a40 (I (49 + d)) (x43 ||| ((1 : Int32) <<< ((μ34.2.1 492 17) &&& 31)))).bind fun μ45 => (fX11_goes 492 μ45).bind fun μ49 => some μ49 else if (fX11_isGood 492 x.2) = 0 then some x.2 else (gR x.2 492 30 0).bind fun a55 => (ldI x.2 a55 (I (49 + d))).bind fun x58 => (stI x.2 a55 (I (49 + d)) (x58 ||| ((1 : Int32) <<< ((x.2.2.1 492 17) &&& 31)))).bind fun μ60 => (fX11_goes 492 μ60).bind fun μ64 => some μ64) := by
      intro ν hν
      obtain ⟨ν1, u1, u2⟩ := rbeg ν hν
      obtain ⟨ν2, u3, u4⟩ := u2.goes hn hB
      have t17 := u2.1.2.1.2.2.2.2.2.1 hN.1
      rw [hd] at t17
      have hone := (u2.1.one hn u2.2.1 (I C.D)).1 ⟨hN.1, hN.2.1, by rw [hd, I_lt (by omega) (by omega)]; omega⟩
      refine ⟨ν2, u4, ?_⟩
      rw [u1]
      unfold fX11_readsStile
      rw [u2.1.2.1.2.2.1, if_pos (by rw [hN.1]; rfl), u2.1.2.1.2.2.2.2.1, if_neg (by rw [l_ltI (by omega) (by decide)]; have := hN.2.1; show ¬ 4 < _; omega), t17, I_addl, u2.2.2.1, if_pos (by rw [I_lt (by show d + 1 < _; omega) (by omega)]; exact hV1)]
      unfold fX11_readsStile_34
      rw [u2.2.2.1, hone, bs]
      simp only
      rw [if_neg (by decide), u3, bs, g_492_29 u4.1.1.1, bs, t17, ld_497 (by omega), bs, bs, I_addl, ld_497 (by show d + 1 < 6; omega), bs, u4.2.2.2.2.1 d (by omega), u4.2.2.2.2.1 (d + OfNat.ofNat 1) hV1, show d + OfNat.ofNat 1 = d + 1 from rfl, (mn_I (by omega) (by omega)).2, l_addI]
    obtain ⟨m1, m2⟩ := h2.1.num hn hB h2.2.1 (I (min (C.z d) (C.z (d + 1)))) (w := 3) (by decide)
    by_cases hM : isN B n (k + 1 + 1) (I (min (C.z d) (C.z (d + 1))))
    · have hV2 := tkV_lt hB hM.1
      obtain ⟨e, he⟩ : ∃ e, tkV B n (Pq B n (k + 1 + 1)) = e := ⟨_, rfl⟩
      have hem : e < min (C.z d) (C.z (d + 1)) := by
        have := hM.2.2
        rw [he, I_lt (by omega) (by omega)] at this
        exact this
      have hx48 : 8 * d + e < 48 := by omega
      have xd : (8 * d + e) / 8 = d ∧ (8 * d + e) % 8 = e := by omega
      have th1 : there C (8 * d + e) = true := there_iff.mpr (by rw [xd.1, xd.2]; omega)
      have th2 : there C (8 * d + e + 8) = true := there_iff.mpr (by rw [show (8 * d + e + 8) / 8 = d + 1 by omega, show (8 * d + e + 8) % 8 = e by omega]; omega)
      obtain ⟨_, _, _, _, g7, _⟩ := cel_g h2.1.2.1 hq
      rw [m1 hM, bs]
      simp only
      rw [h2.1.2.2.2.1, bs, g7, bs, he, l_mulI, I_add, show OfNat.ofNat 8 * d + e = 8 * d + e from rfl]
      have hst : (μ2.2.2.1 (q + 9) 2 &&& fX10_bit (I (8 * d + e)) = 0) = (stl r (8 * d + e) = false) := by
        rw [and_bit0 (by omega), h2.2.2.2.1.2.2.1]
      have hone2 : ∀ ν2, RLs B n ν0 (k + 1 + 1) C G Fd r ν2 → fX11_isOneOf 492 (I (min (C.z d) (C.z (d + 1)))) ν2 = some (1, ν2) ∧ ν2.2.1 492 17 = I e ∧ ν2.2.1 498 (49 + d) = r (49 + d) := by
        intro ν2 u
        refine ⟨(u.1.one hn u.2.1 _).1 hM, ?_, u.2.2.2.2.2.1 _ (by omega)⟩
        rw [u.1.2.1.2.2.2.2.2.1 hM.1, he]
      have htb : ((r (49 + d) >>> (I e &&& 31)) &&& 1 = 1) = (stl r (8 * d + e) = true) := by
        rw [tb_sh (by omega), stl48 hx48, xd.1, xd.2]
      cases hs : stl r (8 * d + e) with
      | true =>
        obtain ⟨g, e5, F5⟩ := h2.1.refuse h2.2.1 (w := 4) (by decide)
        rw [if_neg (show ¬ μ2.2.2.1 (q + 9) 2 &&& fX10_bit (I (8 * d + e)) = 0 by rw [hst, hs]; decide), e5, bs, if_neg F5.ne]
        refine ⟨_, rfl, Or.inr ⟨4, k + 1 + 1, F5, ?_⟩⟩
        intro ν hν
        obtain ⟨ν2, u1, u2⟩ := rsec ν hν
        obtain ⟨o1, o2, o3⟩ := hone2 ν2 u1
        obtain ⟨ν3, u3, u4, _⟩ := u1.1.wrong u1.2.1 4
        refine ⟨ν3, ?_, u4⟩
        rw [u2, o1, bs]
        simp only
        rw [if_neg (by decide), g_492_30 u1.1.1.1, bs, ld_498 (by omega), bs, o2, o3, if_pos (by rw [htb]; exact hs), u3, bs, if_pos (u4.good (by decide))]
      | false =>
        have hSk := isN_S hM
        rw [if_pos (show μ2.2.2.1 (q + 9) 2 &&& fX10_bit (I (8 * d + e)) = 0 by rw [hst]; exact hs), if_pos h2.2.1, bs, g7, bs, bs, sL_C]
        have hL : CLs B n q μ0 (k + 1 + 1) C G Fd pc (up r (49 + (8 * d + e) / 8) (r (49 + (8 * d + e) / 8) ||| bitI ((8 * d + e) % 8))) (sLC μ2 (q + 9) (up (μ2.2.2.1 (q + 9)) 2 (μ2.2.2.1 (q + 9) 2 ||| fX10_bit (I (8 * d + e))))) := by
          obtain ⟨x1, x2, x3, x4, x5, x6⟩ := h2
          exact ⟨x1.l _ (by omega), x2, x3.fr rfl (sLC_n _ _ (by omega)) rfl rfl rfl rfl rfl rfl, x4.stor hC hx48, x5.stile th1 th2, x6⟩
        obtain ⟨μ3, e3, h3⟩ := hL.adv hn hB hq hSk
        rw [e3, bs]
        refine ⟨μ3, rfl, Or.inl ⟨k + 1 + 1 + 1, C, G, Fd, pc, _, by omega, h3, ?_⟩⟩
        intro ν hν
        obtain ⟨ν2, u1, u2⟩ := rsec ν hν
        obtain ⟨o1, o2, o3⟩ := hone2 ν2 u1
        have R3 : RLs B n ν0 (k + 1 + 1) C G Fd (up r (49 + (8 * d + e) / 8) (r (49 + (8 * d + e) / 8) ||| bitI ((8 * d + e) % 8))) (sC ν2 498 (up (ν2.2.1 498) (49 + d) (r (49 + d) ||| bitI e))) := by
          obtain ⟨y1, y2, a1, a2, a3, a4, t, a5, a6, a7, a8⟩ := u1
          refine ⟨y1.c _ (by omega), by rw [sC_n _ _ (by decide)]; exact y2, by rw [sC_n _ _ (by decide)]; exact a1, by rw [sC_n _ _ (by decide)]; exact a2, by rw [sC_n _ _ (by decide)]; exact a3, ?_, t, by rw [sC_n _ _ (by decide)]; exact a5, a6, by rw [sC_n _ _ (by decide), sC_n _ _ (by decide)]; exact a7, by rw [sC_n _ _ (by decide), sC_n _ _ (by decide)]; exact a8⟩
          rw [sC_s, xd.1, xd.2]
          exact a4.up _ _
        obtain ⟨ν4, u5, u6⟩ := R3.goes hn hB
        refine ⟨ν4, ?_, u6⟩
        rw [u2, o1, bs]
        simp only
        rw [if_neg (by decide), g_492_30 u1.1.1.1, bs, ld_498 (by omega), bs, o2, o3, if_neg (by rw [htb, hs]; decide), if_neg (goodL u1.2.1), bs, ld_498 (by omega), bs, o3, st_498 (by omega), bs, u5, bs]
    · obtain ⟨g, e5, F5⟩ := m2 hM
      have hG5 := F5.2.1
      obtain ⟨j5, b5⟩ := F5.2.1
      obtain ⟨_, _, _, _, g7, _⟩ := cel_g b5.2.1 hq
      rw [e5, bs]
      simp only
      rw [b5.2.2.2.1, bs, g7, bs, refuse_f F5, if_neg F5.ne]
      refine ⟨sC μ2 31 g, ?_, Or.inr ⟨_, k + 1 + 1, F5, ?_⟩⟩
      · split
        · rfl
        · rw [bs, if_neg F5.ne]
      intro ν hν
      obtain ⟨ν2, u1, u2⟩ := rsec ν hν
      obtain ⟨ν3, u3, u4, _⟩ := (u1.1.one hn u1.2.1 (I (min (C.z d) (C.z (d + 1))))).2 hM
      refine ⟨ν3, ?_, u4⟩
      rw [u2, u3, bs]
      simp only
      rw [if_pos trivial]
  · obtain ⟨g, e5, F5⟩ := n2 hN
    rw [e5, bs]
    simp only
    rw [if_neg F5.ne]
    refine ⟨_, rfl, Or.inr ⟨_, k + 1, F5, ?_⟩⟩
    intro ν hν
    obtain ⟨ν1, u1, u2⟩ := rbeg ν hν
    rw [u1]
    unfold fX11_readsStile
    have viaone : ¬ isN B n (k + 1) (I C.D) → ∃ ν', fX11_readsStile_34 492 ν1 = some ν' ∧ RFl B n ν0 (wNm B n (k + 1) 3) (k + 1) ν' := by
      intro hz
      obtain ⟨ν3, u3, u4, _⟩ := (u2.1.one hn u2.2.1 (I C.D)).2 hz
      refine ⟨ν3, ?_, u4⟩
      unfold fX11_readsStile_34
      rw [u2.2.2.1, u3, bs]
      simp only
      rw [if_pos trivial]
    rw [u2.1.2.1.2.2.1, u2.1.2.1.2.2.2.2.1]
    by_cases s2 : tkS B n (Pq B n (k + 1)) = 2
    · have hV := tkV_lt hB s2
      rw [if_pos (by rw [s2]; rfl)]
      by_cases hl : 4 < tkE B n (Pq B n (k + 1)) - Pq B n (k + 1)
      · rw [if_pos (by rw [l_ltI (by omega) (by decide)]; exact hl)]
        exact viaone (fun z => by have := z.2.1; omega)
      · rw [if_neg (by rw [l_ltI (by omega) (by decide)]; exact hl), u2.1.2.1.2.2.2.2.2.1 s2, I_addl, u2.2.2.1]
        have hge : ¬ tkV B n (Pq B n (k + 1)) + 1 < C.D := by
          intro z
          apply hN
          refine ⟨s2, by omega, ?_⟩
          rw [I_subl (by show 1 ≤ C.D; omega), I_lt (by omega) (by show C.D - 1 < _; omega)]
          show _ < C.D - 1
          omega
        obtain ⟨ν3, u3, u4, _⟩ := u2.1.wrong u2.2.1 3
        rw [if_neg (by rw [I_lt (by show _ + 1 < _; omega) (by omega)]; exact hge), u3, bs, readsStile_f (by decide) u4]
        refine ⟨ν3, rfl, ?_⟩
        have : wNm B n (k + 1) 3 = 3 := by unfold wNm; rw [if_neg (by omega), if_neg hl]
        rw [this]
        exact u4
    · rw [if_neg (show ¬ I (tkS B n (Pq B n (k + 1))) = (2 : Int32) from fun z => s2 ((I_inj (m := 2) (by omega) (by omega)).mp z))]
      exact viaone (fun z => s2 z.1)
end Sb
