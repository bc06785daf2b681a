/-! THE REFERENCE: a day -/
def cbits (f : Nat → Bool) : Nat → Int32
  | 0 => 0
  | j + 1 => if f j = true then cbits f j ||| bitI j else cbits f j
theorem cbits_congr {f g : Nat → Bool} : ∀ j, (∀ p, p < j → f p = g p) → cbits f j = cbits g j := by
  intro j
  induction j with
  | zero => intro _; rfl
  | succ j ih =>
    intro h
    unfold cbits
    rw [h j (by omega), ih (fun p hp => h p (by omega))]
theorem cntI_congr {g g' : Nat → Int32} {v : Int32} : ∀ j, (∀ p, p < j → g p = g' p) → cntI g v j = cntI g' v j := by
  intro j
  induction j with
  | zero => intro _; rfl
  | succ j ih =>
    intro h
    rw [cntI_s, cntI_s, ih (fun p hp => h p (by omega)), h j (by omega)]
theorem oth_congr {C : Cel} {r r' : Row} (hC : C.ok) (h : ∀ k, 55 ≤ k → k < 61 → r k = r' k) {p : Nat} (hp : p < C.P) : oth C r p = oth C r' p := by
  have hP := hC.2.1
  unfold oth
  rw [h (55 + p) (by omega) (by omega), cntI_congr C.P (fun q hq => h (55 + q) (by omega) (by omega))]
theorem fadeBy_congr {C : Cel} {Fd : List Itm} {r r' : Row} (hC : C.ok) {x : Nat} (h0 : r 0 = r' 0) (h1 : r (1 + x) = r' (1 + x)) (h : ∀ k, 55 ≤ k → k < 61 → r k = r' k) : fadeBy C Fd r x = fadeBy C Fd r' x := by
  have hP := hC.2.1
  have hv : fvals C r x = fvals C r' x := by
    funext w
    unfold fvals
    split
    · exact h1
    · rfl
    · rfl
    · exact cntI_congr C.P (fun q hq => h (55 + q) (by omega) (by omega))
    · exact h0
  unfold fadeBy
  rw [h0, hv]
theorem walkA_s (C : Cel) (G : List Itm) (dark : Bool) (r : Row) (j : Nat) : walkA C G dark r (j + 1) = ((walk1 C G dark j (walkA C G dark r j).1).1, up (walkA C G dark r j).2.1 j (walk1 C G dark j (walkA C G dark r j).1).2.1, up (walkA C G dark r j).2.2 j (walk1 C G dark j (walkA C G dark r j).1).2.2) := rfl
theorem rd12 {C : Cel} {G Fd : List Itm} {μ : Mem} (h : RC C μ) (hk : RK G Fd μ) {b : Nat} {dark : Bool} (hb : b ≤ 79) (hr : RowOK C (rwb μ b)) (hbar : μ.2.1 492 41 = -1) (hdk : μ.2.1 492 45 = if dark = true then 1 else 0) (h42 : μ.2.1 492 42 = 0) (h43 : μ.2.1 492 43 = 0) :
    ∃ M, fX11_dayGoes_12 fuel 492 (I b) 0 μ = fX11_dayGoes_56 fuel 492 (I b) 0 M ∧ RD b μ M ∧ rwb M b = (walkA C G dark (rwb μ b) C.P).1 ∧ (∀ p, p < C.P → M.2.1 508 p = I ((walkA C G dark (rwb μ b) C.P).2.1 p)) ∧ M.2.1 492 42 = cbits (walkA C G dark (rwb μ b) C.P).2.2 C.P ∧ M.2.1 492 43 = 0 := by
  have hC := h.2.1
  have hP := hC.2.1
  obtain ⟨⟨j, M⟩, e, i1, i2, i3, i4, i5, i6⟩ := loop_k (S := Nat × Mem) (R := Option Mem)
    (fun n s => fX11_dayGoes_12 n 492 (I b) (I s.1) s.2) (fun s => fX11_dayGoes_56 fuel 492 (I b) 0 s.2) C.P
    (fun j s => s.1 = j ∧ RD b μ s.2 ∧ rwb s.2 b = (walkA C G dark (rwb μ b) j).1 ∧ (∀ p, p < j → s.2.2.1 508 p = I ((walkA C G dark (rwb μ b) j).2.1 p)) ∧ s.2.2.1 492 42 = cbits (walkA C G dark (rwb μ b) j).2.2 j ∧ s.2.2.1 492 43 = 0)
    (by
      rintro n j ⟨j', M⟩ hj ⟨i1, i2, i3, i4, i5, i6⟩
      simp only at i1 i2 i3 i4 i5 i6
      subst i1
      have hRM := i2.rc h
      have hG := hRM.1
      have e2 := hRM.2.2.2.1
      show ∃ s', fX11_dayGoes_12 (n + 1) 492 (I b) (I j') M = _ ∧ _
      rw [fX11_dayGoes_12]
      simp (disch := omega) only [e2, I_lt, hj, if_true, bs, g_492_44 hG, g_492_34 hG, gC, st_508, I_addl, I_add, ld_502, Nat.add_assoc]
      have hM1 : RD b M (sC M 508 (up (M.2.1 508) j' 0)) := RD.c M _ (by decide)
      have hr1 : rwb (sC M 508 (up (M.2.1 508) j' 0)) b = (walkA C G dark (rwb μ b) j').1 := by rw [rwb_c _ _ (by decide)]; exact i3
      have hto : (sC M 508 (up (M.2.1 508) j' 0)).2.1 502 (b + (61 + j')) = (walkA C G dark (rwb μ b) j').1 (61 + j') := by
        rw [← hr1]; rfl
      rw [hto]
      by_cases q : (walkA C G dark (rwb μ b) j').1 (61 + j') = -1
      · rw [if_pos q]
        have hw : walk1 C G dark j' (walkA C G dark (rwb μ b) j').1 = ((walkA C G dark (rwb μ b) j').1, 0, false) := by
          unfold walk1; rw [if_pos q]
        refine ⟨(j' + 1, _), rfl, rfl, i2.trans hM1, ?_, ?_, ?_, ?_⟩
        · rw [walkA_s, hw]; exact hr1
        · intro p hp
          rw [walkA_s, hw]
          show (sC M 508 _).2.1 508 p = I (up _ j' 0 p)
          rw [sC_s]
          by_cases e : p = j'
          · subst e; rw [up_s, up_s]; rfl
          · rw [up_n _ _ e, up_n _ _ e]; exact i4 p (by omega)
        · rw [walkA_s, hw]
          show (sC M 508 _).2.1 492 42 = cbits (up _ j' false) (j' + 1)
          rw [sC_n _ _ (by decide)]
          unfold cbits
          rw [up_s, if_neg (by decide), cbits_congr j' (fun p hp => up_n _ _ (by omega))]
          exact i5
        · show (sC M 508 _).2.1 492 43 = 0
          rw [sC_n _ _ (by decide)]; exact i6
      · rw [if_neg q]
        have hrw : RowOK C (rwb (sC M 508 (up (M.2.1 508) j' 0)) b) := by rw [hr1]; exact walkA_ok hC hr j' (by omega)
        have hRD := i2.trans hM1
        obtain ⟨ν, w1, w2, w3, w4, w5⟩ := walks_ok (dark := dark) (hRD.rc h) (hRD.rk hk) hb hrw hj (by rw [hr1]; exact q) (by rw [sC_s, up_s]) (by rw [hRD.1.2.2.2 41 (by decide) (by decide)]; exact hbar) (by rw [hRD.1.2.2.2 45 (by decide) (by decide)]; exact hdk)
        rw [w1, bs]
        rw [hr1] at w3 w4 w5
        rw [sC_n M _ (show (492 : Nat) ≠ 508 by decide)] at w5
        rw [sC_s, up_up] at w4
        refine ⟨(j' + 1, ν), rfl, rfl, hRD.trans w2, ?_, ?_, ?_, ?_⟩
        · rw [walkA_s]; exact w3
        · intro p hp
          rw [walkA_s]
          show ν.2.1 508 p = I (up _ j' _ p)
          rw [w4]
          by_cases e : p = j'
          · subst e; rw [up_s, up_s]
          · rw [up_n _ _ e, up_n _ _ e]; exact i4 p (by omega)
        · rw [walkA_s]
          show ν.2.1 492 42 = cbits (up _ j' _) (j' + 1)
          rw [w5]
          unfold cbits
          rw [up_s, cbits_congr j' (fun p hp => up_n _ _ (by omega))]
          split
          · rw [up_s, i5]
          · exact i5
        · show ν.2.1 492 43 = 0
          rw [w5]
          split
          · rw [up_n _ _ (by decide)]; exact i6
          · exact i6)
    (by
      rintro n ⟨j', M⟩ ⟨i1, i2, i3⟩
      simp only at i1 i2
      subst i1
      have e2 := (i2.rc h).2.2.2.1
      show fX11_dayGoes_12 (n + 1) 492 (I b) (I C.P) M = _
      rw [fX11_dayGoes_12, e2, if_neg (by rw [I_lt (by omega) (by omega)]; omega)])
    C.P fuel 0 (0, μ) rfl (by unfold fuel; omega) ⟨rfl, RD.refl b μ, rfl, fun p hp => absurd hp (Nat.not_lt_zero p), h42, h43⟩
  exact ⟨M, e, i2, i3, i4, i5, i6⟩
theorem greetR_s (C : Cel) (r : Row) (j : Nat) : greetR C r (j + 1) = up (greetR C r j) (67 + j) (if (9999 : Int32) < r (67 + j) + oth C r j then 9999 else r (67 + j) + oth C r j) := by
  funext k
  unfold greetR up
  by_cases e : k = 67 + j
  · subst e
    rw [if_pos ⟨by omega, by omega⟩, if_pos rfl, show 67 + j - 67 = j by omega]
  · rw [if_neg e]
    show _ = if 67 ≤ k ∧ k < 67 + j then _ else _
    by_cases q : 67 ≤ k ∧ k < 67 + j
    · rw [if_pos q, if_pos ⟨q.1, by omega⟩]
    · rw [if_neg q, if_neg (by omega)]
theorem or0 (v : Int32) : v ||| 0 = v := Int32.or_zero
theorem rd56 {C : Cel} {μ : Mem} (h : RC C μ) {b : Nat} (hb : b ≤ 79) (h43 : μ.2.1 492 43 = 0) :
    ∃ M, fX11_dayGoes_56 fuel 492 (I b) 0 μ = fX11_dayGoes_141 fuel 492 (I b) 0 M ∧ RD b μ M ∧ rwb M b = greetR C (rwb μ b) C.P ∧ M.2.1 508 = μ.2.1 508 ∧ M.2.1 492 42 = μ.2.1 492 42 ∧ M.2.1 492 43 = cbits (fun p => decide (oth C (rwb μ b) p = 0)) C.P := by
  have hC := h.2.1
  have hP := hC.2.1
  obtain ⟨⟨j, M⟩, e, i1, i2, i3, i4, i5, i6⟩ := loop_k (S := Nat × Mem) (R := Option Mem)
    (fun n s => fX11_dayGoes_56 n 492 (I b) (I s.1) s.2) (fun s => fX11_dayGoes_141 fuel 492 (I b) 0 s.2) C.P
    (fun j s => s.1 = j ∧ RD b μ s.2 ∧ rwb s.2 b = greetR C (rwb μ b) j ∧ s.2.2.1 508 = μ.2.1 508 ∧ s.2.2.1 492 42 = μ.2.1 492 42 ∧ s.2.2.1 492 43 = cbits (fun p => decide (oth C (rwb μ b) p = 0)) j)
    (by
      rintro n j ⟨j', M⟩ hj ⟨i1, i2, i3, i4, i5, i6⟩
      simp only at i1 i2 i3 i4 i5 i6
      subst i1
      have hRM := i2.rc h
      have hG := hRM.1
      have e2 := hRM.2.2.2.1
      have hst : fX11_standAt 492 (I b) (M.2.1 502 (b + (55 + j'))) M = some (cntI (fun q => rwb M b (55 + q)) (rwb M b (55 + j')) C.P) := standAt_ok hRM hb _
      have hoth : cntI (fun q => rwb M b (55 + q)) (rwb M b (55 + j')) C.P - 1 = oth C (rwb μ b) j' := by
        show oth C (rwb M b) j' = _
        refine oth_congr hC ?_ hj
        intro k h1 h2
        rw [i3]
        unfold greetR
        rw [if_neg (by omega)]
      have hmet : M.2.1 502 (b + (67 + j')) = rwb μ b (67 + j') := by
        have := congrFun i3 (67 + j')
        unfold greetR at this
        rw [if_neg (by omega)] at this
        exact this
      show ∃ s', fX11_dayGoes_56 (n + 1) 492 (I b) (I j') M = _ ∧ _
      rw [fX11_dayGoes_56]
      simp (disch := omega) only [e2, I_lt, hj, if_true, bs, g_492_34 hG, I_addl, I_add, ld_502, Nat.add_assoc, hst, hoth, sI_C, gC, st_502]
      by_cases q : oth C (rwb μ b) j' = 0
      · rw [if_pos q]
        refine ⟨(j' + 1, _), rfl, rfl, (i2.trans (RD.f M _ (Or.inr rfl))).trans (RD.row _ _ (by omega) (by omega)), ?_, ?_, ?_, ?_⟩
        · show rwb (sC (sC M 492 _) 502 _) b = _
          rw [rwb_up, rwb_c _ _ (by decide), i3, greetR_s, sC_n _ _ (show (502 : Nat) ≠ 492 by decide), hmet]
          rfl
        · show (sC (sC M 492 _) 502 _).2.1 508 = _
          rw [sC_n _ _ (by decide), sC_n _ _ (by decide)]; exact i4
        · show (sC (sC M 492 _) 502 _).2.1 492 42 = _
          rw [sC_n _ _ (by decide), sC_s, up_n _ _ (by decide)]; exact i5
        · show (sC (sC M 492 _) 502 _).2.1 492 43 = _
          rw [sC_n _ _ (by decide), sC_s, up_s, i6]
          conv => rhs; unfold cbits
          rw [if_pos (decide_eq_true q)]
      · rw [if_neg q]
        refine ⟨(j' + 1, _), rfl, rfl, (i2.trans (RD.f M _ (Or.inr rfl))).trans (RD.row _ _ (by omega) (by omega)), ?_, ?_, ?_, ?_⟩
        · show rwb (sC (sC M 492 _) 502 _) b = _
          rw [rwb_up, rwb_c _ _ (by decide), i3, greetR_s, sC_n _ _ (show (502 : Nat) ≠ 492 by decide), hmet]
          rfl
        · show (sC (sC M 492 _) 502 _).2.1 508 = _
          rw [sC_n _ _ (by decide), sC_n _ _ (by decide)]; exact i4
        · show (sC (sC M 492 _) 502 _).2.1 492 42 = _
          rw [sC_n _ _ (by decide), sC_s, up_n _ _ (by decide)]; exact i5
        · show (sC (sC M 492 _) 502 _).2.1 492 43 = _
          rw [sC_n _ _ (by decide), sC_s, up_s, or0, i6]
          conv => rhs; unfold cbits
          rw [if_neg (fun t => q (of_decide_eq_true t))])
    (by
      rintro n ⟨j', M⟩ ⟨i1, i2, i3⟩
      simp only at i1 i2
      subst i1
      have e2 := (i2.rc h).2.2.2.1
      show fX11_dayGoes_56 (n + 1) 492 (I b) (I C.P) M = _
      rw [fX11_dayGoes_56, e2, if_neg (by rw [I_lt (by omega) (by omega)]; omega)])
    C.P fuel 0 (0, μ) rfl (by unfold fuel; omega) ⟨rfl, RD.refl b μ, (by funext k; unfold greetR; rw [if_neg (by omega)]), rfl, rfl, h43⟩
  exact ⟨M, e, i2, i3, i4, i5, i6⟩
theorem fadeR_s (C : Cel) (Fd : List Itm) (r : Row) (j : Nat) : fadeR C Fd r (j + 1) = if there C j = true ∧ 0 < r (1 + j) then up (fadeR C Fd r j) (1 + j) (r (1 + j) - bnd0 (fadeBy C Fd r j) (r (1 + j))) else fadeR C Fd r j := by
  by_cases q : there C j = true ∧ 0 < r (1 + j)
  · rw [if_pos q]
    funext k
    unfold fadeR up
    by_cases e : k = 1 + j
    · subst e
      rw [if_pos rfl, show 1 + j - 1 = j by omega, if_pos ⟨⟨by omega, by omega⟩, q⟩]
    · rw [if_neg e]
      show _ = if (1 ≤ k ∧ k < 1 + j) ∧ there C (k - 1) = true ∧ 0 < r k then _ else _
      by_cases q2 : 1 ≤ k ∧ k < 1 + j
      · simp only [q2, show k < 1 + (j + 1) by omega, true_and]
      · rw [if_neg (fun t => q2 ⟨t.1.1, by omega⟩), if_neg (fun t => q2 t.1)]
  · rw [if_neg q]
    funext k
    unfold fadeR
    by_cases e : k = 1 + j
    · subst e
      rw [show 1 + j - 1 = j by omega, if_neg (fun t => q t.2), if_neg (by omega)]
    · by_cases q2 : 1 ≤ k ∧ k < 1 + j
      · simp only [q2, show k < 1 + (j + 1) by omega, true_and]
      · rw [if_neg (fun t => q2 ⟨t.1.1, by omega⟩), if_neg (fun t => q2 t.1)]
theorem rd141 {C : Cel} {G Fd : List Itm} {μ : Mem} (h : RC C μ) (hk : RK G Fd μ) {b : Nat} (hb : b ≤ 79) :
    ∃ M, fX11_dayGoes_141 fuel 492 (I b) 0 μ = some M ∧ RD b μ M ∧ rwb M b = up (fadeR C Fd (rwb μ b) 48) 0 (fadeR C Fd (rwb μ b) 48 0 + 1) ∧ M.2.1 508 = μ.2.1 508 ∧ M.2.1 492 = μ.2.1 492 := by
  have hC := h.2.1
  have hP := hC.2.1
  obtain ⟨⟨j, M⟩, e, i1, i2, i3, i4, i5⟩ := loop_k (S := Nat × Mem) (R := Option Mem)
    (fun n s => fX11_dayGoes_141 n 492 (I b) (I s.1) s.2) (fun s => some (sC s.2 502 (up (s.2.2.1 502) (b + 0) (s.2.2.1 502 (b + 0) + 1)))) 48
    (fun j s => s.1 = j ∧ RD b μ s.2 ∧ rwb s.2 b = fadeR C Fd (rwb μ b) j ∧ s.2.2.1 508 = μ.2.1 508 ∧ s.2.2.1 492 = μ.2.1 492)
    (by
      rintro n j ⟨j', M⟩ hj ⟨i1, i2, i3, i4, i5⟩
      simp only at i1 i2 i3 i4 i5
      subst i1
      have hRM := i2.rc h
      have hG := hRM.1
      have hink : M.2.1 502 (b + (1 + j')) = rwb μ b (1 + j') := by
        have := congrFun i3 (1 + j')
        unfold fadeR at this
        rw [if_neg (by omega)] at this
        exact this
      show ∃ s', fX11_dayGoes_141 (n + 1) 492 (I b) (I j') M = _ ∧ _
      rw [fX11_dayGoes_141]
      simp (disch := omega) only [I_ltl, hj, if_true, isThere_ok hRM hj, bs, g_492_34 hG, I_addl, I_add, ld_502, Nat.add_assoc, hink]
      by_cases q : there C j' = true
      · rw [if_pos q, if_neg (by decide)]
        by_cases q2 : 0 < rwb μ b (1 + j')
        · rw [if_pos q2]
          obtain ⟨T, Q, ef⟩ := fadesBy_ok hRM (i2.rk hk) hb hj
          have hfb : fadeBy C Fd (rwb M b) j' = fadeBy C Fd (rwb μ b) j' := by
            refine fadeBy_congr hC ?_ hink ?_
            · rw [i3]; unfold fadeR; rw [if_neg (by omega)]
            · intro k h1 h2
              rw [i3]; unfold fadeR; rw [if_neg (by omega)]
          rw [ef, bs, hfb]
          have hink2 : (sC (sC M 504 T) 505 Q).2.1 502 (b + (1 + j')) = rwb μ b (1 + j') := by
            rw [sC_n _ _ (by decide), sC_n _ _ (by decide)]; exact hink
          rw [gC, gC, g_492_34 hG, bs, ld_502 (by omega), bs, hink2, st_502 (by omega), bs]
          refine ⟨(j' + 1, _), rfl, rfl, ((i2.trans (RD.c M T (by decide))).trans (RD.c _ Q (by decide))).trans (RD.row _ _ (by omega) (by omega)), ?_, ?_, ?_⟩
          · show rwb (sC (sC (sC M 504 T) 505 Q) 502 _) b = _
            rw [rwb_up, rwb_c _ _ (by decide), rwb_c _ _ (by decide), i3, fadeR_s, if_pos ⟨q, q2⟩]
            rfl
          · show (sC (sC (sC M 504 T) 505 Q) 502 _).2.1 508 = _
            rw [sC_n _ _ (by decide), sC_n _ _ (by decide), sC_n _ _ (by decide)]; exact i4
          · show (sC (sC (sC M 504 T) 505 Q) 502 _).2.1 492 = _
            rw [sC_n _ _ (by decide), sC_n _ _ (by decide), sC_n _ _ (by decide)]; exact i5
        · rw [if_neg q2]
          refine ⟨(j' + 1, M), rfl, rfl, i2, ?_, i4, i5⟩
          rw [fadeR_s, if_neg (fun t => q2 t.2)]; exact i3
      · rw [if_neg q, if_pos rfl]
        refine ⟨(j' + 1, M), rfl, rfl, i2, ?_, i4, i5⟩
        rw [fadeR_s, if_neg (fun t => q t.1)]; exact i3)
    (by
      rintro n ⟨j', M⟩ ⟨i1, i2, i3⟩
      simp only at i1 i2
      subst i1
      have hG := (i2.rc h).1
      show fX11_dayGoes_141 (n + 1) 492 (I b) (I 48) M = _
      rw [fX11_dayGoes_141, if_neg (by decide), g_492_34 hG, bs, I_addl, ld_502 (by omega), bs, st_502 (by omega), bs])
    48 fuel 0 (0, μ) rfl (by unfold fuel; omega) ⟨rfl, RD.refl b μ, (by funext k; unfold fadeR; rw [if_neg (by omega)]), rfl, rfl⟩
  simp only at e i1 i2 i3 i4 i5
  refine ⟨_, e, i2.trans (RD.row _ _ (by omega) (by omega)), ?_, ?_, ?_⟩
  · rw [rwb_up, i3]
    congr 1
    rw [← i3]
    rfl
  · rw [sC_n _ _ (by decide)]; exact i4
  · rw [sC_n _ _ (by decide)]; exact i5
/-- who came, how many steps, who was alone -/
noncomputable def cameD (C : Cel) (G : List Itm) (dark : Bool) (r : Row) : Nat → Bool := (walkA C G dark r C.P).2.2
noncomputable def madeD (C : Cel) (G : List Itm) (dark : Bool) (r : Row) : Nat → Nat := (walkA C G dark r C.P).2.1
noncomputable def loneD (C : Cel) (G : List Itm) (dark : Bool) (r : Row) (p : Nat) : Bool := decide (oth C (walkA C G dark r C.P).1 p = 0)
theorem dayGoes_ok {C : Cel} {G Fd : List Itm} {μ : Mem} (h : RC C μ) (hk : RK G Fd μ) {b : Nat} {dark : Bool} (hb : b ≤ 79) (hr : RowOK C (rwb μ b)) (hbar : μ.2.1 492 41 = -1) (hdk : μ.2.1 492 45 = if dark = true then 1 else 0) :
    ∃ ν, fX11_dayGoes 492 (I b) μ = some ν ∧ RD b μ ν ∧ rwb ν b = dayR C G Fd dark (rwb μ b) ∧ (∀ p, p < C.P → ν.2.1 508 p = I (madeD C G dark (rwb μ b) p)) ∧ ν.2.1 492 42 = cbits (cameD C G dark (rwb μ b)) C.P ∧ ν.2.1 492 43 = cbits (loneD C G dark (rwb μ b)) C.P := by
  unfold fX11_dayGoes
  rw [bs, bs, sI_C, sI_C]
  have hD : RD b μ (sC (sC μ 492 (up (μ.2.1 492) 42 0)) 492 (up ((sC μ 492 (up (μ.2.1 492) 42 0)).2.1 492) 43 0)) := (RD.f μ 0 (Or.inl rfl)).trans (RD.f _ 0 (Or.inr rfl))
  have hrb : rwb (sC (sC μ 492 (up (μ.2.1 492) 42 0)) 492 (up ((sC μ 492 (up (μ.2.1 492) 42 0)).2.1 492) 43 0)) b = rwb μ b := by
    rw [rwb_c _ _ (by decide), rwb_c _ _ (by decide)]
  obtain ⟨M, e1, a1, a2, a3, a4, a5⟩ := rd12 (dark := dark) (hD.rc h) (hD.rk hk) hb (by rw [hrb]; exact hr) (by rw [hD.1.2.2.2 41 (by decide) (by decide)]; exact hbar) (by rw [hD.1.2.2.2 45 (by decide) (by decide)]; exact hdk) (by rw [sC_s, sC_s, up_n _ _ (by decide), up_s]) (by rw [sC_s, up_s])
  rw [hrb] at a2 a3 a4
  obtain ⟨M2, e2, b1, b2, b3, b4, b5⟩ := rd56 ((hD.trans a1).rc h) hb a5
  obtain ⟨M3, e3, c1, c2, c3, c4⟩ := rd141 ((hD.trans (a1.trans b1)).rc h) ((hD.trans (a1.trans b1)).rk hk) hb
  refine ⟨M3, ?_, hD.trans (a1.trans (b1.trans c1)), ?_, ?_, ?_, ?_⟩
  · rw [e1, e2, e3]
  · rw [c2, b2, a2]
    rfl
  · intro p hp
    rw [c3, b3]
    exact a3 p hp
  · rw [c4, b4, a4]
    rfl
  · rw [c4, b5, a2]
    rfl
