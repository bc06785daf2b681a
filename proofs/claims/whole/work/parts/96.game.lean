/-! CALLS: game -/
theorem ldR_489 {μ : Mem} (h : Gr μ) : ldR μ 489 0 0 = some 490 ∧ ldR μ 489 1 0 = some 491 := by
  have e0 : μ.2.2.2 489 0 = some 490 := h.2 (489, 0, 490) (by decide +kernel)
  have e1 : μ.2.2.2 489 1 = some 491 := h.2 (489, 1, 491) (by decide +kernel)
  have k0 : inb (0 : Int32) (kd 489).2 = true := by decide +kernel
  have k1 : inb (1 : Int32) (kd 489).2 = true := by decide +kernel
  have n0 : knd 0 (some 490) = some 490 := by decide +kernel
  have n1 : knd 0 (some 491) = some 491 := by decide +kernel
  constructor
  · unfold ldR
    rw [if_pos k0, show ix (0 : Int32) = 0 from rfl, e0, n0]
  · unfold ldR
    rw [if_pos k1, show ix (1 : Int32) = 1 from rfl, e1, n1]
section Gm
variable {C : Cel} {G Fd : List Itm} {pc : Nat → Int32} {k : Nat} {r : Row} {μ : Mem}
def noS (r : Row) (p x : Nat) : Row := if x = 1 then up r (61 + p) (-1) else r
theorem noS_ok (hC : C.ok) {p x : Nat} (h : RowOK C r) : RowOK C (noS r p x) := by
  unfold noS
  split
  · by_cases hp : p < C.P
    · have hP := hC.2.1
      refine ⟨StOK_congr (fun k h1 h2 => (up_n _ _ (by omega)).symm) h.1, ?_, ?_⟩
      · intro q hq; rw [up_n _ _ (by omega)]; exact h.2.1 q hq
      · intro q hq
        by_cases e : q = p
        · subst e; exact Or.inl (up_s _ _ _)
        · rw [up_n _ _ (by omega)]; exact h.2.2 q hq
    · have hP := hC.2.1
      refine ⟨StOK_congr (fun k h1 h2 => (up_n _ _ (by omega)).symm) h.1, ?_, ?_⟩
      · intro q hq; rw [up_n _ _ (by omega)]; exact h.2.1 q hq
      · intro q hq; rw [up_n _ _ (by omega)]; exact h.2.2 q hq
  · exact h
theorem noS_ink {p x : Nat} (h : InkOK C r) : InkOK C (noS r p x) := by
  unfold noS
  split
  · exact h.congr (fun k h1 h2 => up_n _ _ (by omega))
  · exact h
theorem noS_swap {p o x y : Nat} (hpo : p ≠ o) : noS (noS r o y) p x = noS (noS r p x) o y := by
  unfold noS
  split
  · split
    · funext i
      simp only [up_e]
      by_cases e1 : i = 61 + p
      · by_cases e2 : i = 61 + o
        · omega
        · simp [e1]
      · simp [e1]
    · rfl
  · rfl
/-- whether one came within n days -/
noncomputable def anyC (C : Cel) (G Fd : List Itm) (r : Row) (q : Nat) : Nat → Bool
  | 0 => false
  | n + 1 => anyC C G Fd r q n || cameD C G false (dN C G Fd dk0 r n) q
theorem cS_any (q : Nat) : ∀ n, ∃ m, m ≤ n ∧ cS C G Fd dk0 r q n = I m ∧ (0 < m ↔ anyC C G Fd r q n = true) := by
  intro n
  induction n with
  | zero => exact ⟨0, Nat.le_refl 0, rfl, ⟨fun h => absurd h (Nat.lt_irrefl 0), fun h => by cases h⟩⟩
  | succ n ih =>
    obtain ⟨m, h1, h2, h3⟩ := ih
    have e : cS C G Fd dk0 r q (n + 1) = cS C G Fd dk0 r q n + if cameD C G false (dN C G Fd dk0 r n) q = true then 1 else 0 := rfl
    have e2 : anyC C G Fd r q (n + 1) = (anyC C G Fd r q n || cameD C G false (dN C G Fd dk0 r n) q) := rfl
    rw [e, e2, h2]
    by_cases hc : cameD C G false (dN C G Fd dk0 r n) q = true
    · refine ⟨m + 1, by omega, by rw [if_pos hc, I_addl], ?_⟩
      rw [hc, Bool.or_true]
      exact ⟨fun _ => rfl, fun _ => by omega⟩
    · have hcf : cameD C G false (dN C G Fd dk0 r n) q = false := by
        cases h : cameD C G false (dN C G Fd dk0 r n) q
        · rfl
        · exact absurd h hc
      refine ⟨m, by omega, by rw [if_neg hc, I_addl]; rfl, ?_⟩
      rw [hcf, Bool.or_false]
      exact h3
noncomputable def gnV (C : Cel) (G Fd : List Itm) (r r' : Row) (q : Nat) : Int32 := 2 * (dN C G Fd dk0 r' 6 (67 + q) - r (67 + q)) + if anyC C G Fd r' q 6 = true then 5 else 0
noncomputable def g0 (C : Cel) (G Fd : List Itm) (r : Row) (p o q c : Nat) : Int32 := gnV C G Fd r (noS (noS r p (c / 2)) o (c % 2)) q
theorem CR.no {ν : Mem} (hC : C.ok) (h : CR C G Fd pc dk0 r k μ 0 ν) {p : Nat} (hp : p < C.P) : CR C G Fd pc dk0 (up r (61 + p) (-1)) k μ 0 (sC ν 459 (up (ν.2.1 459) p (-1))) := by
  have hP := hC.2.1
  obtain ⟨h1, h2, h3, h4, h5⟩ := h
  refine ⟨h1.trans ((FrI.c ν _ (by decide : 459 ∈ Lr)).b (L2 := L2p) (fun _ h => h) (fun _ h => h)), ?_, ?_, ?_, ?_⟩
  · refine h2.gen (L := [459]) (L2 := []) (FrI.c ν _ (by decide)) (by decide) (by decide) (by decide) ?_ ?_
    · exact h2.2.2.2.2.2.1.sent hC hp (sC_n _ _ (by decide)) rfl (sC_n _ _ (by decide)) (sC_n _ _ (by decide)) (sC_s _ _ _) (sC_n _ _ (by decide))
    · intro q hq
      show up r (61 + p) (-1) (73 + q) = r (73 + q)
      rw [up_n _ _ (by omega)]
  · intro q hq; rw [sC_n _ _ (by decide)]; exact h3 q hq
  · intro q hq; rw [sC_n _ _ (by decide)]; exact h4 q hq
  · rw [sC_n _ _ (by decide)]; exact h5
theorem play_ok (hI : INV C G Fd pc k r μ) {p o : Nat} (hp : p < C.P) (ho : o < C.P) {c : Nat} (hc : c < 4) {ν : Mem} (hF : FrB LC L2C μ ν) :
    ∃ ξ, fX10_play 0 (I p) (I o) (I c) ν = some ξ ∧ FrB LC L2C μ ξ ∧ ξ.2.1 490 = up (ν.2.1 490) c (g0 C G Fd r p o p c) ∧ ξ.2.1 491 = up (ν.2.1 491) c (g0 C G Fd r p o o c) := by
  have hC := hI.2.1
  have hP := hC.2.1
  have hr := hI.2.2.2.2.2.2.2.2.1
  have hIν := hI.q hF.ag
  obtain ⟨M, e, hM⟩ := hIν.beg dk0
  have hGM := hM.1.gr hIν.1
  -- the six days
  have six : ∀ (r' : Row) (Z : Mem), RowOK C r' → InkOK C r' → CR C G Fd pc dk0 r' k ν 0 Z → ∃ ξ, fX10_play_58 fuel 0 (I p) (I o) (I c) 0 Z = some ξ ∧ FrB LC L2C μ ξ ∧ ξ.2.1 490 = up (ν.2.1 490) c (gnV C G Fd r r' p) ∧ ξ.2.1 491 = up (ν.2.1 491) c (gnV C G Fd r r' o) := by
    intro r' Z ok1 ok2 hZ
    obtain ⟨⟨j, N⟩, e2, i1, i2⟩ := loop_k (S := Nat × Mem) (R := Option Mem)
      (fun n s => fX10_play_58 n 0 (I p) (I o) (I c) (I s.1) s.2) (fun s => fX10_play_58 1 0 (I p) (I o) (I c) (I 6) s.2) 6
      (fun j s => s.1 = j ∧ CR C G Fd pc dk0 r' k ν j s.2)
      (by
        rintro n j ⟨j', N⟩ hj ⟨i1, i2⟩
        simp only at i1 i2
        subst i1
        obtain ⟨ξ, e3, h3⟩ := i2.pass hC ok1 ok2 (lt := 1) rfl
        show ∃ s', fX10_play_58 (n + 1) 0 (I p) (I o) (I c) (I j') N = _ ∧ _
        rw [fX10_play_58, if_pos (show I j' < (6 : Int32) from (I_ltl (by omega) (by decide)).mpr hj), g_0_14 (i2.1.gr hIν.1), bs, e3, bs, I_addl]
        exact ⟨(j' + 1, ξ), rfl, rfl, h3⟩)
      (by
        rintro n ⟨j', N⟩ ⟨i1, i2⟩
        simp only at i1
        subst i1
        show fX10_play_58 (n + 1) 0 (I p) (I o) (I c) (I 6) N = _
        rw [fX10_play_58, fX10_play_58, if_neg (by decide), if_neg (by decide)])
      6 fuel 0 (0, Z) rfl (by unfold fuel; omega) ⟨rfl, hZ⟩
    simp only at e2 i1 i2
    have hFN : FrB LC L2C ν N := i2.fq
    have hIN := hIν.q hFN.ag
    have hGN := hIN.1
    have gain : ∀ (g : Row) q, q < C.P → fX10_gainOf 0 (I q) (sC N 490 g) = some (gnV C G Fd r r' q) := by
      intro g q hq
      obtain ⟨_, _, v3⟩ := i2.2.1.atv hq
      obtain ⟨_, _, n3⟩ := hIN.now hq
      obtain ⟨m, m1, m2, m3⟩ := cS_any (C := C) (G := G) (Fd := Fd) (r := r') q 6
      unfold fX10_gainOf
      simp (disch := omega) only [gC, g_0_14 hGN, g_455_0 hGN, hGN.met a456, g_0_7 hGN, hGN.met a33, g_455_4 hGN, bs, ld_460, ld_37, ld_466, sC_row, Nat.reduceEqDiff, reduceIte, Nat.reduceAdd, v3, n3, i2.2.2.2.1 q (show q < 6 by omega), m2]
      unfold gnV
      by_cases h : anyC C G Fd r' q 6 = true
      · rw [if_pos (show (0 : Int32) < I m from (l_ltI (m := 0) (by omega) (by decide)).mpr (m3.mpr h)), if_pos h]
      · rw [if_neg (show ¬ (0 : Int32) < I m from fun t => h (m3.mp ((l_ltI (m := 0) (by omega) (by decide)).mp t))), if_neg h]
    have gain0 : ∀ q, q < C.P → fX10_gainOf 0 (I q) N = some (gnV C G Fd r r' q) := by
      intro q hq
      have := gain (N.2.1 490) q hq
      rw [sC_same] at this
      exact this
    obtain ⟨l0, l1⟩ := ldR_489 hGN
    have l1' : ∀ g : Row, ldR (sC N 490 g) 489 1 0 = some 491 := fun g => (ldR_489 (hGN.sC _ _)).2
    refine ⟨sC (sC N 490 (up (N.2.1 490) c (gnV C G Fd r r' p))) 491 (up (N.2.1 491) c (gnV C G Fd r r' o)), ?_, ?_, ?_, ?_⟩
    · refine Eq.trans e2 ?_
      rw [fX10_play_58, if_neg (by decide), g_0_19 hGN, bs, l0, bs, gain0 p hp, bs, st_490 hc, bs, gC, g_0_19 hGN, bs, l1', bs, gain _ o ho, bs, st_491 hc, bs, sC_n _ _ (show (491 : Nat) ≠ 490 by decide)]
    · exact ((hF.trans hFN).trans ((FrI.c N _ (by decide : 490 ∈ LC)).b (L2 := L2C) (fun _ h => h) (fun _ h => h))).trans ((FrI.c _ _ (by decide : 491 ∈ LC)).b (L2 := L2C) (fun _ h => h) (fun _ h => h))
    · rw [sC_n _ _ (by decide), sC_s, i2.1.2.2.1 490 (by decide)]
    · rw [sC_s, i2.1.2.2.1 491 (by decide)]
  unfold fX10_play
  rw [g_0_14 hIν.1, bs, hIν.cel, bs, g_0_7 hIν.1, bs, e, bs, I_divl (by omega) (by decide), I_md]
  have hx : (I (c / 2) = 1) = (c / 2 = 1) := I_inj (m := 1) (by omega) (by omega)
  have hy : (I (c % 2) = 1) = (c % 2 = 1) := I_inj (m := 1) (by omega) (by omega)
  simp only [hx, hy]
  have gM : ∀ g : Row, Gr (sC M 459 g) := fun g => hGM.sC _ _
  unfold g0
  by_cases x1 : c / 2 = 1
  · rw [if_pos x1, g_0_14 hGM, bs, g_455_0 hGM, bs, hGM.sent a456, bs, st_459 (by omega), bs]
    have h1 := hM.no hC hp
    by_cases y1 : c % 2 = 1
    · rw [if_pos y1, gC, g_0_14 hGM, bs, gC, g_455_0 hGM, bs, (gM _).sent a456, bs, st_459 (by omega), bs]
      have e3 : noS (noS r p (c / 2)) o (c % 2) = up (up r (61 + p) (-1)) (61 + o) (-1) := by unfold noS; rw [if_pos x1, if_pos y1]
      rw [e3]
      exact six _ _ (by rw [← e3]; exact noS_ok hC (noS_ok hC hr.1)) (by rw [← e3]; exact noS_ink (noS_ink hr.2.1)) (h1.no hC ho)
    · rw [if_neg y1]
      have e3 : noS (noS r p (c / 2)) o (c % 2) = up r (61 + p) (-1) := by unfold noS; rw [if_pos x1, if_neg y1]
      rw [e3]
      exact six _ _ (by rw [← e3]; exact noS_ok hC (noS_ok hC hr.1)) (by rw [← e3]; exact noS_ink (noS_ink hr.2.1)) h1
  · rw [if_neg x1]
    by_cases y1 : c % 2 = 1
    · rw [if_pos y1, g_0_14 hGM, bs, g_455_0 hGM, bs, hGM.sent a456, bs, st_459 (by omega), bs]
      have e3 : noS (noS r p (c / 2)) o (c % 2) = up r (61 + o) (-1) := by unfold noS; rw [if_neg x1, if_pos y1]
      rw [e3]
      exact six _ _ (by rw [← e3]; exact noS_ok hC (noS_ok hC hr.1)) (by rw [← e3]; exact noS_ink (noS_ink hr.2.1)) (hM.no hC ho)
    · rw [if_neg y1]
      have e3 : noS (noS r p (c / 2)) o (c % 2) = r := by unfold noS; rw [if_neg x1, if_neg y1]
      rw [e3]
      exact six r M hr.1 hr.2.1 hM
end Gm
