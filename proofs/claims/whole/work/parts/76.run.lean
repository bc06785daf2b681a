/-! DAYS THAT GO BY: the picture, and the class's Course -/
theorem cpy_in {f g : Nat → Int32} {n j : Nat} (h : j < n) : va_cpy f g 0 0 n j = f j := by
  unfold va_cpy
  simp [h]
noncomputable def dN (C : Cel) (G Fd : List Itm) (dk : Nat → Bool) (r : Row) : Nat → Row
  | 0 => r
  | n + 1 => dayR C G Fd (dk n) (dN C G Fd dk r n)
noncomputable def mS (C : Cel) (G Fd : List Itm) (dk : Nat → Bool) (r : Row) (q : Nat) : Nat → Int32
  | 0 => 0
  | n + 1 => mS C G Fd dk r q n + I (madeD C G (dk n) (dN C G Fd dk r n) q)
noncomputable def cS (C : Cel) (G Fd : List Itm) (dk : Nat → Bool) (r : Row) (q : Nat) : Nat → Int32
  | 0 => 0
  | n + 1 => cS C G Fd dk r q n + if cameD C G (dk n) (dN C G Fd dk r n) q = true then 1 else 0
noncomputable def kS (C : Cel) (G Fd : List Itm) (dk : Nat → Bool) (r : Row) : Nat → Int32
  | 0 => 0
  | n + 1 => kbits (kS C G Fd dk r n) (fun p => decide (0 < oth C (walkA C G (dk n) (dN C G Fd dk r n) C.P).1 p)) C.P
theorem dN_ok {C : Cel} {G Fd : List Itm} {dk : Nat → Bool} {r : Row} (hC : C.ok) (hr : RowOK C r) (n : Nat) : RowOK C (dN C G Fd dk r n) := by
  induction n with
  | zero => exact hr
  | succ n ih => exact dayR_ok hC ih
theorem dN_ink {C : Cel} {G Fd : List Itm} {dk : Nat → Bool} {r : Row} (hC : C.ok) (hi : InkOK C r) (n : Nat) : InkOK C (dN C G Fd dk r n) := by
  induction n with
  | zero => exact hi
  | succ n ih => exact dayR_ink hC ih
/-- as FrI, but the Course may look at another cellar -/
def FrB (L L2 : List Nat) (μ ν : Mem) : Prop := ν.1 = μ.1 ∧ (∀ a f, ¬ (a = 455 ∧ f = 7) → ν.2.2.2 a f = μ.2.2.2 a f) ∧ (∀ c, c ∉ L → ν.2.1 c = μ.2.1 c) ∧ (∀ c, c ∉ L2 → ν.2.2.1 c = μ.2.2.1 c)
theorem FrB.refl (L L2 : List Nat) (μ : Mem) : FrB L L2 μ μ := ⟨rfl, fun _ _ _ => rfl, fun _ _ => rfl, fun _ _ => rfl⟩
theorem FrB.trans {L L2 : List Nat} {μ ν ξ : Mem} (h : FrB L L2 μ ν) (h' : FrB L L2 ν ξ) : FrB L L2 μ ξ := ⟨h'.1.trans h.1, fun a f q => (h'.2.1 a f q).trans (h.2.1 a f q), fun c hc => (h'.2.2.1 c hc).trans (h.2.2.1 c hc), fun c hc => (h'.2.2.2 c hc).trans (h.2.2.2 c hc)⟩
theorem FrB.mono {L L2 K K2 : List Nat} {μ ν : Mem} (h : FrB L L2 μ ν) (h1 : ∀ c ∈ L, c ∈ K) (h2 : ∀ c ∈ L2, c ∈ K2) : FrB K K2 μ ν := ⟨h.1, h.2.1, fun c hc => h.2.2.1 c (fun q => hc (h1 c q)), fun c hc => h.2.2.2 c (fun q => hc (h2 c q))⟩
theorem FrI.b {L L2 K K2 : List Nat} {μ ν : Mem} (h : FrI L L2 μ ν) (h1 : ∀ c ∈ L, c ∈ K) (h2 : ∀ c ∈ L2, c ∈ K2) : FrB K K2 μ ν := ⟨h.1, fun a f _ => by rw [h.2.1], fun c hc => h.2.2.1 c (fun q => hc (h1 c q)), fun c hc => h.2.2.2 c (fun q => hc (h2 c q))⟩
theorem gfix_455 : ∀ e ∈ gfix, ¬ (e.1 = 455 ∧ e.2.1 = 7) := by decide +kernel
theorem FrB.gr {L L2 : List Nat} {μ ν : Mem} (h : FrB L L2 μ ν) (hG : Gr μ) : Gr ν := ⟨h.1.trans hG.1, fun e he => by rw [h.2.1 _ _ (gfix_455 e he)]; exact hG.2 e he⟩
theorem FrB.g {L L2 : List Nat} {μ ν : Mem} (h : FrB L L2 μ ν) {a f : Nat} (t : Nat) (q : ¬ (a = 455 ∧ f = 7)) : gR ν a f t = gR μ a f t := by
  unfold gR
  rw [h.2.1 _ _ q]
theorem cpI_eq {μ : Mem} {a0 a n t t' : Nat} (h0 : kd a0 = (t, n)) (h1 : kd a = (t', n)) (hn : n < 2147483648) : cpI μ a0 0 a 0 (I n) = some (sC μ a (va_cpy (μ.2.1 a0) (μ.2.1 a) 0 0 n)) := by
  unfold cpI
  have e : ix (I n) = n := ix_I hn
  have e0 : ix (0 : Int32) = 0 := rfl
  have d0 : decide ((0 : Int32) < 0) = false := by decide
  rw [h0, h1, e, e0, d0, decide_eq_false (I_neg hn), Nat.zero_add, decide_eq_false (Nat.lt_irrefl n)]
  rfl
theorem copyFrom_ok {C : Cel} {r : Row} {μ : Mem} (hG : Gr μ) {a b : Nat} (ha : a ∈ stA) (hb : b ∈ stA) (hab : a + 4 < b ∨ b + 4 < a) (hS : SH C r b μ) :
    ∃ ν, fX9_copyFrom a b μ = some ν ∧ FrI [a, a + 1, a + 2, a + 3, a + 4] [a] μ ν ∧ SH C r a ν := by
  unfold fX9_copyFrom
  rw [bs, bs, bs, sI_C, sL_C, sL_C, sLC_C]
  simp only [sLC_s, sLC_n _ _ (show b ≠ a by omega)]
  have hG1 : Gr (sLC (sC μ a (up (μ.2.1 a) 0 (μ.2.1 b 0))) a (up (up ((sC μ a (up (μ.2.1 a) 0 (μ.2.1 b 0))).2.2.1 a) 1 ((sC μ a (up (μ.2.1 a) 0 (μ.2.1 b 0))).2.2.1 b 1)) 2 ((sC μ a (up (μ.2.1 a) 0 (μ.2.1 b 0))).2.2.1 b 2))) := (hG.sC _ _).sLC _ _
  rw [hG1.ink hb, bs, hG1.ink ha, bs, show cpI _ (b + 1) (0 : Int32) (a + 1) (0 : Int32) (48 : Int32) = _ from cpI_eq (n := 48) (st_ink b hb).2 (st_ink a ha).2 (by decide), bs]
  rw [(hG1.sC _ _).at hb, bs, (hG1.sC _ _).at ha, bs, show cpI _ (b + 2) (0 : Int32) (a + 2) (0 : Int32) (6 : Int32) = _ from cpI_eq (n := 6) (st_at b hb).2 (st_at a ha).2 (by decide), bs]
  rw [((hG1.sC _ _).sC _ _).sent hb, bs, ((hG1.sC _ _).sC _ _).sent ha, bs, show cpI _ (b + 3) (0 : Int32) (a + 3) (0 : Int32) (6 : Int32) = _ from cpI_eq (n := 6) (st_sent b hb).2 (st_sent a ha).2 (by decide), bs]
  rw [(((hG1.sC _ _).sC _ _).sC _ _).met hb, bs, (((hG1.sC _ _).sC _ _).sC _ _).met ha, bs, show cpI _ (b + 4) (0 : Int32) (a + 4) (0 : Int32) (6 : Int32) = _ from cpI_eq (n := 6) (st_met b hb).2 (st_met a ha).2 (by decide), bs]
  refine ⟨_, rfl, ?_, ?_⟩
  · have m0 : a ∈ [a, a + 1, a + 2, a + 3, a + 4] := by simp
    have m1 : a + 1 ∈ [a, a + 1, a + 2, a + 3, a + 4] := by simp
    have m2 : a + 2 ∈ [a, a + 1, a + 2, a + 3, a + 4] := by simp
    have m3 : a + 3 ∈ [a, a + 1, a + 2, a + 3, a + 4] := by simp
    have m4 : a + 4 ∈ [a, a + 1, a + 2, a + 3, a + 4] := by simp
    exact (((((FrI.c μ _ m0).trans (FrI.l _ _ (by simp))).trans (FrI.c _ _ m1)).trans (FrI.c _ _ m2)).trans (FrI.c _ _ m3)).trans (FrI.c _ _ m4)
  · obtain ⟨b0, b1, b2, b3, b4, b5, b6⟩ := hS
    unfold SH
    simp only [sC_l, sLC_s, sC_s, sLC_i, sC_n _ _ (show a ≠ a + 4 by omega), sC_n _ _ (show a ≠ a + 3 by omega), sC_n _ _ (show a ≠ a + 2 by omega), sC_n _ _ (show a ≠ a + 1 by omega), sC_n _ _ (show a + 1 ≠ a + 4 by omega), sC_n _ _ (show a + 1 ≠ a + 3 by omega), sC_n _ _ (show a + 1 ≠ a + 2 by omega), sC_n _ _ (show a + 2 ≠ a + 4 by omega), sC_n _ _ (show a + 2 ≠ a + 3 by omega), sC_n _ _ (show a + 3 ≠ a + 4 by omega),
      sC_n _ _ (show b + 1 ≠ a by omega), sC_n _ _ (show b + 2 ≠ a + 1 by omega), sC_n _ _ (show b + 2 ≠ a by omega), sC_n _ _ (show b + 3 ≠ a + 2 by omega), sC_n _ _ (show b + 3 ≠ a + 1 by omega), sC_n _ _ (show b + 3 ≠ a by omega), sC_n _ _ (show b + 4 ≠ a + 3 by omega), sC_n _ _ (show b + 4 ≠ a + 2 by omega), sC_n _ _ (show b + 4 ≠ a + 1 by omega), sC_n _ _ (show b + 4 ≠ a by omega)]
    refine ⟨by rw [up_s]; exact b0, ?_, ?_, ?_, ?_, ?_, ?_⟩
    · intro x
      rw [up_n _ _ (by decide), up_s]; exact b1 x
    · intro x
      rw [up_s]; exact b2 x
    · intro x hx
      rw [cpy_in hx]; exact b3 x hx
    · intro p hp
      rw [cpy_in hp]; exact b4 p hp
    · intro p hp
      rw [cpy_in hp]; exact b5 p hp
    · intro p hp
      rw [cpy_in hp]; exact b6 p hp
def Lr : List Nat := [8, 11, 22, 25, 455, 456, 457, 458, 459, 460, 464, 465, 466, 467]
/-- the Course has gone n days, from the row r of the memory μ -/
def CR (C : Cel) (G Fd : List Itm) (pc : Nat → Int32) (dk : Nat → Bool) (r : Row) (k : Nat) (μ : Mem) (n : Nat) (ν : Mem) : Prop := FrB Lr L2p μ ν ∧ CP C G Fd pc (dN C G Fd dk r n) k ν ∧ (∀ q, q < 6 → ν.2.1 465 q = mS C G Fd dk r q n) ∧ (∀ q, q < 6 → ν.2.1 466 q = cS C G Fd dk r q n) ∧ ν.2.1 455 5 = kS C G Fd dk r n
theorem begin_ok {C : Cel} {G Fd : List Itm} {pc : Nat → Int32} {r : Row} {k : Nat} {μ : Mem} (hG : Gr μ) (hC : C.ok) (hk : k = 3 ∨ k = 17) (hE : CE C G Fd pc k μ) (hS : SH C r 33 μ) (hpc : ∀ p, p < C.P → pc p = r (73 + p)) (dk : Nat → Bool) :
    ∃ ν, fX2_begin 455 k 33 μ = some ν ∧ CR C G Fd pc dk r k μ 0 ν := by
  have hP := hC.2.1
  have a33 : 33 ∈ stA := by decide
  unfold fX2_begin
  rw [bs]
  have hF0 : FrB Lr L2p μ (sR μ 455 7 (some k)) := ⟨rfl, fun a f q => by rw [sR_r, if_neg q], fun _ _ => rfl, fun _ _ => rfl⟩
  have hG0 := hF0.gr hG
  have hcel : gR (sR μ 455 7 (some k)) 455 7 11 = some k := by
    unfold gR
    rw [sR_r, if_pos ⟨rfl, rfl⟩]
    rcases hk with rfl | rfl <;> decide +kernel
  obtain ⟨M, e1, f1, s1⟩ := copyFrom_ok (a := 456) (b := 33) hG0 a456 a33 (by omega) (show SH C r 33 (sR μ 455 7 (some k)) from hS)
  rw [g_455_0 hG0, bs, e1, bs, bs, sI_C]
  have hF1 : FrB Lr L2p μ (sC M 455 (up (M.2.1 455) 5 0)) := (hF0.trans (f1.b (by decide) (by decide))).trans ((FrI.c M _ (by decide : 455 ∈ Lr)).b (L2 := L2p) (fun _ h => h) (fun _ h => h))
  have hE1 : CE C G Fd pc k (sR μ 455 7 (some k)) := hE
  have hcel1 : gR (sC M 455 (up (M.2.1 455) 5 0)) 455 7 11 = some k := by rw [gC, f1.g]; exact hcel
  have hG1 := hF1.gr hG
  have hE2 : CE C G Fd pc k (sC M 455 (up (M.2.1 455) 5 0)) := by
    refine hE1.fl hk (L := [455, 456, 457, 458, 459, 460]) (L2 := [456]) ((f1.mono (by decide) (by decide)).trans (FrI.c M _ (by decide))) (by decide) (by decide)
  have hS2 : SH C r 456 (sC M 455 (up (M.2.1 455) 5 0)) := s1.c _ (by omega)
  obtain ⟨c3, c4, _⟩ := cel_g hG1 hk
  obtain ⟨k1, k2, _⟩ := cel_k hk
  obtain ⟨⟨j, N⟩, e, i1, i2, i3⟩ := loop_k (S := Nat × Mem) (R := Option Mem)
    (fun n s => fX2_begin_20 n 455 k (I s.1) s.2) (fun s => some s.2) 6
    (fun j s => s.1 = j ∧ FrI [464, 465, 466] [] (sC M 455 (up (M.2.1 455) 5 0)) s.2 ∧ ∀ q, q < j → s.2.2.1 464 q = (sC M 455 (up (M.2.1 455) 5 0)).2.1 (k + 2) q ∧ s.2.2.1 465 q = 0 ∧ s.2.2.1 466 q = 0)
    (by
      rintro n j ⟨j', N⟩ hj ⟨i1, i2, i3⟩
      simp only at i1 i2 i3
      subst i1
      have hGN := i2.gr hG1
      obtain ⟨_, c4, _⟩ := cel_g hGN hk
      show ∃ s', fX2_begin_20 (n + 1) 455 k (I j') N = _ ∧ _
      rw [fX2_begin_20, if_pos (show I j' < (6 : Int32) from (I_ltl (by omega) (by decide)).mpr hj), g_455_2 hGN, bs, c4, bs, ldI_I k2 hj (by omega), bs, st_464 hj, bs, gC, g_455_3 hGN, bs, st_465 hj, bs, gC, gC, g_455_4 hGN, bs, st_466 hj, bs, I_addl]
      refine ⟨(j' + 1, _), rfl, rfl, ((i2.trans (FrI.c N _ (by decide))).trans (FrI.c _ _ (by decide))).trans (FrI.c _ _ (by decide)), ?_⟩
      intro q hq
      show (sC (sC (sC N 464 _) 465 _) 466 _).2.1 464 q = _ ∧ (sC (sC (sC N 464 _) 465 _) 466 _).2.1 465 q = 0 ∧ (sC (sC (sC N 464 _) 465 _) 466 _).2.1 466 q = 0
      rw [sC_n _ _ (show (464 : Nat) ≠ 466 by decide), sC_n _ _ (show (464 : Nat) ≠ 465 by decide), sC_s, sC_n _ _ (show (465 : Nat) ≠ 466 by decide), sC_s, sC_s, sC_n _ _ (show (465 : Nat) ≠ 464 by decide), sC_n _ _ (show (466 : Nat) ≠ 465 by decide), sC_n _ _ (show (466 : Nat) ≠ 464 by decide)]
      by_cases e : q = j'
      · subst e
        rw [up_s, up_s, up_s, i2.2.2.1 (k + 2) (by rcases hk with rfl | rfl <;> decide)]
        exact ⟨rfl, rfl, rfl⟩
      · rw [up_n _ _ e, up_n _ _ e, up_n _ _ e]
        exact i3 q (by omega))
    (by
      rintro n ⟨j', N⟩ ⟨i1, _⟩
      simp only at i1
      subst i1
      show fX2_begin_20 (n + 1) 455 k (I 6) N = _
      rw [fX2_begin_20, if_neg (by decide)])
    6 fuel 0 (0, sC M 455 (up (M.2.1 455) 5 0)) rfl (by unfold fuel; omega) ⟨rfl, FrI.refl _ _ _, fun q hq => absurd hq (Nat.not_lt_zero q)⟩
  simp only at e i1 i2 i3
  refine ⟨N, e, hF1.trans (i2.b (by decide) (by decide)), ?_, ?_, ?_, ?_⟩
  · refine ⟨i2.gr hG1, hC, hk, by rw [i2.g]; exact hcel1, hE2.fl hk i2 (by decide) (by decide), ?_, ?_⟩
    · exact hS2.fr (i2.2.2.1 456 (by decide)) (i2.2.2.2 456 (by decide)) (i2.2.2.1 457 (by decide)) (i2.2.2.1 458 (by decide)) (i2.2.2.1 459 (by decide)) (i2.2.2.1 460 (by decide))
    · intro p hp
      rw [(i3 p (by omega)).1, hE2.2.2.2.2.1 p hp]
      exact hpc p hp
  · intro q hq; rw [(i3 q hq).2.1]; rfl
  · intro q hq; rw [(i3 q hq).2.2]; rfl
  · rw [i2.2.2.1 455 (by decide), sC_s, up_s]; rfl
theorem CR.pass {C : Cel} {G Fd : List Itm} {pc : Nat → Int32} {dk : Nat → Bool} {r : Row} {k : Nat} {μ ν : Mem} {n : Nat} (h : CR C G Fd pc dk r k μ n ν) (hC : C.ok) (hr : RowOK C r) (hi : InkOK C r) {lt : Int32} (hlt : lt = if dk n = true then 0 else 1) :
    ∃ ξ, fX2_pass 455 lt ν = some ξ ∧ CR C G Fd pc dk r k μ (n + 1) ξ := by
  obtain ⟨h1, h2, h3, h4, h5⟩ := h
  obtain ⟨ξ, e, p1, p2, p3, p4, p5⟩ := pass_ok h2 (dN_ok hC hr n) (dN_ink hC hi n) (dk n) hlt
  refine ⟨ξ, e, h1.trans (p1.b (by decide) (fun _ h => h)), p2, ?_, ?_, ?_⟩
  · intro q hq; rw [p3, h3 q hq]; rfl
  · intro q hq; rw [p4, h4 q hq]; rfl
  · rw [p5, h5]; rfl
