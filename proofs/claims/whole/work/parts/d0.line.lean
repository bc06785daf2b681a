/-! LINES: both readers between lines -/
theorem gfix_31 : ∀ e ∈ gfix, e.1 ≠ 31 := by decide +kernel
def FLc (q : Nat) (μ0 μ : Mem) : Prop := μ.1 = μ0.1 ∧ (∀ c f, c ≠ 31 → μ.2.2.2 c f = μ0.2.2.2 c f) ∧ (∀ c, c ≠ 31 → c < q ∨ q + 14 ≤ c → μ.2.1 c = μ0.2.1 c) ∧ (∀ c, c < q ∨ q + 14 ≤ c → μ.2.2.1 c = μ0.2.2.1 c) ∧ NF 31 0 1 μ0 μ
theorem FLc.trans {q : Nat} {μ ν ξ : Mem} (h : FLc q μ ν) (h' : FLc q ν ξ) : FLc q μ ξ := ⟨h'.1.trans h.1, fun c f a => (h'.2.1 c f a).trans (h.2.1 c f a), fun c a b => (h'.2.2.1 c a b).trans (h.2.2.1 c a b), fun c a => (h'.2.2.2.1 c a).trans (h.2.2.2.1 c a), h.2.2.2.2.trans h'.2.2.2.2⟩
theorem FLc.refl (q : Nat) (μ : Mem) : FLc q μ μ := ⟨rfl, fun _ _ _ => rfl, fun _ _ _ => rfl, fun _ _ => rfl, NF.refl _ _ _ _⟩
theorem FLc.gr {q : Nat} {μ ν : Mem} (h : FLc q μ ν) (hG : Gr μ) : Gr ν := ⟨h.1.trans hG.1, fun e he => by rw [h.2.1 _ _ (gfix_31 e he)]; exact hG.2 e he⟩
def FLr (ν0 ν : Mem) : Prop := ν.1 = ν0.1 ∧ ν.2.2.2 = ν0.2.2.2 ∧ (∀ c, c ≠ 492 → c < 497 ∨ 501 < c → ν.2.1 c = ν0.2.1 c) ∧ (∀ c, c ≠ 492 → ν.2.2.1 c = ν0.2.2.1 c) ∧ (∀ f, f < 9 ∨ (10 < f ∧ f < 13) ∨ 29 ≤ f → ν.2.1 492 f = ν0.2.1 492 f) ∧ NF 492 9 10 ν0 ν
theorem FLr.trans {μ ν ξ : Mem} (h : FLr μ ν) (h' : FLr ν ξ) : FLr μ ξ := ⟨h'.1.trans h.1, h'.2.1.trans h.2.1, fun c a b => (h'.2.2.1 c a b).trans (h.2.2.1 c a b), fun c a => (h'.2.2.2.1 c a).trans (h.2.2.2.1 c a), fun f a => (h'.2.2.2.2.1 f a).trans (h.2.2.2.2.1 f a), h.2.2.2.2.2.trans h'.2.2.2.2.2⟩
theorem FLr.refl (μ : Mem) : FLr μ μ := ⟨rfl, rfl, fun _ _ _ => rfl, fun _ _ => rfl, fun _ _ => rfl, NF.refl _ _ _ _⟩
theorem FLr.f {ν : Mem} {f : Nat} (v : Int32) (hf : f = 9 ∨ f = 10 ∨ (13 ≤ f ∧ f < 29)) (hz : (f = 9 → v ≠ 0) ∧ (f = 10 → ν.2.1 492 9 ≠ 0)) : FLr ν (sC ν 492 (up (ν.2.1 492) f v)) := ⟨rfl, rfl, fun c a _ => sC_n _ _ a, fun _ _ => rfl, fun g hg => by rw [sC_s, up_n _ _ (by omega)], NF.f hz⟩
theorem FLr.c {ν : Mem} {c : Nat} (g : Row) (hc : 497 ≤ c ∧ c ≤ 501) : FLr ν (sC ν c g) := ⟨rfl, rfl, fun d _ a => sC_n _ _ (by omega), fun _ _ => rfl, fun f _ => by rw [sC_n _ _ (by omega)], NF.eq (by rw [sC_n _ _ (by omega)]) (by rw [sC_n _ _ (by omega)])⟩
theorem FE.lr {k0 : Nat} {μ ν : Mem} (h : FE k0 μ ν) : FLr μ ν := ⟨h.1, h.2.1, fun c a b => h.2.2.1 c a (by omega) (by omega) (by omega), h.2.2.2.1, fun f a => h.2.2.2.2.1 f (by omega), h.2.2.2.2.2.2⟩
section Ln
variable {B : Nat → Nat} {n q : Nat} {μ0 μ ν0 ν : Mem} {k : Nat}
def CLb (B : Nat → Nat) (n q : Nat) (μ0 : Mem) (k : Nat) (μ : Mem) : Prop := TX B n μ ∧ Gr μ ∧ CTg B n (Pq B n k) (μ.2.1 31) ∧ gR μ 31 8 11 = some q ∧ FLc q μ0 μ
def CFl (B : Nat → Nat) (n q : Nat) (μ0 : Mem) (w : Int32) (p : Nat) (μ : Mem) : Prop := w ≠ 0 ∧ (∃ j, CLb B n q μ0 j μ) ∧ μ.2.1 31 0 = w ∧ μ.2.1 31 1 = I (Pq B n p)
theorem CFl.ne {w : Int32} {p : Nat} (h : CFl B n q μ0 w p μ) : ¬ μ.2.1 31 0 = 0 := by rw [h.2.2.1]; exact h.1
theorem CLb.c31 (h : CLb B n q μ0 k μ) {g : Row} {k' : Nat} (hg : CTg B n (Pq B n k') g) (hz : g 0 = 0 → μ.2.1 31 0 = 0 ∧ g 1 = μ.2.1 31 1) : CLb B n q μ0 k' (sC μ 31 g) := by
  obtain ⟨h1, h2, h3, h4, h5⟩ := h
  exact ⟨h1.c g, h2.sC _ _, by rw [sC_s]; exact hg, by rw [gC]; exact h4, h5.trans ⟨rfl, fun _ _ _ => rfl, fun c a _ => sC_n _ _ a, fun _ _ => rfl, fun e => by rw [sC_s] at e ⊢; exact hz e⟩⟩
theorem CLb.c (hq : q = 3 ∨ q = 17) (h : CLb B n q μ0 k μ) {c : Nat} (g : Row) (hc : q ≤ c ∧ c < q + 14) : CLb B n q μ0 k (sC μ c g) := by
  obtain ⟨h1, h2, h3, h4, h5⟩ := h
  exact ⟨⟨by rw [gC]; exact h1.1, fun i hi => by rw [sC_n _ _ (by omega)]; exact h1.2 i hi⟩, h2.sC _ _, by rw [sC_n _ _ (by omega)]; exact h3, by rw [gC]; exact h4, h5.trans ⟨rfl, fun _ _ _ => rfl, fun d _ a => sC_n _ _ (by omega), fun _ _ => rfl, NF.eq (by rw [sC_n _ _ (by omega)]) (by rw [sC_n _ _ (by omega)])⟩⟩
theorem CLb.l (h : CLb B n q μ0 k μ) {c : Nat} (g : Nat → Int64) (hc : q ≤ c ∧ c < q + 14) : CLb B n q μ0 k (sLC μ c g) := by
  obtain ⟨h1, h2, h3, h4, h5⟩ := h
  exact ⟨⟨by rw [gLC]; exact h1.1, h1.2⟩, h2.sLC _ _, h3, by rw [gLC]; exact h4, h5.trans ⟨rfl, fun _ _ _ => rfl, fun _ _ _ => rfl, fun d a => sLC_n _ _ (by omega), NF.eq rfl rfl⟩⟩
theorem CLb.adv (hn : n ≤ 700) (hB : ∀ i, i < n → B i < 256) (h : CLb B n q μ0 k μ) : ∃ g, fX6_advance 31 μ = some (sC μ 31 g) ∧ CLb B n q μ0 (k + 1) (sC μ 31 g) ∧ g 0 = μ.2.1 31 0 ∧ g 1 = μ.2.1 31 1 := by
  obtain ⟨g, e1, e2, e3⟩ := advance_ok hn hB h.1 (i := ip B n (k + 1)) (ip_le _) h.2.2.1.1 h.2.2.1.2.2.1
  exact ⟨g, e1, h.c31 e2 (fun e => ⟨e3 0 (by omega) ▸ e, e3 1 (by omega)⟩), e3 0 (by omega), e3 1 (by omega)⟩
theorem CLb.refuse (h : CLb B n q μ0 k μ) (h0 : μ.2.1 31 0 = 0) {w : Int32} (hw : w ≠ 0) : ∃ g, fX6_refuse 31 w μ = some (sC μ 31 g) ∧ CFl B n q μ0 w k (sC μ 31 g) := by
  unfold fX6_refuse
  rw [if_pos h0, bs, bs, sI_C, sI_C, sC_C]
  simp only [sC_s]
  have hg : CTg B n (Pq B n k) (up (up (μ.2.1 31) 0 w) 1 (up (μ.2.1 31) 0 w 4)) := by
    obtain ⟨c1, c2, c3, c4, c5⟩ := h.2.2.1
    refine ⟨?_, ?_, ?_, ?_, fun q => ?_⟩
    · rw [up_n _ _ (by decide), up_n _ _ (by decide)]; exact c1
    · rw [up_n _ _ (by decide), up_n _ _ (by decide)]; exact c2
    · rw [up_n _ _ (by decide), up_n _ _ (by decide)]; exact c3
    · rw [up_n _ _ (by decide), up_n _ _ (by decide)]; exact c4
    · rw [up_n _ _ (by decide), up_n _ _ (by decide)]; exact c5 q
  refine ⟨_, rfl, hw, ⟨k, h.c31 hg (fun e => absurd (show w = 0 by rw [up_n _ _ (by decide), up_s] at e; exact e) hw)⟩, ?_, ?_⟩
  · rw [sC_s, up_n _ _ (by decide), up_s]
  · rw [sC_s, up_s, up_n _ _ (by decide)]; exact h.2.2.1.2.1
theorem refuse_f {w' : Int32} {p : Nat} (h : CFl B n q μ0 w' p μ) (w : Int32) : fX6_refuse 31 w μ = some μ := by
  unfold fX6_refuse
  rw [if_neg h.ne]
theorem passl_f {w' : Int32} {p : Nat} (h : CFl B n q μ0 w' p μ) (x : Int32) : fX6_pass 31 x μ = some μ := by
  unfold fX6_pass
  rw [if_neg h.ne]
theorem num_f {w' : Int32} {p : Nat} (h : CFl B n q μ0 w' p μ) (bd w : Int32) : fX6_numberBelow 31 bd w μ = some (0, μ) := by
  unfold fX6_numberBelow
  rw [if_neg h.ne]
theorem CFl.c (hq : q = 3 ∨ q = 17) {w : Int32} {p : Nat} (h : CFl B n q μ0 w p μ) {c : Nat} (g : Row) (hc : q ≤ c ∧ c < q + 14) : CFl B n q μ0 w p (sC μ c g) := by
  obtain ⟨h1, ⟨j, h2⟩, h3, h4⟩ := h
  exact ⟨h1, ⟨j, h2.c hq g hc⟩, by rw [sC_n _ _ (by omega)]; exact h3, by rw [sC_n _ _ (by omega)]; exact h4⟩
theorem tkE_ge (q : Nat) : q ≤ tkE B n q := by
  by_cases e : tkS B n q = 0
  · have := S0.mp e
    unfold tkE
    rw [if_pos this]
    exact Nat.le_refl _
  · have := (tkE_gt (B := B) (n := n) (q := q) e).1
    omega
/-- a number below a bound -/
def isN (B : Nat → Nat) (n k : Nat) (bd : Int32) : Prop := tkS B n (Pq B n k) = 2 ∧ tkE B n (Pq B n k) - Pq B n k ≤ 4 ∧ I (tkV B n (Pq B n k)) < bd
def wNm (B : Nat → Nat) (n k : Nat) (w : Int32) : Int32 := if tkS B n (Pq B n k) ≠ 2 then 1 else if 4 < tkE B n (Pq B n k) - Pq B n k then 2 else w
theorem wNm_ne {w : Int32} (hw : w ≠ 0) : wNm B n k w ≠ 0 := by
  unfold wNm
  split
  · decide
  · split
    · decide
    · exact hw
theorem CLb.num (hn : n ≤ 700) (hB : ∀ i, i < n → B i < 256) (h : CLb B n q μ0 k μ) (h0 : μ.2.1 31 0 = 0) (bd : Int32) {w : Int32} (hw : w ≠ 0) : (isN B n k bd → fX6_numberBelow 31 bd w μ = some (I (tkV B n (Pq B n k)), μ)) ∧ (¬ isN B n k bd → ∃ g, fX6_numberBelow 31 bd w μ = some (0, sC μ 31 g) ∧ CFl B n q μ0 (wNm B n k w) k (sC μ 31 g)) := by
  obtain ⟨c1, c2, c3, c4, c5⟩ := h.2.2.1
  have hE := tkE_le (B := B) (Pq_le (B := B) (n := n) k)
  have hge := tkE_ge (B := B) (n := n) (Pq B n k)
  unfold fX6_numberBelow wNm
  rw [if_pos h0, c2, c3, I_sub hge]
  constructor
  · rintro ⟨s2, hl, hv⟩
    rw [if_pos ((k257 hB h.2.2.1).mpr s2), if_neg (by rw [l_ltI (by omega) (by decide)]; show ¬ 4 < _; omega), c5 s2, if_pos hv, if_pos h0]
  · intro hno
    by_cases s2 : tkS B n (Pq B n k) = 2
    · rw [if_pos ((k257 hB h.2.2.1).mpr s2), if_neg (show ¬ tkS B n (Pq B n k) ≠ 2 by omega)]
      by_cases hl : 4 < tkE B n (Pq B n k) - Pq B n k
      · obtain ⟨g, e1, e2⟩ := h.refuse h0 (w := 2) (by decide)
        rw [if_pos (by rw [l_ltI (by omega) (by decide)]; exact hl), e1, bs, if_neg e2.ne, if_pos hl]
        exact ⟨g, rfl, e2⟩
      · obtain ⟨g, e1, e2⟩ := h.refuse h0 (w := w) hw
        rw [if_neg (by rw [l_ltI (by omega) (by decide)]; exact hl), c5 s2, if_neg (fun z => hno ⟨s2, by omega, z⟩), e1, bs, if_neg e2.ne, if_neg hl]
        exact ⟨g, rfl, e2⟩
    · obtain ⟨g, e1, e2⟩ := h.refuse h0 (w := 1) (by decide)
      rw [if_neg (fun z => s2 ((k257 hB h.2.2.1).mp z)), e1, bs, if_neg e2.ne, if_pos s2]
      exact ⟨g, rfl, e2⟩
/-! the reference -/
def RLb (B : Nat → Nat) (n : Nat) (ν0 : Mem) (k : Nat) (ν : Mem) : Prop := RX B n ν ∧ RTg B n (Pq B n k) (ν.2.1 492) (ν.2.2.1 492) ∧ FLr ν0 ν
def RFl (B : Nat → Nat) (n : Nat) (ν0 : Mem) (w : Int32) (p : Nat) (ν : Mem) : Prop := RX B n ν ∧ FLr ν0 ν ∧ ν.2.1 492 9 = w ∧ ν.2.1 492 10 = I (Pq B n p)
theorem RLb.f (h : RLb B n ν0 k ν) {f : Nat} (v : Int32) (hf : f = 9 ∨ f = 10 ∨ (20 ≤ f ∧ f < 29)) (hz : (f = 9 → v ≠ 0) ∧ (f = 10 → ν.2.1 492 9 ≠ 0) := by exact ⟨fun h => absurd h (by decide), fun h => absurd h (by decide)⟩) : RLb B n ν0 k (sC ν 492 (up (ν.2.1 492) f v)) := by
  obtain ⟨⟨h1, h2⟩, ⟨r12, r13, r14, r15, r16, r17, r18, r19⟩, h3⟩ := h
  refine ⟨⟨h1.sC _ _, fun i hi => by rw [sC_n _ _ (by decide)]; exact h2 i hi⟩, ?_, h3.trans (FLr.f v (by omega) hz)⟩
  rw [sC_s]
  refine ⟨?_, ?_, ?_, ?_, ?_, fun q => ?_, fun q => ?_, r19⟩
  · rw [up_n _ _ (by omega)]; exact r12
  · rw [up_n _ _ (by omega)]; exact r13
  · rw [up_n _ _ (by omega)]; exact r14
  · rw [up_n _ _ (by omega)]; exact r15
  · rw [up_n _ _ (by omega)]; exact r16
  · rw [up_n _ _ (by omega)]; exact r17 q
  · rw [up_n _ _ (by omega)]; exact r18 q
theorem RLb.c (h : RLb B n ν0 k ν) {c : Nat} (g : Row) (hc : 497 ≤ c ∧ c ≤ 501) : RLb B n ν0 k (sC ν c g) := by
  obtain ⟨⟨h1, h2⟩, h6, h3⟩ := h
  refine ⟨⟨h1.sC _ _, fun j hj => by rw [sC_n _ _ (by omega)]; exact h2 j hj⟩, by rw [sC_n _ _ (by omega)]; exact h6, h3.trans (FLr.c g hc)⟩
theorem RLb.goes (hn : n ≤ 700) (hB : ∀ i, i < n → B i < 256) (h : RLb B n ν0 k ν) : ∃ g l, fX11_goes 492 ν = some (rM ν g l) ∧ RLb B n ν0 (k + 1) (rM ν g l) ∧ ∀ f, f < 13 ∨ 19 ≤ f → g f = ν.2.1 492 f := by
  obtain ⟨g, l, e1, e2, e3, e4⟩ := goes_ok hn hB h.1 (i := ip B n (k + 1)) (ip_le _) h.2.1.1 h.2.1.2.1
  refine ⟨g, l, e1, ⟨⟨rM_gr h.1.1 _ _, fun i hi => by rw [rM_n _ _ _ (by decide)]; exact h.1.2 i hi⟩, by rw [rM_g, rM_h]; exact e2, ?_⟩, e3⟩
  exact h.2.2.trans ⟨rfl, rfl, fun c a _ => rM_n _ _ _ a, fun c a => sLC_n _ _ a, fun f hf => by rw [rM_g, e3 f (by omega)], NF.eq (by rw [rM_g, e3 9 (by omega)]) (by rw [rM_g, e3 10 (by omega)])⟩
theorem RLb.wrong (h : RLb B n ν0 k ν) (h0 : ν.2.1 492 9 = 0) (w : Int32) (hw : w ≠ 0 := by decide) : ∃ ν', fX11_wrong 492 w ν = some ν' ∧ RFl B n ν0 w k ν' ∧ RLb B n ν0 k ν' := by
  unfold fX11_wrong
  rw [if_pos h0, bs, bs, sI_C, sI_C]
  have h1 := h.f (f := 9) w (Or.inl rfl) ⟨fun _ => hw, fun q => absurd q (by decide)⟩
  have h2 := h1.f (f := 10) ((sC ν 492 (up (ν.2.1 492) 9 w)).2.1 492 15) (Or.inr (Or.inl rfl)) ⟨fun q => absurd q (by decide), fun _ => by rw [sC_s, up_s]; exact hw⟩
  refine ⟨_, rfl, ⟨h2.1, h2.2.2, ?_, ?_⟩, h2⟩
  · rw [sC_s, up_n _ _ (by decide), sC_s, up_s]
  · rw [sC_s, up_s]
    exact h1.2.1.2.2.2.1
theorem wrong_f {w' : Int32} {p : Nat} (hw : w' ≠ 0) (h : RFl B n ν0 w' p ν) (w : Int32) : fX11_wrong 492 w ν = some ν := by
  unfold fX11_wrong
  rw [if_neg (by rw [h.2.2.1]; exact hw)]
theorem RFl.good {w : Int32} {p : Nat} (hw : w ≠ 0) (h : RFl B n ν0 w p ν) : fX11_isGood 492 ν = 0 := by
  unfold fX11_isGood
  rw [if_neg (by rw [h.2.2.1]; exact hw)]
theorem goodL (h0 : ν.2.1 492 9 = 0) : ¬ fX11_isGood 492 ν = 0 := by
  unfold fX11_isGood
  rw [if_pos h0]
  decide
theorem RFl.c {w : Int32} {p : Nat} (h : RFl B n ν0 w p ν) {c : Nat} (g : Row) (hc : 497 ≤ c ∧ c ≤ 501) : RFl B n ν0 w p (sC ν c g) := by
  obtain ⟨⟨h1, h2⟩, h3, h4, h5⟩ := h
  exact ⟨⟨h1.sC _ _, fun j hj => by rw [sC_n _ _ (by omega)]; exact h2 j hj⟩, h3.trans (FLr.c g hc), by rw [sC_n _ _ (by omega)]; exact h4, by rw [sC_n _ _ (by omega)]; exact h5⟩
theorem need_f {w : Int32} {p : Nat} (hw : w ≠ 0) (h : RFl B n ν0 w p ν) (x : Int32) : fX11_need 492 x ν = some ν := by
  unfold fX11_need
  rw [if_pos (h.good hw)]
theorem RLb.word (hn : n ≤ 700) (h : RLb B n ν0 k ν) : fX11_knownWord 492 ν = some (if KW B n (Pq B n k) = 17 then -1 else I (KW B n (Pq B n k))) := known_ok hn (Pq_le k) h.2.1
theorem RLb.sign (hB : ∀ i, i < n → B i < 256) (h : RLb B n ν0 k ν) {c : Nat} (hc : c < 256) : fX11_isSign 492 (I c) ν = if sg B n k c = true then 1 else 0 := by
  obtain ⟨r12, r13, r14, r15, r16, r17, r18, r19⟩ := h.2.1
  have hS4 := S_4 (B := B) (n := n) (Pq B n k)
  unfold fX11_isSign
  rw [r14]
  by_cases h3 : tkS B n (Pq B n k) = 3
  · have hlt := hB _ (tkE_gt (B := B) (n := n) (q := Pq B n k) (by omega)).2
    rw [if_pos (show I (tkS B n (Pq B n k)) = 3 by rw [h3]; rfl), r18 (by omega)]
    by_cases e : B (Pq B n k) = c
    · rw [if_pos (by rw [e]), if_pos (sg_iff.mpr ⟨h3, e⟩)]
    · rw [if_neg (fun q => e ((I_inj (by omega) (by omega)).mp q)), if_neg (fun q => e (sg_iff.mp q).2)]
  · rw [if_neg (show ¬ I (tkS B n (Pq B n k)) = 3 from fun q => h3 ((I_inj (m := 3) (by omega) (by omega)).mp q)), if_neg (fun q => h3 (sg_iff.mp q).1)]
/-- one of so many -/
theorem RLb.one (hn : n ≤ 700) (h : RLb B n ν0 k ν) (h0 : ν.2.1 492 9 = 0) (bd : Int32) : (isN B n k bd → fX11_isOneOf 492 bd ν = some (1, ν)) ∧ (¬ isN B n k bd → ∃ ν', fX11_isOneOf 492 bd ν = some (0, ν') ∧ RFl B n ν0 (wNm B n k 3) k ν' ∧ ν'.2.1 498 = ν.2.1 498) := by
  obtain ⟨r12, r13, r14, r15, r16, r17, r18, r19⟩ := h.2.1
  have hS4 := S_4 (B := B) (n := n) (Pq B n k)
  have hE := tkE_le (B := B) (Pq_le (B := B) (n := n) k)
  have w498 : ∀ w ν', fX11_wrong 492 w ν = some ν' → ν'.2.1 498 = ν.2.1 498 := by
    intro w ν' e
    unfold fX11_wrong at e
    rw [if_pos h0, bs, bs] at e
    obtain rfl := Option.some.inj e
    rw [sI_C, sI_C, sC_n _ _ (by decide), sC_n _ _ (by decide)]
  unfold fX11_isOneOf wNm
  rw [if_neg (goodL h0), r14, r16]
  constructor
  · rintro ⟨s2, hl, hv⟩
    rw [if_pos (by rw [s2]; rfl), if_neg (by rw [l_ltI (by omega) (by decide)]; show ¬ 4 < _; omega), r17 s2, if_pos hv]
    unfold fX11_isGood
    rw [if_pos h0]
  · intro hno
    by_cases s2 : tkS B n (Pq B n k) = 2
    · rw [if_pos (by rw [s2]; rfl), if_neg (show ¬ tkS B n (Pq B n k) ≠ 2 by omega)]
      by_cases hl : 4 < tkE B n (Pq B n k) - Pq B n k
      · obtain ⟨ν', e1, e2, _⟩ := h.wrong h0 2
        rw [if_pos (by rw [l_ltI (by omega) (by decide)]; exact hl), e1, bs, e2.good (by decide), if_pos hl]
        exact ⟨ν', rfl, e2, w498 _ _ e1⟩
      · obtain ⟨ν', e1, e2, _⟩ := h.wrong h0 3
        rw [if_neg (by rw [l_ltI (by omega) (by decide)]; exact hl), r17 s2, if_neg (fun z => hno ⟨s2, by omega, z⟩), e1, bs, e2.good (by decide), if_neg hl]
        exact ⟨ν', rfl, e2, w498 _ _ e1⟩
    · obtain ⟨ν', e1, e2, _⟩ := h.wrong h0 1
      rw [if_neg (show ¬ I (tkS B n (Pq B n k)) = (2 : Int32) from fun z => s2 ((I_inj (m := 2) (by omega) (by omega)).mp z)), e1, bs, e2.good (by decide), if_pos s2]
      exact ⟨ν', rfl, e2, w498 _ _ e1⟩
/-- a number from 0 to 9 -/
theorem RLb.nine (hn : n ≤ 700) (hB : ∀ i, i < n → B i < 256) (h : RLb B n ν0 k ν) (h0 : ν.2.1 492 9 = 0) : (isN B n k 10 → ∃ g l, fX11_number 492 (0 : Int32) (9 : Int32) ν = some (I (tkV B n (Pq B n k)), rM ν g l) ∧ RLb B n ν0 (k + 1) (rM ν g l) ∧ ∀ f, f < 13 ∨ 19 ≤ f → g f = ν.2.1 492 f) ∧ (¬ isN B n k 10 → ∃ v ν', fX11_number 492 (0 : Int32) (9 : Int32) ν = some (v, ν') ∧ RFl B n ν0 (wNm B n k 2) k ν' ∧ ν'.2.1 498 = ν.2.1 498) := by
  obtain ⟨r12, r13, r14, r15, r16, r17, r18, r19⟩ := h.2.1
  have hS4 := S_4 (B := B) (n := n) (Pq B n k)
  have hE := tkE_le (B := B) (Pq_le (B := B) (n := n) k)
  have w498 : ∀ w ν', fX11_wrong 492 w ν = some ν' → ν'.2.1 498 = ν.2.1 498 := by
    intro w ν' e
    unfold fX11_wrong at e
    rw [if_pos h0, bs, bs] at e
    obtain rfl := Option.some.inj e
    rw [sI_C, sI_C, sC_n _ _ (by decide), sC_n _ _ (by decide)]
  unfold fX11_number wNm
  rw [if_neg (goodL h0), r14, r16]
  constructor
  · rintro ⟨s2, hl, hv⟩
    have hv' : tkV B n (Pq B n k) < 10 := by
      have := tkV_lt hB s2
      exact (I_ltl (m := 10) (by omega) (by decide)).mp hv
    obtain ⟨g, l, e1, e2, e3⟩ := h.goes hn hB
    rw [if_pos (by rw [s2]; rfl), if_neg (by rw [l_ltI (by omega) (by decide)]; show ¬ 4 < _; omega), r17 s2, if_neg (I_neg (by omega)), if_neg (by rw [l_ltI (by omega) (by decide)]; show ¬ 9 < _; omega), if_neg (goodL h0), e1, bs]
    exact ⟨g, l, rfl, e2, e3⟩
  · intro hno
    by_cases s2 : tkS B n (Pq B n k) = 2
    · have hlt := tkV_lt hB s2
      rw [if_pos (by rw [s2]; rfl), if_neg (show ¬ tkS B n (Pq B n k) ≠ 2 by omega)]
      by_cases hl : 4 < tkE B n (Pq B n k) - Pq B n k
      · obtain ⟨ν', e1, e2, _⟩ := h.wrong h0 2
        rw [if_pos (by rw [l_ltI (by omega) (by decide)]; exact hl), e1, bs, if_pos (e2.good (by decide)), if_pos hl]
        exact ⟨_, ν', rfl, e2, w498 _ _ e1⟩
      · obtain ⟨ν', e1, e2, _⟩ := h.wrong h0 2
        have h9 : 9 < tkV B n (Pq B n k) := by
          refine Classical.byContradiction fun z => hno ⟨s2, by omega, ?_⟩
          exact (I_ltl (m := 10) (by omega) (by decide)).mpr (by show _ < 10; omega)
        rw [if_neg (by rw [l_ltI (by omega) (by decide)]; exact hl), r17 s2, if_neg (I_neg (by omega)), if_pos (by rw [l_ltI (by omega) (by decide)]; exact h9), e1, bs, if_pos (e2.good (by decide)), if_neg hl]
        exact ⟨_, ν', rfl, e2, w498 _ _ e1⟩
    · obtain ⟨ν', e1, e2, _⟩ := h.wrong h0 1
      rw [if_neg (show ¬ I (tkS B n (Pq B n k)) = (2 : Int32) from fun z => s2 ((I_inj (m := 2) (by omega) (by omega)).mp z)), e1, bs, if_pos (e2.good (by decide)), if_pos s2]
      exact ⟨_, ν', rfl, e2, w498 _ _ e1⟩
end Ln
