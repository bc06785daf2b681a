/-! LINES: a rule -/
theorem sR_rr (μ : Mem) (a k : Nat) (x : Option Nat) : (sR μ a k x).2.2.2 a k = x := by rw [sR_r, if_pos ⟨rfl, rfl⟩]
theorem sR_rn (μ : Mem) (a k : Nat) (x : Option Nat) {b j : Nat} (h : ¬ (b = a ∧ j = k)) : (sR μ a k x).2.2.2 b j = μ.2.2.2 b j := by rw [sR_r, if_neg h]
theorem Gr.s31 {μ : Mem} (h : Gr μ) (k : Nat) (x : Option Nat) : Gr (sR μ 31 k x) := ⟨h.1, fun e he => by rw [sR_rn _ _ _ _ (fun z => gfix_31 e he z.1)]; exact h.2 e he⟩
theorem AtC_Rit : ∀ (l : List Itm) (c : Row) (i : Nat), AtC c i (l.map ecl) → Rit c i l := by
  intro l
  induction l with
  | nil => intro c i _; exact trivial
  | cons t l ih => intro c i h; exact ⟨h.1, ih c (i + 1) h.2⟩
theorem vok_G {B : Nat → Nat} {n : Nat} (hn : n ≤ 700) (hB : ∀ i, i < n → B i < 256) : VOK B n 0 0 5 6 vmG wf_GV := by
  refine ⟨fun k μ hT hC => wf_GV_ok hn hB hT (Pq_le k) hC, ?_, ?_, by decide, by decide, by decide⟩
  · intro v _ hv
    have : ∀ v : Fin 6, ∃ idx : Fin 6, wf_GV v.1 = I idx.1 ∧ vmG idx.1 = v.1 := by decide +kernel
    obtain ⟨idx, h1, h2⟩ := this ⟨v, by omega⟩
    exact ⟨idx.1, idx.2, h1, h2⟩
  · intro v hv
    unfold wf_GV
    rw [if_neg (by omega), if_neg (by omega), if_neg (by omega), if_neg (by omega), if_neg (by omega), if_neg (by omega)]
theorem vok_F {B : Nat → Nat} {n : Nat} (hn : n ≤ 700) (hB : ∀ i, i < n → B i < 256) : VOK B n 8 4 8 5 vmF wf_FV := by
  refine ⟨fun k μ hT hC => wf_FV_ok hn hB hT (Pq_le k) hC, ?_, ?_, by decide, by decide, by decide⟩
  · intro v h4 hv
    have : ∀ v : Fin 9, 4 ≤ v.1 → ∃ idx : Fin 5, wf_FV v.1 = I idx.1 ∧ vmF idx.1 = v.1 := by decide +kernel
    obtain ⟨idx, h1, h2⟩ := this ⟨v, by omega⟩ h4
    exact ⟨idx.1, idx.2, h1, h2⟩
  · intro v hv
    unfold wf_FV
    rw [if_neg (by omega), if_neg (by omega), if_neg (by omega), if_neg (by omega), if_neg (by omega)]
section Rc
variable {B : Nat → Nat} {n q a vs fi la nv : Nat} {vm : Nat → Nat} {wf : Nat → Int32} {μ0 μ ν0 ν : Mem} {k : Nat}
/-- the reference at an expression's first token -/
theorem expr_beg (hn : n ≤ 700) (hfi : fi ≤ 16) (hla : la ≤ 16) {t : Nat} (hk1 : 1 ≤ k) (hkn : k ≤ n) (h : RLb B n ν0 k ν) (h9 : ν.2.1 492 9 = 0) (h24 : ν.2.1 492 24 = I t) (ht : t + 1 ≤ 2 * k) : AtP B n t fi la ν (fX11_expression 492 (I fi) (I la) ν) k [] [] 1 (fun _ => false) 1 := by
  refine ⟨(fun a ha => by cases ha), ?_⟩
  have hG := h.1.1
  unfold fX11_expression
  rw [if_neg (goodL h9), bs, bs, bs, bs, sI_C, sI_C, sI_C, sI_C]
  simp only [sC_C, sC_s]
  have h1 := ((((h.f (f := 25) (I fi) (by omega)).f (f := 26) (I la) (by omega)).f (f := 27) (0 : Int32) (by omega)).f (f := 28) (0 : Int32) (by omega)).f (f := 28) (I 1) (by omega)
  simp only [sC_C, sC_s] at h1
  have hD : fX11_deeper 492 (sC ν 492 (up (up (up (up (ν.2.1 492) 25 (I fi)) 26 (I la)) 27 0) 28 0)) = some (sC (sC ν 492 (up (up (up (up (up (ν.2.1 492) 25 (I fi)) 26 (I la)) 27 0) 28 0) 28 (I 1))) 501 (up (ν.2.1 501) 1 0)) := by
    unfold fX11_deeper
    rw [sC_s, up_s, if_pos (by decide), bs, sI_C, sC_C, sC_s, show (0 : Int32) + 1 = I 1 from rfl, g_492_33 (hG.sC _ _), bs, sC_s, up_s, st_501 (by decide), bs, sC_n _ _ (by decide : (501 : Nat) ≠ 492)]
  rw [hD, bs]
  refine ⟨_, fuel, fuel, ν.2.1 492 10, ⟨⟨h1.c (c := 501) _ (by omega) |>.1, (h1.c (c := 501) _ (by omega)).2.1, ?_, ?_, ?_⟩, ?_, ?_, trivial, ?_, trivial, ?_, ?_, Nat.zero_le _, by show t + 0 + 0 + 1 ≤ 2 * k; omega, by omega, hkn, by omega, ?_⟩, by unfold fuel; omega, by unfold fuel; omega, rfl⟩
  · refine ⟨rfl, rfl, fun c c1 _ _ c4 => by rw [sC_n _ _ c4, sC_n _ _ c1], fun _ _ => rfl, fun f hf => ?_, fun i _ => by rw [sC_n _ _ (by decide), sC_n _ _ (by decide)], NF.eq (by rw [sC_n _ _ (by decide), sC_s, up_n _ _ (by decide), up_n _ _ (by decide), up_n _ _ (by decide), up_n _ _ (by decide), up_n _ _ (by decide)]) (by rw [sC_n _ _ (by decide), sC_s, up_n _ _ (by decide), up_n _ _ (by decide), up_n _ _ (by decide), up_n _ _ (by decide), up_n _ _ (by decide)])⟩
    rw [sC_n _ _ (by decide), sC_s, up_n _ _ (by omega), up_n _ _ (by omega), up_n _ _ (by omega), up_n _ _ (by omega), up_n _ _ (by omega)]
  · rw [sC_n _ _ (by decide), sC_s, up_n _ _ (by decide), up_n _ _ (by decide), up_n _ _ (by decide), up_n _ _ (by decide), up_s]
  · rw [sC_n _ _ (by decide), sC_s, up_n _ _ (by decide), up_n _ _ (by decide), up_n _ _ (by decide), up_s]
  · rw [sC_n _ _ (by decide), sC_s, up_n _ _ (by decide), up_n _ _ (by decide), up_n _ _ (by decide), up_n _ _ (by decide), up_n _ _ (by decide)]; exact h9
  · rw [sC_n _ _ (by decide), sC_s, up_n _ _ (by decide), up_n _ _ (by decide), up_n _ _ (by decide), up_n _ _ (by decide), up_n _ _ (by decide)]; exact h24
  · rw [sC_n _ _ (by decide), sC_s, up_n _ _ (by decide), up_n _ _ (by decide), up_s]; rfl
  · rw [sC_n _ _ (by decide), sC_s, up_s]
  · intro d hd1 hd
    rw [show d = 1 by omega, sC_s, up_s]
    rfl
  · rw [sC_n _ _ (by decide), sC_s, up_n _ _ (by decide), up_n _ _ (by decide), up_n _ _ (by decide), up_n _ _ (by decide), up_n _ _ (by decide)]
theorem RB.rlb {t j : Nat} {ν1 ν' : Mem} (h : RLb B n ν0 k ν1) (h' : RB B n t fi la ν1 j ν') : RLb B n ν0 j ν' := ⟨h'.1, h'.2.1, h.2.2.trans h'.2.2.1.lr⟩
/-- both read an expression -/
theorem rule_core (hn : n ≤ 700) (hB : ∀ i, i < n → B i < 256) (hq : q = 3 ∨ q = 17) (hV : VOK B n vs fi la nv vm wf) (hvs : vs < 15) (ha : a = q + 3 ∨ a = q + 6) (hb : CLb B n q μ0 k μ) (h0 : μ.2.1 31 0 = 0) (hsz : μ.2.1 a 1 = 0) (hkn : k ≤ n) (hk1 : 1 ≤ k) :
    ∃ μ', fX6_readExprN 31 (0 : Int32) (sR (sR μ 31 9 (some a)) 31 10 (some (10000 + vs))) = some μ' ∧
      ((∃ j X, k < j ∧ CLb B n q μ0 j μ' ∧ μ'.2.1 31 0 = 0 ∧ μ'.2.2.1 = μ.2.2.1 ∧ (∀ c, c ≠ 31 → c ≠ a → c ≠ a + 1 → μ'.2.1 c = μ.2.1 c) ∧ μ'.2.1 a 1 = I X.length ∧ Rit (μ'.2.1 (a + 1)) 0 X ∧ X ≠ [] ∧ Cok nv X ∧ j ≤ n ∧ ∀ ν t, RLb B n ν0 k ν → ν.2.1 492 9 = 0 → ν.2.1 492 24 = I t → t + 1 ≤ 2 * k → ∃ ν', fX11_expression 492 (I fi) (I la) ν = some ν' ∧ RLb B n ν0 j ν' ∧ ν'.2.1 492 9 = 0 ∧ FE t ν ν' ∧ ν'.2.1 492 24 = I (t + (fl vm X).length + 1) ∧ AtC (ν'.2.1 499) t (fl vm X ++ [0]) ∧ t + (fl vm X).length + 1 ≤ 2 * j) ∨
       (∃ w p, CFl B n q μ0 w p μ' ∧ ∀ ν t, RLb B n ν0 k ν → ν.2.1 492 9 = 0 → ν.2.1 492 24 = I t → t + 1 ≤ 2 * k → ∃ ν', fX11_expression 492 (I fi) (I la) ν = some ν' ∧ RFl B n ν0 w p ν')) := by
  have hr : RLa a := by unfold RLa; omega
  have ka : (kd a).1 = 17 := by
    rcases hr with rfl | rfl | rfl | rfl <;> decide +kernel
  have hG1 : Gr (sR (sR μ 31 9 (some a)) 31 10 (some (10000 + vs))) := (hb.2.1.s31 _ _).s31 _ _
  have hT1 : TX B n (sR (sR μ 31 9 (some a)) 31 10 (some (10000 + vs))) := by
    refine ⟨?_, hb.1.2⟩
    have := hb.1.1
    unfold gR at this ⊢
    rw [sR_rn _ _ _ _ (by omega), sR_rn _ _ _ _ (by omega)]
    exact this
  have hC0 : CX B n a vs (sR (sR μ 31 9 (some a)) 31 10 (some (10000 + vs))) k [] (sR (sR μ 31 9 (some a)) 31 10 (some (10000 + vs))) := by
    refine ⟨⟨hT1, hG1, hb.2.2.1, ?_, ?_, FX.refl _ _⟩, h0, hsz, trivial, Nat.zero_le _, hkn⟩
    · unfold gR
      rw [sR_rn _ _ _ _ (by omega), sR_rr]
      unfold knd
      rw [bs, if_pos ka]
    · unfold gS
      rw [sR_rr, bs, if_pos (by omega), show 10000 + vs - 10000 = vs by omega]
  -- what is left of the line's state
  have back : ∀ j μ', CB B n a vs (sR (sR μ 31 9 (some a)) 31 10 (some (10000 + vs))) j μ' → CLb B n q μ0 j μ' := by
    intro j μ' h
    obtain ⟨c1, c2, c3, c4, c5, f1, f2, f3, f4⟩ := h
    refine ⟨c1, c2, c3, ?_, hb.2.2.2.2.trans ⟨f1, fun c f hc => ?_, fun c hc hd => f3 c hc (by omega) (by omega), fun c hc => by rw [f2]; rfl, f4⟩⟩
    · have := hb.2.2.2.1
      unfold gR at this ⊢
      rw [f2, sR_rn _ _ _ _ (by omega), sR_rn _ _ _ _ (by omega)]
      exact this
    · rw [f2, sR_rn _ _ _ _ (by omega), sR_rn _ _ _ _ (by omega)]
  obtain ⟨μ', e, O⟩ := (rx_ok (a := a) hn hB hr hV 6 0 8 rfl (by decide) k [] _ hC0).1 (by decide)
  refine ⟨μ', e, ?_⟩
  rcases O with ⟨j, X, y1, y2, y3, y4, y5, y6⟩ | ⟨w, p, z1, z2⟩
  · refine Or.inl ⟨j, X, y1, back j μ' y2.1, y2.2.1, ?_, ?_, ?_, ?_, ?_, ⟨y4, ?_, fun _ => y5 0 (by decide)⟩, y2.2.2.2.2.2, ?_⟩
    · rw [y2.1.2.2.2.2.2.2.1]; rfl
    · intro c c1 c2 c3; exact y2.1.2.2.2.2.2.2.2.1 c c1 c2 c3
    · have := y2.2.2.1; rw [List.nil_append] at this; exact this
    · have := y2.2.2.2.1; rw [List.nil_append] at this; exact AtC_Rit X _ 0 this
    · intro hX
      have := y5 0 (by decide)
      rw [hX] at this
      exact absurd (show (0 : Nat) = 0 + 1 from this) (by decide)
    · have h1 := y2.2.2.2.2.1
      have h2 := y2.2.2.2.2.2
      rw [List.nil_append] at h1
      omega
    · intro ν t r1 r2 r3 r4
      have hbeg := expr_beg hn hV.2.2.2.1 hV.2.2.2.2.1 hk1 hkn r1 r2 r3 r4
      obtain ⟨xs', p, ts', q1, q2, q3, q4, q5⟩ := y6 t ν _ [] [] _ (fun a l h => (by cases h)) ⟨hbeg, rfl⟩
      rw [List.append_nil] at q1
      obtain ⟨ν', d1, d2, d3, d4, d5, d6⟩ := l_done hn hB q1 q5 (fun a ha => (q3 a ha).1)
      rw [q2, List.nil_append] at d4 d5 d6
      exact ⟨ν', d1, RB.rlb r1 d2, d3, d2.2.2.1, d4, d5, d6⟩
  · obtain ⟨w0, j, sz, c1, c2, c3, c4, c5⟩ := z1
    refine Or.inr ⟨w, p, ⟨w0, ⟨j, back j μ' c1⟩, c2, c3⟩, ?_⟩
    intro ν t r1 r2 r3 r4
    have hbeg := expr_beg hn hV.2.2.2.1 hV.2.2.2.2.1 hk1 hkn r1 r2 r3 r4
    obtain ⟨ν', j', d1, d2, d3, d4⟩ := z2 t ν _ [] [] _ (fun a l h => (by cases h)) ⟨hbeg, rfl⟩
    exact ⟨ν', d1, (RB.rlb r1 d2).1, (RB.rlb r1 d2).2.2, d3, d4⟩
end Rc
