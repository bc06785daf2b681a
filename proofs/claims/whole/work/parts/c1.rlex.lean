/-! the reference's tokens -/
def pkL (B : Nat → Nat) (q : Nat) : Nat → Int64
  | 0 => 0
  | j + 1 => ((pkL B q j) <<< ((5 : Int32).toInt64 &&& 63)) ||| ((I (B (q + j)) - (96 : Int32)).toInt64)
theorem sgchain {α : Type} {b : Nat} (hb : b < 256) (X Y : α) : (if I b = (59 : Int32) then X else if I b = (40 : Int32) then X else if I b = (41 : Int32) then X else if I b = (43 : Int32) then X else if I b = (45 : Int32) then X else if I b = (42 : Int32) then X else if I b = (47 : Int32) then X else if I b = (60 : Int32) then X else if I b = (61 : Int32) then X else Y) = if isSg b = true then X else Y := by
  have e : ∀ m : Nat, m < 256 → I b = I m → b = m := fun m hm q => (I_inj (by omega) (by omega)).mp q
  by_cases h0 : b = 59
  · rw [if_pos (show I b = (59 : Int32) by rw [h0]; rfl), if_pos (by unfold isSg; simp [h0])]
  · rw [if_neg (show ¬ I b = (59 : Int32) from fun q => h0 (e 59 (by decide) q))]
    by_cases h1 : b = 40
    · rw [if_pos (show I b = (40 : Int32) by rw [h1]; rfl), if_pos (by unfold isSg; simp [h1])]
    · rw [if_neg (show ¬ I b = (40 : Int32) from fun q => h1 (e 40 (by decide) q))]
      by_cases h2 : b = 41
      · rw [if_pos (show I b = (41 : Int32) by rw [h2]; rfl), if_pos (by unfold isSg; simp [h2])]
      · rw [if_neg (show ¬ I b = (41 : Int32) from fun q => h2 (e 41 (by decide) q))]
        by_cases h3 : b = 43
        · rw [if_pos (show I b = (43 : Int32) by rw [h3]; rfl), if_pos (by unfold isSg; simp [h3])]
        · rw [if_neg (show ¬ I b = (43 : Int32) from fun q => h3 (e 43 (by decide) q))]
          by_cases h4 : b = 45
          · rw [if_pos (show I b = (45 : Int32) by rw [h4]; rfl), if_pos (by unfold isSg; simp [h4])]
          · rw [if_neg (show ¬ I b = (45 : Int32) from fun q => h4 (e 45 (by decide) q))]
            by_cases h5 : b = 42
            · rw [if_pos (show I b = (42 : Int32) by rw [h5]; rfl), if_pos (by unfold isSg; simp [h5])]
            · rw [if_neg (show ¬ I b = (42 : Int32) from fun q => h5 (e 42 (by decide) q))]
              by_cases h6 : b = 47
              · rw [if_pos (show I b = (47 : Int32) by rw [h6]; rfl), if_pos (by unfold isSg; simp [h6])]
              · rw [if_neg (show ¬ I b = (47 : Int32) from fun q => h6 (e 47 (by decide) q))]
                by_cases h7 : b = 60
                · rw [if_pos (show I b = (60 : Int32) by rw [h7]; rfl), if_pos (by unfold isSg; simp [h7])]
                · rw [if_neg (show ¬ I b = (60 : Int32) from fun q => h7 (e 60 (by decide) q))]
                  by_cases h8 : b = 61
                  · rw [if_pos (show I b = (61 : Int32) by rw [h8]; rfl), if_pos (by unfold isSg; simp [h8])]
                  · rw [if_neg (show ¬ I b = (61 : Int32) from fun q => h8 (e 61 (by decide) q))]
                    rw [if_neg (by unfold isSg; simp [h0, h1, h2, h3, h4, h5, h6, h7, h8])]
abbrev rM (μ : Mem) (g : Row) (h : Nat → Int64) : Mem := sLC (sC μ 492 g) 492 h
theorem rM_g (μ : Mem) (g : Row) (h : Nat → Int64) : (rM μ g h).2.1 492 = g := by rw [sLC_i, sC_s]
theorem rM_h (μ : Mem) (g : Row) (h : Nat → Int64) : (rM μ g h).2.2.1 492 = h := sLC_s _ _ _
theorem rM_n (μ : Mem) (g : Row) (h : Nat → Int64) {c : Nat} (hc : c ≠ 492) : (rM μ g h).2.1 c = μ.2.1 c := by rw [sLC_i, sC_n _ _ hc]
theorem rM_i (μ : Mem) (g : Row) (h : Nat → Int64) (f : Nat) (x : Int32) : sI (rM μ g h) 492 f x = rM μ (up g f x) h := by
  refine Mem.ext4 rfl ?_ (fun _ _ => rfl) rfl
  intro c j
  rw [sI_C]
  by_cases e : c = 492
  · subst e; rw [sC_s, rM_g, rM_g]
  · rw [sC_n _ _ e, rM_n _ _ _ e, rM_n _ _ _ e]
theorem rM_l (μ : Mem) (g : Row) (h : Nat → Int64) (f : Nat) (x : Int64) : sL (rM μ g h) 492 f x = rM μ g (up h f x) := by
  rw [sL_C, rM_h, sLC_C]
theorem rM_own (μ : Mem) : rM μ (μ.2.1 492) (μ.2.2.1 492) = μ := by
  unfold rM
  rw [sC_same]
  exact sLC_same μ 492
theorem rM_gr {μ : Mem} (hG : Gr μ) (g : Row) (h : Nat → Int64) : Gr (rM μ g h) := (hG.sC _ _).sLC _ _
section Rl
variable {B : Nat → Nat} {n : Nat}
def RX (B : Nat → Nat) (n : Nat) (μ : Mem) : Prop := Gr μ ∧ ∀ i, i < n → μ.2.1 495 i = I (B i)
theorem byteAt_ok (hn : n ≤ 700) {μ : Mem} (hX : RX B n μ) (g : Row) (h : Nat → Int64) (h12 : g 12 = I n) {i : Nat} (hi : i ≤ n) : fX11_byteAt 492 (I i) (rM μ g h) = some (if i < n then I (B i) else 0) := by
  unfold fX11_byteAt
  rw [rM_g, h12]
  by_cases q : i < n
  · rw [if_pos (by rw [I_lt (by omega) (by omega)]; exact q), if_pos q, g_492_7 (rM_gr hX.1 g h), bs, ld_495 (by omega), bs, rM_n _ _ _ (by decide), hX.2 i q]
  · rw [if_neg (by rw [I_lt (by omega) (by omega)]; exact q), if_neg q]
theorem let0 : fX11_isLetter 0 = 0 ∧ fX11_isDigit 0 = 0 := by decide
theorem g108 (hn : n ≤ 700) (hB : ∀ i, i < n → B i < 256) {μ : Mem} (hX : RX B n μ) {q : Nat} : ∀ f e m g h, n - e ≤ f → f < m → e ≤ n → q ≤ e → g 12 = I n → g 13 = I e → g 15 = I q → h 19 = pkL B q (min 6 (e - q)) → ∃ g' h', fX11_goes_108 m 492 (rM μ g h) = some (rM μ g' h') ∧ g' 13 = I (sc (fun i => isLe (B i)) n e) ∧ g' 14 = I 1 ∧ g' 16 = I (sc (fun i => isLe (B i)) n e - q) ∧ h' 19 = pkL B q (min 6 (sc (fun i => isLe (B i)) n e - q)) ∧ (∀ k, k ≠ 13 → k ≠ 14 → k ≠ 16 → g' k = g k) ∧ ∀ k, k ≠ 19 → h' k = h k := by
  intro f
  induction f with
  | zero =>
    intro e m g h h1 h2 h3 hq h12 h13 h15 h19
    obtain ⟨m, rfl⟩ : ∃ k, m = k + 1 := ⟨m - 1, by omega⟩
    obtain rfl : e = n := by omega
    rw [fX11_goes_108, rM_g, h13, byteAt_ok hn hX g h h12 (by omega), bs, if_neg (Nat.lt_irrefl _), if_pos let0.1, bs, bs, rM_i, rM_g, rM_i, up_n _ _ (by decide), up_n _ _ (by decide), h13, h15, I_sub hq, sc_x (fun q => absurd q.1 (Nat.lt_irrefl _))]
    exact ⟨_, _, rfl, by rw [up_n _ _ (by decide), up_n _ _ (by decide)]; exact h13, by rw [up_n _ _ (by decide), up_s]; rfl, up_s _ _ _, h19, fun k a b c => by rw [up_n _ _ c, up_n _ _ b], fun _ _ => rfl⟩
  | succ f ih =>
    intro e m g h h1 h2 h3 hq h12 h13 h15 h19
    obtain ⟨m, rfl⟩ : ∃ k, m = k + 1 := ⟨m - 1, by omega⟩
    by_cases hl : e < n ∧ isLe (B e) = true
    · have hb := hB e hl.1
      rw [fX11_goes_108, rM_g, h13, byteAt_ok hn hX g h h12 (by omega), bs, if_pos hl.1, (is_le ⟨B e, hb⟩).2.2.2.1, if_pos hl.2, if_neg (by decide), h15, I_sub hq]
      by_cases h4' : e - q < 6
      · have hv : ((h 19) <<< ((5 : Int32).toInt64 &&& 63)) ||| ((I (B e) - (96 : Int32)).toInt64) = pkL B q (min 6 (e + 1 - q)) := by
          rw [h19, show min 6 (e - q) = e - q by omega, show min 6 (e + 1 - q) = (e - q) + 1 by omega, pkL, show q + (e - q) = e by omega]
        rw [if_pos (by rw [I_ltl (by omega) (by decide)]; exact h4'), bs, bs, bs, rM_l, rM_g, rM_h, hv, rM_i, h13, I_addl]
        obtain ⟨g', h', r1, r2, r3, r4, r5, r6, r7⟩ := ih (e + 1) m (up g 13 (I (e + OfNat.ofNat 1))) (up h 19 (pkL B q (min 6 (e + 1 - q)))) (by omega) (by omega) (by omega) (by omega) (by rw [up_n _ _ (by decide)]; exact h12) (up_s _ _ _) (by rw [up_n _ _ (by decide)]; exact h15) (up_s _ _ _)
        rw [sc_y (p := fun i => isLe (B i)) hl.1 hl.2]
        exact ⟨g', h', r1, r2, r3, r4, r5, fun k a b c => by rw [r6 k a b c, up_n _ _ a], fun k a => by rw [r7 k a, up_n _ _ a]⟩
      · rw [if_neg (by rw [I_ltl (by omega) (by decide)]; exact h4'), bs, rM_i, I_addl]
        obtain ⟨g', h', r1, r2, r3, r4, r5, r6, r7⟩ := ih (e + 1) m (up g 13 (I (e + OfNat.ofNat 1))) h (by omega) (by omega) (by omega) (by omega) (by rw [up_n _ _ (by decide)]; exact h12) (up_s _ _ _) (by rw [up_n _ _ (by decide)]; exact h15) (by rw [h19]; congr 1; omega)
        rw [sc_y (p := fun i => isLe (B i)) hl.1 hl.2]
        exact ⟨g', h', r1, r2, r3, r4, r5, fun k a b c => by rw [r6 k a b c, up_n _ _ a], r7⟩
    · have hz : fX11_isLetter (if e < n then I (B e) else 0) = 0 := by
        by_cases he : e < n
        · rw [if_pos he, (is_le ⟨B e, hB e he⟩).2.2.2.1, if_neg (fun q => hl ⟨he, q⟩)]
        · rw [if_neg he]; exact let0.1
      rw [fX11_goes_108, rM_g, h13, byteAt_ok hn hX g h h12 (by omega), bs, if_pos hz, bs, bs, rM_i, rM_g, rM_i, up_n _ _ (by decide), up_n _ _ (by decide), h13, h15, I_sub hq, sc_x (p := fun i => isLe (B i)) hl]
      exact ⟨_, _, rfl, by rw [up_n _ _ (by decide), up_n _ _ (by decide)]; exact h13, by rw [up_n _ _ (by decide), up_s]; rfl, up_s _ _ _, h19, fun k a b c => by rw [up_n _ _ c, up_n _ _ b], fun _ _ => rfl⟩
theorem g187 (hn : n ≤ 700) (hB : ∀ i, i < n → B i < 256) {μ : Mem} (hX : RX B n μ) {q : Nat} : ∀ f e m g h, n - e ≤ f → f < m → e ≤ n → q ≤ e → g 12 = I n → g 13 = I e → g 15 = I q → g 17 = I (dv B q (min 4 (e - q))) → ∃ g', fX11_goes_187 m 492 (rM μ g h) = some (rM μ g' h) ∧ g' 13 = I (sc (fun i => isDi (B i)) n e) ∧ g' 14 = I 2 ∧ g' 16 = I (sc (fun i => isDi (B i)) n e - q) ∧ g' 17 = I (dv B q (min 4 (sc (fun i => isDi (B i)) n e - q))) ∧ ∀ k, k ≠ 13 → k ≠ 14 → k ≠ 16 → k ≠ 17 → g' k = g k := by
  intro f
  induction f with
  | zero =>
    intro e m g h h1 h2 h3 hq h12 h13 h15 h17
    obtain ⟨m, rfl⟩ : ∃ k, m = k + 1 := ⟨m - 1, by omega⟩
    obtain rfl : e = n := by omega
    rw [fX11_goes_187, rM_g, h13, byteAt_ok hn hX g h h12 (by omega), bs, if_neg (Nat.lt_irrefl _), if_pos let0.2, bs, bs, rM_i, rM_g, rM_i, up_n _ _ (by decide), up_n _ _ (by decide), h13, h15, I_sub hq, sc_x (fun q => absurd q.1 (Nat.lt_irrefl _))]
    exact ⟨_, rfl, by rw [up_n _ _ (by decide), up_n _ _ (by decide)]; exact h13, by rw [up_n _ _ (by decide), up_s]; rfl, up_s _ _ _, by rw [up_n _ _ (by decide), up_n _ _ (by decide)]; exact h17, fun k a b c d => by rw [up_n _ _ c, up_n _ _ b]⟩
  | succ f ih =>
    intro e m g h h1 h2 h3 hq h12 h13 h15 h17
    obtain ⟨m, rfl⟩ : ∃ k, m = k + 1 := ⟨m - 1, by omega⟩
    by_cases hl : e < n ∧ isDi (B e) = true
    · have hb := hB e hl.1
      have hd : 48 ≤ B e := by have := hl.2; unfold isDi at this; simp at this; exact this.1
      rw [fX11_goes_187, rM_g, h13, byteAt_ok hn hX g h h12 (by omega), bs, if_pos hl.1, (is_le ⟨B e, hb⟩).2.2.2.2, if_pos hl.2, if_neg (by decide), h15, I_sub hq]
      by_cases h4' : e - q < 4
      · have hv : (10 : Int32) * I (dv B q (min 4 (e - q))) + I (B e) - 48 = I (dv B q (min 4 (e + 1 - q))) := by
          rw [l_mulI, I_add, I_subl (by show 48 ≤ 10 * _ + B e; omega)]
          rw [show min 4 (e - q) = e - q by omega, show min 4 (e + 1 - q) = (e - q) + 1 by omega, dv, show q + (e - q) = e by omega]
          congr 1
          show 10 * dv B q (e - q) + B e - 48 = _
          omega
        rw [if_pos (by rw [I_ltl (by omega) (by decide)]; exact h4'), bs, bs, bs, rM_i, rM_g, h17, hv, rM_i, up_n _ _ (by decide), h13, I_addl]
        obtain ⟨g', r1, r2, r3, r4, r5, r6⟩ := ih (e + 1) m (up (up g 17 (I (dv B q (min 4 (e + 1 - q))))) 13 (I (e + OfNat.ofNat 1))) h (by omega) (by omega) (by omega) (by omega) (by rw [up_n _ _ (by decide), up_n _ _ (by decide)]; exact h12) (up_s _ _ _) (by rw [up_n _ _ (by decide), up_n _ _ (by decide)]; exact h15) (by rw [up_n _ _ (by decide), up_s])
        rw [sc_y (p := fun i => isDi (B i)) hl.1 hl.2]
        exact ⟨g', r1, r2, r3, r4, r5, fun k a b c d => by rw [r6 k a b c d, up_n _ _ a, up_n _ _ d]⟩
      · rw [if_neg (by rw [I_ltl (by omega) (by decide)]; exact h4'), bs, rM_i, I_addl]
        obtain ⟨g', r1, r2, r3, r4, r5, r6⟩ := ih (e + 1) m (up g 13 (I (e + OfNat.ofNat 1))) h (by omega) (by omega) (by omega) (by omega) (by rw [up_n _ _ (by decide)]; exact h12) (up_s _ _ _) (by rw [up_n _ _ (by decide)]; exact h15) (by rw [up_n _ _ (by decide), h17]; congr 2; omega)
        rw [sc_y (p := fun i => isDi (B i)) hl.1 hl.2]
        exact ⟨g', r1, r2, r3, r4, r5, fun k a b c d => by rw [r6 k a b c d, up_n _ _ a]⟩
    · have hz : fX11_isDigit (if e < n then I (B e) else 0) = 0 := by
        by_cases he : e < n
        · rw [if_pos he, (is_le ⟨B e, hB e he⟩).2.2.2.2, if_neg (fun q => hl ⟨he, q⟩)]
        · rw [if_neg he]; exact let0.2
      rw [fX11_goes_187, rM_g, h13, byteAt_ok hn hX g h h12 (by omega), bs, if_pos hz, bs, bs, rM_i, rM_g, rM_i, up_n _ _ (by decide), up_n _ _ (by decide), h13, h15, I_sub hq, sc_x (p := fun i => isDi (B i)) hl]
      exact ⟨_, rfl, by rw [up_n _ _ (by decide), up_n _ _ (by decide)]; exact h13, by rw [up_n _ _ (by decide), up_s]; rfl, up_s _ _ _, by rw [up_n _ _ (by decide), up_n _ _ (by decide)]; exact h17, fun k a b c d => by rw [up_n _ _ c, up_n _ _ b]⟩
/-- the token at a place, as the reference has it -/
def RTg (B : Nat → Nat) (n q : Nat) (g : Row) (h : Nat → Int64) : Prop := g 12 = I n ∧ g 13 = I (tkE B n q) ∧ g 14 = I (tkS B n q) ∧ g 15 = I q ∧ g 16 = I (tkE B n q - q) ∧ (tkS B n q = 2 → g 17 = I (tkV B n q)) ∧ (tkS B n q ≠ 0 → g 18 = I (B q)) ∧ (tkS B n q = 1 → h 19 = pkL B q (min 6 (tkE B n q - q)))
theorem g50 (hn : n ≤ 700) (hB : ∀ i, i < n → B i < 256) {μ : Mem} (hX : RX B n μ) {q : Nat} (hq : q ≤ n) {g : Row} {h : Nat → Int64} (h12 : g 12 = I n) (h13 : g 13 = I q) : ∃ g' h', fX11_goes_50 492 (rM μ g h) = some (rM μ g' h') ∧ RTg B n q g' h' ∧ (∀ k, k < 13 ∨ 19 ≤ k → g' k = g k) ∧ ∀ k, k ≠ 19 → h' k = h k := by
  unfold fX11_goes_50
  rw [bs, bs, bs, rM_g, h13, rM_i, rM_l, rM_i, rM_g, up_n _ _ (by decide), up_n _ _ (by decide), h13]
  rw [byteAt_ok hn hX _ _ (by rw [up_n _ _ (by decide), up_n _ _ (by decide)]; exact h12) hq, bs, bs, rM_i, rM_g, up_n _ _ (show (13 : Nat) ≠ 18 by decide), up_n _ _ (show (13 : Nat) ≠ 17 by decide), up_n _ _ (show (13 : Nat) ≠ 15 by decide), up_n _ _ (show (12 : Nat) ≠ 18 by decide), up_n _ _ (show (12 : Nat) ≠ 17 by decide), up_n _ _ (show (12 : Nat) ≠ 15 by decide), h12, h13]
  by_cases h0 : q < n
  · have hb := hB q h0
    rw [if_pos (show I q < I n by rw [I_lt (by omega) (by omega)]; exact h0), if_pos h0, (is_le ⟨B q, hb⟩).2.2.2.1, (is_le ⟨B q, hb⟩).2.2.2.2]
    by_cases hl : isLe (B q) = true
    · have eS : tkS B n q = 1 := by unfold tkS; rw [if_neg (by omega), if_pos hl]
      have eE : tkE B n q = sc (fun i => isLe (B i)) n q := by unfold tkE; rw [if_neg (by omega), if_pos hl]
      rw [if_pos hl, if_neg (by decide)]
      obtain ⟨g', h', r1, r2, r3, r4, r5, r6, r7⟩ := g108 hn hB hX (q := q) (n - q) q fuel (up (up (up g 15 (I q)) 17 0) 18 (I (B q))) (up h 19 0) (Nat.le_refl _) (by unfold fuel; omega) hq (Nat.le_refl _) (by rw [up_n _ _ (by decide), up_n _ _ (by decide), up_n _ _ (by decide)]; exact h12) (by rw [up_n _ _ (by decide), up_n _ _ (by decide), up_n _ _ (by decide)]; exact h13) (by rw [up_n _ _ (by decide), up_n _ _ (by decide), up_s]) (by rw [up_s, Nat.sub_self]; rfl)
      rw [r1]
      refine ⟨g', h', rfl, ⟨?_, ?_, ?_, ?_, ?_, ?_, ?_, ?_⟩, ?_, ?_⟩
      · rw [r6 12 (by decide) (by decide) (by decide), up_n _ _ (by decide), up_n _ _ (by decide), up_n _ _ (by decide)]; exact h12
      · rw [r2, eE]
      · rw [r3, eS]
      · rw [r6 15 (by decide) (by decide) (by decide), up_n _ _ (by decide), up_n _ _ (by decide), up_s]
      · rw [r4, eE]
      · intro q; omega
      · intro _; rw [r6 18 (by decide) (by decide) (by decide), up_s]
      · intro _; rw [r5, eE]
      · intro k hk; rw [r6 k (by omega) (by omega) (by omega), up_n _ _ (by omega), up_n _ _ (by omega), up_n _ _ (by omega)]
      · intro k hk; rw [r7 k hk, up_n _ _ hk]
    · rw [if_neg hl, if_pos rfl]
      by_cases hd : isDi (B q) = true
      · have eS : tkS B n q = 2 := by unfold tkS; rw [if_neg (by omega), if_neg hl, if_pos hd]
        have eE : tkE B n q = sc (fun i => isDi (B i)) n q := by unfold tkE; rw [if_neg (by omega), if_neg hl, if_pos hd]
        rw [if_pos hd, if_neg (by decide)]
        obtain ⟨g', r1, r2, r3, r4, r5, r6⟩ := g187 hn hB hX (q := q) (n - q) q fuel (up (up (up g 15 (I q)) 17 0) 18 (I (B q))) (up h 19 0) (Nat.le_refl _) (by unfold fuel; omega) hq (Nat.le_refl _) (by rw [up_n _ _ (by decide), up_n _ _ (by decide), up_n _ _ (by decide)]; exact h12) (by rw [up_n _ _ (by decide), up_n _ _ (by decide), up_n _ _ (by decide)]; exact h13) (by rw [up_n _ _ (by decide), up_n _ _ (by decide), up_s]) (by rw [up_n _ _ (by decide), up_s, Nat.sub_self]; rfl)
        rw [r1]
        refine ⟨g', _, rfl, ⟨?_, ?_, ?_, ?_, ?_, ?_, ?_, ?_⟩, ?_, ?_⟩
        · rw [r6 12 (by decide) (by decide) (by decide) (by decide), up_n _ _ (by decide), up_n _ _ (by decide), up_n _ _ (by decide)]; exact h12
        · rw [r2, eE]
        · rw [r3, eS]
        · rw [r6 15 (by decide) (by decide) (by decide) (by decide), up_n _ _ (by decide), up_n _ _ (by decide), up_s]
        · rw [r4, eE]
        · intro _; rw [r5]; unfold tkV; rw [eE]
        · intro _; rw [r6 18 (by decide) (by decide) (by decide) (by decide), up_s]
        · intro q; omega
        · intro k hk; rw [r6 k (by omega) (by omega) (by omega) (by omega), up_n _ _ (by omega), up_n _ _ (by omega), up_n _ _ (by omega)]
        · intro k hk; rw [up_n _ _ hk]
      · have eE : tkE B n q = q + 1 := by unfold tkE; rw [if_neg (by omega), if_neg hl, if_neg hd]
        rw [if_neg hd, if_pos rfl, bs, rM_i, I_addl, sgchain hb]
        have fin : ∀ s : Nat, tkS B n q = s → s = 3 ∨ s = 4 → RTg B n q (up (up (up (up (up (up g 15 (I q)) 17 0) 18 (I (B q))) 13 (I (q + OfNat.ofNat 1))) 14 (I s)) 16 (I (q + 1 - q))) (up h 19 0) ∧ (∀ k, k < 13 ∨ 19 ≤ k → (up (up (up (up (up (up g 15 (I q)) 17 0) 18 (I (B q))) 13 (I (q + OfNat.ofNat 1))) 14 (I s)) 16 (I (q + 1 - q))) k = g k) ∧ ∀ k, k ≠ 19 → up h 19 0 k = h k := by
          intro s es hs
          refine ⟨⟨?_, ?_, ?_, ?_, ?_, fun q => by omega, ?_, fun q => by omega⟩, ?_, fun k hk => up_n _ _ hk⟩
          · rw [up_n _ _ (by decide), up_n _ _ (by decide), up_n _ _ (by decide), up_n _ _ (by decide), up_n _ _ (by decide), up_n _ _ (by decide)]; exact h12
          · rw [up_n _ _ (by decide), up_n _ _ (by decide), up_s, eE]
          · rw [up_n _ _ (by decide), up_s, es]
          · rw [up_n _ _ (by decide), up_n _ _ (by decide), up_n _ _ (by decide), up_n _ _ (by decide), up_n _ _ (by decide), up_s]
          · rw [up_s, eE]
          · intro _; rw [up_n _ _ (by decide), up_n _ _ (by decide), up_n _ _ (by decide), up_s]
          · intro k hk; rw [up_n _ _ (by omega), up_n _ _ (by omega), up_n _ _ (by omega), up_n _ _ (by omega), up_n _ _ (by omega), up_n _ _ (by omega)]
        by_cases hs : isSg (B q) = true
        · have eS : tkS B n q = 3 := by unfold tkS; rw [if_neg (by omega), if_neg hl, if_neg hd, if_pos hs]
          rw [if_pos hs]
          unfold fX11_goes_323
          rw [bs, bs, rM_i, rM_g, rM_i, up_n _ _ (show (13 : Nat) ≠ 14 by decide), up_s, up_n _ _ (show (15 : Nat) ≠ 14 by decide), up_n _ _ (show (15 : Nat) ≠ 13 by decide), up_n _ _ (show (15 : Nat) ≠ 18 by decide), up_n _ _ (show (15 : Nat) ≠ 17 by decide), up_s, I_sub (by show q ≤ q + 1; omega)]
          obtain ⟨f1, f2, f3⟩ := fin 3 eS (Or.inl rfl)
          exact ⟨_, _, rfl, f1, f2, f3⟩
        · have eS : tkS B n q = 4 := by unfold tkS; rw [if_neg (by omega), if_neg hl, if_neg hd, if_neg hs]
          rw [if_neg hs, bs, bs, rM_i, rM_g, rM_i, up_n _ _ (show (13 : Nat) ≠ 14 by decide), up_s, up_n _ _ (show (15 : Nat) ≠ 14 by decide), up_n _ _ (show (15 : Nat) ≠ 13 by decide), up_n _ _ (show (15 : Nat) ≠ 18 by decide), up_n _ _ (show (15 : Nat) ≠ 17 by decide), up_s, I_sub (by show q ≤ q + 1; omega)]
          obtain ⟨f1, f2, f3⟩ := fin 4 eS (Or.inr rfl)
          exact ⟨_, _, rfl, f1, f2, f3⟩
  · have eS : tkS B n q = 0 := by unfold tkS; rw [if_pos (by omega)]
    have eE : tkE B n q = q := by unfold tkE; rw [if_pos (by omega)]
    rw [if_neg (show ¬ I q < I n by rw [I_lt (by omega) (by omega)]; exact h0), bs, bs, rM_i, rM_g, rM_i, up_n _ _ (show (13 : Nat) ≠ 14 by decide), up_n _ _ (show (13 : Nat) ≠ 18 by decide), up_n _ _ (show (13 : Nat) ≠ 17 by decide), up_n _ _ (show (13 : Nat) ≠ 15 by decide), h13, up_n _ _ (show (15 : Nat) ≠ 14 by decide), up_n _ _ (show (15 : Nat) ≠ 18 by decide), up_n _ _ (show (15 : Nat) ≠ 17 by decide), up_s, I_sub (Nat.le_refl q)]
    refine ⟨_, _, rfl, ⟨?_, ?_, ?_, ?_, ?_, fun q => by omega, fun q => absurd eS q, fun q => by omega⟩, ?_, fun k hk => up_n _ _ hk⟩
    · rw [up_n _ _ (by decide), up_n _ _ (by decide), up_n _ _ (by decide), up_n _ _ (by decide), up_n _ _ (by decide)]; exact h12
    · rw [up_n _ _ (by decide), up_n _ _ (by decide), up_n _ _ (by decide), up_n _ _ (by decide), up_n _ _ (by decide), eE]; exact h13
    · rw [up_n _ _ (by decide), up_s, eS]; rfl
    · rw [up_n _ _ (by decide), up_n _ _ (by decide), up_n _ _ (by decide), up_n _ _ (by decide), up_s]
    · rw [up_s, eE]
    · intro k hk; rw [up_n _ _ (by omega), up_n _ _ (by omega), up_n _ _ (by omega), up_n _ _ (by omega), up_n _ _ (by omega)]
theorem gg0 (hn : n ≤ 700) (hB : ∀ i, i < n → B i < 256) {μ : Mem} (hX : RX B n μ) : ∀ f i m g h, n - i ≤ f → f < m → i ≤ n → g 12 = I n → g 13 = I i → fX11_goes_0 m 492 (rM μ g h) = fX11_goes_50 492 (rM μ (up g 13 (I (tkQ B n i))) h) := by
  intro f
  induction f with
  | zero =>
    intro i m g h h1 h2 h3 h12 h13
    obtain ⟨m, rfl⟩ : ∃ k, m = k + 1 := ⟨m - 1, by omega⟩
    rw [fX11_goes_0, rM_g, h12, h13, if_neg (by rw [I_lt (by omega) (by omega)]; omega)]
    unfold tkQ
    rw [sc_x (by omega), ← h13, up_id]
  | succ f ih =>
    intro i m g h h1 h2 h3 h12 h13
    obtain ⟨m, rfl⟩ : ∃ k, m = k + 1 := ⟨m - 1, by omega⟩
    by_cases he : i < n
    · have hb := hB i he
      rw [fX11_goes_0, rM_g, h12, h13, if_pos (by rw [I_lt (by omega) (by omega)]; exact he), byteAt_ok hn hX g h h12 h3, if_pos he, bs]
      have stp : isBl (B i) = true → fX11_goes_0 m 492 (rM μ (up g 13 (I i + 1)) h) = fX11_goes_50 492 (rM μ (up g 13 (I (tkQ B n i))) h) := by
        intro hl
        rw [I_addl, ih (i + 1) m _ h (by omega) (by omega) (by omega) (by rw [up_n _ _ (by decide)]; exact h12) (up_s _ _ _), up_up]
        unfold tkQ
        rw [sc_y (p := fun i => isBl (B i)) he hl]
      by_cases h32 : B i = 32
      · rw [if_pos (by rw [h32]; rfl), bs, rM_i]
        exact stp (by unfold isBl; simp [h32])
      · rw [if_neg (show ¬ I (B i) = (32 : Int32) from fun q => h32 ((I_inj (m := 32) (by omega) (by omega)).mp q)), bs]
        by_cases h10 : B i = 10
        · rw [if_pos (by rw [h10]; rfl), bs, rM_i]
          exact stp (by unfold isBl; simp [h10])
        · rw [if_neg (show ¬ I (B i) = (10 : Int32) from fun q => h10 ((I_inj (m := 10) (by omega) (by omega)).mp q))]
          unfold tkQ
          rw [sc_x (p := fun i => isBl (B i)) (fun q => by have := q.2; unfold isBl at this; simp [h32, h10] at this), ← h13, up_id]
    · rw [fX11_goes_0, rM_g, h12, h13, if_neg (by rw [I_lt (by omega) (by omega)]; exact he)]
      unfold tkQ
      rw [sc_x (fun q => he q.1), ← h13, up_id]
theorem goes_ok (hn : n ≤ 700) (hB : ∀ i, i < n → B i < 256) {μ : Mem} (hX : RX B n μ) {i : Nat} (hi : i ≤ n) (h12 : μ.2.1 492 12 = I n) (h13 : μ.2.1 492 13 = I i) : ∃ g h, fX11_goes 492 μ = some (rM μ g h) ∧ RTg B n (tkQ B n i) g h ∧ (∀ k, k < 13 ∨ 19 ≤ k → g k = μ.2.1 492 k) ∧ ∀ k, k ≠ 19 → h k = μ.2.2.1 492 k := by
  unfold fX11_goes
  have e := gg0 hn hB hX (n - i) i fuel (μ.2.1 492) (μ.2.2.1 492) (Nat.le_refl _) (by unfold fuel; omega) hi h12 h13
  rw [rM_own] at e
  rw [e]
  obtain ⟨g', h', r1, r2, r3, r4⟩ := g50 hn hB hX (q := tkQ B n i) (sc_le hi) (g := up (μ.2.1 492) 13 (I (tkQ B n i))) (h := μ.2.2.1 492) (by rw [up_n _ _ (by decide)]; exact h12) (up_s _ _ _)
  exact ⟨g', h', r1, r2, fun k hk => by rw [r3 k hk, up_n _ _ (by omega)], r4⟩
end Rl
