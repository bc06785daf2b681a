/-! THE REFERENCE: how far it is, the whole -/
theorem Wb_there {C : Cel} {r : Row} {bar : Option Nat} {x : Nat} (h : Wb C r bar x = true) : there C x = true := by
  unfold Wb at h
  rw [Bool.and_eq_true] at h
  exact (wh_iff.mp h.1).1
theorem rch_there {C : Cel} {r : Row} {W : Nat → Bool} (hC : C.ok) (hs : StOK C r) (hW : ∀ x, W x = true → there C x = true) {to : Nat} (hto : there C to = true) {k y : Nat} (h : rch (adj C r) W to k y) : there C y = true := by
  cases k with
  | zero => have h' : y = to := h; rw [h']; exact hto
  | succ k =>
    obtain ⟨x, h1, h2, _⟩ := h
    exact adj_there hC hs (hW x h2) (by rw [adj_symm]; exact h1)
theorem IsD.lt {C : Cel} {r : Row} {W : Nat → Bool} (hC : C.ok) (hs : StOK C r) (hW : ∀ x, W x = true → there C x = true) {to : Nat} (hto : there C to = true) {k y : Nat} (h : IsD (adj C r) W to y k) : k < 48 := by
  have key : ∀ j, j ≤ k → j + 1 ≤ cnt (fun z => @decide (∃ i, i ≤ j ∧ IsD (adj C r) W to z i) (Classical.propDecidable _)) 48 := by
    intro j
    induction j with
    | zero =>
      intro hj
      obtain ⟨x, hx⟩ := h.pre 0 hj
      have h48 := there_lt hC (rch_there hC hs hW hto hx.1)
      have := cnt_lt (p := fun _ => false) (q := fun z => @decide (∃ i, i ≤ 0 ∧ IsD (adj C r) W to z i) (Classical.propDecidable _)) h48 rfl (by simp only [decide_eq_true_eq]; exact ⟨0, Nat.le_refl 0, hx⟩) (fun _ _ q => by cases q)
      omega
    | succ j ih =>
      intro hj
      have h1 := ih (by omega)
      obtain ⟨x, hx⟩ := h.pre (j + 1) hj
      have h48 := there_lt hC (rch_there hC hs hW hto hx.1)
      have := cnt_lt (p := fun z => @decide (∃ i, i ≤ j ∧ IsD (adj C r) W to z i) (Classical.propDecidable _)) (q := fun z => @decide (∃ i, i ≤ j + 1 ∧ IsD (adj C r) W to z i) (Classical.propDecidable _)) h48
        (by
          simp only [decide_eq_false_iff_not]
          rintro ⟨i, hi, h2⟩
          have := h2.uniq hx
          omega)
        (by simp only [decide_eq_true_eq]; exact ⟨j + 1, Nat.le_refl _, hx⟩)
        (fun z _ q => by
          simp only [decide_eq_true_eq] at q ⊢
          obtain ⟨i, hi, h2⟩ := q
          exact ⟨i, by omega, h2⟩)
      omega
  have h1 := key k (Nat.le_refl k)
  have h2 := cnt_le (fun z => @decide (∃ i, i ≤ k ∧ IsD (adj C r) W to z i) (Classical.propDecidable _)) 48
  omega
theorem dst_cases {C : Cel} {r : Row} {W : Nat → Bool} (hC : C.ok) (hs : StOK C r) (hW : ∀ x, W x = true → there C x = true) {to : Nat} (hto : there C to = true) (y : Nat) : (dst (adj C r) W to y = 9999 ∧ ∀ k, ¬ rch (adj C r) W to k y) ∨ (dst (adj C r) W to y < 48 ∧ IsD (adj C r) W to y (dst (adj C r) W to y)) := by
  by_cases h : ∃ k, rch (adj C r) W to k y
  · obtain ⟨k, hk⟩ := h
    obtain ⟨m, _, hm⟩ := IsD.of hk
    rw [dst_of hm]
    exact Or.inr ⟨hm.lt hC hs hW hto, hm⟩
  · have h' : ∀ k, ¬ rch (adj C r) W to k y := fun k hk => h ⟨k, hk⟩
    exact Or.inl ⟨dst_no h', h'⟩
theorem laysFar_out {C : Cel} {μ : Mem} (h : RC C μ) {b : Nat} (hb : b ≤ 79) (hs : StOK C (rwb μ b)) {bar : Option Nat} (hbar : μ.2.1 492 41 = enc bar) (hb48 : ∀ x, bar = some x → x < 48) {to : Nat} :
    ∀ (n hd tl : Nat) (f q : Nat → Nat) (F Q : Row), 48 - hd < n → (∀ y, y < 48 → F y = I (f y)) → (∀ i, i < tl → Q i = I (q i)) → BI C (rwb μ b) bar to hd tl f q → (∀ y i, y < 48 → f y ≠ 9999 → hd ≤ i → i < tl → f y ≤ f (q i) + 1) →
    ∃ F' Q', fX11_laysFar_54 n 492 (I b) (I hd) (I tl) (mFQ μ F Q) = some (mFQ μ F' Q') ∧ ∀ y, there C y = true → F' y = I (dst (adj C (rwb μ b)) (Wb C (rwb μ b) bar) to y) := by
  intro n
  induction n with
  | zero => intro hd tl f q F Q hn; omega
  | succ n ih =>
    intro hd tl f q F Q hn hF hQ hI hG
    have tl48 : tl ≤ 48 := by rw [hI.2.2.2.1]; exact cnt_le _ _
    have hht := hI.2.2.2.2.2.2.2
    rw [fX11_laysFar_54]
    by_cases hlt : hd < tl
    · simp (disch := omega) only [I_lt, hlt, if_true, gR_C, g_492_40 h.1, Option.bind_some, ld_507, mFQ_Q, hQ hd hlt, I_addl]
      obtain ⟨tl', F', Q', f', q', e, b1, b2, b3, b4⟩ := laysFar_in h hb hs hbar hb48 (to := to) (fX11_laysFar_54 n) hF hQ hI hlt (fun y hy hf => hG y hd hy hf (Nat.le_refl _) hlt)
      have tl48' : tl' ≤ 48 := by rw [b3.2.2.2.1]; exact cnt_le _ _
      rw [e]
      refine ih (hd + 1) tl' f' q' F' Q' (by omega) b1 b2 b3 ?_
      intro y i hy hf hi hi2
      have h1 := b4 y hy hf
      have h2 := b3.2.2.1 hd i (by omega) hi2
      omega
    · simp (disch := omega) only [I_lt, hlt, if_false]
      refine ⟨F, Q, rfl, ?_⟩
      intro y hy
      rw [hF y (there_lt h.2.1 hy), hI.done h.2.1 hs (by omega) y hy]
theorem mFQ_own (μ : Mem) (F : Row) : sC μ 506 F = mFQ μ F (μ.2.1 507) := (sC_same (sC μ 506 F) 507).symm
theorem laysFar_ok {C : Cel} {μ : Mem} (h : RC C μ) {b : Nat} (hb : b ≤ 79) (hs : StOK C (rwb μ b)) {bar : Option Nat} (hbar : μ.2.1 492 41 = enc bar) (hb48 : ∀ x, bar = some x → x < 48) {to : Nat} (hto : there C to = true) (hne : bar ≠ some to) :
    ∃ F Q, fX11_laysFar 492 (I b) (I to) μ = some (mFQ μ F Q) ∧ ∀ y, there C y = true → F y = I (dst (adj C (rwb μ b)) (Wb C (rwb μ b) bar) to y) := by
  have hto48 := there_lt h.2.1 hto
  unfold fX11_laysFar
  obtain ⟨⟨j, F⟩, e, h1, h2⟩ := loop_k (S := Nat × Row) (R := Option Mem)
    (fun n s => fX11_laysFar_2 n 492 (I b) (I to) (I s.1) (sC μ 506 s.2))
    (fun s => fX11_laysFar_2 1 492 (I b) (I to) (I 48) (sC μ 506 s.2)) 48
    (fun j s => s.1 = j ∧ ∀ y, y < j → s.2 y = I 9999)
    (by
      rintro n j ⟨j', F⟩ hj ⟨i1, i2⟩
      simp only at i1 i2
      subst i1
      show ∃ s', fX11_laysFar_2 (n + 1) 492 (I b) (I to) (I j') (sC μ 506 F) = _ ∧ _
      rw [fX11_laysFar_2]
      simp (disch := omega) only [I_ltl, hj, if_true, gR_C, g_492_39 h.1, Option.bind_some, st_506, sC_C, I_addl]
      refine ⟨(j' + 1, up F j' (I 9999)), rfl, rfl, ?_⟩
      intro y hy
      show up F j' (I 9999) y = I 9999
      unfold up
      split
      · rfl
      · exact i2 y (by omega))
    (by
      rintro n ⟨j', F⟩ ⟨i1, i2⟩
      simp only at i1
      subst i1
      show fX11_laysFar_2 (n + 1) 492 (I b) (I to) (I 48) (sC μ 506 F) = fX11_laysFar_2 1 492 (I b) (I to) (I 48) (sC μ 506 F)
      rw [fX11_laysFar_2, fX11_laysFar_2, if_neg (by decide), if_neg (by decide)])
    48 fuel 0 (0, μ.2.1 506) rfl (by unfold fuel; omega) ⟨rfl, fun y hy => absurd hy (Nat.not_lt_zero y)⟩
  simp only at e h1 h2
  rw [sC_same] at e
  rw [show (0 : Int32) = I 0 from rfl, e, fX11_laysFar_2, if_neg (by decide)]
  simp (disch := omega) only [gR_C, g_492_39 h.1, Option.bind_some, st_506, sC_C]
  have hGr : Gr (sC μ 506 (up ((sC μ 506 F).2.1 506) to 0)) := h.1.sC _ _
  rw [white_ok hGr hb hto48]
  simp only [Option.bind_some]
  rw [show rwb (sC μ 506 (up ((sC μ 506 F).2.1 506) to 0)) b = rwb μ b from rfl, show (sC μ 506 F).2.1 506 = F from rfl, mFQ_own]
  have hup : ∀ y, y < 48 → up F to 0 y = I (up (fun _ => 9999) to 0 y) := by
    intro y hy
    unfold up
    split
    · rfl
    · exact h2 y hy
  have b1 : ∀ y, y < 48 → up (fun _ => 9999) to 0 y = 9999 ∨ (up (fun _ => 9999) to 0 y ≤ 48 ∧ there C y = true ∧ rch (adj C (rwb μ b)) (Wb C (rwb μ b) bar) to (up (fun _ => 9999) to 0 y) y) := by
    intro y hy
    by_cases e2 : y = to
    · subst e2
      rw [up_s]
      exact Or.inr ⟨by omega, hto, rfl⟩
    · rw [up_n _ _ e2]
      exact Or.inl rfl
  by_cases hw : rwb μ b (1 + to) = 0
  · rw [if_pos hw, if_neg (by decide)]
    simp (disch := omega) only [gR_C, g_492_40 h.1, Option.bind_some]
    rw [show stI (mFQ μ (up F to 0) (μ.2.1 507)) 507 (0 : Int32) (I to) = _ from st_507 (n := 0) (by omega), Option.bind_some, mFQ_q, mFQ_Q]
    have hwb : Wb C (rwb μ b) bar to = true := by
      unfold Wb
      rw [wh_iff.mpr ⟨hto, hw⟩]
      simp [hne]
    refine laysFar_out h hb hs hbar hb48 fuel 0 1 (up (fun _ => 9999) to 0) (fun _ => to) (up F to 0) (up (μ.2.1 507) 0 (I to)) (by unfold fuel; omega) hup ?_ ⟨b1, ?_, ?_, ?_, ?_, ?_, up_s _ _ _, by omega⟩ ?_
    · intro i hi
      obtain rfl : i = 0 := by omega
      exact up_s _ _ _
    · intro i hi
      exact ⟨hto48, hwb, by rw [up_s]; omega⟩
    · intro i j _ _
      exact Nat.le_refl _
    · rw [cnt_up (p := fun _ => false) hto48 rfl (by rw [hwb, up_s]; rfl) (fun x _ hx => by rw [up_n _ _ hx]; simp), cnt_0 (fun _ _ => rfl)]
    · intro y hy _ hf
      refine ⟨0, by omega, ?_⟩
      by_cases e2 : y = to
      · exact e2.symm
      · rw [up_n _ _ e2] at hf; exact absurd rfl hf
    · intro i hi
      omega
    · intro y i hy hf hi hi2
      by_cases e2 : y = to
      · subst e2; rw [up_s]; omega
      · rw [up_n _ _ e2] at hf; exact absurd rfl hf
  · rw [if_neg hw, if_pos rfl]
    have hwb : Wb C (rwb μ b) bar to = false := by
      unfold Wb wh
      simp [hw]
    refine laysFar_out h hb hs hbar hb48 fuel 0 0 (up (fun _ => 9999) to 0) (fun _ => to) (up F to 0) (μ.2.1 507) (by unfold fuel; omega) hup ?_ ⟨b1, ?_, ?_, ?_, ?_, ?_, up_s _ _ _, by omega⟩ ?_
    · intro i hi; omega
    · intro i hi; omega
    · intro i j _ hj; omega
    · rw [cnt_0]
      intro y hy
      by_cases e2 : y = to
      · subst e2; rw [hwb]; rfl
      · rw [up_n _ _ e2]; simp
    · intro y hy hwy hf
      by_cases e2 : y = to
      · subst e2; rw [hwb] at hwy; cases hwy
      · rw [up_n _ _ e2] at hf; exact absurd rfl hf
    · intro i hi
      omega
    · intro y i hy hf hi hi2
      omega
