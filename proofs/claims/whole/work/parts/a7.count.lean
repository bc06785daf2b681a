/-! CALLS: count -/
theorem rch_app {A : Nat → Nat → Bool} {W : Nat → Bool} {w z : Nat} : ∀ j y i, rch A W z i w → rch A W y j z → rch A W y (i + j) w := by
  intro j
  induction j with
  | zero => intro y i h h'; obtain rfl : z = y := h'; exact h
  | succ j ih =>
    intro y i h h'
    obtain ⟨u, h1, h2, h3⟩ := rch_unsnoc j z h'
    exact rch_snoc h2 h3 (i + j) w (ih u i h h1)
section Pt
variable {C : Cel} {G Fd : List Itm} {pc : Nat → Int32} {k : Nat} {r : Row} {μ : Mem}
/-- from none of the white ones before there is a way to y -/
noncomputable def nzB (C : Cel) (r : Row) (y : Nat) : Nat → Bool
  | 0 => true
  | j + 1 => nzB C r y j && !(wh C r j && rcB C r j y)
theorem nzB_s (y j : Nat) : nzB C r y (j + 1) = (nzB C r y j && !(wh C r j && rcB C r j y)) := rfl
theorem nzB_iff {y : Nat} : ∀ j, nzB C r y j = true ↔ ∀ z, z < j → wh C r z = true → ¬ rcB C r z y = true := by
  intro j
  induction j with
  | zero => exact ⟨fun _ z hz => absurd hz (Nat.not_lt_zero z), fun _ => rfl⟩
  | succ j ih =>
    rw [nzB_s, Bool.and_eq_true, ih, Bool.not_eq_true', Bool.and_eq_false_iff]
    constructor
    · rintro ⟨h1, h2⟩ z hz hw hr
      by_cases e : z = j
      · subst e
        rcases h2 with q | q
        · rw [hw] at q; cases q
        · rw [hr] at q; cases q
      · exact h1 z (by omega) hw hr
    · intro h
      refine ⟨fun z hz => h z (by omega), ?_⟩
      by_cases q : wh C r j = true
      · right
        cases t : rcB C r j y
        · rfl
        · exact absurd t (h j (by omega) q)
      · left
        cases t : wh C r j
        · rfl
        · exact absurd t q
noncomputable def prB (C : Cel) (r : Row) (y : Nat) : Bool := wh C r y && nzB C r y y
theorem rcB_trans (hC : C.ok) (hs : StOK C r) {w z y : Nat} (hw : there C w = true) (h1 : rcB C r w z = true) (h2 : rcB C r z y = true) : rcB C r w y = true := by
  obtain ⟨i, hi⟩ := (rcB_iff hC hs hw).mp h1
  have hz : there C z = true := by unfold rcB at h1; rw [Bool.and_eq_true] at h1; exact h1.1
  obtain ⟨j, hj⟩ := (rcB_iff hC hs hz).mp h2
  exact (rcB_iff hC hs hw).mpr ⟨i + j, rch_app j y i hi hj⟩
theorem rcB_refl (hC : C.ok) (hs : StOK C r) {y : Nat} (hy : there C y = true) : rcB C r y y = true := (rcB_iff hC hs hy).mpr ⟨0, rfl⟩
theorem cnt_flat {p : Nat → Bool} {a : Nat} : ∀ b, (∀ x, a ≤ x → x < a + b → p x = false) → cnt p (a + b) = cnt p a := by
  intro b
  induction b with
  | zero => intro _; rfl
  | succ b ih =>
    intro h
    rw [← Nat.add_assoc, cnt_s, ih (fun x h1 h2 => h x h1 (by omega)), h (a + b) (by omega) (by omega)]
    rfl
theorem parts_C {ν : Mem} (hC : C.ok) (hs : StOK C r) (h : GD C r 468 ν) : fX5_parts 468 ν = some (I (cnt (prB C r) 48)) := by
  unfold fX5_parts
  have hend : ∀ {v : Int64} {t : Nat}, t ≤ 48 → (∀ y, mb v y = true ↔ wh C r y = true ∧ ∀ z, z < t → wh C r z = true → ¬ rcB C r z y = true) → (∀ y, t ≤ y → mb v y = false) → cnt (prB C r) 48 = cnt (prB C r) t := by
    intro v t ht hv h0
    rw [show (48 : Nat) = t + (48 - t) by omega]
    apply cnt_flat
    intro y h1 h2
    cases q : prB C r y
    · rfl
    · unfold prB at q
      rw [Bool.and_eq_true, nzB_iff] at q
      have := (hv y).mpr ⟨q.1, fun z hz => q.2 z (by omega)⟩
      rw [h0 y h1] at this
      cases this
  have key := loop_ok (S := Nat × Nat × Int64) (R := Int32) (fun m s => fX5_parts_10 ν m 468 (I (cnt (prB C r) s.2.1)) s.2.2 (I s.1)) 48
    (fun j s => s.1 = j ∧ j ≤ s.2.1 ∧ s.2.1 ≤ 48 ∧ ∀ y, mb s.2.2 y = true ↔ wh C r y = true ∧ ∀ z, z < s.2.1 → wh C r z = true → ¬ rcB C r z y = true)
    (fun v => v = I (cnt (prB C r) 48)) ?_ ?_ 48 fuel 0 (0, 0, ν.2.2.1 468 1) rfl (by unfold fuel; omega) ⟨rfl, Nat.le_refl 0, Nat.zero_le 48, fun y => ?_⟩
  · obtain ⟨v, e, rfl⟩ := key
    exact e
  · rintro m j ⟨j', t, v⟩ hj ⟨i1, i2, i3, i4⟩
    simp only at i1 i2 i3 i4
    subst i1
    show Ok (fX5_parts_10 ν (m + 1) 468 (I (cnt (prB C r) t)) v (I j')) _ ∨ ∃ s', fX5_parts_10 ν (m + 1) 468 (I (cnt (prB C r) t)) v (I j') = _ ∧ _
    rw [fX5_parts_10, if_pos (show I j' < (48 : Int32) by rw [I_ltl (by omega) (by decide)]; omega)]
    by_cases q : v = 0
    · rw [if_pos q]
      left
      refine Ok.s ?_
      rw [hend i3 i4 (fun y _ => by rw [q, mb_0])]
    · rw [if_neg q]
      obtain ⟨y, hy64, hy1, hy2⟩ := low_ex q
      obtain ⟨w1, w2⟩ := (i4 y).mp hy1
      have hyt := (wh_iff.mp w1).1
      have hy48 := there_lt hC hyt
      rw [low_and hy64 hy1 hy2]
      obtain ⟨F, e, hF⟩ := floodX hC hs h hyt
      rw [e, bs, I_addl, I_addl]
      right
      have hty : t ≤ y := by
        by_cases z : t ≤ y
        · exact z
        · exact absurd (rcB_refl hC hs hyt) (w2 y (by omega) w1)
      have hmid : ∀ z, z < y → wh C r z = true → ∃ w, w < t ∧ wh C r w = true ∧ rcB C r w z = true := by
        intro z hz hwz
        by_cases zt : z < t
        · exact ⟨z, zt, hwz, rcB_refl hC hs (wh_iff.mp hwz).1⟩
        · by_cases c : ∃ w, w < t ∧ wh C r w = true ∧ rcB C r w z = true
          · exact c
          · have := (i4 z).mpr ⟨hwz, fun w h1 h2 h3 => c ⟨w, h1, h2, h3⟩⟩
            rw [hy2 z hz] at this
            cases this
      have hno : ∀ z, z < y → wh C r z = true → ¬ rcB C r z y = true := by
        intro z hz hwz hr
        obtain ⟨w, h1, h2, h3⟩ := hmid z hz hwz
        exact w2 w h1 h2 (rcB_trans hC hs (wh_iff.mp h2).1 h3 hr)
      have hpr : prB C r y = true := by
        unfold prB
        rw [w1, Bool.true_and]
        exact (nzB_iff y).mpr hno
      have hcy : cnt (prB C r) y = cnt (prB C r) t := by
        rw [show y = t + (y - t) by omega]
        apply cnt_flat
        intro z h1 h2
        cases c : prB C r z
        · rfl
        · unfold prB at c
          rw [Bool.and_eq_true, nzB_iff] at c
          obtain ⟨w, a1, a2, a3⟩ := hmid z (by omega) c.1
          exact absurd a3 (c.2 w (by omega) a2)
      refine ⟨(j' + 1, y + 1, v &&& (F ^^^ (-1 : Int64))), ?_, rfl, by show j' + 1 ≤ y + 1; omega, by show y + 1 ≤ 48; omega, ?_⟩
      · show _ = fX5_parts_10 ν m 468 (I (cnt (prB C r) (y + 1))) _ _
        rw [cnt_s, if_pos hpr, hcy]
      · intro u
        show mb (v &&& (F ^^^ (-1 : Int64))) u = true ↔ _ ∧ ∀ z, z < y + 1 → _
        by_cases hu : u < 64
        · rw [mb_and, mb_not hu, hF u, Bool.and_eq_true, i4 u, Bool.not_eq_true']
          constructor
          · rintro ⟨⟨u1, u2⟩, u3⟩
            refine ⟨u1, fun z hz hwz hr => ?_⟩
            by_cases e : z = y
            · subst e; rw [hr] at u3; cases u3
            · obtain ⟨w, a1, a2, a3⟩ := hmid z (by omega) hwz
              exact u2 w a1 a2 (rcB_trans hC hs (wh_iff.mp a2).1 a3 hr)
          · rintro ⟨u1, u2⟩
            refine ⟨⟨u1, fun z hz => u2 z (by omega)⟩, ?_⟩
            cases c : rcB C r y u
            · rfl
            · exact absurd c (u2 y (by omega) w1)
        · rw [mb_ge (by omega)]
          constructor
          · intro c; cases c
          · rintro ⟨c, _⟩
            have := there_lt hC (wh_iff.mp c).1
            omega
  · rintro m ⟨j', t, v⟩ ⟨i1, i2, i3, i4⟩
    simp only at i1 i2 i3 i4
    subst i1
    show Ok (fX5_parts_10 ν (m + 1) 468 (I (cnt (prB C r) t)) v (I 48)) _
    rw [fX5_parts_10, if_neg (by decide)]
    obtain rfl : t = 48 := by omega
    exact Ok.s rfl
  · rw [h.2.1 y]
    exact ⟨fun q => ⟨q, fun z hz => absurd hz (Nat.not_lt_zero z)⟩, fun q => q.1⟩
theorem parts_R (hI : INV C G Fd pc k r μ) {ν : Mem} (hF : FR μ ν) (h41 : ν.2.1 492 41 = μ.2.1 492 41) : ∃ ξ, fX11_parts 492 ν = some (I (cnt (prB C r) 48), ξ) ∧ FR ν ξ ∧ ξ.2.1 492 = ν.2.1 492 := by
  have hC := hI.2.1
  have hs := hI.2.2.2.2.2.2.2.2.1.1.1
  unfold fX11_parts
  obtain ⟨⟨j, N⟩, e, i1, i2, i3⟩ := loop_k (S := Nat × Mem) (R := Option (Int32 × Mem))
    (fun m s => fX11_parts_4 m 492 (I (cnt (prB C r) s.1)) (I s.1) s.2) (fun s => some (I (cnt (prB C r) s.1), s.2)) 48
    (fun j s => s.1 = j ∧ FR ν s.2 ∧ s.2.2.1 492 = ν.2.1 492)
    (by
      rintro m j ⟨j', N⟩ hj ⟨i1, i2, i3⟩
      simp only at i1 i2 i3
      subst i1
      have hRN := (hF.trans i2).rc hI.2.2.2.2.2.2.1
      have he := hI.e79 (hF.trans i2)
      have hwz := white_ok (μ := N) hRN.1 (b := 0) (x := j') (by omega) hj
      rw [he (1 + j') (by omega)] at hwz
      show ∃ s', fX11_parts_4 (m + 1) 492 (I (cnt (prB C r) j')) (I j') N = _ ∧ _
      rw [fX11_parts_4, if_pos (show I j' < (48 : Int32) by rw [I_ltl (by omega) (by decide)]; omega), isThere_ok hRN hj, bs, show fX11_isWhite 492 (0 : Int32) (I j') N = _ from hwz]
      by_cases ht : there C j' = true
      · rw [if_pos ht, if_neg (by decide), bs]
        by_cases hw : r (1 + j') = 0
        · rw [if_pos hw, if_neg (by decide)]
          have hwh : wh C r j' = true := wh_iff.mpr ⟨ht, hw⟩
          obtain ⟨F, Q, e, f1, f2, f3⟩ := laysF hI (hF.trans i2) (by rw [i3]; exact h41) ht
          rw [e, bs]
          have hRF := f1.rc hRN
          have hef := hI.e79 ((hF.trans i2).trans f1)
          have h41in : ∀ K : Nat → Int32 → Int32 → Mem → Option (Int32 × Mem), fX11_parts_41 K fuel 492 (I (cnt (prB C r) j')) (I j') 1 0 (mFQ N F Q) = if nzB C r j' j' = true then K 492 (I (cnt (prB C r) j' + 1)) (I (j' + 1)) (mFQ N F Q) else K 492 (I (cnt (prB C r) j')) (I (j' + 1)) (mFQ N F Q) := by
            intro K
            have key := loop_eq (S := Nat) (R := Int32 × Mem) (fun n s => fX11_parts_41 K n 492 (I (cnt (prB C r) j')) (I j') (if nzB C r j' s = true then 1 else 0) (I s) (mFQ N F Q)) j' id
              (if nzB C r j' j' = true then K 492 (I (cnt (prB C r) j' + 1)) (I (j' + 1)) (mFQ N F Q) else K 492 (I (cnt (prB C r) j')) (I (j' + 1)) (mFQ N F Q)) ?_ ?_ j' fuel 0 rfl (by unfold fuel; omega)
            · exact key
            · intro n i hi
              show fX11_parts_41 K (n + 1) 492 (I (cnt (prB C r) j')) (I j') (if nzB C r j' i = true then 1 else 0) (I i) (mFQ N F Q) = fX11_parts_41 K n 492 (I (cnt (prB C r) j')) (I j') (if nzB C r j' (i + 1) = true then 1 else 0) (I (i + 1)) (mFQ N F Q)
              rw [fX11_parts_41, if_pos (show I i < I j' from (I_lt (by omega) (by omega)).mpr hi), nzB_s, I_addl]
              by_cases z : nzB C r j' i = true
              · rw [if_pos z, if_neg (by decide), z, Bool.true_and, gC, gC, g_492_39 hRN.1, bs, ld_506 (by omega), bs, mFQ_F, isThere_ok hRF (by omega)]
                have hwi := white_ok (μ := mFQ N F Q) hRF.1 (b := 0) (x := i) (by omega) (by omega)
                rw [hef (1 + i) (by omega)] at hwi
                rw [show fX11_isWhite 492 (0 : Int32) (I i) (mFQ N F Q) = _ from hwi]
                by_cases hti : there C i = true
                · rw [f3 i hti]
                  have hrc : rcB C r i j' = !decide (dR C r j' i = 9999) := by unfold rcB; rw [ht, Bool.true_and]
                  rw [hrc]
                  rcases dR_le hI ht i with q | q
                  · rw [if_neg (show ¬ I (dR C r j' i) = (9999 : Int32) by rw [I_eql (by omega) (by decide)]; omega), bs, if_pos hti, if_neg (by decide), bs, decide_eq_false (show ¬ dR C r j' i = 9999 by omega)]
                    by_cases hwhi : r (1 + i) = 0
                    · rw [if_pos hwhi, if_neg (by decide), wh_iff.mpr ⟨hti, hwhi⟩]
                      rfl
                    · have : wh C r i = false := by
                        cases z : wh C r i
                        · rfl
                        · exact absurd (wh_iff.mp z).2 hwhi
                      rw [if_neg hwhi, if_pos rfl, this]
                      rfl
                  · rw [q, if_pos (show I 9999 = (9999 : Int32) from rfl), decide_eq_true rfl, Bool.not_true, Bool.and_false]
                    rfl
                · have : wh C r i = false := by
                    cases z : wh C r i
                    · rfl
                    · exact absurd (wh_iff.mp z).1 hti
                  rw [this, Bool.false_and, if_neg hti, bs, if_pos rfl]
                  split <;> rfl
              · have z' : nzB C r j' i = false := by
                  cases t : nzB C r j' i
                  · rfl
                  · exact absurd t z
                rw [if_neg z, if_pos rfl, z', Bool.false_and]
                rfl
            · intro n
              show fX11_parts_41 K (n + 1) 492 (I (cnt (prB C r) j')) (I j') (if nzB C r j' j' = true then 1 else 0) (I j') (mFQ N F Q) = _
              rw [fX11_parts_41, if_neg (show ¬ I j' < I j' by rw [I_lt (by omega) (by omega)]; omega)]
              by_cases z : nzB C r j' j' = true
              · rw [if_pos z, if_neg (by decide), if_pos z, I_addl, I_addl]
              · rw [if_neg z, if_pos rfl, if_neg z, I_addl, I_addl]
                simp only [Nat.add_zero]
          rw [h41in]
          refine ⟨(j' + 1, mFQ N F Q), ?_, rfl, i2.trans f1, f2.trans i3⟩
          simp only [cnt_s]
          have hpr : prB C r j' = nzB C r j' j' := by unfold prB; rw [hwh, Bool.true_and]
          rw [hpr]
          by_cases z : nzB C r j' j' = true
          · rw [if_pos z, if_pos z]
          · rw [if_neg z, if_neg z]
            simp only [Nat.add_zero]
        · rw [if_neg hw, if_pos rfl, I_addl]
          refine ⟨(j' + 1, N), ?_, rfl, i2, i3⟩
          have : ¬ prB C r j' = true := by
            unfold prB
            rw [Bool.and_eq_true]
            exact fun t => hw (wh_iff.mp t.1).2
          simp only [cnt_s]
          rw [if_neg this]
          simp only [Nat.add_zero]
      · rw [if_neg ht, if_pos rfl, I_addl]
        refine ⟨(j' + 1, N), ?_, rfl, i2, i3⟩
        have : ¬ prB C r j' = true := by
          unfold prB
          rw [Bool.and_eq_true]
          exact fun t => ht (wh_iff.mp t.1).1
        simp only [cnt_s]
        rw [if_neg this]
        simp only [Nat.add_zero])
    (by
      rintro m ⟨j', N⟩ ⟨i1, i2, i3⟩
      simp only at i1
      subst i1
      show fX11_parts_4 (m + 1) 492 _ (I 48) N = _
      rw [fX11_parts_4, if_neg (by decide)])
    48 fuel 0 (0, ν) rfl (by unfold fuel; omega) ⟨rfl, FR.refl _, rfl⟩
  simp only at e i1 i2 i3
  rw [i1] at e
  exact ⟨N, e, i2, i3⟩
theorem stiles_C (hC : C.ok) (hs : StOK C r) {a : Nat} (hS : SH C r a μ) : fJ13_bitCount_95d88 (μ.2.2.1 a 2) = I (cnt (stl r) (8 * C.D)) := by
  have hD := hC.1
  rw [bitCount_ok, cnt_congr (q := stl r) (fun x _ => hS.2.2.1 x), show (64 : Nat) = 8 * C.D + (64 - 8 * C.D) by omega]
  rw [cnt_flat]
  intro x h1 h2
  cases q : stl r x
  · rfl
  · have := (there_iff.mp (hs x q).1).1
    omega
theorem stiles_R (h : RC C μ) : fX11_stiles 492 μ = some (I (cnt (stl (rwb μ 0)) (8 * C.D))) := by
  have hC := h.2.1
  have hD := hC.1
  have hG := h.1
  unfold fX11_stiles
  have hin : ∀ (K : Nat → Int32 → Int32 → Option Int32) (d : Nat), d < C.D → fX11_stiles_14 μ K fuel 492 (I (cnt (stl (rwb μ 0)) (8 * d))) (I d) 0 = K 492 (I (cnt (stl (rwb μ 0)) (8 * (d + 1)))) (I (d + 1)) := by
    intro K d hd
    have key := loop_eq (S := Nat) (R := Int32) (fun n s => fX11_stiles_14 μ K n 492 (I (cnt (stl (rwb μ 0)) (8 * d + s))) (I d) (I s)) 8 id (K 492 (I (cnt (stl (rwb μ 0)) (8 * (d + 1)))) (I (d + 1))) ?_ ?_ 8 fuel 0 rfl (by unfold fuel; omega)
    · exact key
    · intro n j hj
      show fX11_stiles_14 μ K (n + 1) 492 (I (cnt (stl (rwb μ 0)) (8 * d + j))) (I d) (I j) = fX11_stiles_14 μ K n 492 (I (cnt (stl (rwb μ 0)) ((8 * d + j) + 1))) (I d) (I (j + 1))
      have hst : stl (rwb μ 0) (8 * d + j) = tb (rwb μ 0 (49 + d)) j := by
        unfold stl
        rw [show (8 * d + j) / 8 = d by omega, show (8 * d + j) % 8 = j by omega, decide_eq_true (show 8 * d + j < 48 by omega), Bool.true_and]
      have hrow : μ.2.1 502 (49 + d) = rwb μ 0 (49 + d) := by
        show _ = μ.2.1 502 (0 + (49 + d))
        rw [Nat.zero_add]
      rw [fX11_stiles_14, if_pos (show I j < (8 : Int32) by rw [I_ltl (by omega) (by decide)]; omega), g_492_34 hG, bs, l_addI, ld_502 (by omega), bs, sh_and1 _ (by omega), hrow, I_addl, cnt_s, hst]
      by_cases q : tb (rwb μ 0 (49 + d)) j = true
      · rw [if_pos q, if_pos q, I_addl]
      · rw [if_neg q, if_neg q, I_addl]
    · intro n
      show fX11_stiles_14 μ K (n + 1) 492 (I (cnt (stl (rwb μ 0)) (8 * d + 8))) (I d) (I 8) = _
      rw [fX11_stiles_14, if_neg (by decide), I_addl, Nat.mul_add, Nat.mul_one]
  have key := loop_eq (S := Nat) (R := Int32) (fun n s => fX11_stiles_4 μ n 492 (I (cnt (stl (rwb μ 0)) (8 * s))) (I s)) C.D id (some (I (cnt (stl (rwb μ 0)) (8 * C.D)))) ?_ ?_ C.D fuel 0 rfl (by unfold fuel; omega)
  · exact key
  · intro n j hj
    show fX11_stiles_4 μ (n + 1) 492 (I (cnt (stl (rwb μ 0)) (8 * j))) (I j) = fX11_stiles_4 μ n 492 (I (cnt (stl (rwb μ 0)) (8 * (j + 1)))) (I (j + 1))
    rw [fX11_stiles_4, h.2.2.1, if_pos (show I j < I C.D from (I_lt (by omega) (by omega)).mpr hj), hin _ j hj]
  · intro n
    show fX11_stiles_4 μ (n + 1) 492 (I (cnt (stl (rwb μ 0)) (8 * C.D))) (I C.D) = _
    rw [fX11_stiles_4, h.2.2.1, if_neg (show ¬ I C.D < I C.D by rw [I_lt (by omega) (by omega)]; omega)]
theorem cbits_s (f : Nat → Bool) (j : Nat) : cbits f (j + 1) = if f j = true then cbits f j ||| bitI j else cbits f j := rfl
theorem sent_C (hG : Gr μ) (hC : C.ok) {a : Nat} (ha : a ∈ stA) (hS : SH C r a μ) : fX9_sentBits a μ = some (cbits (fun p => !decide (r (61 + p) = -1)) C.P) := by
  have hP := hC.2.1
  have e : fX9_sentBits a μ = some (cbits (fun p => !decide (μ.2.1 (a + 3) p = -1)) 6) := by
    unfold fX9_sentBits
    refine loop_eq (fun n (s : Int32 × Int32) => fX9_sentBits_4 μ n a s.1 s.2) 6 (fun j => (cbits (fun p => !decide (μ.2.1 (a + 3) p = -1)) j, I j)) _ ?_ ?_ 6 fuel 0 rfl (by unfold fuel; omega)
    · intro n j hj
      show fX9_sentBits_4 μ (n + 1) a (cbits (fun p => !decide (μ.2.1 (a + 3) p = -1)) j) (I j) = fX9_sentBits_4 μ n a (cbits (fun p => !decide (μ.2.1 (a + 3) p = -1)) (j + 1)) (I (j + 1))
      rw [fX9_sentBits_4, if_pos (show I j < (6 : Int32) from (I_ltl (by omega) (by decide)).mpr hj), hG.sent ha, bs, ldI_I (st_sent a ha).2 hj (by omega), bs, I_addl, cbits_s]
      by_cases q : μ.2.1 (a + 3) j = -1
      · rw [if_pos q, if_neg (by rw [decide_eq_true q]; decide)]
      · rw [if_neg q, if_pos (by rw [decide_eq_false q]; rfl)]
    · intro n
      show fX9_sentBits_4 μ (n + 1) a _ (I 6) = _
      rw [fX9_sentBits_4, if_neg (by decide)]
  rw [e]
  congr 1
  apply tb_ext
  intro p hp
  rw [tb_cbits _ _ (by omega), tb_cbits _ _ (by omega)]
  by_cases q : p < C.P
  · rw [decide_eq_true q, decide_eq_true (show p < 6 by omega), hS.2.2.2.2.2.1 p (by omega), if_pos q]
  · rw [decide_eq_false q, Bool.false_and]
    by_cases q6 : p < 6
    · rw [hS.2.2.2.2.2.1 p q6, if_neg q, decide_eq_true rfl, Bool.not_true, Bool.and_false]
    · rw [decide_eq_false q6, Bool.false_and]
theorem sent_R (h : RC C μ) : fX11_sentOnes 492 μ = some (cbits (fun p => !decide (rwb μ 0 (61 + p) = -1)) C.P) := by
  have hP := h.2.1.2.1
  unfold fX11_sentOnes
  refine loop_eq (fun n (s : Int32 × Int32) => fX11_sentOnes_4 μ n 492 s.1 s.2) C.P (fun j => (cbits (fun p => !decide (rwb μ 0 (61 + p) = -1)) j, I j)) _ ?_ ?_ C.P fuel 0 rfl (by unfold fuel; omega)
  · intro n j hj
    show fX11_sentOnes_4 μ (n + 1) 492 (cbits (fun p => !decide (rwb μ 0 (61 + p) = -1)) j) (I j) = fX11_sentOnes_4 μ n 492 (cbits (fun p => !decide (rwb μ 0 (61 + p) = -1)) (j + 1)) (I (j + 1))
    have hrow : μ.2.1 502 (61 + j) = rwb μ 0 (61 + j) := by
      show _ = μ.2.1 502 (0 + (61 + j))
      rw [Nat.zero_add]
    rw [fX11_sentOnes_4, h.2.2.2.1, if_pos (show I j < I C.P from (I_lt (by omega) (by omega)).mpr hj), g_492_34 h.1, bs, l_addI, ld_502 (by omega), bs, I_addl, cbits_s, hrow]
    by_cases q : rwb μ 0 (61 + j) = -1
    · rw [if_pos q, if_neg (by rw [decide_eq_true q]; decide), Int32.or_zero]
    · rw [if_neg q, if_pos (by rw [decide_eq_false q]; rfl)]
  · intro n
    show fX11_sentOnes_4 μ (n + 1) 492 _ (I C.P) = _
    rw [fX11_sentOnes_4, h.2.2.2.1, if_neg (show ¬ I C.P < I C.P by rw [I_lt (by omega) (by omega)]; omega)]
noncomputable def valCt (C : Cel) (r : Row) (μ : Mem) (a : Int32) : Int32 :=
  if a = 0 then I C.D else if a = 1 then I C.P else if a = 2 then r 0 else if a = 3 then I (cnt (prB C r) 48) else if a = 4 then I (cnt (stl r) (8 * C.D)) else if a = 5 then inkN C r else if a = 6 then cbits (fun p => !decide (r (61 + p) = -1)) C.P else if a = 7 then sumI (fun p => r (67 + p)) C.P else if a = 8 then μ.2.1 492 36 else if a = 9 then μ.2.1 492 49 else if a = 10 then μ.2.1 492 8 else μ.2.1 496 (ix a - 11)
theorem valCt_ag {ν : Mem} (h : AG μ ν) (a : Int32) : valCt C r ν a = valCt C r μ a := by
  unfold valCt
  rw [h.2.2.2.2.1 36 (by decide), h.2.2.2.2.1 49 (by decide), h.2.2.2.2.1 8 (by decide), h.hi (c := 496) (by omega)]
theorem c_count (hI : INV C G Fd pc k r μ) (a : Int32) : CQ (fX10_count 0 a μ) μ (if okW a 14 = true then 0 else 1) (valCt C r μ a) := by
  have hC := hI.2.1
  have hG := hI.1
  have hgd := hI.2.2.2.2.2.2.2.2.1
  have hS := hI.2.2.2.2.2.2.2.2.2.1
  have hE := hI.2.2.2.2.2.1
  unfold fX10_count valCt
  rw [show fX10_needWhat 0 a (14 : Int32) = _ from needW_ok a 14, bs]
  by_cases h1 : okW a 14 = true
  · rw [if_pos h1, if_pos h1]
    simp only
    have fin : ∀ v, CQ (some (.inl v, μ)) μ 0 v := fun v => ⟨μ, FrB.refl _ _ μ, Or.inl ⟨rfl, rfl⟩⟩
    by_cases a0 : a = 0
    · rw [if_pos a0, if_pos a0, hI.cel, bs, hE.1]; exact fin _
    rw [if_neg a0, if_neg a0]
    by_cases a1 : a = 1
    · rw [if_pos a1, if_pos a1, hI.cel, bs, hE.2.1]; exact fin _
    rw [if_neg a1, if_neg a1]
    by_cases a2 : a = 2
    · rw [if_pos a2, if_pos a2, g_0_7 hG, bs, hS.1]; exact fin _
    rw [if_neg a2, if_neg a2]
    by_cases a3 : a = 3
    · rw [if_pos a3, if_pos a3]
      obtain ⟨L, e, f1, f2⟩ := here_ok hI
      rw [e, bs]
      simp only
      rw [parts_C hC hgd.1.1 f2, bs]
      exact ⟨_, f1, Or.inl ⟨rfl, rfl⟩⟩
    rw [if_neg a3, if_neg a3]
    by_cases a4 : a = 4
    · rw [if_pos a4, if_pos a4, g_0_7 hG, bs, stiles_C hC hgd.1.1 hS]; exact fin _
    rw [if_neg a4, if_neg a4]
    by_cases a5 : a = 5
    · rw [if_pos a5, if_pos a5, g_0_7 hG, bs, inked_C hC hI.cel hE.2.2.1 hS, bs]; exact fin _
    rw [if_neg a5, if_neg a5]
    by_cases a6 : a = 6
    · rw [if_pos a6, if_pos a6, g_0_7 hG, bs, sent_C hG hC a33 hS, bs]; exact fin _
    rw [if_neg a6, if_neg a6]
    by_cases a7 : a = 7
    · rw [if_pos a7, if_pos a7, g_0_7 hG, bs, metBy_C hG hC a33 hS, bs]; exact fin _
    rw [if_neg a7, if_neg a7]
    by_cases a8 : a = 8
    · obtain ⟨K, o, _, _, q3, _, q5, _⟩ := hI.2.2.2.2.2.2.2.2.2.2.2.1
      rw [if_pos a8, if_pos a8, g_0_8 hG, bs, q3, q5]; exact fin _
    rw [if_neg a8, if_neg a8]
    by_cases a9 : a = 9
    · obtain ⟨n, _, q2, q3, _⟩ := hI.2.2.2.2.2.2.2.2.2.2.2.2.1
      rw [if_pos a9, if_pos a9, g_0_9 hG, bs, q2, q3]; exact fin _
    rw [if_neg a9, if_neg a9]
    by_cases a10 : a = 10
    · obtain ⟨n, _, q2, q3, _⟩ := hI.2.2.2.2.2.2.2.2.2.2.2.2.2.2.1
      rw [if_pos a10, if_pos a10, q2, q3]; exact fin _
    rw [if_neg a10, if_neg a10]
    obtain ⟨n, hn, rfl⟩ := okW_ex (by decide) h1
    have hn11 : 11 ≤ n := by
      by_cases q : 11 ≤ n
      · exact q
      · have : n = 0 ∨ n = 1 ∨ n = 2 ∨ n = 3 ∨ n = 4 ∨ n = 5 ∨ n = 6 ∨ n = 7 ∨ n = 8 ∨ n = 9 ∨ n = 10 := by omega
        rcases this with rfl | rfl | rfl | rfl | rfl | rfl | rfl | rfl | rfl | rfl | rfl
        · exact absurd rfl a0
        · exact absurd rfl a1
        · exact absurd rfl a2
        · exact absurd rfl a3
        · exact absurd rfl a4
        · exact absurd rfl a5
        · exact absurd rfl a6
        · exact absurd rfl a7
        · exact absurd rfl a8
        · exact absurd rfl a9
        · exact absurd rfl a10
    rw [g_0_3 hG, bs, I_subl hn11, ld_2 (by omega), bs, ix_I (by omega), hI.2.2.2.2.2.2.2.2.2.2.2.2.2.2.2.2.1 (n - 11) (by omega)]
    exact fin _
  · rw [if_neg h1, if_neg h1]
    exact ⟨μ, FrB.refl _ _ μ, Or.inr (Or.inl ⟨rfl, rfl⟩)⟩
theorem okRW (a : Int32) {m : Nat} (hm : m + 1 < 2147483648) : okR a 0 m = okW a (m + 1) := by
  unfold okR okW
  congr 1
  by_cases q : I m < a
  · rw [decide_eq_true q, decide_eq_false (fun t => (lt_succI hm).mp t q)]; rfl
  · rw [decide_eq_false q, decide_eq_true ((lt_succI hm).mpr q)]; rfl
theorem r_count (hI : INV C G Fd pc k r μ) (a : Int32) : RQ (fX11_count 492 a μ) μ (if okW a 14 = true then 0 else 1) (valCt C r μ a) := by
  have hC := hI.2.1
  obtain ⟨t1, t2, t3, t4⟩ := thr0 μ
  have hR0 := t1.rc hI.2.2.2.2.2.2.1
  have he := hI.e79 t1
  have hG := hR0.1
  unfold fX11_count valCt
  rw [bs, sI_C, show fX11_within a (0 : Int32) (13 : Int32) = _ from within_ok a 0 13, right_ok t2 (by decide), okRW a (by decide)]
  by_cases h1 : okW a 14 = true
  · rw [if_pos h1, if_pos h1, if_neg (by decide), bs]
    simp only
    rw [if_neg (by decide)]
    have fin : ∀ v, RQ (some (v, thr μ 0)) μ 0 v := fun v => RQ.same t1 t2 t3 t4
    by_cases a0 : a = 0
    · rw [if_pos a0, if_pos a0, hR0.2.2.1]; exact fin _
    rw [if_neg a0, if_neg a0]
    by_cases a1 : a = 1
    · rw [if_pos a1, if_pos a1, hR0.2.2.2.1]; exact fin _
    rw [if_neg a1, if_neg a1]
    by_cases a2 : a = 2
    · rw [if_pos a2, if_pos a2, g_492_34 hG, bs, show ldI (thr μ 0) 502 (0 : Int32) = _ from ld_502 (n := 0) (by omega), bs, show (thr μ 0).2.1 502 0 = r 0 from he 0 (by omega)]; exact fin _
    rw [if_neg a2, if_neg a2]
    by_cases a3 : a = 3
    · rw [if_pos a3, if_pos a3]
      obtain ⟨ξ, e, f1, f2⟩ := parts_R hI t1 t3
      rw [e, bs]
      exact RQ.fr t1 t2 t3 t4 f1 f2
    rw [if_neg a3, if_neg a3]
    by_cases a4 : a = 4
    · rw [if_pos a4, if_pos a4, stiles_R hR0, bs, stl_congr (fun k _ hk => he k (by omega))]; exact fin _
    rw [if_neg a4, if_neg a4]
    by_cases a5 : a = 5
    · have : inkN C (rwb (thr μ 0) 0) = inkN C r := by
        unfold inkN
        congr 1
        exact cnt_congr (fun x hx => by rw [he (1 + x) (by omega)])
      rw [if_pos a5, if_pos a5, show fX11_inked 492 (0 : Int32) (thr μ 0) = _ from inked_R hR0 (b := 0) (by omega), bs, this]; exact fin _
    rw [if_neg a5, if_neg a5]
    by_cases a6 : a = 6
    · have hP := hC.2.1
      rw [if_pos a6, if_pos a6, sent_R hR0, bs, cbits_congr (g := fun p => !decide (r (61 + p) = -1)) C.P (fun p hp => by rw [he (61 + p) (by omega)])]; exact fin _
    rw [if_neg a6, if_neg a6]
    by_cases a7 : a = 7
    · have hP := hC.2.1
      rw [if_pos a7, if_pos a7, show fX11_metAll 492 (0 : Int32) (thr μ 0) = _ from metAll_R hR0 (b := 0) (by omega), bs, sumI_congr (g := fun p => r (67 + p)) C.P (fun p hp => he (67 + p) (by omega))]; exact fin _
    rw [if_neg a7, if_neg a7]
    by_cases a8 : a = 8
    · rw [if_pos a8, if_pos a8, t1.2.2.2.1 36 (by decide)]; exact fin _
    rw [if_neg a8, if_neg a8]
    by_cases a9 : a = 9
    · rw [if_pos a9, if_pos a9, t1.2.2.2.1 49 (by decide)]; exact fin _
    rw [if_neg a9, if_neg a9]
    by_cases a10 : a = 10
    · rw [if_pos a10, if_pos a10, t1.2.2.2.1 8 (by decide)]; exact fin _
    rw [if_neg a10, if_neg a10]
    obtain ⟨n, hn, rfl⟩ := okW_ex (by decide) h1
    have hn11 : 11 ≤ n := by
      by_cases q : 11 ≤ n
      · exact q
      · have : n = 0 ∨ n = 1 ∨ n = 2 ∨ n = 3 ∨ n = 4 ∨ n = 5 ∨ n = 6 ∨ n = 7 ∨ n = 8 ∨ n = 9 ∨ n = 10 := by omega
        rcases this with rfl | rfl | rfl | rfl | rfl | rfl | rfl | rfl | rfl | rfl | rfl
        · exact absurd rfl a0
        · exact absurd rfl a1
        · exact absurd rfl a2
        · exact absurd rfl a3
        · exact absurd rfl a4
        · exact absurd rfl a5
        · exact absurd rfl a6
        · exact absurd rfl a7
        · exact absurd rfl a8
        · exact absurd rfl a9
        · exact absurd rfl a10
    rw [g_492_11 hG, bs, I_subl hn11, ld_496 (by omega), bs, ix_I (by omega), t1.2.2.1 496 (by decide)]
    exact fin _
  · rw [if_neg h1, if_neg h1, if_pos rfl, bs]
    simp only [if_true]
    exact RQ.no (by decide) t1 t3 t4
theorem qq_count (hI : INV C G Fd pc k r μ) (a : Int32) : QQ C G Fd pc k r (fun μ => fL_count 0 a 518 μ) (fun ν => fX11_count 492 a ν) μ := by
  refine QQ.mkA hI (c_count hI a) (by split <;> decide) ?_ ?_ (fun ν h hA => valCt_ag (C := C) (r := r) hA a ▸ r_count h a)
  · intro v ν e
    show fL_count 0 a 518 μ = _
    unfold fL_count
    rw [e, bs]
    simp only
    rw [show stL ν 518 (0 : Int32) v.toInt64 = _ from stL_I (n := 0) kd518 (by omega) (by omega), bs]
  · intro ν e
    show fL_count 0 a 518 μ = _
    unfold fL_count
    rw [e, bs]
    rfl
end Pt
