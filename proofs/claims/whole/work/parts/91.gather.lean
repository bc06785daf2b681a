/-! CALLS: gather -/
section Ga
variable {C : Cel} {G Fd : List Itm} {pc : Nat → Int32} {k : Nat} {r : Row} {μ : Mem}
/-- how many of the first j can come to x, and how far it is for them all -/
noncomputable def cmN (C : Cel) (r : Row) (x : Nat) (j : Nat) : Nat := cnt (fun p => decide (dR C r x (atN r p) ≠ 9999)) j
noncomputable def cmF (C : Cel) (r : Row) (x : Nat) : Nat → Nat
  | 0 => 0
  | j + 1 => cmF C r x j + if dR C r x (atN r j) = 9999 then 0 else dR C r x (atN r j)
theorem cmF_s (C : Cel) (r : Row) (x j : Nat) : cmF C r x (j + 1) = cmF C r x j + if dR C r x (atN r j) = 9999 then 0 else dR C r x (atN r j) := rfl
theorem cmN_s (C : Cel) (r : Row) (x j : Nat) : cmN C r x (j + 1) = cmN C r x j + if decide (dR C r x (atN r j) ≠ 9999) = true then 1 else 0 := rfl
theorem cmF_le (hI : INV C G Fd pc k r μ) {x : Nat} (hx : there C x = true) : ∀ j, j ≤ C.P → cmF C r x j ≤ 48 * j := by
  intro j
  induction j with
  | zero => intro _; exact Nat.le_refl 0
  | succ j ih =>
    intro hj
    have := ih (by omega)
    rw [cmF_s]
    rcases dR_le hI hx (atN r j) with t | t
    · rw [if_neg (by omega)]; omega
    · rw [if_pos t]; omega
/-- the best so far: where, how many, how far -/
noncomputable def gaS (C : Cel) (r : Row) : Nat → Option Nat × Nat × Nat
  | 0 => (none, 0, 0)
  | x + 1 => if there C x = true ∧ ((gaS C r x).2.1 < cmN C r x C.P ∨ (0 < cmN C r x C.P ∧ cmN C r x C.P = (gaS C r x).2.1 ∧ cmF C r x C.P < (gaS C r x).2.2)) then (some x, cmN C r x C.P, cmF C r x C.P) else gaS C r x
theorem gaS_s (C : Cel) (r : Row) (x : Nat) : gaS C r (x + 1) = if there C x = true ∧ ((gaS C r x).2.1 < cmN C r x C.P ∨ (0 < cmN C r x C.P ∧ cmN C r x C.P = (gaS C r x).2.1 ∧ cmF C r x C.P < (gaS C r x).2.2)) then (some x, cmN C r x C.P, cmF C r x C.P) else gaS C r x := rfl
theorem gaS_inv (hI : INV C G Fd pc k r μ) : ∀ x, (gaS C r x).2.1 ≤ 6 ∧ (gaS C r x).2.2 ≤ 300 ∧ ((gaS C r x).1 = none → (gaS C r x).2.1 = 0) ∧ (∀ y, y < x → there C y = true → cmN C r y C.P ≤ (gaS C r x).2.1) ∧ (∀ y, (gaS C r x).1 = some y → y < x) := by
  have hP := hI.2.1.2.1
  intro x
  induction x with
  | zero => exact ⟨Nat.zero_le _, Nat.zero_le _, fun _ => rfl, fun y hy => absurd hy (Nat.not_lt_zero y), fun y hy => by cases hy⟩
  | succ x ih =>
    obtain ⟨a1, a2, a3, a4, a5⟩ := ih
    rw [gaS_s]
    split
    · rename_i q
      have hc : cmN C r x C.P ≤ C.P := cnt_le _ _
      have hf := cmF_le hI q.1 C.P (Nat.le_refl _)
      refine ⟨(by show cmN C r x C.P ≤ 6; omega), (by show cmF C r x C.P ≤ 300; omega), (fun t => by cases t), ?_, (fun y hy => by cases hy; omega)⟩
      intro y hy hy2
      show cmN C r y C.P ≤ cmN C r x C.P
      by_cases e : y = x
      · subst e; exact Nat.le_refl _
      · have := a4 y (by omega) hy2
        omega
    · rename_i q
      refine ⟨a1, a2, a3, ?_, fun y hy => by have := a5 y hy; omega⟩
      intro y hy hy2
      by_cases e : y = x
      · subst e
        rcases Nat.lt_or_ge (gaS C r y).2.1 (cmN C r y C.P) with t | t
        · exact absurd ⟨hy2, Or.inl t⟩ q
        · exact t
      · exact a4 y (by omega) hy2
theorem gaS_some (hI : INV C G Fd pc k r μ) (h0 : 0 < C.P) : (gaS C r 48).1 ≠ none := by
  intro hn
  obtain ⟨_, _, a3, a4, _⟩ := gaS_inv hI 48
  obtain ⟨p1, p2, p3⟩ := hI.pl h0
  have h1 := a4 (atN r 0) p3 p2
  rw [a3 hn] at h1
  have hz : dR C r (atN r 0) (atN r 0) = 0 := dst_of ⟨rfl, fun j hj => absurd hj (Nat.not_lt_zero j)⟩
  have : cnt (fun _ => false) C.P < cmN C r (atN r 0) C.P := cnt_lt h0 rfl (by rw [hz]; decide) (fun _ _ q => by cases q)
  omega
noncomputable def valG (C : Cel) (r : Row) (a : Int32) : Int32 := if C.P = 0 then -1 else if a = 0 then fX10_outside (enc (gaS C r 48).1) else I (gaS C r 48).2.2
def codeW (a : Int32) (m : Nat) : Int32 := if okW a m = true then 0 else 1
theorem codeW_ne (a : Int32) (m : Nat) : codeW a m ≠ 2 := by unfold codeW; split <;> decide
theorem comers_ok (hI : INV C G Fd pc k r μ) {x : Nat} (hx : there C x = true) {ν : Mem} (h : HG C r μ ν) : ∃ ξ, fX10_comers 0 (I x) ν = some (I (cmN C r x C.P), ξ) ∧ HG C r μ ξ := by
  have hC := hI.2.1
  have hP := hC.2.1
  unfold fX10_comers
  obtain ⟨⟨j, N⟩, e2, i1, i2⟩ := loop_k (S := Nat × Mem) (R := Option (Int32 × Mem))
    (fun n s => fX10_comers_4 n 0 (I x) (I (cmN C r x s.1)) (I s.1) s.2) (fun s => some (I (cmN C r x s.1), s.2)) C.P
    (fun j s => s.1 = j ∧ HG C r μ s.2)
    (by
      rintro n j ⟨j', N⟩ hj ⟨i1, i2⟩
      simp only at i1 i2
      subst i1
      have hIN := hI.q i2.1.ag
      have hGN := hIN.1
      obtain ⟨n1, _⟩ := hIN.now hj
      obtain ⟨q1, q2, q3⟩ := hI.pl hj
      obtain ⟨ξ, e3, h3⟩ := i2.far hI q2 hx
      show ∃ s', fX10_comers_4 (n + 1) 0 (I x) (I (cmN C r x j')) (I j') N = _ ∧ _
      rw [fX10_comers_4, hIN.cel, bs, hIN.2.2.2.2.2.1.2.1, if_pos (show I j' < I C.P from (I_lt (by omega) (by omega)).mpr hj), g_0_15 hGN, bs, g_0_7 hGN, bs, hGN.at a33, bs, ld_35 (by omega), bs, n1, q1, e3, bs]
      simp only [farV_m1 hI hx, I_addl]
      refine ⟨(j' + 1, ξ), ?_, rfl, h3⟩
      simp only
      rw [cmN_s]
      by_cases d9 : dR C r x (atN r j') = 9999
      · rw [if_pos d9, if_neg (by simp [d9])]; rfl
      · rw [if_neg d9, if_pos (by simp [d9])])
    (by
      rintro n ⟨j', N⟩ ⟨i1, i2⟩
      simp only at i1 i2
      subst i1
      have hIN := hI.q i2.1.ag
      show fX10_comers_4 (n + 1) 0 (I x) _ (I C.P) N = _
      rw [fX10_comers_4, hIN.cel, bs, hIN.2.2.2.2.2.1.2.1, if_neg (show ¬ I C.P < I C.P by rw [I_lt (by omega) (by omega)]; omega)])
    C.P fuel 0 (0, ν) rfl (by unfold fuel; omega) ⟨rfl, h⟩
  simp only at e2 i1 i2
  rw [i1] at e2
  exact ⟨N, e2, i2⟩
theorem farAll_ok (hI : INV C G Fd pc k r μ) {x : Nat} (hx : there C x = true) {ν : Mem} (h : HG C r μ ν) : ∃ ξ, fX10_farForAll 0 (I x) ν = some (I (cmF C r x C.P), ξ) ∧ HG C r μ ξ := by
  have hC := hI.2.1
  have hP := hC.2.1
  unfold fX10_farForAll
  obtain ⟨⟨j, N⟩, e2, i1, i2⟩ := loop_k (S := Nat × Mem) (R := Option (Int32 × Mem))
    (fun n s => fX10_farForAll_4 n 0 (I x) (I (cmF C r x s.1)) (I s.1) s.2) (fun s => some (I (cmF C r x s.1), s.2)) C.P
    (fun j s => s.1 = j ∧ HG C r μ s.2)
    (by
      rintro n j ⟨j', N⟩ hj ⟨i1, i2⟩
      simp only at i1 i2
      subst i1
      have hIN := hI.q i2.1.ag
      have hGN := hIN.1
      obtain ⟨n1, _⟩ := hIN.now hj
      obtain ⟨q1, q2, q3⟩ := hI.pl hj
      obtain ⟨ξ, e3, h3⟩ := i2.far hI q2 hx
      show ∃ s', fX10_farForAll_4 (n + 1) 0 (I x) (I (cmF C r x j')) (I j') N = _ ∧ _
      rw [fX10_farForAll_4, hIN.cel, bs, hIN.2.2.2.2.2.1.2.1, if_pos (show I j' < I C.P from (I_lt (by omega) (by omega)).mpr hj), g_0_15 hGN, bs, g_0_7 hGN, bs, hGN.at a33, bs, ld_35 (by omega), bs, n1, q1, e3, bs]
      simp only [farV_m1 hI hx, I_addl]
      refine ⟨(j' + 1, ξ), ?_, rfl, h3⟩
      simp only
      rw [cmF_s]
      by_cases d9 : dR C r x (atN r j') = 9999
      · rw [if_pos d9, if_pos d9]
      · have hv : farV C r x (atN r j') = I (dR C r x (atN r j')) := by unfold farV; rw [if_neg d9]
        rw [if_neg d9, if_neg d9, hv, I_add])
    (by
      rintro n ⟨j', N⟩ ⟨i1, i2⟩
      simp only at i1 i2
      subst i1
      have hIN := hI.q i2.1.ag
      show fX10_farForAll_4 (n + 1) 0 (I x) _ (I C.P) N = _
      rw [fX10_farForAll_4, hIN.cel, bs, hIN.2.2.2.2.2.1.2.1, if_neg (show ¬ I C.P < I C.P by rw [I_lt (by omega) (by omega)]; omega)])
    C.P fuel 0 (0, ν) rfl (by unfold fuel; omega) ⟨rfl, h⟩
  simp only at e2 i1 i2
  rw [i1] at e2
  exact ⟨N, e2, i2⟩
theorem has_ok (hI : INV C G Fd pc k r μ) {x : Nat} (hx : x < 48) : fX1_has k (I x) μ = if there C x = true then 1 else 0 := by
  unfold fX1_has
  rw [if_neg (I_neg (by omega)), if_pos (show I x < (48 : Int32) from (I_ltl (by omega) (by decide)).mpr hx)]
  simp (disch := omega) only [and_bit0]
  rw [hI.2.2.2.2.2.1.2.2.1]
  cases there C x <;> rfl
theorem c_gather (hI : INV C G Fd pc k r μ) (a : Int32) : CQ (fX10_gather 0 a μ) μ (codeW a 2) (valG C r a) := by
  have hC := hI.2.1
  have hP := hC.2.1
  unfold fX10_gather codeW
  rw [show fX10_needWhat 0 a (2 : Int32) = _ from needW_ok a 2, bs]
  by_cases h1 : okW a 2 = true
  · rw [if_pos h1, if_pos h1]
    simp only
    rw [hI.cel, bs, hI.2.2.2.2.2.1.2.1]
    unfold valG
    by_cases hP0 : C.P = 0
    · rw [if_pos hP0, if_pos (by rw [hP0]; rfl)]
      exact ⟨μ, FrB.refl _ _ μ, Or.inl ⟨rfl, rfl⟩⟩
    · rw [if_neg hP0, if_neg (show ¬ I C.P = 0 from fun t => hP0 ((I_inj (m := 0) (by omega) (by omega)).mp t))]
      obtain ⟨L, e, f1, f2⟩ := here_ok hI
      rw [e, bs]
      simp only
      obtain ⟨⟨j, N⟩, e2, i1, i2⟩ := loop_k (S := Nat × Mem) (R := Option ((Int32 ⊕ Nat) × Mem))
        (fun n s => fX10_gather_33 n 0 a (enc (gaS C r s.1).1) (I (gaS C r s.1).2.1) (I (gaS C r s.1).2.2) (I s.1) s.2) (fun s => if a = 0 then some (.inl (fX10_outside (enc (gaS C r s.1).1)), s.2) else some (.inl (I (gaS C r s.1).2.2), s.2)) 48
        (fun j s => s.1 = j ∧ HG C r μ s.2)
        (by
          rintro n j ⟨j', N⟩ hj ⟨i1, i2⟩
          simp only at i1 i2
          subst i1
          have hIN := hI.q i2.1.ag
          obtain ⟨b1, b2, b3, b4, _⟩ := gaS_inv hI j'
          show ∃ s', fX10_gather_33 (n + 1) 0 a (enc (gaS C r j').1) (I (gaS C r j').2.1) (I (gaS C r j').2.2) (I j') N = _ ∧ _
          rw [fX10_gather_33, if_pos (show I j' < (48 : Int32) from (I_ltl (by omega) (by decide)).mpr hj), hIN.cel, bs, has_ok hIN hj]
          by_cases t : there C j' = true
          · rw [if_pos t, if_neg (by decide)]
            obtain ⟨ξ1, c1, d1⟩ := comers_ok hI t i2
            obtain ⟨ξ2, c2, d2⟩ := farAll_ok hI t d1
            have hcle : cmN C r j' C.P ≤ C.P := cnt_le _ _
            have hfle := cmF_le hI t C.P (Nat.le_refl _)
            rw [c1, bs]
            simp only
            by_cases n0 : 0 < cmN C r j' C.P
            · rw [if_pos (show (0 : Int32) < I (cmN C r j' C.P) from (l_ltI (m := 0) (by omega) (by decide)).mpr n0), c2, bs]
              simp only [I_addl]
              by_cases q : (gaS C r j').2.1 < cmN C r j' C.P
              · rw [if_pos (show I (gaS C r j').2.1 < I (cmN C r j' C.P) from (I_lt (by omega) (by omega)).mpr q)]
                have hn : gaS C r (j' + 1) = (some j', cmN C r j' C.P, cmF C r j' C.P) := by rw [gaS_s, if_pos ⟨t, Or.inl q⟩]
                refine ⟨(j' + 1, ξ2), ?_, rfl, d2⟩
                simp only
                rw [hn]; rfl
              · rw [if_neg (show ¬ I (gaS C r j').2.1 < I (cmN C r j' C.P) from fun t => q ((I_lt (by omega) (by omega)).mp t)), if_pos (show (0 : Int32) < I (cmN C r j' C.P) from (l_ltI (m := 0) (by omega) (by decide)).mpr n0)]
                by_cases q2 : cmN C r j' C.P = (gaS C r j').2.1
                · rw [if_pos (show I (cmN C r j' C.P) = I (gaS C r j').2.1 by rw [q2])]
                  by_cases q3 : cmF C r j' C.P < (gaS C r j').2.2
                  · rw [if_pos (show I (cmF C r j' C.P) < I (gaS C r j').2.2 from (I_lt (by omega) (by omega)).mpr q3)]
                    have hn : gaS C r (j' + 1) = (some j', cmN C r j' C.P, cmF C r j' C.P) := by rw [gaS_s, if_pos ⟨t, Or.inr ⟨n0, q2, q3⟩⟩]
                    refine ⟨(j' + 1, ξ2), ?_, rfl, d2⟩
                    simp only
                    rw [hn]; rfl
                  · rw [if_neg (show ¬ I (cmF C r j' C.P) < I (gaS C r j').2.2 from fun t => q3 ((I_lt (by omega) (by omega)).mp t))]
                    have hn : gaS C r (j' + 1) = gaS C r j' := by rw [gaS_s, if_neg (fun u => by rcases u.2 with v | v; exact q v; exact q3 v.2.2)]
                    refine ⟨(j' + 1, ξ2), ?_, rfl, d2⟩
                    simp only
                    rw [hn]
                · rw [if_neg (show ¬ I (cmN C r j' C.P) = I (gaS C r j').2.1 from fun t => q2 ((I_inj (by omega) (by omega)).mp t))]
                  have hn : gaS C r (j' + 1) = gaS C r j' := by rw [gaS_s, if_neg (fun u => by rcases u.2 with v | v; exact q v; exact q2 v.2.1)]
                  refine ⟨(j' + 1, ξ2), ?_, rfl, d2⟩
                  simp only
                  rw [hn]
            · have hz : cmN C r j' C.P = 0 := by omega
              have hn : gaS C r (j' + 1) = gaS C r j' := by rw [gaS_s, if_neg (fun u => by rcases u.2 with v | v <;> omega)]
              rw [hz, if_neg (show ¬ (0 : Int32) < I 0 by decide), if_neg (show ¬ I (gaS C r j').2.1 < I 0 from I_neg (by omega)), if_neg (show ¬ (0 : Int32) < I 0 by decide), I_addl]
              refine ⟨(j' + 1, ξ1), ?_, rfl, d1⟩
              simp only
              rw [hn]
          · rw [if_neg t, if_pos rfl, if_neg (show ¬ (0 : Int32) < 0 by decide), if_neg (show ¬ I (gaS C r j').2.1 < 0 from I_neg (by omega)), if_neg (show ¬ (0 : Int32) < 0 by decide), I_addl]
            have hn : gaS C r (j' + 1) = gaS C r j' := by rw [gaS_s, if_neg (fun u => t u.1)]
            refine ⟨(j' + 1, N), ?_, rfl, i2⟩
            simp only
            rw [hn])
        (by
          rintro n ⟨j', N⟩ ⟨i1, i2⟩
          simp only at i1
          subst i1
          show fX10_gather_33 (n + 1) 0 a _ _ _ (I 48) N = _
          rw [fX10_gather_33, if_neg (by decide)])
        48 fuel 0 (0, sLC μ 468 L) rfl (by unfold fuel; omega) ⟨rfl, f1, f2⟩
      simp only at e2 i1 i2
      rw [i1] at e2
      refine ⟨N, i2.1, Or.inl ⟨rfl, ?_⟩⟩
      refine e2.trans ?_
      split <;> rfl
  · rw [if_neg h1, if_neg h1]
    exact ⟨μ, FrB.refl _ _ μ, Or.inr (Or.inl ⟨rfl, rfl⟩)⟩
theorem r_gather (hI : INV C G Fd pc k r μ) (a : Int32) : RQ (fX11_gather 492 a μ) μ (codeW a 2) (valG C r a) := by
  have hC := hI.2.1
  have hP := hC.2.1
  obtain ⟨t1, t2, t3, t4⟩ := thr0 μ
  have hR0 := t1.rc hI.2.2.2.2.2.2.1
  unfold fX11_gather codeW
  rw [bs, sI_C, show fX11_isWhat 492 a (1 : Int32) (thr μ 0) = _ from isWhat_ok (m := 1) t2 a (by decide)]
  by_cases h1 : okW a 2 = true
  · rw [if_pos h1, if_pos h1, bs]
    simp only
    rw [if_neg (by decide)]
    obtain ⟨⟨j, N⟩, e2, i1, i2, i3⟩ := loop_k (S := Nat × Mem) (R := Option (Int32 × Mem))
      (fun n s => fX11_gather_26 n 492 a (enc (gaS C r s.1).1) (I (gaS C r s.1).2.1) (I (gaS C r s.1).2.2) (I s.1) s.2) (fun s => if a = 0 then some (fX11_toldAs (enc (gaS C r s.1).1), s.2) else if enc (gaS C r s.1).1 = (-1 : Int32) then some (-1, s.2) else some (I (gaS C r s.1).2.2, s.2)) 48
      (fun j s => s.1 = j ∧ FR μ s.2 ∧ s.2.2.1 492 = (thr μ 0).2.1 492)
      (by
        rintro n j ⟨j', N⟩ hj ⟨i1, i2, i3⟩
        simp only at i1 i2 i3
        subst i1
        have hRN := i2.rc hI.2.2.2.2.2.2.1
        have h41 : N.2.1 492 41 = μ.2.1 492 41 := by rw [i3]; exact t3
        obtain ⟨b1, b2, b3, b4, b5⟩ := gaS_inv hI j'
        show ∃ s', fX11_gather_26 (n + 1) 492 a (enc (gaS C r j').1) (I (gaS C r j').2.1) (I (gaS C r j').2.2) (I j') N = _ ∧ _
        rw [fX11_gather_26, if_pos (show I j' < (48 : Int32) from (I_ltl (by omega) (by decide)).mpr hj), isThere_ok hRN hj, bs]
        by_cases t : there C j' = true
        · rw [if_pos t, if_neg (by decide)]
          obtain ⟨F, Q, e3, h3, h4, h5⟩ := laysF hI i2 h41 t
          rw [e3, bs]
          have hRM := h3.rc hRN
          have hcle : cmN C r j' C.P ≤ C.P := cnt_le _ _
          have hfle := cmF_le hI t C.P (Nat.le_refl _)
          have inner := loop_eq (R := Int32 × Mem) (fun m (s : Int32 × Int32 × Int32) => fX11_gather_61 (fX11_gather_26 n) m 492 a (enc (gaS C r j').1) (I (gaS C r j').2.1) (I (gaS C r j').2.2) (I j') s.1 s.2.1 s.2.2 (mFQ N F Q)) C.P (fun i => (I (cmN C r j' i), I (cmF C r j' i), I i)) (fX11_gather_61 (fX11_gather_26 n) 1 492 a (enc (gaS C r j').1) (I (gaS C r j').2.1) (I (gaS C r j').2.2) (I j') (I (cmN C r j' C.P)) (I (cmF C r j' C.P)) (I C.P) (mFQ N F Q))
            (by
              intro m i hi
              obtain ⟨q1, q2, q3⟩ := hI.pl hi
              have hd := dR_le hI t (atN r i)
              show fX11_gather_61 (fX11_gather_26 n) (m + 1) 492 a (enc (gaS C r j').1) (I (gaS C r j').2.1) (I (gaS C r j').2.2) (I j') (I (cmN C r j' i)) (I (cmF C r j' i)) (I i) (mFQ N F Q) = fX11_gather_61 (fX11_gather_26 n) m 492 a (enc (gaS C r j').1) (I (gaS C r j').2.1) (I (gaS C r j').2.2) (I j') (I (cmN C r j' (i + 1))) (I (cmF C r j' (i + 1))) (I (i + 1)) (mFQ N F Q)
              conv => lhs; rw [fX11_gather_61]
              rw [hRM.2.2.2.1, if_pos (show I i < I C.P from (I_lt (by omega) (by omega)).mpr hi), gC, gC, g_492_39 hRN.1, bs, gC, gC, g_492_34 hRN.1, bs, l_addI, ld_502 (by omega), bs, hI.row (by omega) (i2.trans h3), q1, ld_506 q3, bs, mFQ_F, h5 _ q2, cmN_s, cmF_s]
              by_cases d9 : dR C r j' (atN r i) = 9999
              · rw [d9, if_neg (show ¬ I 9999 < (9999 : Int32) by decide), if_neg (show ¬ I 9999 < (9999 : Int32) by decide), if_neg (by decide), if_pos rfl, I_addl, I_addl, I_addl]
              · have hlt : I (dR C r j' (atN r i)) < (9999 : Int32) := (I_ltl (by omega) (by decide)).mpr (show dR C r j' (atN r i) < 9999 by omega)
                rw [if_pos hlt, if_pos hlt, if_pos (by simp [d9]), if_neg d9, I_addl, I_add, I_addl])
            (by
              intro m
              show fX11_gather_61 (fX11_gather_26 n) (m + 1) 492 a _ _ _ (I j') (I (cmN C r j' C.P)) (I (cmF C r j' C.P)) (I C.P) (mFQ N F Q) = _
              rw [fX11_gather_61, fX11_gather_61, hRM.2.2.2.1, if_neg (show ¬ I C.P < I C.P by rw [I_lt (by omega) (by omega)]; omega), if_neg (show ¬ I C.P < I C.P by rw [I_lt (by omega) (by omega)]; omega)])
            C.P fuel 0 rfl (by unfold fuel; omega)
          have inner2 : fX11_gather_61 (fX11_gather_26 n) fuel 492 a (enc (gaS C r j').1) (I (gaS C r j').2.1) (I (gaS C r j').2.2) (I j') 0 0 0 (mFQ N F Q) = _ := inner
          rw [inner2, fX11_gather_61, hRM.2.2.2.1, if_neg (show ¬ I C.P < I C.P by rw [I_lt (by omega) (by omega)]; omega)]
          have keep : gaS C r (j' + 1) = gaS C r j' → ∃ s' : Nat × Mem, fX11_gather_26 n 492 a (enc (gaS C r j').1) (I (gaS C r j').2.1) (I (gaS C r j').2.2) (I j' + 1) (mFQ N F Q) = fX11_gather_26 n 492 a (enc (gaS C r s'.1).1) (I (gaS C r s'.1).2.1) (I (gaS C r s'.1).2.2) (I s'.1) s'.2 ∧ s'.1 = j' + 1 ∧ FR μ s'.2 ∧ s'.2.2.1 492 = (thr μ 0).2.1 492 := by
            intro hn
            refine ⟨(j' + 1, mFQ N F Q), ?_, rfl, i2.trans h3, by rw [← i3]; exact h4⟩
            simp only
            rw [hn, I_addl]
          have take : gaS C r (j' + 1) = (some j', cmN C r j' C.P, cmF C r j' C.P) → ∃ s' : Nat × Mem, fX11_gather_26 n 492 a (I j') (I (cmN C r j' C.P)) (I (cmF C r j' C.P)) (I j' + 1) (mFQ N F Q) = fX11_gather_26 n 492 a (enc (gaS C r s'.1).1) (I (gaS C r s'.1).2.1) (I (gaS C r s'.1).2.2) (I s'.1) s'.2 ∧ s'.1 = j' + 1 ∧ FR μ s'.2 ∧ s'.2.2.1 492 = (thr μ 0).2.1 492 := by
            intro hn
            refine ⟨(j' + 1, mFQ N F Q), ?_, rfl, i2.trans h3, by rw [← i3]; exact h4⟩
            simp only
            rw [hn, I_addl]
            rfl
          by_cases q0 : cmN C r j' C.P < (gaS C r j').2.1
          · rw [if_pos (show I (cmN C r j' C.P) < I (gaS C r j').2.1 from (I_lt (by omega) (by omega)).mpr q0)]
            exact keep (by rw [gaS_s, if_neg (fun u => by rcases u.2 with v | v <;> omega)])
          · rw [if_neg (show ¬ I (cmN C r j' C.P) < I (gaS C r j').2.1 from fun t => q0 ((I_lt (by omega) (by omega)).mp t))]
            by_cases qz : cmN C r j' C.P = 0
            · rw [if_pos (show I (cmN C r j' C.P) = 0 by rw [qz]; rfl)]
              exact keep (by rw [gaS_s, if_neg (fun u => by rcases u.2 with v | v <;> omega)])
            · rw [if_neg (show ¬ I (cmN C r j' C.P) = 0 from fun t => qz ((I_inj (m := 0) (by omega) (by omega)).mp t))]
              by_cases q2 : cmN C r j' C.P = (gaS C r j').2.1
              · rw [if_pos (show I (cmN C r j' C.P) = I (gaS C r j').2.1 by rw [q2])]
                cases ho : (gaS C r j').1 with
                | none => exact absurd (b3 ho) (by omega)
                | some y =>
                  have hy := b5 y ho
                  rw [if_neg (show ¬ enc (some y) = -1 from I_m1 (by omega))]
                  by_cases q3 : cmF C r j' C.P < (gaS C r j').2.2
                  · rw [if_pos (show I (cmF C r j' C.P) < I (gaS C r j').2.2 from (I_lt (by omega) (by omega)).mpr q3)]
                    exact take (by rw [gaS_s, if_pos ⟨t, Or.inr ⟨by omega, q2, q3⟩⟩])
                  · rw [if_neg (show ¬ I (cmF C r j' C.P) < I (gaS C r j').2.2 from fun t => q3 ((I_lt (by omega) (by omega)).mp t))]
                    rw [← ho]
                    exact keep (by rw [gaS_s, if_neg (fun u => by rcases u.2 with v | v; omega; exact q3 v.2.2)])
              · rw [if_neg (show ¬ I (cmN C r j' C.P) = I (gaS C r j').2.1 from fun t => q2 ((I_inj (by omega) (by omega)).mp t))]
                exact take (by rw [gaS_s, if_pos ⟨t, Or.inl (by omega)⟩])
        · rw [if_neg t, if_pos rfl, I_addl]
          have hn : gaS C r (j' + 1) = gaS C r j' := by rw [gaS_s, if_neg (fun u => t u.1)]
          refine ⟨(j' + 1, N), ?_, rfl, i2, i3⟩
          simp only
          rw [hn])
      (by
        rintro n ⟨j', N⟩ ⟨i1, i2⟩
        simp only at i1
        subst i1
        show fX11_gather_26 (n + 1) 492 a _ _ _ (I 48) N = _
        rw [fX11_gather_26, if_neg (by decide)])
      48 fuel 0 (0, thr μ 0) rfl (by unfold fuel; omega) ⟨rfl, t1, rfl⟩
    simp only at e2 i1 i2 i3
    rw [i1] at e2
    obtain ⟨b1, b2, b3, b4, b5⟩ := gaS_inv hI 48
    have hval : (if a = 0 then some (fX11_toldAs (enc (gaS C r 48).1), N) else if enc (gaS C r 48).1 = (-1 : Int32) then some (-1, N) else some (I (gaS C r 48).2.2, N)) = some (valG C r a, N) := by
      unfold valG
      by_cases hP0 : C.P = 0
      · rw [if_pos hP0]
        have hnone : (gaS C r 48).1 = none := by
          have key : ∀ x, (gaS C r x) = (none, 0, 0) := by
            intro x
            induction x with
            | zero => rfl
            | succ x ih =>
              have hz : cmN C r x C.P = 0 := by
                have : cmN C r x C.P ≤ C.P := cnt_le _ _
                omega
              rw [gaS_s, ih, if_neg (fun u => by rcases u.2 with v | v <;> simp only [hz] at v <;> omega)]
          rw [key 48]
        rw [hnone]
        by_cases a0 : a = 0
        · rw [if_pos a0]; rfl
        · rw [if_neg a0, if_pos (show enc none = -1 from rfl)]
      · rw [if_neg hP0, toldAs_eq (fun y hy => b5 y hy)]
        by_cases a0 : a = 0
        · rw [if_pos a0, if_pos a0]
        · rw [if_neg a0, if_neg a0]
          cases ho : (gaS C r 48).1 with
          | none => exact absurd ho (gaS_some hI (by omega))
          | some y =>
            have := b5 y ho
            rw [if_neg (show ¬ enc (some y) = -1 from I_m1 (by omega))]
    rw [hval] at e2
    show RQ (fX11_gather_26 fuel 492 a (enc (gaS C r 0).1) (I (gaS C r 0).2.1) (I (gaS C r 0).2.2) (I 0) (thr μ 0)) μ 0 _
    rw [e2]
    exact ⟨_, N, rfl, i2, by rw [i3]; exact t3, by rw [i3]; exact t4, by rw [i3]; exact t2, fun _ => rfl⟩
  · rw [if_neg h1, if_neg h1, bs]
    simp only [if_true]
    exact RQ.no (by decide) t1 t3 t4
theorem qq_gather (hI : INV C G Fd pc k r μ) (a : Int32) : QQ C G Fd pc k r (fun μ => fL_gather 0 a 518 μ) (fun ν => fX11_gather 492 a ν) μ := q_gather hI a (c_gather hI a) (codeW_ne a 2) (fun ν h => r_gather h a)
end Ga
