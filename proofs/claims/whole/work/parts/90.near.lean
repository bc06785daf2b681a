/-! CALLS: near, gather -/
def atN (r : Row) (p : Nat) : Nat := ix (r (55 + p))
section Ne
variable {C : Cel} {G Fd : List Itm} {pc : Nat → Int32} {k : Nat} {r : Row} {μ : Mem}
theorem INV.pl (hI : INV C G Fd pc k r μ) {p : Nat} (hp : p < C.P) : r (55 + p) = I (atN r p) ∧ there C (atN r p) = true ∧ atN r p < 48 := by
  obtain ⟨x, hx1, hx2⟩ := hI.2.2.2.2.2.2.2.2.1.1.2.1 p hp
  have hx48 := there_lt hI.2.1 hx2
  have e : atN r p = x := by
    unfold atN
    rw [hx1]; exact ix_of hx48
  rw [e]
  exact ⟨hx1, hx2, hx48⟩
/-- the ground is laid -/
def HG (C : Cel) (r : Row) (μ ν : Mem) : Prop := FrB LC L2C μ ν ∧ GD C r 468 ν
theorem HG.far (hI : INV C G Fd pc k r μ) {ν : Mem} (h : HG C r μ ν) {x to : Nat} (hx : there C x = true) (hto : there C to = true) : ∃ ξ, fX5_far 468 (I x) (I to) ν = some (farV C r to x, ξ) ∧ HG C r μ ξ := by
  obtain ⟨L, e, f1, f2, _⟩ := cfar_ok (h.1.gr hI.1) hI.2.1 hI.2.2.2.2.2.2.2.2.1.1.1 h.2 hx hto
  exact ⟨_, e, h.1.trans f1, f2⟩
theorem farV_m1 (hI : INV C G Fd pc k r μ) {to : Nat} (hto : there C to = true) (x : Nat) : (farV C r to x = -1) = (dR C r to x = 9999) := by
  unfold farV
  rcases dR_le hI hto x with q | q
  · rw [if_neg (by omega)]
    exact propext ⟨fun t => absurd t (I_m1 (by omega)), fun t => by omega⟩
  · rw [if_pos q]
    exact propext ⟨fun _ => q, fun _ => rfl⟩
noncomputable def nrS (C : Cel) (r : Row) (p : Nat) : Nat → Option Nat × Nat
  | 0 => (none, 9999)
  | j + 1 => if j ≠ p ∧ dR C r (atN r j) (atN r p) < (nrS C r p j).2 then (some j, dR C r (atN r j) (atN r p)) else nrS C r p j
theorem nrS_s (C : Cel) (r : Row) (p j : Nat) : nrS C r p (j + 1) = if j ≠ p ∧ dR C r (atN r j) (atN r p) < (nrS C r p j).2 then (some j, dR C r (atN r j) (atN r p)) else nrS C r p j := rfl
theorem nrS_le (hI : INV C G Fd pc k r μ) (p : Nat) : ∀ j, j ≤ C.P → (nrS C r p j).2 = 9999 ∨ (nrS C r p j).2 < 48 := by
  intro j
  induction j with
  | zero => intro _; exact Or.inl rfl
  | succ j ih =>
    intro hj
    unfold nrS
    split
    · rename_i q
      rcases dR_le hI (hI.pl (show j < C.P by omega)).2.1 (atN r p) with t | t
      · exact Or.inr t
      · rw [t] at q
        rcases ih (by omega) with u | u <;> omega
    · exact ih (by omega)
theorem qq_near (hI : INV C G Fd pc k r μ) (a : Int32) : QQ C G Fd pc k r (fun μ => fL_near 0 a 518 μ) (fun ν => fX11_near 492 a ν) μ := by
  have hC := hI.2.1
  have hP := hC.2.1
  refine q_near hI a (code := codeP C a) (val := enc (nrS C r (ix a) C.P).1) ?_ (codeP_ne C a) ?_
  · unfold fX10_near codeP
    rw [needP_ok hI, bs]
    by_cases h1 : okP C a = true
    · rw [if_pos h1, if_pos h1]
      simp only
      obtain ⟨p, hp, rfl⟩ := okP_ex hC h1
      obtain ⟨L, e, f1, f2⟩ := here_ok hI
      rw [e, bs]
      simp only
      rw [ix_I (by omega)]
      obtain ⟨p1, p2, p3⟩ := hI.pl hp
      obtain ⟨⟨j, N⟩, e2, i1, i2⟩ := loop_k (S := Nat × Mem) (R := Option ((Int32 ⊕ Nat) × Mem))
        (fun n s => fX10_near_18 n 0 (I p) (enc (nrS C r p s.1).1) (if (nrS C r p s.1).2 = 9999 then I 48 else I (nrS C r p s.1).2) (I s.1) s.2) (fun s => some (.inl (enc (nrS C r p s.1).1), s.2)) C.P
        (fun j s => s.1 = j ∧ HG C r μ s.2)
        (by
          rintro n j ⟨j', N⟩ hj ⟨i1, i2⟩
          simp only at i1 i2
          subst i1
          have hIN := hI.q i2.1.ag
          have hGN := hIN.1
          obtain ⟨n1, _⟩ := hIN.now hp
          obtain ⟨n2, _⟩ := hIN.now hj
          obtain ⟨q1, q2, q3⟩ := hI.pl hj
          show ∃ s', fX10_near_18 (n + 1) 0 (I p) (enc (nrS C r p j').1) (if (nrS C r p j').2 = 9999 then I 48 else I (nrS C r p j').2) (I j') N = _ ∧ _
          rw [fX10_near_18, hIN.cel, bs, hIN.2.2.2.2.2.1.2.1, if_pos (show I j' < I C.P from (I_lt (by omega) (by omega)).mpr hj)]
          by_cases ejp : j' = p
          · rw [if_pos (by rw [ejp]), if_pos rfl, I_addl]
            refine ⟨(j' + 1, N), ?_, rfl, i2⟩
            have hn : nrS C r p (j' + 1) = nrS C r p j' := by rw [nrS_s, if_neg (fun t => t.1 ejp)]
            simp only
            rw [hn]
          · rw [if_neg (by rw [I_inj (by omega) (by omega)]; exact ejp)]
            obtain ⟨ξ, e3, h3⟩ := i2.far hI p2 q2
            rw [g_0_15 hGN, bs, g_0_7 hGN, bs, hGN.at a33, bs, ld_35 (by omega), bs, bs, hGN.at a33, bs, ld_35 (by omega), bs, n1, n2, p1, q1, e3, bs]
            simp only [farV_m1 hI q2, I_addl]
            have hl := nrS_le hI p j' (by omega)
            by_cases d9 : dR C r (atN r j') (atN r p) = 9999
            · rw [if_pos d9]
              refine ⟨(j' + 1, ξ), ?_, rfl, h3⟩
              have hn : nrS C r p (j' + 1) = nrS C r p j' := by rw [nrS_s, if_neg (fun t => by have := t.2; omega)]
              simp only
              rw [hn]
            · have d48 : dR C r (atN r j') (atN r p) < 48 := by
                rcases dR_le hI q2 (atN r p) with t | t
                · exact t
                · exact absurd t d9
              rw [if_neg d9]
              have hv : farV C r (atN r j') (atN r p) = I (dR C r (atN r j') (atN r p)) := by unfold farV; rw [if_neg d9]
              rw [hv]
              have hcmp : (I (dR C r (atN r j') (atN r p)) < (if (nrS C r p j').2 = 9999 then I 48 else I (nrS C r p j').2)) = (dR C r (atN r j') (atN r p) < (nrS C r p j').2) := by
                rcases hl with t | t
                · rw [if_pos t, t, I_lt (by omega) (by omega)]
                  exact propext ⟨fun _ => by omega, fun _ => d48⟩
                · rw [if_neg (by omega), I_lt (by omega) (by omega)]
              by_cases lt : dR C r (atN r j') (atN r p) < (nrS C r p j').2
              · rw [if_pos (hcmp.mpr lt)]
                refine ⟨(j' + 1, ξ), ?_, rfl, h3⟩
                have hn : nrS C r p (j' + 1) = (some j', dR C r (atN r j') (atN r p)) := by rw [nrS_s, if_pos ⟨ejp, lt⟩]
                simp only
                rw [hn]
                simp only
                rw [if_neg d9]
                rfl
              · rw [if_neg (fun t => lt (hcmp.mp t))]
                refine ⟨(j' + 1, ξ), ?_, rfl, h3⟩
                have hn : nrS C r p (j' + 1) = nrS C r p j' := by rw [nrS_s, if_neg (fun t => lt t.2)]
                simp only
                rw [hn])
        (by
          rintro n ⟨j', N⟩ ⟨i1, i2⟩
          simp only at i1 i2
          subst i1
          have hIN := hI.q i2.1.ag
          show fX10_near_18 (n + 1) 0 (I p) _ _ (I C.P) N = _
          rw [fX10_near_18, hIN.cel, bs, hIN.2.2.2.2.2.1.2.1, if_neg (show ¬ I C.P < I C.P by rw [I_lt (by omega) (by omega)]; omega)])
        C.P fuel 0 (0, sLC μ 468 L) rfl (by unfold fuel; omega) ⟨rfl, f1, f2⟩
      simp only at e2 i1 i2
      rw [i1] at e2
      exact ⟨N, i2.1, Or.inl ⟨rfl, e2⟩⟩
    · rw [if_neg h1, if_neg h1]
      exact ⟨μ, FrB.refl _ _ μ, Or.inr (Or.inl ⟨rfl, rfl⟩)⟩
  · intro ν hν
    obtain ⟨t1, t2, t3, t4⟩ := thr0 ν
    have hR0 := t1.rc hν.2.2.2.2.2.2.1
    unfold fX11_near codeP
    rw [bs, sI_C, isPerson_ok hR0 t2]
    by_cases h1 : okP C a = true
    · rw [if_pos h1, if_pos h1, bs]
      simp only
      rw [if_neg (by decide)]
      obtain ⟨p, hp, rfl⟩ := okP_ex hC h1
      rw [ix_I (by omega)]
      obtain ⟨p1, p2, p3⟩ := hν.pl hp
      obtain ⟨⟨j, N⟩, e2, i1, i2, i3⟩ := loop_k (S := Nat × Mem) (R := Option (Int32 × Mem))
        (fun n s => fX11_near_24 n 492 (I p) (enc (nrS C r p s.1).1) (I (nrS C r p s.1).2) (I s.1) s.2) (fun s => some (enc (nrS C r p s.1).1, s.2)) C.P
        (fun j s => s.1 = j ∧ FR ν s.2 ∧ s.2.2.1 492 = (thr ν 0).2.1 492)
        (by
          rintro n j ⟨j', N⟩ hj ⟨i1, i2, i3⟩
          simp only at i1 i2 i3
          subst i1
          obtain ⟨q1, q2, q3⟩ := hν.pl hj
          have hRN := i2.rc hν.2.2.2.2.2.2.1
          have h41 : N.2.1 492 41 = ν.2.1 492 41 := by rw [i3]; exact t3
          show ∃ s', fX11_near_24 (n + 1) 492 (I p) (enc (nrS C r p j').1) (I (nrS C r p j').2) (I j') N = _ ∧ _
          have hl := nrS_le hν p j' (by omega)
          rw [fX11_near_24, hRN.2.2.2.1, if_pos (show I j' < I C.P from (I_lt (by omega) (by omega)).mpr hj)]
          by_cases ejp : j' = p
          · rw [if_pos (by rw [ejp]), if_neg (show ¬ (9999 : Int32) < I (nrS C r p j').2 by
              rw [l_ltI (by omega) (by decide)]
              show ¬ 9999 < (nrS C r p j').2
              omega), I_addl]
            refine ⟨(j' + 1, N), ?_, rfl, i2, i3⟩
            have hn : nrS C r p (j' + 1) = nrS C r p j' := by rw [nrS_s, if_neg (fun t => t.1 ejp)]
            simp only
            rw [hn]
          · rw [if_neg (by rw [I_inj (by omega) (by omega)]; exact ejp)]
            obtain ⟨F, Q, e3, h3, h4, _⟩ := howFar_ok hν i2 h41 p2 q2
            rw [g_492_34 hRN.1, bs, l_addI, ld_502 (by omega), bs, bs, l_addI, ld_502 (by omega), bs, hν.row (by omega) i2, hν.row (by omega) i2, p1, q1, e3, bs]
            simp only [I_addl]
            have hd := dR_le hν q2 (atN r p)
            by_cases lt : dR C r (atN r j') (atN r p) < (nrS C r p j').2
            · rw [if_pos (show I (dR C r (atN r j') (atN r p)) < I (nrS C r p j').2 from (I_lt (by omega) (by omega)).mpr lt)]
              refine ⟨(j' + 1, mFQ N F Q), ?_, rfl, i2.trans h3, by rw [← i3]; exact h4⟩
              have hn : nrS C r p (j' + 1) = (some j', dR C r (atN r j') (atN r p)) := by rw [nrS_s, if_pos ⟨ejp, lt⟩]
              simp only
              rw [hn]
              rfl
            · rw [if_neg (show ¬ I (dR C r (atN r j') (atN r p)) < I (nrS C r p j').2 from fun t => lt ((I_lt (by omega) (by omega)).mp t))]
              refine ⟨(j' + 1, mFQ N F Q), ?_, rfl, i2.trans h3, by rw [← i3]; exact h4⟩
              have hn : nrS C r p (j' + 1) = nrS C r p j' := by rw [nrS_s, if_neg (fun t => lt t.2)]
              simp only
              rw [hn])
        (by
          rintro n ⟨j', N⟩ ⟨i1, i2, i3⟩
          simp only at i1 i2
          subst i1
          have hRN := i2.rc hν.2.2.2.2.2.2.1
          show fX11_near_24 (n + 1) 492 (I p) _ _ (I C.P) N = _
          rw [fX11_near_24, hRN.2.2.2.1, if_neg (show ¬ I C.P < I C.P by rw [I_lt (by omega) (by omega)]; omega)])
        C.P fuel 0 (0, thr ν 0) rfl (by unfold fuel; omega) ⟨rfl, t1, rfl⟩
      simp only at e2 i1 i2 i3
      rw [i1] at e2
      show RQ (fX11_near_24 fuel 492 (I p) (enc (nrS C r p 0).1) (I (nrS C r p 0).2) (I 0) (thr ν 0)) ν 0 _
      rw [e2]
      exact ⟨_, N, rfl, i2, by rw [i3]; exact t3, by rw [i3]; exact t4, by rw [i3]; exact t2, fun _ => rfl⟩
    · rw [if_neg h1, if_neg h1, bs]
      simp only [if_true]
      exact RQ.no (by decide) t1 t3 t4
end Ne
