/-! CALLS: game, the whole -/
theorem xor4 : ∀ c : Fin 4, (I c.1 ^^^ (2 : Int32) = I ((c.1 + 2) % 4)) ∧ (I c.1 ^^^ (1 : Int32) = I (c.1 / 2 * 2 + (1 - c.1 % 2))) := by decide +kernel
section Gn
variable {C : Cel} {G Fd : List Itm} {pc : Nat → Int32} {k : Nat} {r : Row} {μ : Mem}
/-- a couple of choices rests -/
noncomputable def rst (C : Cel) (G Fd : List Itm) (r : Row) (p o c : Nat) : Bool := !decide (g0 C G Fd r p o p c < g0 C G Fd r p o p ((c + 2) % 4)) && !decide (g0 C G Fd r p o o c < g0 C G Fd r p o o (c / 2 * 2 + (1 - c % 2)))
noncomputable def gmS (C : Cel) (G Fd : List Itm) (r : Row) (p o : Nat) : Nat → Nat × Int32
  | 0 => (0, -1)
  | c + 1 => if rst C G Fd r p o c = true then ((gmS C G Fd r p o c).1 + 1, if (gmS C G Fd r p o c).1 = 0 then I (c / 2 * 10 + c % 2) else (gmS C G Fd r p o c).2) else gmS C G Fd r p o c
theorem gmS_s (p o c : Nat) : gmS C G Fd r p o (c + 1) = if rst C G Fd r p o c = true then ((gmS C G Fd r p o c).1 + 1, if (gmS C G Fd r p o c).1 = 0 then I (c / 2 * 10 + c % 2) else (gmS C G Fd r p o c).2) else gmS C G Fd r p o c := rfl
theorem gmS_inv (p o : Nat) : ∀ c, c ≤ 4 → (gmS C G Fd r p o c).1 ≤ c ∧ ((gmS C G Fd r p o c).2 = -1 ↔ (gmS C G Fd r p o c).1 = 0) := by
  intro c
  induction c with
  | zero => intro _; exact ⟨Nat.le_refl 0, ⟨fun _ => rfl, fun _ => rfl⟩⟩
  | succ c ih =>
    intro hc
    obtain ⟨a1, a2⟩ := ih (by omega)
    rw [gmS_s]
    split
    · refine ⟨by show (gmS C G Fd r p o c).1 + 1 ≤ c + 1; omega, ?_⟩
      show (if (gmS C G Fd r p o c).1 = 0 then I (c / 2 * 10 + c % 2) else (gmS C G Fd r p o c).2) = -1 ↔ (gmS C G Fd r p o c).1 + 1 = 0
      by_cases q : (gmS C G Fd r p o c).1 = 0
      · rw [if_pos q]
        exact ⟨fun t => absurd t (I_m1 (by omega)), fun t => by omega⟩
      · rw [if_neg q]
        exact ⟨fun t => absurd (a2.mp t) q, fun t => by omega⟩
    · exact ⟨by omega, a2⟩
def codeG (C : Cel) (a b c : Int32) : Int32 := if okP C a = true then (if okP C b = true then (if okW c 2 = true then (if a = b then 2 else 0) else 1) else 1) else 1
noncomputable def valGm (C : Cel) (G Fd : List Itm) (r : Row) (a b c : Int32) : Int32 := if r (61 + ix a) = -1 then -1 else if r (61 + ix b) = -1 then -1 else if c = 0 then I (gmS C G Fd r (ix a) (ix b) 4).1 else (gmS C G Fd r (ix a) (ix b) 4).2
theorem c_game (hI : INV C G Fd pc k r μ) (a b c : Int32) : CQ (fX10_game 0 a b c μ) μ (codeG C a b c) (valGm C G Fd r a b c) := by
  have hC := hI.2.1
  have hP := hC.2.1
  have hG := hI.1
  unfold fX10_game codeG
  rw [needP_ok hI, bs]
  by_cases h1 : okP C a = true
  · rw [if_pos h1, if_pos h1]
    simp only
    rw [needP_ok hI, bs]
    by_cases h2 : okP C b = true
    · rw [if_pos h2, if_pos h2]
      simp only
      rw [show fX10_needWhat 0 c (2 : Int32) = _ from needW_ok c 2, bs]
      by_cases h3 : okW c 2 = true
      · rw [if_pos h3, if_pos h3]
        simp only
        by_cases hab : a = b
        · rw [if_pos hab, if_pos hab]
          exact ⟨μ, FrB.refl _ _ μ, Or.inr (Or.inr ⟨rfl, rfl⟩)⟩
        · rw [if_neg hab, if_neg hab]
          obtain ⟨p, hp, rfl⟩ := okP_ex hC h1
          obtain ⟨o, ho, rfl⟩ := okP_ex hC h2
          obtain ⟨_, n2, _⟩ := hI.now hp
          obtain ⟨_, m2, _⟩ := hI.now ho
          unfold valGm
          rw [ix_I (by omega), ix_I (by omega), g_0_7 hG, bs, hG.sent a33, bs, ld_36 (by omega), bs, n2]
          by_cases s1 : r (61 + p) = -1
          · rw [if_pos s1, if_pos s1]
            exact ⟨μ, FrB.refl _ _ μ, Or.inl ⟨rfl, rfl⟩⟩
          · rw [if_neg s1, if_neg s1, bs, hG.sent a33, bs, ld_36 (by omega), bs, m2]
            by_cases s2 : r (61 + o) = -1
            · rw [if_pos s2, if_pos s2]
              exact ⟨μ, FrB.refl _ _ μ, Or.inl ⟨rfl, rfl⟩⟩
            · rw [if_neg s2, if_neg s2]
              obtain ⟨⟨j, N⟩, e2, i1, i2, i3⟩ := loop_k (S := Nat × Mem) (R := Option ((Int32 ⊕ Nat) × Mem))
                (fun n s => fX10_game_63 n 0 (I p) (I o) c (I s.1) s.2) (fun s => fX10_game_92 fuel 0 c 0 (-1) 0 s.2) 4
                (fun j s => s.1 = j ∧ FrB LC L2C μ s.2 ∧ ∀ i, i < j → s.2.2.1 490 i = g0 C G Fd r p o p i ∧ s.2.2.1 491 i = g0 C G Fd r p o o i)
                (by
                  rintro n j ⟨j', N⟩ hj ⟨i1, i2, i3⟩
                  simp only at i1 i2 i3
                  subst i1
                  obtain ⟨ξ, e3, f1, f2, f3⟩ := play_ok hI hp ho hj i2
                  show ∃ s', fX10_game_63 (n + 1) 0 (I p) (I o) c (I j') N = _ ∧ _
                  rw [fX10_game_63, if_pos (show I j' < (4 : Int32) from (I_ltl (by omega) (by decide)).mpr hj), e3, bs, I_addl]
                  refine ⟨(j' + 1, ξ), rfl, rfl, f1, ?_⟩
                  intro i hi
                  show ξ.2.1 490 i = _ ∧ ξ.2.1 491 i = _
                  rw [f2, f3]
                  by_cases e : i = j'
                  · subst e; rw [up_s, up_s]; exact ⟨rfl, rfl⟩
                  · rw [up_n _ _ e, up_n _ _ e]; exact i3 i (by omega))
                (by
                  rintro n ⟨j', N⟩ ⟨i1, i2⟩
                  simp only at i1
                  subst i1
                  show fX10_game_63 (n + 1) 0 (I p) (I o) c (I 4) N = _
                  rw [fX10_game_63, if_neg (by decide)])
                4 fuel 0 (0, μ) rfl (by unfold fuel; omega) ⟨rfl, FrB.refl _ _ μ, fun i hi => absurd hi (Nat.not_lt_zero i)⟩
              simp only at e2 i1 i2 i3
              have hGN := i2.gr hG
              obtain ⟨l0, l1⟩ := ldR_489 hGN
              have rs : ∀ i, i < 4 → fX10_rests 0 (I i) N = some (if rst C G Fd r p o i = true then 1 else 0) := by
                intro i hi
                obtain ⟨x2, x1⟩ := xor4 ⟨i, hi⟩
                simp only at x1 x2
                unfold fX10_rests
                rw [g_0_19 hGN, bs, l0, bs, ld_490 hi, bs, bs, l0, bs, x2, ld_490 (by omega), bs, (i3 i hi).1, (i3 _ (by omega)).1, bs, l1, bs, ld_491 hi, bs, bs, l1, bs, x1, ld_491 (by omega), bs, (i3 i hi).2, (i3 _ (by omega)).2]
                unfold rst
                by_cases q1 : g0 C G Fd r p o p i < g0 C G Fd r p o p ((i + 2) % 4)
                · rw [if_pos q1, decide_eq_true q1]; rfl
                · rw [if_neg q1, decide_eq_false q1]
                  by_cases q2 : g0 C G Fd r p o o i < g0 C G Fd r p o o (i / 2 * 2 + (1 - i % 2))
                  · rw [if_pos q2, decide_eq_true q2]; rfl
                  · rw [if_neg q2, decide_eq_false q2]; rfl
              have fin : fX10_game_92 fuel 0 c 0 (-1) 0 N = some (.inl (if c = 0 then I (gmS C G Fd r p o 4).1 else (gmS C G Fd r p o 4).2), N) := by
                refine loop_eq (R := (Int32 ⊕ Nat) × Mem) (fun n (s : Int32 × Int32 × Int32) => fX10_game_92 n 0 c s.1 s.2.1 s.2.2 N) 4 (fun j => (I (gmS C G Fd r p o j).1, (gmS C G Fd r p o j).2, I j)) _ ?_ ?_ 4 fuel 0 rfl (by unfold fuel; omega)
                · intro n j hj
                  have hm := (gmS_inv (C := C) (G := G) (Fd := Fd) (r := r) p o j (by omega)).1
                  show fX10_game_92 (n + 1) 0 c (I (gmS C G Fd r p o j).1) (gmS C G Fd r p o j).2 (I j) N = fX10_game_92 n 0 c (I (gmS C G Fd r p o (j + 1)).1) (gmS C G Fd r p o (j + 1)).2 (I (j + 1)) N
                  conv => lhs; rw [fX10_game_92]
                  rw [if_pos (show I j < (4 : Int32) from (I_ltl (by omega) (by decide)).mpr hj), rs j hj, bs, I_addl, I_addl, I_divl (by omega) (by decide), I_md, I_mull, I_add]
                  by_cases q : rst C G Fd r p o j = true
                  · have hn : gmS C G Fd r p o (j + 1) = ((gmS C G Fd r p o j).1 + 1, if (gmS C G Fd r p o j).1 = 0 then I (j / 2 * 10 + j % 2) else (gmS C G Fd r p o j).2) := by rw [gmS_s, if_pos q]
                    rw [if_pos q, if_neg (by decide), hn]
                    by_cases z : (gmS C G Fd r p o j).1 = 0
                    · rw [if_pos (show I (gmS C G Fd r p o j).1 = 0 by rw [z]; rfl)]
                      simp only [z, if_true]
                    · rw [if_neg (show ¬ I (gmS C G Fd r p o j).1 = 0 from fun t => z ((I_inj (m := 0) (by omega) (by omega)).mp t))]
                      simp only [z, if_false]
                  · have hn : gmS C G Fd r p o (j + 1) = gmS C G Fd r p o j := by rw [gmS_s, if_neg q]
                    rw [if_neg q, if_pos rfl, hn]
                · intro n
                  show fX10_game_92 (n + 1) 0 c _ _ (I 4) N = _
                  rw [fX10_game_92, if_neg (by decide)]
                  split <;> rfl
              rw [fin] at e2
              exact ⟨N, i2, Or.inl ⟨rfl, e2⟩⟩
      · rw [if_neg h3, if_neg h3]
        exact ⟨μ, FrB.refl _ _ μ, Or.inr (Or.inl ⟨rfl, rfl⟩)⟩
    · rw [if_neg h2, if_neg h2]
      exact ⟨μ, FrB.refl _ _ μ, Or.inr (Or.inl ⟨rfl, rfl⟩)⟩
  · rw [if_neg h1, if_neg h1]
    exact ⟨μ, FrB.refl _ _ μ, Or.inr (Or.inl ⟨rfl, rfl⟩)⟩
/-- who came, as bits -/
noncomputable def oS (C : Cel) (G Fd : List Itm) (r : Row) : Nat → Int32
  | 0 => 0
  | n + 1 => oS C G Fd r n ||| cbits (cameD C G false (dN C G Fd dk0 r n)) C.P
theorem oS_tb (hC : C.ok) {q : Nat} (hq : q < C.P) : ∀ n, tb (oS C G Fd r n) q = anyC C G Fd r q n := by
  have hP := hC.2.1
  intro n
  induction n with
  | zero => exact tb_0 q
  | succ n ih =>
    show tb (oS C G Fd r n ||| cbits (cameD C G false (dN C G Fd dk0 r n)) C.P) q = (anyC C G Fd r q n || cameD C G false (dN C G Fd dk0 r n) q)
    rw [tb_or, ih, tb_cbits _ _ (by omega), decide_eq_true hq, Bool.true_and]
theorem gains_ok (hI : INV C G Fd pc k r μ) {p o x y : Nat} (hp : p < C.P) (ho : o < C.P) (hx : x ≤ 1) (hy : y ≤ 1) {ν : Mem} (hF : FR μ ν) (h41 : ν.2.1 492 41 = μ.2.1 492 41) (h45 : ν.2.1 492 45 = μ.2.1 492 45) :
    ∃ ξ, fX11_gains 492 (I p) (I o) (I x) (I y) ν = some (gnV C G Fd r (noS (noS r p x) o y) p, ξ) ∧ FR ν ξ ∧ ξ.2.1 492 41 = ν.2.1 492 41 ∧ ξ.2.1 492 45 = ν.2.1 492 45 ∧ ξ.2.1 492 0 = ν.2.1 492 0 := by
  have hC := hI.2.1
  have hP := hC.2.1
  have hr := hI.2.2.2.2.2.2.2.2.1
  obtain ⟨M, e, m1, m2⟩ := tried hI dk0 hF h41
  have six : ∀ (r' : Row) (Z : Mem), RowOK C r' → RD 79 ν Z → RR C G Fd dk0 r' 0 Z → ∃ ξ, fX11_gains_43 fuel 492 (I p) 0 0 Z = some (gnV C G Fd r r' p, ξ) ∧ FR ν ξ ∧ ξ.2.1 492 41 = ν.2.1 492 41 ∧ ξ.2.1 492 45 = ν.2.1 492 45 ∧ ξ.2.1 492 0 = ν.2.1 492 0 := by
    intro r' Z ok1 hD hZ
    obtain ⟨⟨j, N⟩, e2, i1, i2, i3⟩ := loop_k (S := Nat × Mem) (R := Option (Int32 × Mem))
      (fun n s => fX11_gains_43 n 492 (I p) (oS C G Fd r' s.1) (I s.1) s.2) (fun s => fX11_gains_43 1 492 (I p) (oS C G Fd r' s.1) (I 6) s.2) 6
      (fun j s => s.1 = j ∧ RD 79 ν s.2 ∧ RR C G Fd dk0 r' j s.2)
      (by
        rintro n j ⟨j', N⟩ hj ⟨i1, i2, i3⟩
        simp only at i1 i2 i3
        subst i1
        obtain ⟨ξ, e3, h3, h4, _, h6, _⟩ := i3.day ok1 (by rw [i2.f4.2.2, h45, hI.dk]; rfl)
        show ∃ s', fX11_gains_43 (n + 1) 492 (I p) (oS C G Fd r' j') (I j') N = _ ∧ _
        rw [fX11_gains_43, if_pos (show I j' < (6 : Int32) from (I_ltl (by omega) (by decide)).mpr hj), e3, bs, h6, I_addl]
        exact ⟨(j' + 1, ξ), rfl, rfl, i2.trans h3, h4⟩)
      (by
        rintro n ⟨j', N⟩ ⟨i1, i2⟩
        simp only at i1
        subst i1
        show fX11_gains_43 (n + 1) 492 (I p) _ (I 6) N = _
        rw [fX11_gains_43, fX11_gains_43, if_neg (by decide), if_neg (by decide)])
      6 fuel 0 (0, Z) rfl (by unfold fuel; omega) ⟨rfl, hD, hZ⟩
    simp only at e2 i1 i2 i3
    rw [i1] at e2
    refine ⟨N, ?_, i2.fr, i2.f4.2.1, i2.f4.2.2, i2.f4.1⟩
    refine Eq.trans e2 ?_
    rw [fX11_gains_43, if_neg (by decide), g_492_34 i3.1.1, bs, l_addI, ld_502 (by omega), bs, bs, l_addI, ld_502 (by omega), bs, (i3.at (show p < 6 by omega)).2.2, hI.row (by omega) (hF.trans i2.fr), sh_and1 _ (by omega), oS_tb hC hp]
    unfold gnV
    cases anyC C G Fd r' p 6 <;> rfl
  have rowup : ∀ (Z : Mem) (r' : Row) q, q < C.P → RD 79 ν Z → RR C G Fd dk0 r' 0 Z → RD 79 ν (sC Z 502 (up (Z.2.1 502) (140 + q) (-1))) ∧ RR C G Fd dk0 (up r' (61 + q) (-1)) 0 (sC Z 502 (up (Z.2.1 502) (140 + q) (-1))) := by
    intro Z r' q hq hD hZ
    have hd : RD 79 Z (sC Z 502 (up (Z.2.1 502) (140 + q) (-1))) := RD.row Z _ (by omega) (by omega)
    refine ⟨hD.trans hd, hd.rc hZ.1, hd.rk hZ.2.1, by rw [hd.f4.2.1]; exact hZ.2.2.1, ?_⟩
    rw [show 140 + q = 79 + (61 + q) by omega, rwb_up]
    exact E79.up (show E79 (rwb Z 79) r' from hZ.2.2.2) _ _
  unfold fX11_gains
  rw [e, bs]
  have hx1 : (I x = 1) = (x = 1) := I_inj (m := 1) (by omega) (by omega)
  have hy1 : (I y = 1) = (y = 1) := I_inj (m := 1) (by omega) (by omega)
  simp only [hx1, hy1]
  have okk := noS_ok (p := o) (x := y) hC (noS_ok (p := p) (x := x) hC hr.1)
  by_cases x1 : x = 1
  · rw [if_pos x1, g_492_34 m2.1.1, bs, l_addI, st_502 (by omega), bs]
    obtain ⟨u1, u2⟩ := rowup M r p hp m1 m2
    by_cases y1 : y = 1
    · rw [if_pos y1, gC, g_492_34 m2.1.1, bs, l_addI, st_502 (by omega), bs]
      obtain ⟨v1, v2⟩ := rowup _ _ o ho u1 u2
      have e3 : noS (noS r p x) o y = up (up r (61 + p) (-1)) (61 + o) (-1) := by unfold noS; rw [if_pos x1, if_pos y1]
      rw [e3] at okk ⊢
      exact six _ _ okk v1 v2
    · rw [if_neg y1]
      have e3 : noS (noS r p x) o y = up r (61 + p) (-1) := by unfold noS; rw [if_pos x1, if_neg y1]
      rw [e3] at okk ⊢
      exact six _ _ okk u1 u2
  · rw [if_neg x1]
    by_cases y1 : y = 1
    · rw [if_pos y1, g_492_34 m2.1.1, bs, l_addI, st_502 (by omega), bs]
      obtain ⟨u1, u2⟩ := rowup M r o ho m1 m2
      have e3 : noS (noS r p x) o y = up r (61 + o) (-1) := by unfold noS; rw [if_neg x1, if_pos y1]
      rw [e3] at okk ⊢
      exact six _ _ okk u1 u2
    · rw [if_neg y1]
      have e3 : noS (noS r p x) o y = r := by unfold noS; rw [if_neg x1, if_neg y1]
      rw [e3] at okk ⊢
      exact six _ _ okk m1 m2
theorem r_game (hI : INV C G Fd pc k r μ) (a b c : Int32) : RQ (fX11_game 492 a b c μ) μ (codeG C a b c) (valGm C G Fd r a b c) := by
  have hC := hI.2.1
  have hP := hC.2.1
  obtain ⟨t1, t2, t3, t4⟩ := thr0 μ
  have hR0 := t1.rc hI.2.2.2.2.2.2.1
  unfold fX11_game codeG
  rw [bs, sI_C, isPerson_ok hR0 t2]
  by_cases h1 : okP C a = true
  · rw [if_pos h1, if_pos h1, bs]
    simp only
    rw [if_neg (by decide), isPerson_ok hR0 t2]
    by_cases h2 : okP C b = true
    · rw [if_pos h2, if_pos h2, bs]
      simp only
      rw [if_neg (by decide), show fX11_isWhat 492 c (1 : Int32) (thr μ 0) = _ from isWhat_ok (m := 1) t2 c (by decide)]
      by_cases h3 : okW c 2 = true
      · rw [if_pos h3, if_pos h3, bs]
        simp only
        rw [if_neg (by decide), right_ok t2 (by decide), right_ok t2 (by decide), if_pos rfl, if_neg (show ¬ (1 : Int32) = 0 by decide), bs, bs]
        simp only [if_true]
        rw [if_neg (show ¬ (1 : Int32) = 0 by decide)]
        by_cases hab : a = b
        · rw [if_pos hab, if_pos hab]
          exact RQ.no (by decide) t1 t3 t4
        · rw [if_neg hab, if_neg hab]
          obtain ⟨p, hp, rfl⟩ := okP_ex hC h1
          obtain ⟨o, ho, rfl⟩ := okP_ex hC h2
          have hpo : p ≠ o := fun e => hab (by rw [e])
          unfold valGm
          rw [ix_I (by omega), ix_I (by omega), g_492_34 hR0.1, bs, l_addI, ld_502 (by omega), bs, hI.row (by omega) t1]
          by_cases s1 : r (61 + p) = -1
          · rw [if_pos s1, if_pos s1]
            exact RQ.same t1 t2 t3 t4
          · rw [if_neg s1, if_neg s1, bs, l_addI, ld_502 (by omega), bs, hI.row (by omega) t1]
            by_cases s2 : r (61 + o) = -1
            · rw [if_pos s2, if_pos s2]
              exact RQ.same t1 t2 t3 t4
            · rw [if_neg s2, if_neg s2]
              obtain ⟨⟨j, N⟩, e2, i1, i2, i3, i4, i5⟩ := loop_k (S := Nat × Mem) (R := Option (Int32 × Mem))
                (fun n s => fX11_game_87 n 492 (I p) (I o) c (I (gmS C G Fd r p o s.1).1) (gmS C G Fd r p o s.1).2 (I s.1) s.2) (fun s => if c = 0 then some (I (gmS C G Fd r p o s.1).1, s.2) else some ((gmS C G Fd r p o s.1).2, s.2)) 4
                (fun j s => s.1 = j ∧ FR μ s.2 ∧ s.2.2.1 492 41 = μ.2.1 492 41 ∧ s.2.2.1 492 45 = μ.2.1 492 45 ∧ s.2.2.1 492 0 = 0)
                (by
                  rintro n j ⟨j', N⟩ hj ⟨i1, i2, i3, i4, i5⟩
                  simp only at i1 i2 i3 i4 i5
                  subst i1
                  have hm := gmS_inv (C := C) (G := G) (Fd := Fd) (r := r) p o j' (by omega)
                  obtain ⟨ξ1, e1, a1, a2, a3, a4⟩ := gains_ok hI (x := 1 - j' / 2) (y := j' % 2) hp ho (by omega) (by omega) i2 i3 i4
                  obtain ⟨ξ2, e2, b1, b2, b3, b4⟩ := gains_ok hI (x := j' / 2) (y := j' % 2) hp ho (by omega) (by omega) (i2.trans a1) (a2.trans i3) (a3.trans i4)
                  obtain ⟨ξ3, e3, c1, c2, c3, c4⟩ := gains_ok hI (p := o) (o := p) (x := 1 - j' % 2) (y := j' / 2) ho hp (by omega) (by omega) ((i2.trans a1).trans b1) (b2.trans (a2.trans i3)) (b3.trans (a3.trans i4))
                  obtain ⟨ξ4, e4, d1, d2, d3, d4⟩ := gains_ok hI (p := o) (o := p) (x := j' % 2) (y := j' / 2) ho hp (by omega) (by omega) (((i2.trans a1).trans b1).trans c1) (c2.trans (b2.trans (a2.trans i3))) (c3.trans (b3.trans (a3.trans i4)))
                  have w1 : gnV C G Fd r (noS (noS r p (1 - j' / 2)) o (j' % 2)) p = g0 C G Fd r p o p ((j' + 2) % 4) := by
                    unfold g0
                    rw [show (j' + 2) % 4 / 2 = 1 - j' / 2 by omega, show (j' + 2) % 4 % 2 = j' % 2 by omega]
                  have w3 : gnV C G Fd r (noS (noS r o (1 - j' % 2)) p (j' / 2)) o = g0 C G Fd r p o o (j' / 2 * 2 + (1 - j' % 2)) := by
                    unfold g0
                    rw [show (j' / 2 * 2 + (1 - j' % 2)) / 2 = j' / 2 by omega, show (j' / 2 * 2 + (1 - j' % 2)) % 2 = 1 - j' % 2 by omega, noS_swap hpo]
                  have w4 : gnV C G Fd r (noS (noS r o (j' % 2)) p (j' / 2)) o = g0 C G Fd r p o o j' := by
                    unfold g0
                    rw [noS_swap hpo]
                  have w2 : gnV C G Fd r (noS (noS r p (j' / 2)) o (j' % 2)) p = g0 C G Fd r p o p j' := rfl
                  rw [w1] at e1
                  rw [w2] at e2
                  rw [w3] at e3
                  rw [w4] at e4
                  show ∃ s', fX11_game_87 (n + 1) 492 (I p) (I o) c (I (gmS C G Fd r p o j').1) (gmS C G Fd r p o j').2 (I j') N = _ ∧ _
                  rw [fX11_game_87, if_pos (show I j' < (4 : Int32) from (I_ltl (by omega) (by decide)).mpr hj), I_divl (by omega) (by decide), I_md, show (1 : Int32) - I (j' / 2) = I (1 - j' / 2) from I_sub (n := 1) (by omega), show (1 : Int32) - I (j' % 2) = I (1 - j' % 2) from I_sub (n := 1) (by omega), e1, bs]
                  simp only
                  rw [e2, bs]
                  simp only [I_addl]
                  by_cases q1 : g0 C G Fd r p o p j' < g0 C G Fd r p o p ((j' + 2) % 4)
                  · rw [if_pos q1]
                    have hn : gmS C G Fd r p o (j' + 1) = gmS C G Fd r p o j' := by
                      rw [gmS_s, if_neg]
                      unfold rst
                      rw [decide_eq_true q1]
                      simp
                    refine ⟨(j' + 1, ξ2), ?_, rfl, (i2.trans a1).trans b1, b2.trans (a2.trans i3), b3.trans (a3.trans i4), by rw [b4, a4]; exact i5⟩
                    simp only
                    rw [hn]
                  · rw [if_neg q1, e3, bs]
                    simp only
                    rw [e4, bs]
                    simp only
                    by_cases q2 : g0 C G Fd r p o o j' < g0 C G Fd r p o o (j' / 2 * 2 + (1 - j' % 2))
                    · rw [if_pos q2]
                      have hn : gmS C G Fd r p o (j' + 1) = gmS C G Fd r p o j' := by
                        rw [gmS_s, if_neg]
                        unfold rst
                        rw [decide_eq_true q2]
                        simp
                      refine ⟨(j' + 1, ξ4), ?_, rfl, (((i2.trans a1).trans b1).trans c1).trans d1, d2.trans (c2.trans (b2.trans (a2.trans i3))), d3.trans (c3.trans (b3.trans (a3.trans i4))), by rw [d4, c4, b4, a4]; exact i5⟩
                      simp only
                      rw [hn]
                    · rw [if_neg q2]
                      have hrs : rst C G Fd r p o j' = true := by
                        unfold rst
                        rw [decide_eq_false q1, decide_eq_false q2]; rfl
                      have hn : gmS C G Fd r p o (j' + 1) = ((gmS C G Fd r p o j').1 + 1, if (gmS C G Fd r p o j').1 = 0 then I (j' / 2 * 10 + j' % 2) else (gmS C G Fd r p o j').2) := by rw [gmS_s, if_pos hrs]
                      refine ⟨(j' + 1, ξ4), ?_, rfl, (((i2.trans a1).trans b1).trans c1).trans d1, d2.trans (c2.trans (b2.trans (a2.trans i3))), d3.trans (c3.trans (b3.trans (a3.trans i4))), by rw [d4, c4, b4, a4]; exact i5⟩
                      simp only
                      rw [hn, l_mulI, I_add, Nat.mul_comm 10]
                      by_cases z : (gmS C G Fd r p o j').1 = 0
                      · rw [if_pos (hm.2.mpr z)]
                        simp only [z, if_true]
                      · rw [if_neg (fun t => z (hm.2.mp t))]
                        simp only [z, if_false])
                (by
                  rintro n ⟨j', N⟩ ⟨i1, i2⟩
                  simp only at i1
                  subst i1
                  show fX11_game_87 (n + 1) 492 (I p) (I o) c _ _ (I 4) N = _
                  rw [fX11_game_87, if_neg (by decide)])
                4 fuel 0 (0, thr μ 0) rfl (by unfold fuel; omega) ⟨rfl, t1, t3, t4, t2⟩
              simp only at e2 i1 i2 i3 i4 i5
              rw [i1] at e2
              show RQ (fX11_game_87 fuel 492 (I p) (I o) c (I (gmS C G Fd r p o 0).1) (gmS C G Fd r p o 0).2 (I 0) (thr μ 0)) μ 0 _
              rw [e2]
              refine ⟨if c = 0 then I (gmS C G Fd r p o 4).1 else (gmS C G Fd r p o 4).2, N, ?_, i2, i3, i4, i5, fun _ => rfl⟩
              split <;> rfl
      · rw [if_neg h3, if_neg h3, bs]
        simp only [if_true]
        exact RQ.no (by decide) t1 t3 t4
    · rw [if_neg h2, if_neg h2, bs]
      simp only [if_true]
      exact RQ.no (by decide) t1 t3 t4
  · rw [if_neg h1, if_neg h1, bs]
    simp only [if_true]
    exact RQ.no (by decide) t1 t3 t4
theorem qq_game (hI : INV C G Fd pc k r μ) (a b c : Int32) : QQ C G Fd pc k r (fun μ => fL_game 0 a b c 518 μ) (fun ν => fX11_game 492 a b c ν) μ := q_game hI a b c (c_game hI a b c) (fun ν h => r_game h a b c)
end Gn
