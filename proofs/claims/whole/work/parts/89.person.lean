/-! CALLS: ways as they are now; person -/
noncomputable abbrev dR (C : Cel) (r : Row) (to x : Nat) : Nat := dst (adj C r) (wh C r) to x
noncomputable def farV (C : Cel) (r : Row) (to x : Nat) : Int32 := if dR C r to x = 9999 then -1 else I (dR C r to x)
section Pe
variable {C : Cel} {G Fd : List Itm} {pc : Nat → Int32} {k : Nat} {r : Row} {μ : Mem}
theorem here_ok (hI : INV C G Fd pc k r μ) : ∃ L, fX10_here 0 μ = some (468, sLC μ 468 L) ∧ FrB LC L2C μ (sLC μ 468 L) ∧ GD C r 468 (sLC μ 468 L) := by
  have hk := hI.2.2.1
  obtain ⟨L, e, h⟩ := lay_ok (g := 468) (k := k) (a := 33) hI.2.2.2.2.2.1.2.2.1 hI.2.2.2.2.2.2.2.2.2.1 (by decide) (by omega)
  refine ⟨L, ?_, (FrI.l (L := LC) μ L (by decide : 468 ∈ L2C)).b (fun _ h => h) (fun _ h => h), h⟩
  unfold fX10_here
  rw [g_0_15 hI.1, bs, hI.cel, bs, g_0_7 hI.1, bs, e, bs, gLC, g_0_15 hI.1, bs]
theorem cfar_ok {ν : Mem} (hG : Gr ν) (hC : C.ok) (hr : StOK C r) (h : GD C r 468 ν) {x to : Nat} (hx : there C x = true) (hto : there C to = true) : ∃ L, fX5_far 468 (I x) (I to) ν = some (farV C r to x, sLC ν 469 L) ∧ FrB LC L2C ν (sLC ν 469 L) ∧ GD C r 468 (sLC ν 469 L) ∧ (dR C r to x ≠ 9999 → ∀ j, j ≤ dR C r to x → Lay C r to (L j) j) := by
  obtain ⟨L, e, hL⟩ := far_ok hG (Or.inr rfl) hC hr h hx hto
  exact ⟨L, e, (FrI.l (L := LC) ν L (by decide : 469 ∈ L2C)).b (fun _ h => h) (fun _ h => h), h.lc L, hL⟩
theorem dR_congr {r r' : Row} (hC : C.ok) (h : E79 r r') : dR C r = dR C r' := by
  funext to x
  unfold dR
  rw [adj_congr (fun k _ hk => h k (by omega)), wh_congr hC (fun k _ hk => h k (by omega))]
theorem INV.e79 (hI : INV C G Fd pc k r μ) {ν : Mem} (h : FR μ ν) : E79 (rwb ν 0) r := by
  refine E79.trans ?_ hI.2.2.2.2.2.2.2.2.2.2.1
  intro j hj
  exact h.2.2.2.2 (0 + j) (by omega)
theorem laysF (hI : INV C G Fd pc k r μ) {ν : Mem} (hF : FR μ ν) (h41 : ν.2.1 492 41 = μ.2.1 492 41) {to : Nat} (hto : there C to = true) : ∃ F Q, fX11_laysFar 492 (0 : Int32) (I to) ν = some (mFQ ν F Q) ∧ FR ν (mFQ ν F Q) ∧ (mFQ ν F Q).2.1 492 = ν.2.1 492 ∧ ∀ y, there C y = true → F y = I (dR C r to y) := by
  have hC := hI.2.1
  have hRC := hF.rc hI.2.2.2.2.2.2.1
  have he := hI.e79 hF
  have hs : StOK C (rwb ν 0) := StOK_congr (fun k _ hk => (he k (by omega)).symm) hI.2.2.2.2.2.2.2.2.1.1.1
  obtain ⟨F, Q, e, h⟩ := laysFar_ok hRC (b := 0) (by omega) hs (bar := none) (by rw [h41]; exact hI.2.2.2.2.2.2.2.2.2.2.2.2.2.2.2.2.2.1) (fun x q => by cases q) hto (fun q => by cases q)
  refine ⟨F, Q, e, (FR.c F (by decide) (by decide) (by decide)).trans (FR.c Q (by decide) (by decide) (by decide)), rfl, ?_⟩
  intro y hy
  rw [h y hy, Wb_none]
  show I (dR C (rwb ν 0) to y) = _
  rw [dR_congr hC he]
theorem howFar_ok (hI : INV C G Fd pc k r μ) {ν : Mem} (hF : FR μ ν) (h41 : ν.2.1 492 41 = μ.2.1 492 41) {x to : Nat} (hx : there C x = true) (hto : there C to = true) : ∃ F Q, fX11_howFar 492 (I x) (I to) ν = some (I (dR C r to x), mFQ ν F Q) ∧ FR ν (mFQ ν F Q) ∧ (mFQ ν F Q).2.1 492 = ν.2.1 492 ∧ ∀ y, there C y = true → F y = I (dR C r to y) := by
  have hx48 := there_lt hI.2.1 hx
  obtain ⟨F, Q, e, h1, h2, h3⟩ := laysF hI hF h41 hto
  refine ⟨F, Q, ?_, h1, h2, h3⟩
  unfold fX11_howFar
  rw [e, bs, gC, gC, g_492_39 (hF.gr hI.1), bs, ld_506 hx48, bs, mFQ_F, h3 x hx]
theorem dR_le (hI : INV C G Fd pc k r μ) {to : Nat} (hto : there C to = true) (x : Nat) : dR C r to x < 48 ∨ dR C r to x = 9999 := by
  rcases dst_wh hI.2.1 hI.2.2.2.2.2.2.2.2.1.1.1 hto x with q | q
  · exact Or.inr q.1
  · exact Or.inl q.1
theorem orNone_ok (hI : INV C G Fd pc k r μ) {to : Nat} (hto : there C to = true) (x : Nat) : fX11_orNone (I (dR C r to x)) = farV C r to x := by
  unfold fX11_orNone farV
  rcases dR_le hI hto x with q | q
  · rw [if_pos (show I (dR C r to x) < (9999 : Int32) from (I_ltl (by omega) (by decide)).mpr (show dR C r to x < 9999 by omega)), if_neg (by omega)]
  · rw [if_pos q, q, if_neg (by decide)]
def codePW (C : Cel) (a b : Int32) (m : Nat) : Int32 := if okP C a = true then (if okW b m = true then 0 else 1) else 1
theorem codePW_ne (a b : Int32) (m : Nat) : codePW C a b m ≠ 2 := by
  unfold codePW
  split
  · split <;> decide
  · decide
noncomputable def valP (C : Cel) (r : Row) (a b : Int32) : Int32 :=
  if b = 0 then fX10_outside (r (55 + ix a)) else if b = 1 then r (73 + ix a) else if b = 2 then fX10_outside (r (61 + ix a)) else if b = 3 then r (67 + ix a) else if b = 4 then (if r (61 + ix a) = -1 then -1 else farV C r (ix (r (61 + ix a))) (ix (r (55 + ix a)))) else oth C r (ix a)
theorem INV.now (hI : INV C G Fd pc k r μ) {p : Nat} (hp : p < C.P) : μ.2.1 35 p = r (55 + p) ∧ μ.2.1 36 p = r (61 + p) ∧ μ.2.1 37 p = r (67 + p) := by
  have hP := hI.2.1.2.1
  have hS := hI.2.2.2.2.2.2.2.2.2.1
  have e1 := hS.2.2.2.2.1 p (by omega)
  have e2 := hS.2.2.2.2.2.1 p (by omega)
  have e3 := hS.2.2.2.2.2.2 p (by omega)
  rw [if_pos hp] at e1 e2 e3
  exact ⟨e1, e2, e3⟩
theorem a33 : 33 ∈ stA := by decide
theorem c_person (hI : INV C G Fd pc k r μ) (a b : Int32) : CQ (fX10_person 0 a b μ) μ (codePW C a b 6) (valP C r a b) := by
  have hC := hI.2.1
  have hP := hC.2.1
  have hG := hI.1
  have hE := hI.2.2.2.2.2.1
  have hS := hI.2.2.2.2.2.2.2.2.2.1
  have hgd := hI.2.2.2.2.2.2.2.2.1
  obtain ⟨_, c4, _⟩ := cel_g hG hI.2.2.1
  obtain ⟨_, k2, _⟩ := cel_k hI.2.2.1
  unfold fX10_person codePW
  rw [needP_ok hI, bs]
  by_cases h1 : okP C a = true
  · rw [if_pos h1, if_pos h1]
    simp only
    rw [show fX10_needWhat 0 b (6 : Int32) = _ from needW_ok b 6, bs]
    by_cases h2 : okW b 6 = true
    · rw [if_pos h2, if_pos h2]
      simp only
      obtain ⟨p, hp, rfl⟩ := okP_ex hC h1
      obtain ⟨n1, n2, n3⟩ := hI.now hp
      obtain ⟨x, hx1, hx2⟩ := hgd.1.2.1 p hp
      have hx48 := there_lt hC hx2
      unfold valP
      rw [show ix (I p) = p from ix_I (by omega)]
      by_cases b0 : b = 0
      · rw [if_pos b0, if_pos b0, g_0_7 hG, bs, hG.at a33, bs, ld_35 (by omega), bs, n1]
        exact ⟨μ, FrB.refl _ _ μ, Or.inl ⟨rfl, rfl⟩⟩
      · rw [if_neg b0, if_neg b0]
        by_cases b1 : b = 1
        · rw [if_pos b1, if_pos b1, hI.cel, bs, c4, bs, ldI_I k2 (by omega) (by omega), bs, hE.2.2.2.2.1 p hp, hgd.2.2.1 p hp]
          exact ⟨μ, FrB.refl _ _ μ, Or.inl ⟨rfl, rfl⟩⟩
        · rw [if_neg b1, if_neg b1]
          by_cases b2 : b = 2
          · rw [if_pos b2, if_pos b2, g_0_7 hG, bs, hG.sent a33, bs, ld_36 (by omega), bs, n2]
            exact ⟨μ, FrB.refl _ _ μ, Or.inl ⟨rfl, rfl⟩⟩
          · rw [if_neg b2, if_neg b2]
            by_cases b3 : b = 3
            · rw [if_pos b3, if_pos b3, g_0_7 hG, bs, hG.met a33, bs, ld_37 (by omega), bs, n3]
              exact ⟨μ, FrB.refl _ _ μ, Or.inl ⟨rfl, rfl⟩⟩
            · rw [if_neg b3, if_neg b3]
              by_cases b4 : b = 4
              · rw [if_pos b4, if_pos b4, g_0_7 hG, bs, hG.sent a33, bs, ld_36 (by omega), bs, n2]
                by_cases q : r (61 + p) = -1
                · rw [if_pos q, if_pos q]
                  exact ⟨μ, FrB.refl _ _ μ, Or.inl ⟨rfl, rfl⟩⟩
                · rw [if_neg q, if_neg q]
                  obtain ⟨to, ht1, ht2⟩ : ∃ x, r (61 + p) = I x ∧ there C x = true := by
                    rcases hgd.1.2.2 p hp with q1 | q1
                    · exact absurd q1 q
                    · exact q1
                  have hto48 := there_lt hC ht2
                  obtain ⟨L, e, f1, f2⟩ := here_ok hI
                  have hI1 := hI.q f1.ag
                  have hG1 := hI1.1
                  obtain ⟨n1', n2', _⟩ := hI1.now hp
                  obtain ⟨L2, e2, f3, _⟩ := cfar_ok hG1 hC hgd.1.1 f2 hx2 ht2
                  rw [e, bs]
                  simp only
                  rw [g_0_7 hG1, bs, hG1.at a33, bs, ld_35 (by omega), bs, bs, hG1.sent a33, bs, ld_36 (by omega), bs, n1', n2', hx1, ht1, e2, bs, ix_of hx48, ix_of hto48]
                  exact ⟨_, f1.trans f3, Or.inl ⟨rfl, rfl⟩⟩
              · rw [if_neg b4, if_neg b4, g_0_7 hG, bs, others_C hG hC a33 hS hp (by rw [hx1]; exact I_m1 (by omega)), bs]
                exact ⟨μ, FrB.refl _ _ μ, Or.inl ⟨rfl, rfl⟩⟩
    · rw [if_neg h2, if_neg h2]
      exact ⟨μ, FrB.refl _ _ μ, Or.inr (Or.inl ⟨rfl, rfl⟩)⟩
  · rw [if_neg h1, if_neg h1]
    exact ⟨μ, FrB.refl _ _ μ, Or.inr (Or.inl ⟨rfl, rfl⟩)⟩
theorem toldAs_v {v : Int32} (h : v = -1 ∨ ∃ x, v = I x ∧ x < 48) : fX11_toldAs v = fX10_outside v := by
  rcases h with rfl | ⟨x, rfl, hx⟩
  · exact toldAs_eq (o := none) (fun x q => by cases q)
  · exact toldAs_eq (o := some x) (fun y q => by cases q; exact hx)
theorem RQ.fr {μ ν ξ : Mem} {val : Int32} (t1 : FR μ ν) (t2 : ν.2.1 492 0 = 0) (t3 : ν.2.1 492 41 = μ.2.1 492 41) (t4 : ν.2.1 492 45 = μ.2.1 492 45) (d : FR ν ξ) (e : ξ.2.1 492 = ν.2.1 492) : RQ (some (val, ξ)) μ 0 val :=
  ⟨val, ξ, rfl, t1.trans d, by rw [e]; exact t3, by rw [e]; exact t4, by rw [e]; exact t2, fun _ => rfl⟩
theorem r_person (hI : INV C G Fd pc k r μ) (a b : Int32) : RQ (fX11_person 492 a b μ) μ (codePW C a b 6) (valP C r a b) := by
  have hC := hI.2.1
  have hP := hC.2.1
  have hgd := hI.2.2.2.2.2.2.2.2.1
  obtain ⟨t1, t2, t3, t4⟩ := thr0 μ
  have hR0 := t1.rc hI.2.2.2.2.2.2.1
  have hG := hR0.1
  have hrow : ∀ j, j < 79 → (thr μ 0).2.1 502 j = r j := fun j hj => hI.row hj t1
  unfold fX11_person codePW
  rw [bs, sI_C, isPerson_ok hR0 t2]
  by_cases h1 : okP C a = true
  · rw [if_pos h1, if_pos h1, bs]
    simp only
    rw [if_neg (by decide), show fX11_isWhat 492 b (5 : Int32) (thr μ 0) = _ from isWhat_ok (m := 5) t2 b (by decide)]
    by_cases h2 : okW b 6 = true
    · rw [if_pos h2, if_pos h2, bs]
      simp only
      rw [if_neg (by decide)]
      obtain ⟨p, hp, rfl⟩ := okP_ex hC h1
      obtain ⟨x, hx1, hx2⟩ := hgd.1.2.1 p hp
      have hx48 := there_lt hC hx2
      unfold valP
      rw [show ix (I p) = p from ix_I (by omega)]
      by_cases b0 : b = 0
      · rw [if_pos b0, if_pos b0, g_492_34 hG, bs, l_addI, ld_502 (by omega), bs, hrow _ (by omega), toldAs_v (Or.inr ⟨x, hx1, hx48⟩)]
        exact RQ.same t1 t2 t3 t4
      · rw [if_neg b0, if_neg b0]
        by_cases b1 : b = 1
        · rw [if_pos b1, if_pos b1, g_492_34 hG, bs, l_addI, ld_502 (by omega), bs, hrow _ (by omega)]
          exact RQ.same t1 t2 t3 t4
        · rw [if_neg b1, if_neg b1]
          by_cases b2 : b = 2
          · rw [if_pos b2, if_pos b2, g_492_34 hG, bs, l_addI, ld_502 (by omega), bs, hrow _ (by omega), toldAs_v (by
              rcases hgd.1.2.2 p hp with q | ⟨y, q1, q2⟩
              · exact Or.inl q
              · exact Or.inr ⟨y, q1, there_lt hC q2⟩)]
            exact RQ.same t1 t2 t3 t4
          · rw [if_neg b2, if_neg b2]
            by_cases b3 : b = 3
            · rw [if_pos b3, if_pos b3, g_492_34 hG, bs, l_addI, ld_502 (by omega), bs, hrow _ (by omega)]
              exact RQ.same t1 t2 t3 t4
            · rw [if_neg b3, if_neg b3]
              by_cases b4 : b = 4
              · rw [if_pos b4, if_pos b4, g_492_34 hG, bs, l_addI, ld_502 (by omega), bs, hrow _ (by omega)]
                by_cases q : r (61 + p) = -1
                · rw [if_pos q, if_pos q]
                  exact RQ.same t1 t2 t3 t4
                · rw [if_neg q, if_neg q]
                  obtain ⟨to, ht1, ht2⟩ : ∃ x, r (61 + p) = I x ∧ there C x = true := by
                    rcases hgd.1.2.2 p hp with q1 | q1
                    · exact absurd q1 q
                    · exact q1
                  have hto48 := there_lt hC ht2
                  obtain ⟨F, Q, e, f1, f2, _⟩ := howFar_ok hI t1 t3 hx2 ht2
                  rw [bs, l_addI, ld_502 (by omega), bs, hrow _ (by omega), bs, ld_502 (by omega), bs, hrow _ (by omega), hx1, ht1, e, bs, ix_of hx48, ix_of hto48, orNone_ok hI ht2]
                  exact RQ.fr t1 t2 t3 t4 f1 f2
              · rw [if_neg b4, if_neg b4, g_492_34 hG, bs, l_addI, ld_502 (by omega), bs, hrow _ (by omega), show fX11_standAt 492 (0 : Int32) (r (55 + p)) (thr μ 0) = _ from standAt_ok hR0 (b := 0) (by omega) _, bs]
                have eo : cntI (fun q => rwb (thr μ 0) 0 (55 + q)) (r (55 + p)) C.P - 1 = oth C r p := by
                  unfold oth
                  rw [cntI_congr C.P (fun q hq => hI.e79 t1 (55 + q) (by omega))]
                rw [eo]
                exact RQ.same t1 t2 t3 t4
    · rw [if_neg h2, if_neg h2, bs]
      simp only [if_true]
      exact RQ.no (by decide) t1 t3 t4
  · rw [if_neg h1, if_neg h1, bs]
    simp only [if_true]
    exact RQ.no (by decide) t1 t3 t4
theorem qq_person (hI : INV C G Fd pc k r μ) (a b : Int32) : QQ C G Fd pc k r (fun μ => fL_person 0 a b 518 μ) (fun ν => fX11_person 492 a b ν) μ := q_person hI a b (c_person hI a b) (codePW_ne a b 6) (fun ν h => r_person h a b)
end Pe
