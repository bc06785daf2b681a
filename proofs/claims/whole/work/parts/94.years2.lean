/-! CALLS: years, the reference -/
section Yr
variable {C : Cel} {G Fd : List Itm} {pc : Nat → Int32} {k : Nat} {r : Row} {μ : Mem}
def RY (C : Cel) (G Fd : List Itm) (s : Row × Int32) (ν : Mem) : Prop := RC C ν ∧ RK G Fd ν ∧ ν.2.1 492 41 = -1 ∧ ν.2.1 492 45 = 0 ∧ E79 (rwb ν 79) s.1 ∧ ν.2.1 492 53 = s.2
theorem RY.mk {x : Row} {y : Int32} {ν : Mem} (h1 : RC C ν) (h2 : RK G Fd ν) (h3 : ν.2.1 492 41 = -1) (h4 : ν.2.1 492 45 = 0) (h5 : E79 (rwb ν 79) x) (h6 : ν.2.1 492 53 = y) : RY C G Fd (x, y) ν := ⟨h1, h2, h3, h4, h5, h6⟩
abbrev sd53 (ν : Mem) (v : Int32) : Mem := sC ν 492 (up (ν.2.1 492) 53 v)
theorem sd53_fr (ν : Mem) (v : Int32) : FR ν (sd53 ν v) := FR.f v (by decide)
theorem drawPlace_R {ν : Mem} (h : RC C ν) (h0 : 0 < C.D) {sd : Int32} (hs : ν.2.1 492 53 = sd) : fX11_drawPlace 492 ν = some (I (pl2 C sd), sd53 ν (nxt (nxt sd))) := by
  have hC := h.2.1
  have hD := hC.1
  have h1 : hv sd % C.D < C.D := Nat.mod_lt _ h0
  have hz := hC.2.2 _ h1
  unfold fX11_drawPlace
  rw [h.2.2.1, draw_R hs (by omega) h0, bs]
  simp only
  rw [gC, g_492_5 h.1, bs, ld_493 (by omega), bs, sC_n _ _ (show (493 : Nat) ≠ 492 by decide), h.2.2.2.2 _ h1, draw_R (sd := nxt sd) (by rw [sC_s, up_s]) (by omega) (by omega), bs]
  simp only
  rw [l_mulI, I_add, sC_C, sC_s, up_up]
  rfl
theorem hap_R {s : Row × Int32} {ν : Mem} (h : RY C G Fd s ν) (hr : RowOK C s.1) : ∃ ξ, fX11_happens 492 ν = some ξ ∧ FR ν ξ ∧ RY C G Fd (hap C s) ξ ∧ ξ.2.1 492 0 = ν.2.1 492 0 := by
  obtain ⟨r1, r2, r3, r4, r5, r6⟩ := h
  have hC := r1.2.1
  have hD := hC.1
  have hP := hC.2.1
  have hG := r1.1
  have v5 : hv s.2 % 5 < 5 := Nat.mod_lt _ (by decide)
  -- the memory with a seed
  have mk : ∀ (M : Mem) (v : Int32), FR ν M → (∀ f, f ≠ 53 → M.2.1 492 f = ν.2.1 492 f) → M.2.1 492 53 = v → ∀ x, E79 (rwb M 79) x → RY C G Fd (x, v) M := by
    intro M v hF hf hv x hx
    exact RY.mk (hF.rc r1) (hF.rk r2) (by rw [hf 41 (by decide)]; exact r3) (by rw [hf 45 (by decide)]; exact r4) hx hv
  have fld : ∀ (v : Int32) (f : Nat), f ≠ 53 → (sd53 ν v).2.1 492 f = ν.2.1 492 f := fun v f hf => by rw [sC_s, up_n _ _ hf]
  have s53 : ∀ v : Int32, (sd53 ν v).2.1 492 53 = v := fun v => by rw [sC_s, up_s]
  have rwv : ∀ v : Int32, rwb (sd53 ν v) 79 = rwb ν 79 := fun v => rwb_c _ _ (by decide) 79
  have cc : ∀ v w : Int32, sd53 (sd53 ν v) w = sd53 ν w := fun v w => by
    show sC (sC ν 492 _) 492 (up ((sC ν 492 _).2.1 492) 53 w) = _
    rw [sC_C, sC_s, up_up]
  unfold fX11_happens
  rw [show fX11_draw 492 (5 : Int32) ν = _ from draw_R (m := 5) r6 (by decide) (by decide), bs]
  simp only
  have e1 : ((1 : Int32) < I (hv s.2 % 5)) = (1 < hv s.2 % 5) := l_ltI (m := 1) (by omega) (by decide)
  have e0 : (I (hv s.2 % 5) = 0) = (hv s.2 % 5 = 0) := I_inj (m := 0) (by omega) (by omega)
  have eD : ((sd53 ν (nxt s.2)).2.1 492 1 = 0) = (C.D = 0) := by
    rw [fld _ 1 (by decide), r1.2.2.1]; exact I_inj (m := 0) (by omega) (by omega)
  have eP : ((sd53 ν (nxt s.2)).2.1 492 2 = 0) = (C.P = 0) := by
    rw [fld _ 2 (by decide), r1.2.2.2.1]; exact I_inj (m := 0) (by omega) (by omega)
  simp only [e1, e0, eD, eP]
  have nothing : RY C G Fd (s.1, nxt s.2) (sd53 ν (nxt s.2)) := mk _ _ (sd53_fr ν _) (fld _) (s53 _) s.1 (by rw [rwv]; exact r5)
  have same0 : ∀ v : Int32, (sd53 ν v).2.1 492 0 = ν.2.1 492 0 := fun v => fld v 0 (by decide)
  have ink : 0 < C.D → ∃ ξ, ((fX11_drawPlace 492 (sd53 ν (nxt s.2))).bind fun q => (gR q.2 492 34 0).bind fun a59 => (fX11_draw 492 (4 : Int32) q.2).bind fun q2 => (stI q2.2 a59 ((80 : Int32) + q.1) q2.1).bind fun μ67 => some μ67) = some ξ ∧ FR ν ξ ∧ RY C G Fd (up s.1 (1 + pl2 C (nxt s.2)) (I (hv (nxt (nxt (nxt s.2))) % 4)), nxt (nxt (nxt (nxt s.2)))) ξ ∧ ξ.2.1 492 0 = ν.2.1 492 0 := by
    intro d0
    have ht := there_lt hC (pl2_there hC d0 (nxt s.2))
    rw [drawPlace_R ((sd53_fr ν _).rc r1) d0 (s53 _), bs]
    simp only
    rw [cc, gC, g_492_34 hG, bs, show fX11_draw 492 (4 : Int32) (sd53 ν (nxt (nxt (nxt s.2)))) = _ from draw_R (m := 4) (s53 _) (by decide) (by decide), bs]
    simp only
    rw [show sC (sd53 ν (nxt (nxt (nxt s.2)))) 492 (up ((sd53 ν (nxt (nxt (nxt s.2)))).2.1 492) 53 (nxt (nxt (nxt (nxt s.2))))) = sd53 ν (nxt (nxt (nxt (nxt s.2)))) from cc _ _, l_addI, st_502 (by omega), bs]
    have hF : FR ν (sC (sd53 ν (nxt (nxt (nxt (nxt s.2))))) 502 (up ((sd53 ν (nxt (nxt (nxt (nxt s.2))))).2.1 502) (80 + pl2 C (nxt s.2)) (I (hv (nxt (nxt (nxt s.2))) % 4)))) := (sd53_fr ν _).trans (FR.row _ (by omega))
    refine ⟨_, rfl, hF, mk _ _ hF ?_ ?_ _ ?_, ?_⟩
    · intro f hf
      rw [sC_n _ _ (by decide)]; exact fld _ f hf
    · rw [sC_n _ _ (by decide)]; exact s53 _
    · rw [show 80 + pl2 C (nxt s.2) = 79 + (1 + pl2 C (nxt s.2)) by omega, rwb_up, rwv]
      exact r5.up _ _
    · rw [sC_n _ _ (by decide)]; exact same0 _
  have hap1 : hv s.2 % 5 = 0 → 0 < C.P → hap C s = (up s.1 (61 + hv (nxt s.2) % C.P) (I (pl2 C (nxt (nxt s.2)))), nxt (nxt (nxt (nxt s.2)))) := by
    intro a b; unfold hap; rw [if_pos ⟨a, b⟩]
  have hap2 : hv s.2 % 5 = 1 → 0 < C.D → hap C s = (up s.1 (1 + pl2 C (nxt s.2)) (I (hv (nxt (nxt (nxt s.2))) % 4)), nxt (nxt (nxt (nxt s.2)))) := by
    intro a b; unfold hap; rw [if_neg (fun t => by omega), if_pos ⟨a, b⟩]
  have hap3 : ¬ (hv s.2 % 5 = 0 ∧ 0 < C.P) → ¬ (hv s.2 % 5 = 1 ∧ 0 < C.D) → hap C s = (s.1, nxt s.2) := by
    intro a b; unfold hap; rw [if_neg a, if_neg b]
  by_cases q1 : 1 < hv s.2 % 5
  · rw [if_pos q1, hap3 (fun t => by omega) (fun t => by omega)]
    exact ⟨_, rfl, sd53_fr ν _, nothing, same0 _⟩
  · rw [if_neg q1]
    by_cases d0 : C.D = 0
    · rw [if_pos d0, hap3 ?_ (fun t => by omega)]
      · exact ⟨_, rfl, sd53_fr ν _, nothing, same0 _⟩
      · rintro ⟨_, p0⟩
        obtain ⟨x, _, hx⟩ := hr.2.1 0 p0
        have := (there_iff.mp hx).1
        omega
    · rw [if_neg d0]
      by_cases z0 : hv s.2 % 5 = 0
      · rw [if_pos z0]
        by_cases p0 : C.P = 0
        · rw [if_pos p0, hap3 (fun t => by omega) (fun t => by omega)]
          exact ⟨_, rfl, sd53_fr ν _, nothing, same0 _⟩
        · rw [if_neg p0, if_pos z0, hap1 z0 (by omega)]
          have hw : hv (nxt s.2) % C.P < C.P := Nat.mod_lt _ (by omega)
          rw [show (sd53 ν (nxt s.2)).2.1 492 2 = I C.P by rw [fld _ 2 (by decide)]; exact r1.2.2.2.1, show fX11_draw 492 (I C.P) (sd53 ν (nxt s.2)) = _ from draw_R (s53 _) (by omega) (by omega), bs]
          simp only
          rw [show sC (sd53 ν (nxt s.2)) 492 (up ((sd53 ν (nxt s.2)).2.1 492) 53 (nxt (nxt s.2))) = sd53 ν (nxt (nxt s.2)) from cc _ _, gC, g_492_34 hG, bs, drawPlace_R ((sd53_fr ν _).rc r1) (by omega) (s53 _), bs]
          simp only
          rw [cc, l_addI, st_502 (by omega), bs]
          have hF : FR ν (sC (sd53 ν (nxt (nxt (nxt (nxt s.2))))) 502 (up ((sd53 ν (nxt (nxt (nxt (nxt s.2))))).2.1 502) (140 + hv (nxt s.2) % C.P) (I (pl2 C (nxt (nxt s.2)))))) := (sd53_fr ν _).trans (FR.row _ (by omega))
          refine ⟨_, rfl, hF, mk _ _ hF ?_ ?_ _ ?_, ?_⟩
          · intro f hf
            rw [sC_n _ _ (by decide)]; exact fld _ f hf
          · rw [sC_n _ _ (by decide)]; exact s53 _
          · rw [show 140 + hv (nxt s.2) % C.P = 79 + (61 + hv (nxt s.2) % C.P) by omega, rwb_up, rwv]
            exact r5.up _ _
          · rw [sC_n _ _ (by decide)]; exact same0 _
      · rw [if_neg z0, if_neg z0, hap2 (by omega) (by omega)]
        exact ink (by omega)
theorem RY.day {s : Row × Int32} {ν : Mem} (h : RY C G Fd s ν) (hr : RowOK C s.1) : ∃ ξ, fX11_dayGoes 492 79 ν = some ξ ∧ RD 79 ν ξ ∧ RY C G Fd (dayR C G Fd false s.1, s.2) ξ ∧ ξ.2.1 492 42 = cbits (cameD C G false s.1) C.P := by
  obtain ⟨r1, r2, r3, r4, r5, r6⟩ := h
  have hC := r1.2.1
  obtain ⟨ξ, e, d1, d2, d3, d4, d5⟩ := dayGoes_ok (b := 79) (dark := false) r1 r2 (by omega) (r5.symm.rowOK hC hr) r3 r4
  refine ⟨ξ, e, d1, RY.mk (d1.rc r1) (d1.rk r2) (by rw [d1.f4.2.1]; exact r3) (by rw [d1.f4.2.2]; exact r4) ?_ ?_, ?_⟩
  · rw [d2]; exact dayR_congr hC r5
  · rw [d1.1.2.2.2 53 (by decide) (by decide)]; exact r6
  · rw [d4, cameD_congr hC r5]
theorem r_years (hI : INV C G Fd pc k r μ) (a b c : Int32) : RQ (fX11_years 492 a b c μ) μ (codeWN c 3 b) (valY C G Fd r a b c) := by
  have hC := hI.2.1
  have hP := hC.2.1
  have hr := hI.2.2.2.2.2.2.2.2.1
  obtain ⟨t1, t2, t3, t4⟩ := thr0 μ
  unfold fX11_years codeWN
  rw [bs, sI_C, show fX11_isWhat 492 c (2 : Int32) (thr μ 0) = _ from isWhat_ok (m := 2) t2 c (by decide)]
  by_cases h2 : okW c 3 = true
  · rw [if_pos h2, if_pos h2, bs]
    simp only
    rw [if_neg (by decide), show fX11_isSoon 492 b (0 : Int32) (2 : Int32) (thr μ 0) = _ from isSoon_ok t2 b 0 (by decide)]
    by_cases h3 : okR b 0 60 = true
    · rw [if_pos h3, if_pos h3, bs]
      simp only
      rw [if_neg (by decide)]
      obtain ⟨m, _, hm, rfl⟩ := okR_ex (by decide) h3 (by decide)
      obtain ⟨M, e, m1, m2⟩ := tried hI dk0 t1 t3
      rw [e, bs, bs, sI_C]
      have hF0 : FR μ (sd53 M a) := (t1.trans m1.fr).trans (sd53_fr M a)
      have h45 : M.2.1 492 45 = 0 := by rw [m1.f4.2.2, t4]; exact hI.dk
      have hf0 : ∀ f, f ≠ 53 → (sd53 M a).2.1 492 f = M.2.1 492 f := fun f hf => by rw [sC_s, up_n _ _ hf]
      have hY0 : RY C G Fd (r, a) (sd53 M a) := RY.mk ((sd53_fr M a).rc m2.1) ((sd53_fr M a).rk m2.2.1) (by rw [hf0 41 (by decide)]; exact m2.2.2.1) (by rw [hf0 45 (by decide)]; exact h45) (by rw [rwb_c _ _ (by decide)]; exact m2.2.2.2) (by rw [sC_s, up_s])
      obtain ⟨⟨j, N⟩, e2, i1, i2, i3, i4⟩ := loop_k (S := Nat × Mem) (R := Option (Int32 × Mem))
        (fun n s => fX11_years_41 n 492 (I m) c (yC C G Fd (r, a) s.1) (I s.1) s.2) (fun s => fX11_years_41 1 492 (I m) c (yC C G Fd (r, a) s.1) (I m) s.2) m
        (fun j s => s.1 = j ∧ FR μ s.2 ∧ RY C G Fd (yS C G Fd (r, a) j) s.2 ∧ s.2.2.1 492 0 = 0)
        (by
          rintro n j ⟨j', N⟩ hj ⟨i1, i2, i3, i4⟩
          simp only at i1 i2 i3 i4
          subst i1
          obtain ⟨ok1, ok2⟩ := yS_ok (G := G) (Fd := Fd) (s := (r, a)) hC hr.1 hr.2.1 j'
          obtain ⟨ξ, e3, g1, g2, g3⟩ := hap_R i3 ok1
          obtain ⟨ζ, e5, p1, p2, p3⟩ := g2.day (hap_ok hC ok1)
          have hb : fX11_bits (ζ.2.1 492 42) = some (sumI (fun p => if cameD C G false (hap C (yS C G Fd (r, a) j')).1 p = true then 1 else 0) 6) := by
            rw [bits_ok, p3]
            congr 1
            refine sumI_congr 6 (fun p hp => ?_)
            rw [tb_cbits _ _ (by omega)]
            by_cases q : p < C.P
            · rw [decide_eq_true q, Bool.true_and]
            · have : cameD C G false (hap C (yS C G Fd (r, a) j')).1 p = false := walkA_ge C.P (by omega)
              rw [decide_eq_false q, this]; rfl
          show ∃ s', fX11_years_41 (n + 1) 492 (I m) c (yC C G Fd (r, a) j') (I j') N = _ ∧ _
          rw [fX11_years_41, if_pos (show I j' < I m from (I_lt (by omega) (by omega)).mpr hj), e3, bs, e5, bs, hb, bs, I_addl, ← yC_s]
          have hy : RY C G Fd (yS C G Fd (r, a) (j' + 1)) ζ := by rw [yS_s]; exact p2
          exact ⟨(j' + 1, ζ), rfl, rfl, (i2.trans g1).trans p1.fr, hy, by rw [p1.f4.1, g3]; exact i4⟩)
        (by
          rintro n ⟨j', N⟩ ⟨i1, i2⟩
          simp only at i1
          subst i1
          show fX11_years_41 (n + 1) 492 (I j') c _ (I j') N = _
          rw [fX11_years_41, fX11_years_41, if_neg (show ¬ I j' < I j' by rw [I_lt (by omega) (by omega)]; omega), if_neg (show ¬ I j' < I j' by rw [I_lt (by omega) (by omega)]; omega)])
        m fuel 0 (0, sd53 M a) rfl (by unfold fuel; omega) ⟨rfl, hF0, hY0, by rw [hf0 0 (by decide), m1.f4.1]; exact t2⟩
      simp only at e2 i1 i2 i3 i4
      rw [i1] at e2
      obtain ⟨r1, r2, r3, r4, r5, r6⟩ := i3
      have hval : fX11_years_41 1 492 (I m) c (yC C G Fd (r, a) m) (I m) N = some (valY C G Fd r a (I m) c, N) := by
        rw [fX11_years_41, if_neg (show ¬ I m < I m by rw [I_lt (by omega) (by omega)]; omega)]
        unfold valY
        rw [ix_I (by omega)]
        by_cases c0 : c = 0
        · rw [if_pos c0, if_pos c0]
        · rw [if_neg c0, if_neg c0]
          by_cases c1 : c = 1
          · rw [if_pos c1, if_pos c1, show fX11_metAll 492 (79 : Int32) N = _ from metAll_R r1 (b := 79) (by omega), bs, show fX11_metAll 492 (0 : Int32) N = _ from metAll_R r1 (b := 0) (by omega), bs, sumI_congr C.P (fun p hp => r5 (67 + p) (by omega)), sumI_congr (f := fun p => rwb N 0 (67 + p)) C.P (fun p hp => hI.e79 i2 (67 + p) (by omega))]
          · rw [if_neg c1, if_neg c1, show fX11_inked 492 (79 : Int32) N = _ from inked_R r1 (b := 79) (by omega), bs, inkN_congr (fun k _ hk => r5 k (by omega))]
      rw [hval] at e2
      show RQ (fX11_years_41 fuel 492 (I m) c (yC C G Fd (r, a) 0) (I 0) (sd53 M a)) μ 0 _
      rw [e2]
      exact ⟨_, N, rfl, i2, by rw [r3]; exact hI.2.2.2.2.2.2.2.2.2.2.2.2.2.2.2.2.2.1.symm, by rw [r4]; exact hI.dk.symm, i4, fun _ => rfl⟩
    · rw [if_neg h3, if_neg h3, bs]
      simp only [if_true]
      exact RQ.no (by decide) t1 t3 t4
  · rw [if_neg h2, if_neg h2, bs]
    simp only [if_true]
    exact RQ.no (by decide) t1 t3 t4
theorem qq_years (hI : INV C G Fd pc k r μ) (a b c : Int32) : QQ C G Fd pc k r (fun μ => fL_years 0 a b c 518 μ) (fun ν => fX11_years 492 a b c ν) μ := q_years hI a b c (c_years hI a b c) (fun ν h => r_years h a b c)
end Yr
