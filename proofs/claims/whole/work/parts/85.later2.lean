/-! CALLS: later, ahead -/
section Lb
variable {C : Cel} {G Fd : List Itm} {pc : Nat → Int32} {k : Nat} {r : Row} {μ : Mem}
theorem nAt_congr {r r' : Row} (hC : C.ok) (h : ∀ k, 55 ≤ k → k < 61 → r k = r' k) : nAt C r = nAt C r' := by
  have hP := hC.2.1
  funext x
  unfold nAt
  exact cnt_congr (fun p hp => by rw [h (55 + p) (by omega) (by omega)])
theorem isCrw_congr {r r' : Row} (hC : C.ok) (h : ∀ k, 55 ≤ k → k < 61 → r k = r' k) {o : Option Nat} (ho : isCrw C r o) : isCrw C r' o := by
  unfold isCrw at ho ⊢
  rw [← nAt_congr hC h]
  exact ho
noncomputable def crw (C : Cel) (r : Row) : Option Nat := @Classical.epsilon (Option Nat) ⟨none⟩ (isCrw C r)
theorem crw_of {o : Option Nat} (h : isCrw C r o) : crw C r = o := (Classical.epsilon_spec (p := isCrw C r) ⟨o, h⟩).uniq h
def codeWN (b : Int32) (m : Nat) (a : Int32) : Int32 := if okW b m = true then (if okR a 0 60 = true then 0 else 2) else 1
noncomputable def valL (C : Cel) (G Fd : List Itm) (r : Row) (a b : Int32) : Int32 :=
  if b = 2 then inkN C (dN C G Fd dk0 r (ix a)) else if b = 0 then nOpt C (dN C G Fd dk0 r (ix a)) (crw C (dN C G Fd dk0 r (ix a))) else fX10_outside (enc (crw C (dN C G Fd dk0 r (ix a))))
theorem c_later (hI : INV C G Fd pc k r μ) (a b : Int32) : CQ (fX10_later 0 a b μ) μ (codeWN b 3 a) (valL C G Fd r a b) := by
  have hC := hI.2.1
  have hr := hI.2.2.2.2.2.2.2.2.1
  unfold fX10_later codeWN
  rw [show fX10_needWhat 0 b (3 : Int32) = _ from needW_ok b 3, bs]
  by_cases h2 : okW b 3 = true
  · rw [if_pos h2, if_pos h2]
    simp only
    rw [show fX10_needWithin 0 a (0 : Int32) (60 : Int32) = _ from needN_ok a 0 60, bs]
    by_cases h3 : okR a 0 60 = true
    · rw [if_pos h3, if_pos h3]
      simp only
      obtain ⟨n, _, hn, rfl⟩ := okR_ex (by decide) h3 (by decide)
      obtain ⟨ν, e, hR⟩ := run_ok hI (n := n) (by omega)
      have hGν := hR.1.gr hI.1
      have hS := hR.2.1.2.2.2.2.2.1
      have hIν := hI.q hR.fq.ag
      refine ⟨ν, hR.fq, Or.inl ⟨rfl, ?_⟩⟩
      unfold valL
      rw [ix_I (by omega), e, bs]
      obtain ⟨o, eo, ho⟩ := crowded_C hGν hC a456 hS (dN_ok hC hr.1 n)
      rw [crw_of ho]
      by_cases b2 : b = 2
      · rw [if_pos b2, if_pos b2, g_0_14 hGν, bs, g_455_0 hGν, bs, inked_C hC hIν.cel hIν.2.2.2.2.2.1.2.2.1 hS, bs]
      · rw [if_neg b2, if_neg b2, g_0_14 hGν, bs, g_455_0 hGν, bs, eo, bs]
        by_cases b0 : b = 0
        · rw [if_pos b0, if_pos b0, bs, g_455_0 hGν, bs]
          cases o with
          | none => rw [show enc none = -1 from rfl, crowd_m1, bs]; rfl
          | some x =>
            have := (ho.2 x rfl).1
            rw [show enc (some x) = I x from rfl, crowd_C hGν hC a456 hS (I_m1 (by omega)), bs, cntI_N]
            rfl
        · rw [if_neg b0, if_neg b0]
    · rw [if_neg h3, if_neg h3]
      exact ⟨μ, FrB.refl _ _ μ, Or.inr (Or.inr ⟨rfl, rfl⟩)⟩
  · rw [if_neg h2, if_neg h2]
    exact ⟨μ, FrB.refl _ _ μ, Or.inr (Or.inl ⟨rfl, rfl⟩)⟩
theorem r_later (hI : INV C G Fd pc k r μ) (a b : Int32) : RQ (fX11_later 492 a b μ) μ (codeWN b 3 a) (valL C G Fd r a b) := by
  have hC := hI.2.1
  obtain ⟨t1, t2, t3, t4⟩ := thr0 μ
  unfold fX11_later codeWN
  rw [bs, sI_C, show fX11_isWhat 492 b (2 : Int32) (thr μ 0) = _ from isWhat_ok (m := 2) t2 b (by decide)]
  by_cases h2 : okW b 3 = true
  · rw [if_pos h2, if_pos h2, bs]
    simp only
    rw [if_neg (by decide), show fX11_isSoon 492 a (0 : Int32) (2 : Int32) (thr μ 0) = _ from isSoon_ok t2 a 0 (by decide)]
    by_cases h3 : okR a 0 60 = true
    · rw [if_pos h3, if_pos h3, bs]
      simp only
      rw [if_neg (by decide)]
      obtain ⟨n, _, hn, rfl⟩ := okR_ex (by decide) h3 (by decide)
      obtain ⟨ξ, e, d1, d2⟩ := goesTo_ok hI t1 t3 t4 (n := n) (by omega)
      obtain ⟨o, eo, ho⟩ := crowdAt_R d2.1
      have ho2 := isCrw_congr (r' := dN C G Fd dk0 r n) hC (fun k _ hk => d2.2.2.2 k (by omega)) ho
      have hval : (if b = 2 then (fX11_inked 492 (79 : Int32) ξ).bind fun r23 => some (r23, ξ) else if b = 1 then some (fX11_toldAs (enc o), ξ) else if enc o = (-1 : Int32) then some ((0 : Int32), ξ) else (fX11_standAt 492 (79 : Int32) (enc o) ξ).bind fun r30 => some (r30, ξ)) = some (valL C G Fd r (I n) b, ξ) := by
        unfold valL
        rw [ix_I (by omega), crw_of ho2]
        by_cases b2 : b = 2
        · rw [if_pos b2, if_pos b2, show fX11_inked 492 (79 : Int32) ξ = _ from inked_R d2.1 (b := 79) (by omega), bs, inkN_congr (fun k _ hk => d2.2.2.2 k (by omega))]
        · rw [if_neg b2, if_neg b2]
          obtain ⟨w, hw, rfl⟩ := okW_ex (by decide) h2
          have hw3 : w = 0 ∨ w = 1 ∨ w = 2 := by omega
          rcases hw3 with rfl | rfl | rfl
          · rw [if_neg (show ¬ I 0 = 1 by decide), if_pos (show I 0 = 0 from rfl)]
            cases o with
            | none => rw [if_pos (show enc none = -1 from rfl)]; rfl
            | some x =>
              have := (ho.2 x rfl).1
              rw [if_neg (show ¬ enc (some x) = -1 from I_m1 (by omega)), show enc (some x) = I x from rfl, show (79 : Int32) = I 79 from rfl, standAt_ok d2.1 (by omega), bs, cntI_N]
              show some (I (nAt C (rwb ξ 79) x), ξ) = some (I (nAt C (dN C G Fd dk0 r n) x), ξ)
              rw [nAt_congr hC (fun k _ hk => d2.2.2.2 k (by omega))]
          · rw [if_pos (show I 1 = 1 from rfl), if_neg (show ¬ I 1 = 0 by decide), toldAs_eq (fun x hx => (ho.2 x hx).1)]
          · exact absurd rfl b2
      rw [e, bs, eo, bs, hval]
      exact RQ.yes t1 t2 t3 t4 d1
    · rw [if_neg h3, if_neg h3, bs]
      simp only [if_true]
      exact RQ.no (by decide) t1 t3 t4
  · rw [if_neg h2, if_neg h2, bs]
    simp only [if_true]
    exact RQ.no (by decide) t1 t3 t4
theorem qq_later (hI : INV C G Fd pc k r μ) (a b : Int32) : QQ C G Fd pc k r (fun μ => fL_later 0 a b 518 μ) (fun ν => fX11_later 492 a b ν) μ := q_later hI a b (c_later hI a b) (fun ν h => r_later h a b)
/-- the thickest place -/
def thv (r : Row) : Option Nat → Int32
  | none => 0
  | some b => r (1 + b)
def thk (r : Row) : Nat → Option Nat
  | 0 => none
  | j + 1 => if thv r (thk r j) < r (1 + j) then some j else thk r j
theorem thk_lt (r : Row) : ∀ j b, thk r j = some b → b < j := by
  intro j
  induction j with
  | zero => intro b h; cases h
  | succ j ih =>
    intro b h
    unfold thk at h
    split at h
    · cases h; omega
    · have := ih b h; omega
theorem thk_pos (r : Row) : ∀ j, ¬ thv r (thk r j) < 0 := by
  intro j
  induction j with
  | zero => exact (by decide : ¬ (0 : Int32) < 0)
  | succ j ih =>
    unfold thk
    split
    · rename_i h
      intro q
      exact ih (Int32.lt_trans h q)
    · exact ih
theorem thk_congr {r r' : Row} : ∀ j, j ≤ 48 → (∀ k, 1 ≤ k → k < 49 → r k = r' k) → thk r j = thk r' j ∧ thv r (thk r j) = thv r' (thk r' j) := by
  intro j
  induction j with
  | zero => intro _ _; exact ⟨rfl, rfl⟩
  | succ j ih =>
    intro hj h
    obtain ⟨a, b⟩ := ih (by omega) h
    unfold thk
    rw [h (1 + j) (by omega) (by omega), b, a]
    split
    · exact ⟨rfl, h _ (by omega) (by omega)⟩
    · exact ⟨rfl, by rw [← a] at b ⊢; rw [b, a]⟩
theorem thick_C (hG : Gr μ) {a : Nat} (ha : a ∈ stA) (hS : SH C r a μ) : fX9_thickestPlace a μ = some (enc (thk r 48)) := by
  unfold fX9_thickestPlace
  refine loop_eq (fun n (s : Int32 × Int32 × Int32) => fX9_thickestPlace_6 μ n a s.1 s.2.1 s.2.2) 48 (fun j => (enc (thk r j), thv r (thk r j), I j)) _ ?_ ?_ 48 fuel 0 rfl (by unfold fuel; omega)
  · intro n j hj
    show fX9_thickestPlace_6 μ (n + 1) a (enc (thk r j)) (thv r (thk r j)) (I j) = fX9_thickestPlace_6 μ n a (enc (thk r (j + 1))) (thv r (thk r (j + 1))) (I (j + 1))
    conv => lhs; rw [fX9_thickestPlace_6]
    rw [if_pos (show I j < (48 : Int32) from (I_ltl (by omega) (by decide)).mpr hj), hG.ink ha, bs, ldI_I (st_ink a ha).2 hj (by omega), bs, hS.2.2.2.1 j hj, bs, ldI_I (st_ink a ha).2 hj (by omega), bs, hS.2.2.2.1 j hj, I_addl]
    conv => rhs; unfold thk
    by_cases q : thv r (thk r j) < r (1 + j)
    · rw [if_pos q, if_pos q]; rfl
    · rw [if_neg q, if_neg q]
  · intro n
    show fX9_thickestPlace_6 μ (n + 1) a (enc (thk r 48)) (thv r (thk r 48)) (I 48) = _
    rw [fX9_thickestPlace_6, if_neg (by decide)]
theorem thick_R (h : RC C μ) (hi : InkOK C (rwb μ 79)) (v2 v3 : Int32) : fX11_ahead_73 fuel 492 v2 v3 (-1) 0 μ = some (if v2 = 0 then v3 else fX11_toldAs (enc (thk (rwb μ 79) 48)), μ) := by
  have hG := h.1
  refine loop_eq (fun n (s : Int32 × Int32) => fX11_ahead_73 n 492 v2 v3 s.1 s.2 μ) 48 (fun j => (enc (thk (rwb μ 79) j), I j)) _ ?_ ?_ 48 fuel 0 rfl (by unfold fuel; omega)
  · intro n j hj
    show fX11_ahead_73 (n + 1) 492 v2 v3 (enc (thk (rwb μ 79) j)) (I j) μ = fX11_ahead_73 n 492 v2 v3 (enc (thk (rwb μ 79) (j + 1))) (I (j + 1)) μ
    conv => lhs; rw [fX11_ahead_73]
    rw [if_pos (show I j < (48 : Int32) from (I_ltl (by omega) (by decide)).mpr hj), isThere_ok h hj, bs, I_addl]
    conv => rhs; unfold thk
    by_cases t : there C j = true
    · rw [if_pos t, if_neg (by decide), g_492_34 hG, bs, l_addI, ld_502 (by omega), bs]
      have e1 : μ.2.1 502 (80 + j) = rwb μ 79 (1 + j) := by
        show _ = μ.2.1 502 (79 + (1 + j))
        rw [← Nat.add_assoc]
      rw [e1]
      cases ho : thk (rwb μ 79) j with
      | none =>
        rw [if_pos (show enc none = -1 from rfl), show thv (rwb μ 79) none = 0 from rfl]
        by_cases q : 0 < rwb μ 79 (1 + j)
        · rw [if_pos q, if_pos q]; rfl
        · rw [if_neg q, if_neg q]
      | some b =>
        have hb := thk_lt _ _ _ ho
        rw [if_neg (show ¬ enc (some b) = -1 from I_m1 (by omega)), show enc (some b) = I b from rfl, bs, l_addI, ld_502 (by omega), bs]
        have e2 : μ.2.1 502 (80 + b) = rwb μ 79 (1 + b) := by
          show _ = μ.2.1 502 (79 + (1 + b))
          rw [← Nat.add_assoc]
        rw [e2, show thv (rwb μ 79) (some b) = rwb μ 79 (1 + b) from rfl]
        by_cases q : rwb μ 79 (1 + b) < rwb μ 79 (1 + j)
        · rw [if_pos q, if_pos q]; rfl
        · rw [if_neg q, if_neg q]; rfl
    · have hf : there C j = false := by cases q : there C j; rfl; exact absurd q t
      rw [if_neg t, if_pos rfl, hi j hj hf, if_neg (thk_pos _ j)]
  · intro n
    show fX11_ahead_73 (n + 1) 492 v2 v3 (enc (thk (rwb μ 79) 48)) (I 48) μ = _
    rw [fX11_ahead_73, if_neg (by decide)]
    split <;> rfl
end Lb
