/-! CALLS: deed -/
theorem sh8 : ∀ d : Fin 6, (((8 : Int32) * I d.1).toInt64.toUInt64 &&& Int64.toUInt64 63).toBitVec % (64 : BitVec 64) = BitVec.ofNat 64 (8 * d.1) := by decide +kernel
theorem tb_255 : ∀ p : Fin 32, tb 255 p.1 = decide (p.1 < 8) := by decide +kernel
theorem tb_toI (l : Int64) {p : Nat} (hp : p < 32) : tb l.toInt32 p = mb l p := by
  unfold tb mb
  rw [Int64.toBitVec_toInt32, BitVec.signExtend_eq_setWidth_of_le _ (by decide), BitVec.getLsbD_setWidth, decide_eq_true hp, Bool.true_and]
theorem bod_tb (l : Int64) {d p : Nat} (hd : d < 6) (hp : p < 32) : tb (fX10_bitsOfDeed l (I d)) p = (decide (p < 8) && mb l (8 * d + p)) := by
  unfold fX10_bitsOfDeed
  rw [tb_and, tb_toI _ hp, tb_255 ⟨p, hp⟩, Bool.and_comm]
  congr 1
  show (l.toUInt64 >>> (((8 : Int32) * I d).toInt64.toUInt64 &&& Int64.toUInt64 63)).toBitVec.getLsbD p = _
  rw [UInt64.toBitVec_shiftRight, sh8 ⟨d, hd⟩, BitVec.ushiftRight_eq', BitVec.getLsbD_ushiftRight, BitVec.toNat_ofNat, Nat.mod_eq_of_lt (by omega)]
  rfl
/-- a sum -/
def sumI (f : Nat → Int32) : Nat → Int32
  | 0 => 0
  | n + 1 => sumI f n + f n
theorem sumI_congr {f g : Nat → Int32} : ∀ n, (∀ p, p < n → f p = g p) → sumI f n = sumI g n := by
  intro n
  induction n with
  | zero => intro _; rfl
  | succ n ih =>
    intro h
    unfold sumI
    rw [ih (fun p hp => h p (by omega)), h n (by omega)]
section De
variable {C : Cel} {G Fd : List Itm} {pc : Nat → Int32} {k : Nat} {r : Row} {μ : Mem}
def codeDW (C : Cel) (a b : Int32) : Int32 := if okD C a = true then (if okW b 5 = true then 0 else 1) else 1
theorem codeDW_ne (a b : Int32) : codeDW C a b ≠ 2 := by
  unfold codeDW
  split
  · split <;> decide
  · decide
def whD (C : Cel) (r : Row) (d : Nat) : Int32 := cbits (fun j => wh C r (8 * d + j)) 8
def valD (C : Cel) (r : Row) (a b : Int32) : Int32 :=
  if b = 0 then I (C.z (ix a)) else if b = 1 then whD C r (ix a) else if b = 2 then r (49 + ix a) else if b = 3 then sumI (fun j => r (1 + (8 * ix a + j))) (C.z (ix a)) else cbits (fun p => decide (r (55 + p) / 8 = a)) C.P
theorem c_deed (hI : INV C G Fd pc k r μ) (a b : Int32) : CQ ((fX10_deed 0 a b μ).map fun v => (v, μ)) μ (codeDW C a b) (valD C r a b) := by
  have hC := hI.2.1
  have hD := hC.1
  have hP := hC.2.1
  have hG := hI.1
  have hE := hI.2.2.2.2.2.1
  have hS := hI.2.2.2.2.2.2.2.2.2.1
  have hgd := hI.2.2.2.2.2.2.2.2.1
  have a33 : 33 ∈ stA := by decide
  obtain ⟨c3, _⟩ := cel_g hG hI.2.2.1
  obtain ⟨k1, _⟩ := cel_k hI.2.2.1
  unfold fX10_deed codeDW
  rw [needD_ok hI, bs]
  by_cases h1 : okD C a = true
  · rw [if_pos h1, if_pos h1]
    simp only
    rw [show fX10_needWhat 0 b (5 : Int32) = _ from needW_ok b 5, bs]
    by_cases h2 : okW b 5 = true
    · rw [if_pos h2, if_pos h2]
      simp only
      obtain ⟨d, hd, rfl⟩ := okD_ex hC h1
      have hz := hC.2.2 d hd
      have hsz : ∀ M : Mem, M = μ → ldI M (k + 1) (I d) = some (I (C.z d)) := by
        rintro M rfl
        rw [ldI_I k1 (by omega) (by omega), hE.2.2.2.1 d (by omega), if_pos hd]
      refine ⟨μ, FrB.refl _ _ μ, Or.inl ⟨rfl, ?_⟩⟩
      unfold valD
      rw [show ix (I d) = d from ix_I (by omega)]
      by_cases b0 : b = 0
      · rw [if_pos b0, if_pos b0, hI.cel, bs, c3, bs, hsz μ rfl, bs]; rfl
      · rw [if_neg b0, if_neg b0]
        by_cases b1 : b = 1
        · rw [if_pos b1, if_pos b1, g_0_7 hG, bs]
          have e : fX10_bitsOfDeed (μ.2.2.1 33 1) (I d) = whD C r d := by
            apply tb_ext
            intro p hp
            rw [bod_tb _ (by omega) hp, hS.2.1]
            unfold whD
            rw [tb_cbits _ _ (by omega)]
          rw [e]; rfl
        · rw [if_neg b1, if_neg b1]
          by_cases b2 : b = 2
          · rw [if_pos b2, if_pos b2, g_0_7 hG, bs]
            have e : fX10_bitsOfDeed (μ.2.2.1 33 2) (I d) = r (49 + d) := by
              apply tb_ext
              intro p hp
              rw [bod_tb _ (by omega) hp, hS.2.2.1]
              unfold stl
              by_cases hp8 : p < 8
              · rw [decide_eq_true hp8, decide_eq_true (show 8 * d + p < 48 by omega), show (8 * d + p) / 8 = d by omega, show (8 * d + p) % 8 = p by omega]
                simp
              · rw [decide_eq_false hp8, hgd.2.2.2 d (by omega) p (by omega)]
                rfl
            rw [e]; rfl
          · rw [if_neg b2, if_neg b2]
            by_cases b3 : b = 3
            · rw [if_pos b3, if_pos b3]
              have e : fX10_inkOfDeed 0 (I d) μ = some (sumI (fun j => r (1 + (8 * d + j))) (C.z d)) := by
                unfold fX10_inkOfDeed
                refine loop_eq (fun n (s : Int32 × Int32) => fX10_inkOfDeed_4 μ n 0 (I d) s.1 s.2) (C.z d) (fun j => (sumI (fun j => r (1 + (8 * d + j))) j, I j)) _ ?_ ?_ (C.z d) fuel 0 rfl (by unfold fuel; omega)
                · intro n j hj
                  show fX10_inkOfDeed_4 μ (n + 1) 0 (I d) (sumI (fun j => r (1 + (8 * d + j))) j) (I j) = fX10_inkOfDeed_4 μ n 0 (I d) (sumI (fun j => r (1 + (8 * d + j))) j + r (1 + (8 * d + j))) (I (j + 1))
                  conv => lhs; rw [fX10_inkOfDeed_4]
                  rw [hI.cel, bs, c3, bs, hsz μ rfl, bs, if_pos (show I j < I (C.z d) from (I_lt (by omega) (by omega)).mpr hj), g_0_7 hG, bs, hG.ink a33, bs, l_mulI, I_add, ld_34 (by omega), bs, show μ.2.1 34 (8 * d + j) = r (1 + (8 * d + j)) from hS.2.2.2.1 _ (by omega), I_addl]
                · intro n
                  show fX10_inkOfDeed_4 μ (n + 1) 0 (I d) _ (I (C.z d)) = _
                  rw [fX10_inkOfDeed_4, hI.cel, bs, c3, bs, hsz μ rfl, bs, if_neg (show ¬ I (C.z d) < I (C.z d) by rw [I_lt (by omega) (by omega)]; omega)]
              rw [e, bs]; rfl
            · rw [if_neg b3, if_neg b3]
              have e : fX10_peopleOfDeed 0 (I d) μ = some (cbits (fun p => decide (r (55 + p) / 8 = I d)) C.P) := by
                unfold fX10_peopleOfDeed
                refine loop_eq (fun n (s : Int32 × Int32) => fX10_peopleOfDeed_4 μ n 0 (I d) s.1 s.2) C.P (fun j => (cbits (fun p => decide (r (55 + p) / 8 = I d)) j, I j)) _ ?_ ?_ C.P fuel 0 rfl (by unfold fuel; omega)
                · intro n j hj
                  have hat : μ.2.1 35 j = r (55 + j) := by
                    have := hS.2.2.2.2.1 j (by omega)
                    rw [if_pos hj] at this
                    exact this
                  show fX10_peopleOfDeed_4 μ (n + 1) 0 (I d) (cbits (fun p => decide (r (55 + p) / 8 = I d)) j) (I j) = fX10_peopleOfDeed_4 μ n 0 (I d) (cbits (fun p => decide (r (55 + p) / 8 = I d)) (j + 1)) (I (j + 1))
                  conv => lhs; rw [fX10_peopleOfDeed_4]
                  rw [hI.cel, bs, hE.2.1, if_pos (show I j < I C.P from (I_lt (by omega) (by omega)).mpr hj), g_0_7 hG, bs, hG.at a33, bs, ld_35 (by omega), bs, hat, I_addl]
                  conv => rhs; unfold cbits
                  by_cases q : r (55 + j) / 8 = I d
                  · rw [if_pos q, if_pos (decide_eq_true q)]
                  · rw [if_neg q, if_neg (fun t => q (of_decide_eq_true t))]
                · intro n
                  show fX10_peopleOfDeed_4 μ (n + 1) 0 (I d) _ (I C.P) = _
                  rw [fX10_peopleOfDeed_4, hI.cel, bs, hE.2.1, if_neg (show ¬ I C.P < I C.P by rw [I_lt (by omega) (by omega)]; omega)]
              rw [e, bs]; rfl
    · rw [if_neg h2, if_neg h2]
      exact ⟨μ, FrB.refl _ _ μ, Or.inr (Or.inl ⟨rfl, rfl⟩)⟩
  · rw [if_neg h1, if_neg h1]
    exact ⟨μ, FrB.refl _ _ μ, Or.inr (Or.inl ⟨rfl, rfl⟩)⟩
theorem r_deed (hI : INV C G Fd pc k r μ) (a b : Int32) : RQ (fX11_deed 492 a b μ) μ (codeDW C a b) (valD C r a b) := by
  have hC := hI.2.1
  have hD := hC.1
  have hP := hC.2.1
  obtain ⟨t1, t2, t3, t4⟩ := thr0 μ
  have hR0 := t1.rc hI.2.2.2.2.2.2.1
  have hG := hR0.1
  have hrow : ∀ j, j < 79 → (thr μ 0).2.1 502 j = r j := fun j hj => hI.row hj t1
  unfold fX11_deed codeDW
  rw [bs, sI_C, isDeed_ok hR0 t2]
  by_cases h1 : okD C a = true
  · rw [if_pos h1, if_pos h1, bs]
    simp only
    rw [if_neg (by decide), show fX11_isWhat 492 b (4 : Int32) (thr μ 0) = _ from isWhat_ok (m := 4) t2 b (by decide)]
    by_cases h2 : okW b 5 = true
    · rw [if_pos h2, if_pos h2, bs]
      simp only
      rw [if_neg (by decide)]
      obtain ⟨d, hd, rfl⟩ := okD_ex hC h1
      have hz := hC.2.2 d hd
      have e1 : ∀ v5, fX11_deed_35 fuel 492 (I d) b 0 0 v5 0 (thr μ 0) = fX11_deed_100 fuel 492 (I d) b (cbits (fun j => decide (r (1 + (8 * d + j)) = 0)) (C.z d)) (sumI (fun j => r (1 + (8 * d + j))) (C.z d)) v5 0 (thr μ 0) := by
        intro v5
        refine loop_eq (R := Int32 × Mem) (fun n (s : Int32 × Int32 × Int32) => fX11_deed_35 n 492 (I d) b s.1 s.2.1 v5 s.2.2 (thr μ 0)) (C.z d) (fun j => (cbits (fun j => decide (r (1 + (8 * d + j)) = 0)) j, sumI (fun j => r (1 + (8 * d + j))) j, I j)) _ ?_ ?_ (C.z d) fuel 0 rfl (by unfold fuel; omega)
        · intro n j hj
          have hw : rwb (thr μ 0) 0 (1 + (8 * d + j)) = r (1 + (8 * d + j)) := by
            show (thr μ 0).2.1 502 (0 + (1 + (8 * d + j))) = _
            rw [Nat.zero_add]; exact hrow _ (by omega)
          show fX11_deed_35 (n + 1) 492 (I d) b (cbits (fun j => decide (r (1 + (8 * d + j)) = 0)) j) (sumI (fun j => r (1 + (8 * d + j))) j) v5 (I j) (thr μ 0) = fX11_deed_35 n 492 (I d) b (cbits (fun j => decide (r (1 + (8 * d + j)) = 0)) (j + 1)) (sumI (fun j => r (1 + (8 * d + j))) j + r (1 + (8 * d + j))) v5 (I (j + 1)) (thr μ 0)
          conv => lhs; rw [fX11_deed_35]
          rw [g_492_5 hG, bs, ld_493 (by omega), bs, hR0.2.2.2.2 d hd, if_pos (show I j < I (C.z d) from (I_lt (by omega) (by omega)).mpr hj), l_mulI, I_add, show fX11_isWhite 492 (0 : Int32) (I (8 * d + j)) (thr μ 0) = _ from white_ok hG (b := 0) (by omega) (by omega), bs, hw, g_492_34 hG, bs, l_addI, I_add, ld_502 (by omega), bs, Nat.add_assoc, hrow _ (by omega), bs, ld_502 (by omega), bs, hrow _ (by omega), I_addl, or0]
          conv => rhs; unfold cbits
          by_cases q : r (1 + (8 * d + j)) = 0
          · rw [if_pos q, if_neg (by decide), if_pos (decide_eq_true q)]
          · rw [if_neg q, if_pos rfl, if_neg (fun t => q (of_decide_eq_true t))]
        · intro n
          show fX11_deed_35 (n + 1) 492 (I d) b _ _ v5 (I (C.z d)) (thr μ 0) = _
          rw [fX11_deed_35, g_492_5 hG, bs, ld_493 (by omega), bs, hR0.2.2.2.2 d hd, if_neg (show ¬ I (C.z d) < I (C.z d) by rw [I_lt (by omega) (by omega)]; omega)]
      have ewh : cbits (fun j => decide (r (1 + (8 * d + j)) = 0)) (C.z d) = whD C r d := by
        apply tb_ext
        intro p hp
        unfold whD
        rw [tb_cbits _ _ (by omega), tb_cbits _ _ (by omega)]
        by_cases q : p < C.z d
        · have ht : there C (8 * d + p) = true := by
            rw [there_iff, show (8 * d + p) / 8 = d by omega, show (8 * d + p) % 8 = p by omega]
            exact ⟨hd, q⟩
          unfold wh
          rw [decide_eq_true q, decide_eq_true (show p < 8 by omega), ht]; rfl
        · by_cases q8 : p < 8
          · have ht : there C (8 * d + p) = false := by
              cases t : there C (8 * d + p)
              · rfl
              · have := there_iff.mp t
                rw [show (8 * d + p) / 8 = d by omega, show (8 * d + p) % 8 = p by omega] at this
                exact absurd this.2 q
            unfold wh
            rw [decide_eq_false q, ht]; simp
          · rw [decide_eq_false q, decide_eq_false q8]; rfl
      have e2 : ∀ v3 v4, fX11_deed_100 fuel 492 (I d) b v3 v4 0 0 (thr μ 0) = some (if b = 0 then I (C.z d) else if b = 1 then v3 else if b = 2 then r (49 + d) else if b = 3 then v4 else cbits (fun p => decide (r (55 + p) / 8 = I d)) C.P, thr μ 0) := by
        intro v3 v4
        refine loop_eq (R := Int32 × Mem) (fun n (s : Int32 × Int32) => fX11_deed_100 n 492 (I d) b v3 v4 s.1 s.2 (thr μ 0)) C.P (fun j => (cbits (fun p => decide (r (55 + p) / 8 = I d)) j, I j)) _ ?_ ?_ C.P fuel 0 rfl (by unfold fuel; omega)
        · intro n j hj
          show fX11_deed_100 (n + 1) 492 (I d) b v3 v4 (cbits (fun p => decide (r (55 + p) / 8 = I d)) j) (I j) (thr μ 0) = fX11_deed_100 n 492 (I d) b v3 v4 (cbits (fun p => decide (r (55 + p) / 8 = I d)) (j + 1)) (I (j + 1)) (thr μ 0)
          conv => lhs; rw [fX11_deed_100]
          rw [hR0.2.2.2.1, if_pos (show I j < I C.P from (I_lt (by omega) (by omega)).mpr hj), g_492_34 hG, bs, l_addI, ld_502 (by omega), bs, hrow _ (by omega), I_addl, or0]
          conv => rhs; unfold cbits
          by_cases q : r (55 + j) / 8 = I d
          · rw [if_pos q, if_pos (decide_eq_true q)]
          · rw [if_neg q, if_neg (fun t => q (of_decide_eq_true t))]
        · intro n
          show fX11_deed_100 (n + 1) 492 (I d) b v3 v4 _ (I C.P) (thr μ 0) = _
          rw [fX11_deed_100, hR0.2.2.2.1, if_neg (show ¬ I C.P < I C.P by rw [I_lt (by omega) (by omega)]; omega)]
          simp (disch := omega) only [g_492_5 hG, g_492_34 hG, bs, ld_493, hR0.2.2.2.2 d hd, l_addI, ld_502]
          rw [hrow (49 + d) (by omega)]
          by_cases b0 : b = 0
          · rw [if_pos b0, if_pos b0]
          · rw [if_neg b0, if_neg b0]
            by_cases b1 : b = 1
            · rw [if_pos b1, if_pos b1]
            · rw [if_neg b1, if_neg b1]
              by_cases b2 : b = 2
              · rw [if_pos b2, if_pos b2]
              · rw [if_neg b2, if_neg b2]
                split <;> rfl
      rw [e1, e2, ewh]
      unfold valD
      rw [show ix (I d) = d from ix_I (by omega)]
      exact RQ.same t1 t2 t3 t4
    · rw [if_neg h2, if_neg h2, bs]
      simp only [if_true]
      exact RQ.no (by decide) t1 t3 t4
  · rw [if_neg h1, if_neg h1, bs]
    simp only [if_true]
    exact RQ.no (by decide) t1 t3 t4
theorem qq_deed (hI : INV C G Fd pc k r μ) (a b : Int32) : QQ C G Fd pc k r (fun μ => fL_deed 0 a b 518 μ) (fun ν => fX11_deed 492 a b ν) μ := q_deed hI a b (c_deed hI a b) (codeDW_ne a b) (fun ν h => r_deed h a b)
end De
