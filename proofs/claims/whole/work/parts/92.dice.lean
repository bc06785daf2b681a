/-! CALLS: years: the dice -/
def nxt (sd : Int32) : Int32 := sd * 1103515245 + 12345
def hv (sd : Int32) : Nat := (nxt sd).toBitVec.toNat / 65536 % 32768
theorem mask15 (v : Int32) : v &&& 32767 = I (v.toBitVec.toNat % 32768) := by
  apply Int32.toBitVec_inj.mp
  apply BitVec.eq_of_toNat_eq
  show (v.toBitVec &&& (32767 : Int32).toBitVec).toNat = (BitVec.ofNat 32 _).toNat
  rw [BitVec.toNat_and, show (32767 : Int32).toBitVec.toNat = 2 ^ 15 - 1 from rfl, Nat.and_two_pow_sub_one_eq_mod, BitVec.toNat_ofNat]
  omega
theorem tb_32767 : ∀ p : Fin 32, tb 32767 p.1 = decide (p.1 < 15) := by decide +kernel
theorem sra16 (v : Int32) : (v >>> ((16 : Int32) &&& 31)) &&& 32767 = ((v.toUInt32 >>> ((16 : Int32).toUInt32 &&& Int32.toUInt32 31)).toInt32) &&& 32767 := by
  apply tb_ext
  intro p hp
  rw [tb_and, tb_and, tb_32767 ⟨p, hp⟩]
  by_cases h : p < 15
  · congr 1
    show (v >>> ((16 : Int32) &&& 31)).toBitVec.getLsbD p = (v.toUInt32 >>> ((16 : Int32).toUInt32 &&& Int32.toUInt32 31)).toBitVec.getLsbD p
    rw [Int32.toBitVec_shiftRight, show ((16 : Int32) &&& 31).toBitVec.smod (32 : BitVec 32) = 16#32 by decide +kernel, BitVec.sshiftRight_eq', BitVec.getLsbD_sshiftRight, UInt32.toBitVec_shiftRight, show ((16 : Int32).toUInt32 &&& Int32.toUInt32 31).toBitVec % (32 : BitVec 32) = 16#32 by decide +kernel, BitVec.ushiftRight_eq', BitVec.getLsbD_ushiftRight]
    show (!decide (32 ≤ p) && if 16 + p < 32 then _ else _) = v.toBitVec.getLsbD (16 + p)
    rw [if_pos (by omega), decide_eq_false (by omega)]
    rfl
  · rw [decide_eq_false h, Bool.and_false, Bool.and_false]
theorem srlN (w : Int32) : (((w.toUInt32 >>> ((16 : Int32).toUInt32 &&& Int32.toUInt32 31)).toInt32).toBitVec).toNat = w.toBitVec.toNat / 65536 := by
  show (w.toUInt32 >>> ((16 : Int32).toUInt32 &&& Int32.toUInt32 31)).toBitVec.toNat = _
  rw [UInt32.toBitVec_shiftRight, show ((16 : Int32).toUInt32 &&& Int32.toUInt32 31).toBitVec % (32 : BitVec 32) = 16#32 by decide +kernel, BitVec.ushiftRight_eq', BitVec.toNat_ushiftRight, Nat.shiftRight_eq_div_pow, show (16#32).toNat = 16 from rfl, show (2 : Nat) ^ 16 = 65536 from rfl]
  rfl
theorem srl16 (sd : Int32) : (((nxt sd).toUInt32 >>> ((16 : Int32).toUInt32 &&& Int32.toUInt32 31)).toInt32) &&& 32767 = I (hv sd) := by
  rw [mask15, srlN]
  rfl
theorem hv_lt (sd : Int32) : hv sd < 32768 := Nat.mod_lt _ (by decide)
theorem rm_ok {n m : Nat} (hn : n < 2147483648) (hm : m < 2147483648) (h0 : 0 < m) : rmI (I n) (I m) = some (I (n % m)) := by
  unfold rmI
  rw [if_neg (show ¬ I m = 0 from fun t => by have := (I_inj (m := 0) hm (by omega)).mp t; omega), I_div hn hm, I_mul, I_sub (Nat.div_mul_le_self n m)]
  congr 2
  have h := Nat.div_add_mod n m
  rw [Nat.mul_comm] at h
  omega
theorem draw_C {μ : Mem} {sd : Int32} (h : μ.2.1 487 0 = sd) {m : Nat} (hm : m < 2147483648) (h0 : 0 < m) : fX3_draw 487 (I m) μ = some (I (hv sd % m), sC μ 487 (up (μ.2.1 487) 0 (nxt sd))) := by
  have := hv_lt sd
  unfold fX3_draw
  rw [bs, sI_C, h, show sd * (1103515245 : Int32) + (12345 : Int32) = nxt sd from rfl, if_pos (show (0 : Int32) < I m from (l_ltI (m := 0) hm (by decide)).mpr h0), sC_s, up_s, srl16, rm_ok (by omega) hm h0, bs]
theorem draw_R {μ : Mem} {sd : Int32} (h : μ.2.1 492 53 = sd) {m : Nat} (hm : m < 2147483648) (h0 : 0 < m) : fX11_draw 492 (I m) μ = some (I (hv sd % m), sC μ 492 (up (μ.2.1 492) 53 (nxt sd))) := by
  have := hv_lt sd
  unfold fX11_draw
  rw [bs, sI_C, h, show sd * (1103515245 : Int32) + (12345 : Int32) = nxt sd from rfl, sC_s, up_s, sra16, srl16, rm_ok (by omega) hm h0, bs]
/-- a place that is drawn -/
def pl2 (C : Cel) (sd : Int32) : Nat := 8 * (hv sd % C.D) + hv (nxt sd) % C.z (hv sd % C.D)
theorem pl2_there {C : Cel} (hC : C.ok) (h0 : 0 < C.D) (sd : Int32) : there C (pl2 C sd) = true := by
  have h1 : hv sd % C.D < C.D := Nat.mod_lt _ h0
  have hz := hC.2.2 _ h1
  have h2 : hv (nxt sd) % C.z (hv sd % C.D) < C.z (hv sd % C.D) := Nat.mod_lt _ (by omega)
  unfold pl2
  rw [there_iff, show (8 * (hv sd % C.D) + hv (nxt sd) % C.z (hv sd % C.D)) / 8 = hv sd % C.D by omega, show (8 * (hv sd % C.D) + hv (nxt sd) % C.z (hv sd % C.D)) % 8 = hv (nxt sd) % C.z (hv sd % C.D) by omega]
  exact ⟨h1, h2⟩
/-- what happens: the row and the seed -/
def hap (C : Cel) (s : Row × Int32) : Row × Int32 :=
  if hv s.2 % 5 = 0 ∧ 0 < C.P then (up s.1 (61 + hv (nxt s.2) % C.P) (I (pl2 C (nxt (nxt s.2)))), nxt (nxt (nxt (nxt s.2))))
  else if hv s.2 % 5 = 1 ∧ 0 < C.D then (up s.1 (1 + pl2 C (nxt s.2)) (I (hv (nxt (nxt (nxt s.2))) % 4)), nxt (nxt (nxt (nxt s.2))))
  else (s.1, nxt s.2)
theorem hap_ok {C : Cel} {s : Row × Int32} (hC : C.ok) (hr : RowOK C s.1) : RowOK C (hap C s).1 := by
  have hP := hC.2.1
  unfold hap
  split
  · rename_i q
    obtain ⟨x, _, hx⟩ := hr.2.1 0 q.2
    have h0 : 0 < C.D := by have := (there_iff.mp hx).1; omega
    have hw : hv (nxt s.2) % C.P < C.P := Nat.mod_lt _ q.2
    refine ⟨StOK_congr (fun k h1 h2 => (up_n _ _ (by omega)).symm) hr.1, ?_, ?_⟩
    · intro p hp
      show ∃ x, up s.1 _ _ (55 + p) = I x ∧ _
      rw [up_n _ _ (by omega)]; exact hr.2.1 p hp
    · intro p hp
      show up s.1 _ _ (61 + p) = -1 ∨ ∃ x, up s.1 _ _ (61 + p) = I x ∧ _
      by_cases e : p = hv (nxt s.2) % C.P
      · subst e
        rw [up_s]
        exact Or.inr ⟨_, rfl, pl2_there hC h0 _⟩
      · rw [up_n _ _ (by omega)]; exact hr.2.2 p hp
  · split
    · rename_i q
      have hp2 := there_lt hC (pl2_there hC q.2 (nxt s.2))
      exact hr.congr (fun k h1 h2 => (up_n _ _ (by omega)).symm) hC
    · exact hr
theorem hap_ink {C : Cel} {s : Row × Int32} (hC : C.ok) (hi : InkOK C s.1) : InkOK C (hap C s).1 := by
  have hP := hC.2.1
  unfold hap
  split
  · rename_i q
    exact hi.congr (fun k h1 h2 => up_n _ _ (by omega))
  · split
    · rename_i q
      intro x hx ht
      show up s.1 _ _ (1 + x) = 0
      by_cases e : x = pl2 C (nxt s.2)
      · rw [e, pl2_there hC q.2] at ht; cases ht
      · rw [up_n _ _ (by omega)]; exact hi x hx ht
    · exact hi
theorem CP.gen {C : Cel} {G Fd : List Itm} {pc : Nat → Int32} {r r' : Row} {k : Nat} {L L2 : List Nat} {μ ν : Mem} (h : CP C G Fd pc r k μ) (hf : FrI L L2 μ ν) (h1 : ∀ c ∈ [3, 4, 5, 6, 7, 9, 10, 17, 18, 19, 20, 21, 23, 24], c ∉ L) (h2 : 3 ∉ L2 ∧ 17 ∉ L2) (h3 : 464 ∉ L) (hS : SH C r' 456 ν) (hp : ∀ p, p < C.P → r' (73 + p) = r (73 + p)) : CP C G Fd pc r' k ν := by
  obtain ⟨hG, hC, hk, hcel, hE, _, hpa⟩ := h
  refine ⟨hf.gr hG, hC, hk, by rw [hf.g]; exact hcel, hE.fl hk hf h1 h2, hS, ?_⟩
  intro p hp2
  rw [hf.2.2.1 464 h3, hp p hp2]
  exact hpa p hp2
section Di
variable {C : Cel} {G Fd : List Itm} {pc : Nat → Int32} {k : Nat} {r : Row} {μ : Mem}
/-- while years go by, the class -/
def CY (C : Cel) (G Fd : List Itm) (pc : Nat → Int32) (k : Nat) (μ : Mem) (s : Row × Int32) (ν : Mem) : Prop := FrB LC L2C μ ν ∧ CP C G Fd pc s.1 k ν ∧ ν.2.1 487 0 = s.2
theorem drawPlace_C (hI : INV C G Fd pc k r μ) (h0 : 0 < C.D) {ν : Mem} (hF : FrB LC L2C μ ν) {sd : Int32} (hs : ν.2.1 487 0 = sd) : ∃ g, fX10_drawPlace 0 ν = some (I (pl2 C sd), sC ν 487 g) ∧ g 0 = nxt (nxt sd) := by
  have hC := hI.2.1
  have hD := hC.1
  have hIν := hI.q hF.ag
  have hG := hIν.1
  have hE := hIν.2.2.2.2.2.1
  obtain ⟨c3, _⟩ := cel_g hG hI.2.2.1
  obtain ⟨k1, _⟩ := cel_k hI.2.2.1
  have hk := hI.2.2.1
  have h1 : hv sd % C.D < C.D := Nat.mod_lt _ h0
  have hz := hC.2.2 _ h1
  unfold fX10_drawPlace
  rw [g_0_17 hG, bs, hIν.cel, bs, hE.1, draw_C hs (by omega) h0, bs]
  simp only
  rw [gC, g_0_17 hG, bs, gC, hIν.cel, bs, gC, c3, bs, ldI_I k1 (by omega) (by omega), bs, sC_n _ _ (show k + 1 ≠ 487 by omega), hE.2.2.2.1 _ (by omega), if_pos h1, draw_C (sd := nxt sd) (by rw [sC_s, up_s]) (by omega) (by omega), bs]
  simp only
  rw [l_mulI, I_add, sC_C, sC_s]
  exact ⟨_, rfl, up_s _ _ _⟩
theorem hap_C (hI : INV C G Fd pc k r μ) {s : Row × Int32} {ν : Mem} (h : CY C G Fd pc k μ s ν) (hr : RowOK C s.1) : ∃ ξ, fX10_drawWhatHappens 0 ν = some ξ ∧ CY C G Fd pc k μ (hap C s) ξ ∧ ξ.2.1 466 = ν.2.1 466 := by
  have hC := hI.2.1
  have hD := hC.1
  have hP := hC.2.1
  obtain ⟨hF, hCP, hsd⟩ := h
  have hIν := hI.q hF.ag
  have hG := hIν.1
  have hE := hIν.2.2.2.2.2.1
  have hS := hCP.2.2.2.2.2.1
  have hk := hI.2.2.1
  have f487 : ∀ (M : Mem) (g : Row), FrB LC L2C M (sC M 487 g) := fun M g => (FrI.c M g (by decide : 487 ∈ LC)).b (L2 := L2C) (fun _ h => h) (fun _ h => h)
  have hk4 : k ≠ 487 := by omega
  have hP1 : ∀ g : Row, (sC ν 487 g).2.1 k 1 = I C.P := fun g => by rw [sC_n _ _ hk4]; exact hE.2.1
  have hD1 : ∀ g : Row, (sC ν 487 g).2.1 k 0 = I C.D := fun g => by rw [sC_n _ _ hk4]; exact hE.1
  unfold fX10_drawWhatHappens
  rw [g_0_17 hG, bs, show fX3_draw 487 (5 : Int32) ν = _ from draw_C (m := 5) hsd (by decide) (by decide), bs]
  simp only
  have hv5 : hv s.2 % 5 < 5 := Nat.mod_lt _ (by decide)
  have hk5 : (I (hv s.2 % 5) = 0) = (hv s.2 % 5 = 0) := I_inj (m := 0) (by omega) (by omega)
  have hk1 : (I (hv s.2 % 5) = 1) = (hv s.2 % 5 = 1) := I_inj (m := 1) (by omega) (by omega)
  have hl0 : ((0 : Int32) < I C.P) = (0 < C.P) := l_ltI (m := 0) (by omega) (by decide)
  have hl1 : ((0 : Int32) < I C.D) = (0 < C.D) := l_ltI (m := 0) (by omega) (by decide)
  have hI1 : ∀ g, INV C G Fd pc k r (sC ν 487 g) := fun g => hI.q ((hF.trans (f487 ν g)).ag)
  have s1 : (sC ν 487 (up (ν.2.1 487) 0 (nxt s.2))).2.1 487 0 = nxt s.2 := by rw [sC_s, up_s]
  simp only [gC, hIν.cel, bs, hP1, hD1, hk5, hk1, hl0, hl1]
  -- the ink
  have ink : hv s.2 % 5 = 1 → 0 < C.D → ∃ ξ, ((fX10_drawPlace 0 (sC ν 487 (up (ν.2.1 487) 0 (nxt s.2)))).bind fun q => (gR q.2 0 14 12).bind fun a48 => (gR q.2 a48 0 19).bind fun a51 => (gR q.2 0 17 13).bind fun a54 => (fX3_draw a54 (4 : Int32) q.2).bind fun q2 => (fX9_setInk a51 q.1 q2.1 q2.2).bind fun μ63 => some μ63) = some ξ ∧ CY C G Fd pc k μ (up s.1 (1 + pl2 C (nxt s.2)) (I (hv (nxt (nxt (nxt s.2))) % 4)), nxt (nxt (nxt (nxt s.2)))) ξ ∧ ξ.2.1 466 = ν.2.1 466 := by
    intro e1 d0
    obtain ⟨g, ep, hg⟩ := drawPlace_C hI d0 (hF.trans (f487 ν _)) s1
    have ht := pl2_there hC d0 (nxt s.2)
    have h48 := there_lt hC ht
    rw [ep, bs]
    simp only
    rw [sC_C, gC, g_0_14 hG, bs, gC, g_455_0 hG, bs, gC, g_0_17 hG, bs, show fX3_draw 487 (4 : Int32) (sC ν 487 g) = _ from draw_C (m := 4) (sd := nxt (nxt (nxt s.2))) (by rw [sC_s]; exact hg) (by decide) (by decide), bs]
    simp only
    rw [sC_C, setInk_eq (hG.sC _ _) a456 h48, bs]
    have hS1 : SH C s.1 456 (sC ν 487 (up ((sC ν 487 g).2.1 487) 0 (nxt (nxt (nxt (nxt s.2)))))) := hS.c _ (by omega)
    refine ⟨_, rfl, ⟨?_, ?_, ?_⟩, ?_⟩
    · exact ((hF.trans (f487 ν _)).trans ((FrI.c _ _ (by decide : (456 + 1) ∈ LC)).b (L2 := L2C) (fun _ h => h) (fun _ h => h))).trans ((FrI.l (L := LC) _ _ (by decide : 456 ∈ L2C)).b (fun _ h => h) (fun _ h => h))
    · refine hCP.gen (L := [457, 487]) (L2 := [456]) (((FrI.c ν _ (by decide)).trans (FrI.c _ _ (by decide))).trans (FrI.l _ _ (by decide))) (by decide) (by decide) (by decide) (hS1.ink hC ht _) ?_
      intro p hp
      show up s.1 _ _ (73 + p) = s.1 (73 + p)
      rw [up_n _ _ (by omega)]
    · rw [sLC_i, sC_n _ _ (by decide), sC_s, up_s]
    · rw [sLC_i, sC_n _ _ (by decide), sC_n _ _ (by decide)]
  have none1 : CY C G Fd pc k μ (s.1, nxt s.2) (sC ν 487 (up (ν.2.1 487) 0 (nxt s.2))) := by
    refine ⟨hF.trans (f487 ν _), hCP.gen (L := [487]) (L2 := []) (FrI.c ν _ (by decide)) (by decide) (by decide) (by decide) (hS.c _ (by omega)) (fun _ _ => rfl), s1⟩
  unfold hap
  by_cases e0 : hv s.2 % 5 = 0
  · rw [if_pos e0]
    by_cases p0 : 0 < C.P
    · rw [if_pos p0, if_pos ⟨e0, p0⟩]
      obtain ⟨x, _, hx⟩ := hr.2.1 0 p0
      have d0 : 0 < C.D := by have := (there_iff.mp hx).1; omega
      have hw : hv (nxt s.2) % C.P < C.P := Nat.mod_lt _ p0
      rw [g_0_17 hG, bs, draw_C s1 (by omega) p0, bs]
      simp only
      rw [sC_C, gC, g_0_14 hG, bs, gC, g_455_0 hG, bs, (hG.sC _ _).sent a456, bs, sC_s]
      obtain ⟨g, ep, hg⟩ := drawPlace_C hI d0 (hF.trans (f487 ν (up (up (ν.2.1 487) 0 (nxt s.2)) 0 (nxt (nxt s.2))))) (sd := nxt (nxt s.2)) (by rw [sC_s, up_s])
      have ht := pl2_there hC d0 (nxt (nxt s.2))
      rw [ep, bs]
      simp only
      rw [sC_C, st_459 (by omega), bs]
      refine ⟨_, rfl, ⟨?_, ?_, ?_⟩, ?_⟩
      · exact (hF.trans (f487 ν _)).trans ((FrI.c _ _ (by decide : 459 ∈ LC)).b (L2 := L2C) (fun _ h => h) (fun _ h => h))
      · refine hCP.gen (L := [459, 487]) (L2 := []) ((FrI.c ν _ (by decide)).trans (FrI.c _ _ (by decide))) (by decide) (by decide) (by decide) ?_ ?_
        · exact (hS.c g (by omega : 487 < 456 ∨ 456 + 4 < 487)).sent hC hw (sC_n _ _ (by decide)) rfl (sC_n _ _ (by decide)) (sC_n _ _ (by decide)) (sC_s _ _ _) (sC_n _ _ (by decide))
        · intro p hp
          show up s.1 _ _ (73 + p) = s.1 (73 + p)
          rw [up_n _ _ (by omega)]
      · rw [sC_n _ _ (by decide), sC_s]; exact hg
      · rw [sC_n _ _ (by decide), sC_n _ _ (by decide)]
    · rw [if_neg p0, if_neg (by omega), if_neg (fun t => p0 t.2), if_neg (fun t => by omega)]
      exact ⟨_, rfl, none1, by rw [sC_n _ _ (by decide)]⟩
  · rw [if_neg e0, if_neg (show ¬ (hv s.2 % 5 = 0 ∧ 0 < C.P) from fun t => e0 t.1)]
    by_cases e1 : hv s.2 % 5 = 1
    · rw [if_pos e1]
      by_cases d0 : 0 < C.D
      · rw [if_pos d0, if_pos ⟨e1, d0⟩]
        exact ink e1 d0
      · rw [if_neg d0, if_neg (fun t => d0 t.2)]
        exact ⟨_, rfl, none1, by rw [sC_n _ _ (by decide)]⟩
    · rw [if_neg e1, if_neg (fun t => e1 t.1)]
      exact ⟨_, rfl, none1, by rw [sC_n _ _ (by decide)]⟩
end Di
