/-! the tape: feed -/
def byt (v : Int32) (s : Nat) : Int32 := (v >>> (I s &&& 31)) &&& 255
theorem sh31 : ∀ k : Fin 32, ((I k.1).toUInt32 &&& Int32.toUInt32 31).toBitVec % (32 : BitVec 32) = BitVec.ofNat 32 k.1 := by decide +kernel
theorem and255 (x : Int32) : ∃ b, b < 256 ∧ x &&& 255 = I b := by
  refine ⟨(x.toBitVec &&& 255#32).toNat, ?_, ?_⟩
  · rw [BitVec.toNat_and]
    exact Nat.lt_of_le_of_lt Nat.and_le_right (by decide)
  · apply Int32.toBitVec_inj.1
    show x.toBitVec &&& 255#32 = BitVec.ofNat 32 (x.toBitVec &&& 255#32).toNat
    apply BitVec.eq_of_toNat_eq
    rw [BitVec.toNat_ofNat, Nat.mod_eq_of_lt (BitVec.isLt _)]
theorem byt_c (v : Int32) {s : Nat} (hs : s ≤ 24) : ((v.toUInt32 >>> ((I s).toUInt32 &&& Int32.toUInt32 31)).toInt32) &&& (255 : Int32) = byt v s := by
  unfold byt
  refine tb_ext (fun p hp => ?_)
  rw [tb_and, tb_and, tb_255 ⟨p, hp⟩]
  by_cases h8 : p < 8
  · rw [decide_eq_true h8, Bool.and_true, Bool.and_true]
    show (v.toUInt32 >>> ((I s).toUInt32 &&& Int32.toUInt32 31)).toBitVec.getLsbD p = (v >>> (I s &&& 31)).toBitVec.getLsbD p
    rw [UInt32.toBitVec_shiftRight, sh31 ⟨s, by omega⟩, BitVec.ushiftRight_eq', BitVec.getLsbD_ushiftRight, BitVec.toNat_ofNat, Nat.mod_eq_of_lt (by omega), Int32.toBitVec_shiftRight]
    have h := shr31 ⟨s, by omega⟩
    simp only at h
    rw [show (I s &&& (31 : Int32)).toBitVec.smod (32 : BitVec 32) = _ from h, BitVec.sshiftRight_eq', BitVec.getLsbD_sshiftRight, BitVec.toNat_ofNat, Nat.mod_eq_of_lt (by omega), if_pos (by omega)]
    simp [hp]
  · rw [decide_eq_false h8, Bool.and_false, Bool.and_false]
def f4 (f : Row) (t : Nat) (v : Int32) : Row := up (up (up (up f t (byt v 24)) (t + 1) (byt v 16)) (t + 2) (byt v 8)) (t + 3) (byt v 0)
def EqB (f g : Row) (T : Nat) : Prop := ∀ i, i < T → ∃ b, b < 256 ∧ f i = I b ∧ g i = I b
theorem EqB.up {f g : Row} {T : Nat} (h : EqB f g T) (v : Int32) (s : Nat) : EqB (up f T (byt v s)) (up g T (byt v s)) (T + 1) := by
  intro i hi
  by_cases e : i = T
  · subst e
    obtain ⟨b, h1, h2⟩ := and255 (v >>> (I s &&& 31))
    exact ⟨b, h1, by rw [up_s]; exact h2, by rw [up_s]; exact h2⟩
  · obtain ⟨b, h1, h2, h3⟩ := h i (by omega)
    exact ⟨b, h1, by rw [up_n _ _ e]; exact h2, by rw [up_n _ _ e]; exact h3⟩
theorem EqB.f4 {f g : Row} {T : Nat} (h : EqB f g T) (v : Int32) : EqB (f4 f T v) (f4 g T v) (T + 4) := (((h.up v 24).up v 16).up v 8).up v 0
abbrev cB (μ : Mem) (f : Row) (t : Nat) : Mem := sC (sC μ 1 f) 0 (up (μ.2.1 0) 1 (I t))
abbrev rB (μ : Mem) (f : Row) (t : Nat) : Mem := sC (sC μ 495 f) 492 (up (μ.2.1 492) 8 (I t))
section Fe
variable {μ : Mem}
theorem cB1 (hG : Gr μ) (f : Row) {t s : Nat} (ht : t < 700) (hs : s ≤ 24) (v : Int32) (n : Nat) : fX10_putBytes_3 (n + 1) 0 v (I s) (cB μ f t) = fX10_putBytes_3 n 0 v (I s + (-8 : Int32)) (cB μ (up f t (byt v s)) (t + 1)) := by
  have h01 : (cB μ f t).2.1 0 1 = I t := by rw [sC_s, up_s]
  have h1 : (cB μ f t).2.1 1 = f := by rw [sC_n _ _ (by decide), sC_s]
  rw [fX10_putBytes_3, if_neg (I_neg (by omega)), h01, if_pos (show I t < (700 : Int32) by rw [I_ltl (by omega) (by decide)]; exact ht), g_0_0 ((hG.sC _ _).sC _ _), bs, st_1 ht, bs, bs, sI_C, byt_c v hs, h1]
  congr 1
  refine Mem.ext4 rfl ?_ (fun _ _ => rfl) rfl
  intro c j
  by_cases c0 : c = 0
  · subst c0
    rw [sC_s, sC_s, sC_n _ _ (by decide), sC_s, up_up, up_s, I_addl]
  · rw [sC_n _ _ c0, sC_n _ _ c0]
    by_cases c1 : c = 1
    · subst c1
      rw [sC_s, sC_s]
    · rw [sC_n _ _ c1, sC_n _ _ c0, sC_n _ _ c1, sC_n _ _ c1]
theorem m8 : (I 24 + (-8 : Int32) = I 16) ∧ (I 16 + (-8 : Int32) = I 8) ∧ (I 8 + (-8 : Int32) = I 0) ∧ (I 0 + (-8 : Int32) < 0) := by decide
theorem cB4 (hG : Gr μ) (f : Row) {t : Nat} (ht : t + 4 ≤ 700) (v : Int32) : fX10_putBytes 0 v (cB μ f t) = some (cB μ (f4 f t v) (t + 4)) := by
  unfold fX10_putBytes
  show fX10_putBytes_3 (4995 + 1 + 1 + 1 + 1 + 1) 0 v (I 24) (cB μ f t) = _
  rw [cB1 hG f (by omega) (by decide), m8.1, cB1 hG _ (by omega) (by decide), m8.2.1, cB1 hG _ (by omega) (by decide), m8.2.2.1, cB1 hG _ (by omega) (by decide), fX10_putBytes_3, if_pos m8.2.2.2]
  rfl
theorem rB1 (hG : Gr μ) (f : Row) {t s : Nat} (ht : t < 700) (hs : s ≤ 24) (v : Int32) (n : Nat) : fX11_lays_3 (n + 1) 492 v (I s) (rB μ f t) = fX11_lays_3 n 492 v (I s + (-8 : Int32)) (rB μ (up f t (byt v s)) (t + 1)) := by
  have h01 : (rB μ f t).2.1 492 8 = I t := by rw [sC_s, up_s]
  have h1 : (rB μ f t).2.1 495 = f := by rw [sC_n _ _ (by decide), sC_s]
  rw [fX11_lays_3, if_neg (I_neg (by omega)), h01, g_492_7 ((hG.sC _ _).sC _ _), bs, st_495 ht, bs, bs, sI_C, h1]
  congr 1
  refine Mem.ext4 rfl ?_ (fun _ _ => rfl) rfl
  intro c j
  by_cases c0 : c = 492
  · subst c0
    rw [sC_s, sC_s, sC_n _ _ (by decide), sC_s, up_up, up_s, I_addl]
  · rw [sC_n _ _ c0, sC_n _ _ c0]
    by_cases c1 : c = 495
    · subst c1
      rw [sC_s, sC_s]
      rfl
    · rw [sC_n _ _ c1, sC_n _ _ c0, sC_n _ _ c1, sC_n _ _ c1]
theorem rB4 (hG : Gr μ) (f : Row) {t : Nat} (ht : t + 4 ≤ 700) (v : Int32) : fX11_lays 492 v (rB μ f t) = some (rB μ (f4 f t v) (t + 4)) := by
  unfold fX11_lays
  show fX11_lays_3 (4995 + 1 + 1 + 1 + 1 + 1) 492 v (I 24) (rB μ f t) = _
  rw [rB1 hG f (by omega) (by decide), m8.1, rB1 hG _ (by omega) (by decide), m8.2.1, rB1 hG _ (by omega) (by decide), m8.2.2.1, rB1 hG _ (by omega) (by decide), fX11_lays_3, if_pos m8.2.2.2]
  rfl
end Fe
theorem cB_own {μ : Mem} {t : Nat} (h : μ.2.1 0 1 = I t) : cB μ (μ.2.1 1) t = μ := by
  unfold cB
  rw [sC_same, ← h, up_id, sC_same]
theorem rB_own {μ : Mem} {t : Nat} (h : μ.2.1 492 8 = I t) : rB μ (μ.2.1 495) t = μ := by
  unfold rB
  rw [sC_same, ← h, up_id, sC_same]
theorem qd_feed {C : Cel} {G Fd : List Itm} {pc : Nat → Int32} {k : Nat} {r : Row} {μ : Mem} (hI : INV C G Fd pc k r μ) (a b c d e : Int32) : QD (fun μ => fX10_feed 0 a b c d e μ) (fun ν => fX11_feed 492 a b c d e ν) μ := by
  have hG := hI.1
  obtain ⟨t, ht, s0, s1, s2⟩ := hI.taI
  by_cases hq : t + 20 ≤ 700
  · have cl : fX10_feed 0 a b c d e μ = some (I (t + 20), cB μ (f4 (f4 (f4 (f4 (f4 (μ.2.1 1) t a) (t + 4) b) (t + 8) c) (t + 12) d) (t + 16) e) (t + 20)) := by
      unfold fX10_feed
      rw [if_neg (by rw [s0, I_addl, l_ltI (by show t + 20 < _; omega) (by decide)]; show ¬ 700 < t + 20; omega)]
      have q1 := cB4 hG (μ.2.1 1) (t := t) (by omega) a
      rw [cB_own s0] at q1
      rw [q1, bs, cB4 hG _ (by omega), bs, cB4 hG _ (by omega), bs, cB4 hG _ (by omega), bs, cB4 hG _ (by omega), bs, sC_s, up_s]
    refine ⟨I (t + 20), _, rB (thr (cB μ (f4 (f4 (f4 (f4 (f4 (μ.2.1 1) t a) (t + 4) b) (t + 8) c) (t + 12) d) (t + 16) e) (t + 20)) 0) (f4 (f4 (f4 (f4 (f4 (μ.2.1 495) t a) (t + 4) b) (t + 8) c) (t + 12) d) (t + 16) e) (t + 20), cl, ?_, C, G, Fd, pc, k, r, ?_⟩
    · show fX11_feed 492 a b c d e (cB μ _ (t + 20)) = _
      generalize hM : cB μ (f4 (f4 (f4 (f4 (f4 (μ.2.1 1) t a) (t + 4) b) (t + 8) c) (t + 12) d) (t + 16) e) (t + 20) = M
      have hGM : Gr (thr M 0) := by rw [← hM]; exact ((hG.sC _ _).sC _ _).sC _ _
      have h8 : (thr M 0).2.1 492 8 = I t := by
        rw [sC_s, up_n _ _ (by decide), ← hM, sC_n _ _ (by decide), sC_n _ _ (by decide)]; exact s1
      have h5 : (thr M 0).2.1 495 = μ.2.1 495 := by
        rw [sC_n _ _ (by decide), ← hM, sC_n _ _ (by decide), sC_n _ _ (by decide)]
      unfold fX11_feed
      rw [bs, sI_C, if_neg (by rw [h8, I_addl, l_ltI (by show t + 20 < _; omega) (by decide)]; show ¬ 700 < t + 20; omega)]
      have q1 := rB4 hGM ((thr M 0).2.1 495) (t := t) (by omega) a
      rw [rB_own h8, h5] at q1
      rw [q1, bs, rB4 hGM _ (by omega), bs, rB4 hGM _ (by omega), bs, rB4 hGM _ (by omega), bs, rB4 hGM _ (by omega), bs, sC_s, up_s]
    · refine hI.low ⟨rfl, fun _ _ _ => rfl, ?_, fun _ _ => rfl, rfl, rfl, ?_⟩ ?_ (fun _ _ _ => rfl) ?_ ?_ ?_ ⟨?_, ?_⟩ ?_ ?_ ?_
      · intro c h1 h2
        simp at h2
        rw [sC_n _ _ (by omega), sC_n _ _ (by omega), sC_n _ _ (by omega), sC_n _ _ (by omega), sC_n _ _ (by omega)]
      · intro f h1 h2
        rw [sC_s, up_n _ _ (by omega), sC_s, up_n _ _ (by omega)]
        rfl
      · intro c h1 h2
        rw [sC_n _ _ (by omega), sC_n _ _ (by omega), sC_n _ _ (by omega), sC_n _ _ (by omega), sC_n _ _ (by omega)]
      · intro c h1 h2
        rw [sC_n _ _ (by omega), sC_n _ _ (by omega), sC_n _ _ (by omega), sC_n _ _ (by omega), sC_n _ _ (by omega)]
      · intro c h1
        rw [sC_n _ _ (by omega), sC_n _ _ (by omega), sC_n _ _ (by omega), sC_n _ _ (by omega), sC_n _ _ (by omega)]
      · intro f h1 h2 h3
        rw [sC_s, up_n _ _ h2, sC_s, up_n _ _ h1]
        rfl
      · show up (μ.2.1 0) 1 (I (t + 20)) 2 = _
        rw [up_n _ _ (by decide)]
      · show up (μ.2.1 0) 1 (I (t + 20)) 10 = _
        rw [up_n _ _ (by decide)]
      · rfl
      · refine hI.seI.fr (fun c _ _ => ?_) rfl ?_
        · rw [sC_n _ _ (by omega), sC_n _ _ (by omega), sC_n _ _ (by omega), sC_n _ _ (by omega), sC_n _ _ (by omega)]
        · rw [sC_s, up_n _ _ (by decide), sC_s, up_n _ _ (by decide)]
          rfl
      · refine ⟨t + 20, hq, ?_, ?_, ?_⟩
        · show up (μ.2.1 0) 1 (I (t + 20)) 1 = _
          rw [up_s]
        · rw [sC_s, up_s]
        · exact (((((show EqB (μ.2.1 1) (μ.2.1 495) t from s2).f4 a).f4 b).f4 c).f4 d).f4 e
  · obtain ⟨t1, t2, t3, t4⟩ := thr0 μ
    refine ⟨-1, μ, thr μ 0, ?_, ?_, C, G, Fd, pc, k, r, hI.q (t1.ag t3 t4)⟩
    · show fX10_feed 0 a b c d e μ = _
      unfold fX10_feed
      rw [if_pos (by rw [s0, I_addl, l_ltI (by show t + 20 < _; omega) (by decide)]; show 700 < t + 20; omega)]
    · show fX11_feed 492 a b c d e μ = _
      unfold fX11_feed
      rw [bs, sI_C, if_pos (by rw [sC_s, up_n _ _ (by decide), s1, I_addl, l_ltI (by show t + 20 < _; omega) (by decide)]; show 700 < t + 20; omega)]
