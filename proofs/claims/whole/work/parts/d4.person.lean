/-! LINES: a person -/
section Pe
variable {B : Nat → Nat} {n q : Nat} {μ0 μ ν0 ν : Mem} {k : Nat} {C : Cel} {G Fd : List Itm} {pc : Nat → Int32} {r : Row}
/-- what of the class's cellar a place needs: deeds, sizes -/
def CZ (C : Cel) (q : Nat) (μ : Mem) : Prop := μ.2.1 q 0 = I C.D ∧ ∀ d, d < C.D → μ.2.1 (q + 1) d = I (C.z d)
def RZ (C : Cel) (ν : Mem) : Prop := ν.2.1 492 20 = I C.D ∧ ∀ d, d < C.D → ν.2.1 497 d = I (C.z d)
/-- a place: read by both (v), or a fault -/
theorem place_ok (hn : n ≤ 700) (hB : ∀ i, i < n → B i < 256) (hq : q = 3 ∨ q = 17) (hC : C.ok) (hb : CLb B n q μ0 k μ) (h0 : μ.2.1 31 0 = 0) (hZ : CZ C q μ) :
    (∃ x g, fX6_readPlace 31 μ = some (I x, sC μ 31 g) ∧ CLb B n q μ0 (k + 2) (sC μ 31 g) ∧ g 0 = 0 ∧ there C x = true ∧ tkS B n (Pq B n (k + 1)) ≠ 0 ∧ ∀ ν, RLb B n ν0 k ν → ν.2.1 492 9 = 0 → RZ C ν → ∃ g' l', fX11_readsPlace 492 ν = some (I x, rM ν g' l') ∧ RLb B n ν0 (k + 2) (rM ν g' l') ∧ ∀ f, f < 13 ∨ 19 ≤ f → g' f = ν.2.1 492 f) ∨
    (∃ w p g, fX6_readPlace 31 μ = some (-1, sC μ 31 g) ∧ CFl B n q μ0 w p (sC μ 31 g) ∧ ∀ ν, RLb B n ν0 k ν → ν.2.1 492 9 = 0 → RZ C ν → ∃ ν', fX11_readsPlace 492 ν = some (-1, ν') ∧ RFl B n ν0 w p ν' ∧ ν'.2.1 492 21 = ν.2.1 492 21) := by
  have hD6 := hC.1
  unfold fX6_readPlace
  rw [hb.2.2.2.1, bs, hZ.1]
  obtain ⟨n1, n2⟩ := hb.num hn hB h0 (I C.D) (w := 3) (by decide)
  have f21 : ∀ (ν : Mem) (bd : Int32) (x : Int32 × Mem), fX11_isOneOf 492 bd ν = some x → x.2.2.1 492 21 = ν.2.1 492 21 := by
    intro ν bd x e
    unfold fX11_isOneOf fX11_wrong at e
    have key : ∀ (w : Int32), (if ν.2.1 492 9 = 0 then (some (sI ν 492 9 w)).bind fun μ1 => (some (sI μ1 492 10 (μ1.2.1 492 15))).bind fun μ4 => some μ4 else some ν).bind (fun μ5 => some ((fX11_isGood 492 μ5), μ5)) = some x → x.2.2.1 492 21 = ν.2.1 492 21 := by
      intro w e
      split at e
      · rw [bs, bs, bs] at e
        obtain rfl := Option.some.inj e
        show (sI (sI ν 492 9 w) 492 10 _).2.1 492 21 = _
        rw [sI_i, if_neg (by decide), sI_i, if_neg (by decide)]
      · rw [bs] at e
        obtain rfl := Option.some.inj e
        rfl
    split at e
    · obtain rfl := Option.some.inj e; rfl
    · split at e
      · split at e
        · exact key 2 e
        · split at e
          · obtain rfl := Option.some.inj e; rfl
          · exact key 3 e
      · exact key 1 e
  by_cases hN : isN B n k (I C.D)
  · have hV := tkV_lt hB hN.1
    obtain ⟨d, hd⟩ : ∃ d, tkV B n (Pq B n k) = d := ⟨_, rfl⟩
    have hdD : d < C.D := by
      have := hN.2.2
      rw [hd, I_lt (by omega) (by omega)] at this
      exact this
    have hz := hC.2.2 d hdD
    obtain ⟨g, e1, b1, g0, g1⟩ := hb.adv hn hB
    have hq31 : q ≠ 31 ∧ q + 1 ≠ 31 := by omega
    obtain ⟨c3, _⟩ := cel_g b1.2.1 hq
    obtain ⟨k1, _⟩ := cel_k hq
    have hf1 : (sC μ 31 g).2.1 31 0 = 0 := by rw [sC_s, g0]; exact h0
    obtain ⟨m1, m2⟩ := b1.num hn hB hf1 (I (C.z d)) (w := 3) (by decide)
    rw [n1 hN, bs]
    simp only
    rw [if_pos h0, e1, bs, b1.2.2.2.1, bs, c3, bs, hd, ldI_I k1 (by omega) (by omega), bs, sC_n _ _ hq31.2, hZ.2 d hdD]
    have rfst : ∀ ν, RLb B n ν0 k ν → ν.2.1 492 9 = 0 → RZ C ν → ∃ g' l', RLb B n ν0 (k + 1) (rM ν g' l') ∧ (∀ f, f < 13 ∨ 19 ≤ f → g' f = ν.2.1 492 f) ∧ fX11_readsPlace 492 ν = (fX11_isOneOf 492 (I (C.z d)) (rM ν g' l')).bind fun x => if x.1 = 0 then some ((-1 : Int32), x.2) else (fX11_goes 492 x.2).bind fun μ21 => some ((((8 : Int32) * I d) + (x.2.2.1 492 17)), μ21) := by
      intro ν hν h9 hz'
      obtain ⟨g', l', u1, u2, u3⟩ := hν.goes hn hB
      have t17 := hν.2.1.2.2.2.2.2.1 hN.1
      rw [hd] at t17
      refine ⟨g', l', u2, u3, ?_⟩
      unfold fX11_readsPlace
      rw [hz'.1, (hν.one hn h9 (I C.D)).1 hN, bs]
      simp only
      rw [if_neg (by decide), u1, bs, g_492_29 u2.1.1, bs, t17, ld_497 (by omega), bs, rM_n _ _ _ (by decide), hz'.2 d hdD]
    by_cases hM : isN B n (k + 1) (I (C.z d))
    · have hV2 := tkV_lt hB hM.1
      obtain ⟨e, he⟩ : ∃ e, tkV B n (Pq B n (k + 1)) = e := ⟨_, rfl⟩
      have hez : e < C.z d := by
        have := hM.2.2
        rw [he, I_lt (by omega) (by omega)] at this
        exact this
      obtain ⟨g2, e2, b2, g20, _⟩ := b1.adv hn hB
      rw [sC_C] at e2 b2
      rw [m1 hM, bs]
      simp only
      rw [if_pos hf1, e2, bs, he, l_mulI, I_add]
      refine Or.inl ⟨8 * d + e, g2, rfl, b2, by rw [g20]; exact hf1, ?_, isN_S hM, ?_⟩
      · exact there_iff.mpr (by rw [show (8 * d + e) / 8 = d by omega, show (8 * d + e) % 8 = e by omega]; exact ⟨hdD, hez⟩)
      · intro ν hν h9 hz'
        obtain ⟨g', l', u2, u3, u4⟩ := rfst ν hν h9 hz'
        have u9 : (rM ν g' l').2.1 492 9 = 0 := by rw [rM_g, u3 9 (by omega)]; exact h9
        obtain ⟨g'', l'', w1, w2, w3⟩ := u2.goes hn hB
        have t17 := u2.2.1.2.2.2.2.2.1 hM.1
        rw [he] at t17
        have hrr : rM (rM ν g' l') g'' l'' = rM ν g'' l'' := by
          refine Mem.ext4 rfl ?_ ?_ rfl
          · intro c j
            by_cases z : c = 492
            · subst z; rw [rM_g, rM_g]
            · rw [rM_n _ _ _ z, rM_n _ _ _ z, rM_n _ _ _ z]
          · intro c j
            by_cases z : c = 492
            · subst z; rw [rM_h, rM_h]
            · rw [sLC_n _ _ z, sLC_n _ _ z]
              show (sLC (sC ν 492 g') 492 l').2.2.1 c j = _
              rw [sLC_n _ _ z]
              rfl
        rw [hrr] at w1 w2
        refine ⟨g'', l'', ?_, w2, fun f hf => by rw [w3 f hf, rM_g, u3 f hf]⟩
        rw [u4, (u2.one hn u9 (I (C.z d))).1 hM, bs]
        simp only
        rw [if_neg (by decide), w1, bs, t17, l_mulI, I_add]
    · obtain ⟨g2, e2, F2⟩ := m2 hM
      rw [sC_C] at e2 F2
      rw [e2, bs]
      simp only
      rw [if_neg F2.ne]
      refine Or.inr ⟨_, k + 1, g2, rfl, F2, ?_⟩
      intro ν hν h9 hz'
      obtain ⟨g', l', u2, u3, u4⟩ := rfst ν hν h9 hz'
      have u9 : (rM ν g' l').2.1 492 9 = 0 := by rw [rM_g, u3 9 (by omega)]; exact h9
      obtain ⟨ν3, w1, w2, _⟩ := (u2.one hn u9 (I (C.z d))).2 hM
      refine ⟨ν3, ?_, w2, ?_⟩
      · rw [u4, w1, bs]
        simp only
        rw [if_pos trivial]
      · rw [f21 _ _ _ w1, rM_g, u3 21 (by omega)]
  · obtain ⟨g2, e2, F2⟩ := n2 hN
    rw [e2, bs]
    simp only
    rw [if_neg F2.ne]
    refine Or.inr ⟨_, k, g2, rfl, F2, ?_⟩
    intro ν hν h9 hz'
    obtain ⟨ν3, w1, w2, _⟩ := (hν.one hn h9 (I C.D)).2 hN
    refine ⟨ν3, ?_, w2, f21 _ _ _ w1⟩
    unfold fX11_readsPlace
    rw [hz'.1, w1, bs]
    simp only
    rw [if_pos trivial]
end Pe
