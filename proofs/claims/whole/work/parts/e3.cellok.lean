/-! THE CELLAR: taken by the class -/
section Co
variable {C : Cel} {G Fd : List Itm} {pc : Nat → Int32} {k : Nat} {r : Row} {μ : Mem}
theorem ccell_ok (hI : INV C G Fd pc k r μ) {n t q : Nat} (hqk : q = 20 - k) (ht : t ≤ 700) (hnt : n ≤ t) (h01 : μ.2.1 0 1 = I t) {μ' : Mem} (e : fX6_read 31 1 (I n) q μ = some (0, μ')) (f1 : μ'.1 = μ.1) (f2 : ∀ c f, c ≠ 31 → μ'.2.2.2 c f = μ.2.2.2 c f) (f3 : ∀ c, c ≠ 31 → c < q ∨ q + 14 ≤ c → μ'.2.1 c = μ.2.1 c) (f4 : ∀ c, c < q ∨ q + 14 ≤ c → μ'.2.2.1 c = μ.2.2.1 c) (h31 : μ'.2.1 31 1 = -1) {C' : Cel} {r' : Row} (S : SH C' r' (q + 9) μ') :
    ∃ Y, fX10_cellar 0 (I n) μ = some (.inl 0, Y) ∧ SH C' r' 33 Y ∧ Y.1 = μ.1 ∧ Y.2.2.2 0 4 = some q ∧ Y.2.2.2 0 5 = some k ∧ Gr Y ∧ (∀ c, q ≤ c → c < q + 14 → Y.2.1 c = μ'.2.1 c ∧ Y.2.2.1 c = μ'.2.2.1 c) ∧ (∀ c, 244 ≤ c ∨ c = 1 ∨ c = 2 → Y.2.1 c = μ.2.1 c) ∧ Y.2.1 38 0 = 0 ∧ Y.2.1 38 1 = 0 ∧ Y.2.1 240 0 = 0 ∧ Y.2.1 0 1 = 0 ∧ Y.2.1 0 2 = -1 ∧ Y.2.1 0 10 = 0 := by
  have hk := hI.2.2.1
  have hq : q = 3 ∨ q = 17 := by omega
  have hG' : Gr μ' := ⟨f1.trans hI.1.1, fun x hx => by rw [f2 _ _ (gfix_31 x hx)]; exact hI.1.2 x hx⟩
  have kk : (kd k).1 = 11 := by rcases hk with z | z <;> subst z <;> decide +kernel
  have kq : (kd q).1 = 11 := by rcases hq with z | z <;> subst z <;> decide +kernel
  have hs : q + 9 ∈ stA := by rcases hq with rfl | rfl <;> decide
  have r4 : μ'.2.2.2 0 4 = some k := by rw [f2 _ _ (by decide)]; exact hI.2.2.2.1
  have r5 : μ'.2.2.2 0 5 = some q := by rw [f2 _ _ (by decide), hqk]; exact hI.2.2.2.2.1
  have hpre := cell_pre hI ht hnt h01 (hqk ▸ e) hG'
  simp only at hpre
  rw [if_pos trivial, h31] at hpre
  generalize hZ : sC μ' 0 (up (up (μ'.2.1 0) 1 0) 2 (-1)) = Z at hpre
  have z1 : Z.1 = μ'.1 := by rw [← hZ]; rfl
  have z2 : Z.2.2 = μ'.2.2 := by rw [← hZ]; rfl
  have z3 : ∀ c, c ≠ 0 → Z.2.1 c = μ'.2.1 c := fun c hc => by rw [← hZ, sC_n _ _ hc]
  have z0 : Z.2.1 0 = up (up (μ'.2.1 0) 1 0) 2 (-1) := by rw [← hZ, sC_s]
  have hG1 : Gr (sR (sR Z 0 4 (some q)) 0 5 (some k)) := by
    refine ⟨z1.trans hG'.1, fun x hx => ?_⟩
    have := gfix_04 x hx
    rw [sR_rn _ _ _ _ (by omega), sR_rn _ _ _ _ (by omega), z2]
    exact hG'.2 x hx
  have y4 : (sR (sR Z 0 4 (some q)) 0 5 (some k)).2.2.2 0 4 = some q := by rw [sR_rn _ _ _ _ (by omega), sR_rr]
  have y5 : (sR (sR Z 0 4 (some q)) 0 5 (some k)).2.2.2 0 5 = some k := sR_rr _ _ _ _
  have yi : (sR (sR Z 0 4 (some q)) 0 5 (some k)).2.1 = Z.2.1 := rfl
  have yl : (sR (sR Z 0 4 (some q)) 0 5 (some k)).2.2.1 = Z.2.2.1 := rfl
  have y1 : (sR (sR Z 0 4 (some q)) 0 5 (some k)).1 = Z.1 := rfl
  rw [gR_set (by rw [z2]; exact r4) kk, bs, gR_set (by rw [z2]; exact r5) kq, bs, bs, bs] at hpre
  generalize sR (sR Z 0 4 (some q)) 0 5 (some k) = Z1 at hpre hG1 y4 y5 yi yl y1
  obtain ⟨Z2, c1, c2, c3⟩ := copyFrom_ok hG1 a33 hs (Or.inr (by omega)) (S.fr5 (ν := Z1) (fun c a b => by rw [yi]; exact z3 c (by omega)) (by rw [yl, z2]))
  have F := FrO.of c2
  have hG2 := F.gr hG1
  rw [g_0_7 hG1, bs, gR_set y4 kq, bs, (cel_g hG1 hq).2.2.2.2.1, bs, c1, bs, g_0_8 hG2, bs] at hpre
  unfold fX0_drop fX8_drop at hpre
  rw [bs, bs, sI_C, sI_C, sC_s, sC_C, bs, g_0_9 (hG2.sC _ _), bs, bs, sI_C, bs, bs, sI_C, sC_n _ _ (by decide : (240 : Nat) ≠ 38), sC_n _ _ (by decide : (0 : Nat) ≠ 240), sC_n _ _ (by decide : (0 : Nat) ≠ 38)] at hpre
  have w0 : Z2.2.1 0 = up (up (μ'.2.1 0) 1 0) 2 (-1) := by rw [F.2.2.1 0 (by omega), yi, z0]
  refine ⟨_, hpre, ?_, ?_, ?_, ?_, ?_, ?_, ?_, ?_, ?_, ?_, ?_, ?_, ?_⟩
  · exact c3.fr5 (fun c a b => by rw [sC_n _ _ (by omega), sC_n _ _ (by omega), sC_n _ _ (by omega)]) rfl
  · show Z2.1 = _
    rw [F.1, y1, z1, f1]
  · show Z2.2.2.2 0 4 = _
    rw [F.2.1]; exact y4
  · show Z2.2.2.2 0 5 = _
    rw [F.2.1]; exact y5
  · exact ((hG2.sC _ _).sC _ _).sC _ _
  · intro c a b
    constructor
    · rw [sC_n _ _ (by omega), sC_n _ _ (by omega), sC_n _ _ (by omega), F.2.2.1 c (by omega), yi]; exact z3 c (by omega)
    · show Z2.2.2.1 c = _
      rw [F.2.2.2 c (by omega), yl, z2]
  · intro c a
    rw [sC_n _ _ (by omega), sC_n _ _ (by omega), sC_n _ _ (by omega), F.2.2.1 c (by omega), yi, z3 c (by omega)]
    exact f3 c (by omega) (by omega)
  · rw [sC_n _ _ (by decide), sC_n _ _ (by decide), sC_s, up_n _ _ (by decide), up_s]
  · rw [sC_n _ _ (by decide), sC_n _ _ (by decide), sC_s, up_s]
  · rw [sC_n _ _ (by decide), sC_s, up_s]
  · rw [sC_s, up_n _ _ (by decide), w0, up_n _ _ (by decide), up_s]
  · rw [sC_s, up_n _ _ (by decide), w0, up_s]
  · rw [sC_s, up_s]
/-- what both have when a cellar is taken -/
theorem cell_inv {C' : Cel} {G' Fd' : List Itm} {pc' : Nat → Int32} {r' : Row} {q j n : Nat} {B : Nat → Nat} {μ' Y ν0 ν' : Mem} (hq : q = 3 ∨ q = 17) (hn : n ≤ 700)
    (hE : CE C' G' Fd' pc' q μ') (hA : AI C' pc' r') (hj : j ≤ n) (hS : SH C' r' 33 Y) (r4 : Y.2.2.2 0 4 = some q) (r5 : Y.2.2.2 0 5 = some (20 - q)) (hGY : Gr Y) (hc : ∀ c, q ≤ c → c < q + 14 → Y.2.1 c = μ'.2.1 c ∧ Y.2.2.1 c = μ'.2.2.1 c) (h38 : Y.2.1 38 0 = 0) (h38' : Y.2.1 38 1 = 0) (h240 : Y.2.1 240 0 = 0) (h01 : Y.2.1 0 1 = 0) (h02 : Y.2.1 0 2 = -1) (h010 : Y.2.1 0 10 = 0) (hR : ∀ i, i < 3 → Y.2.1 2 i = Y.2.1 496 i) (g41 : Y.2.1 492 41 = -1) (g45 : Y.2.1 492 45 = 0)
    (hν0 : ν0 = sC (sLC Y 518 (up (Y.2.2.1 518) 0 (Int32.toInt64 0))) 492 (gCl n (Y.2.1 492))) (hν : RLs B n ν0 j C' G' Fd' r' ν') :
    INV C' G' Fd' pc' q r' (sC (sC (sC (sC (sC ν' 492 (up (up (up (up (ν'.2.1 492) 1 (I C'.D)) 2 (I C'.P)) 3 (ν'.2.1 492 22)) 4 (ν'.2.1 492 23))) 493 (cpF 6 (ν'.2.1 497) (ν'.2.1 493))) 494 (cpF 1400 (ν'.2.1 499) (ν'.2.1 494))) 502 (cpF 79 (ν'.2.1 498) (ν'.2.1 502))) 492 (up (up (up (up (up (up (up (ν'.2.1 492) 1 (I C'.D)) 2 (I C'.P)) 3 (ν'.2.1 492 22)) 4 (ν'.2.1 492 23)) 36 0) 49 0) 54 0)) := by
  obtain ⟨⟨hX, hTg, F⟩, h9, D1, D2, D3, D4, t, D5, D6, D7, D8⟩ := hν
  have hD6 := hA.1.1
  generalize hξ : sC (sC (sC (sC (sC ν' 492 (up (up (up (up (ν'.2.1 492) 1 (I C'.D)) 2 (I C'.P)) 3 (ν'.2.1 492 22)) 4 (ν'.2.1 492 23))) 493 (cpF 6 (ν'.2.1 497) (ν'.2.1 493))) 494 (cpF 1400 (ν'.2.1 499) (ν'.2.1 494))) 502 (cpF 79 (ν'.2.1 498) (ν'.2.1 502))) 492 (up (up (up (up (up (up (up (ν'.2.1 492) 1 (I C'.D)) 2 (I C'.P)) 3 (ν'.2.1 492 22)) 4 (ν'.2.1 492 23)) 36 0) 49 0) 54 0) = ξ
  have i492 : ξ.2.1 492 = up (up (up (up (up (up (up (ν'.2.1 492) 1 (I C'.D)) 2 (I C'.P)) 3 (ν'.2.1 492 22)) 4 (ν'.2.1 492 23)) 36 0) 49 0) 54 0 := by rw [← hξ, sC_s]
  have i502 : ξ.2.1 502 = cpF 79 (ν'.2.1 498) (ν'.2.1 502) := by rw [← hξ, sC_n _ _ (by decide), sC_s]
  have i494 : ξ.2.1 494 = cpF 1400 (ν'.2.1 499) (ν'.2.1 494) := by rw [← hξ, sC_n _ _ (by decide), sC_n _ _ (by decide), sC_s]
  have i493 : ξ.2.1 493 = cpF 6 (ν'.2.1 497) (ν'.2.1 493) := by rw [← hξ, sC_n _ _ (by decide), sC_n _ _ (by decide), sC_n _ _ (by decide), sC_s]
  have iO : ∀ c, c ≠ 492 → c ≠ 493 → c ≠ 494 → c ≠ 502 → ξ.2.1 c = ν'.2.1 c := fun c b1 b2 b3 b4 => by rw [← hξ, sC_n _ _ b1, sC_n _ _ b4, sC_n _ _ b3, sC_n _ _ b2, sC_n _ _ b1]
  have i22 : ξ.2.2 = ν'.2.2 := by rw [← hξ]; rfl
  have i1 : ξ.1 = ν'.1 := by rw [← hξ]; rfl
  clear hξ
  have n1 : ν0.1 = Y.1 := by rw [hν0]; rfl
  have nr : ν0.2.2.2 = Y.2.2.2 := by rw [hν0]; rfl
  have n492 : ν0.2.1 492 = gCl n (Y.2.1 492) := by rw [hν0, sC_s]
  have ni : ∀ c, c ≠ 492 → ν0.2.1 c = Y.2.1 c := fun c b => by rw [hν0, sC_n _ _ b, sLC_i]
  have nl : ∀ c, c ≠ 518 → ν0.2.2.1 c = Y.2.2.1 c := fun c b => by rw [hν0]; exact sLC_n _ _ b
  have lo : ∀ c, c < 492 → ξ.2.1 c = Y.2.1 c ∧ ξ.2.2.1 c = Y.2.2.1 c := by
    intro c b
    constructor
    · rw [iO c (by omega) (by omega) (by omega) (by omega), F.2.2.1 c (by omega) (by omega), ni c (by omega)]
    · rw [i22, F.2.2.2.1 c (by omega), nl c (by omega)]
  have rr : ξ.2.2.2 = Y.2.2.2 := by rw [i22, F.2.1, nr]
  have hG : Gr ξ := hGY.r (by rw [i1, F.1, n1]) rr
  have fk : ∀ f, 29 ≤ f → f ≠ 36 → f ≠ 49 → f ≠ 54 → ξ.2.1 492 f = Y.2.1 492 f := by
    intro f b1 b2 b3 b4
    rw [i492, up_n _ _ b4, up_n _ _ b3, up_n _ _ b2, up_n _ _ (by omega), up_n _ _ (by omega), up_n _ _ (by omega), up_n _ _ (by omega), F.2.2.2.2.1 f (by omega), n492, gCl_n _ _ (by simp; omega)]
  have f10 : ξ.2.1 492 10 = -1 := by
    rw [i492, up_n _ _ (by decide), up_n _ _ (by decide), up_n _ _ (by decide), up_n _ _ (by decide), up_n _ _ (by decide), up_n _ _ (by decide), up_n _ _ (by decide), (F.2.2.2.2.2 h9).2, n492]
    rfl
  have f8 : ξ.2.1 492 8 = 0 := by
    rw [i492, up_n _ _ (by decide), up_n _ _ (by decide), up_n _ _ (by decide), up_n _ _ (by decide), up_n _ _ (by decide), up_n _ _ (by decide), up_n _ _ (by decide), F.2.2.2.2.1 8 (by omega), n492]
    rfl
  refine ⟨hG, hA.1, hq, by rw [rr]; exact r4, by rw [rr]; exact r5, ?_, ⟨hG, hA.1, ?_, ?_, ?_⟩, ⟨?_, ?_, hE.2.2.2.2.2.2.2.2.2.1, hE.2.2.2.2.2.2.2.2.2.2⟩, hA.2.1, hS.fr5 (fun c a b => (lo c (by omega)).1) (lo 33 (by omega)).2, ?_, ⟨0, 0, by omega, by omega, ?_, ?_, ?_, fun i hi => absurd hi (Nat.not_lt_zero i)⟩, ⟨0, by omega, ?_, ?_, fun i hi => absurd hi (Nat.not_lt_zero i)⟩, Or.inl ⟨?_, ?_⟩, ⟨0, by omega, ?_, ?_, fun i hi => absurd hi (Nat.not_lt_zero i)⟩, ?_, ?_, ?_, ?_⟩
  · have cc : ∀ c, q ≤ c → c < q + 14 → ξ.2.1 c = μ'.2.1 c := fun c a b => (lo c (by omega)).1.trans (hc c a b).1
    exact hE.fr (cc _ (by omega) (by omega)) ((lo q (by omega)).2.trans (hc q (by omega) (by omega)).2) (cc _ (by omega) (by omega)) (cc _ (by omega) (by omega)) (cc _ (by omega) (by omega)) (cc _ (by omega) (by omega)) (cc _ (by omega) (by omega)) (cc _ (by omega) (by omega))
  · rw [i492, up_n _ _ (by decide), up_n _ _ (by decide), up_n _ _ (by decide), up_n _ _ (by decide), up_n _ _ (by decide), up_n _ _ (by decide), up_s]
  · rw [i492, up_n _ _ (by decide), up_n _ _ (by decide), up_n _ _ (by decide), up_n _ _ (by decide), up_n _ _ (by decide), up_s]
  · intro d hd
    rw [i493, cpF_in _ _ (by omega)]
    exact D3 d hd
  · rw [i492, up_n _ _ (by decide), up_n _ _ (by decide), up_n _ _ (by decide), up_n _ _ (by decide), up_s]
    exact D7.rko (by omega) (fun i hi => by rw [i494, cpF_in _ _ hi])
  · rw [i492, up_n _ _ (by decide), up_n _ _ (by decide), up_n _ _ (by decide), up_s]
    exact D8.rko (by omega) (fun i hi => by rw [i494, cpF_in _ _ hi])
  · intro i hi
    unfold rwb
    rw [Nat.zero_add, i502, cpF_in _ _ hi]
    exact D4 i hi
  · rw [(lo 38 (by omega)).1]; exact h38
  · rw [(lo 38 (by omega)).1]; exact h38'
  · rw [i492, up_n _ _ (by decide), up_n _ _ (by decide), up_s]; rfl
  · rw [(lo 240 (by omega)).1]; exact h240
  · rw [i492, up_n _ _ (by decide), up_s]; rfl
  · rw [(lo 0 (by omega)).1]; exact h010
  · rw [i492, up_s]
  · rw [(lo 0 (by omega)).1]; exact h01
  · exact f8
  · rw [(lo 0 (by omega)).1, h02, f10]
  · intro i hi
    rw [(lo 2 (by omega)).1, iO 496 (by decide) (by decide) (by decide) (by decide), F.2.2.1 496 (by decide) (by omega), ni 496 (by decide)]
    exact hR i hi
  · rw [fk 41 (by omega) (by decide) (by decide) (by decide)]; exact g41
  · rw [fk 45 (by omega) (by decide) (by decide) (by decide)]; exact g45
end Co
