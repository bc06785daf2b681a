/-! WAYS: the class -/
section Cw
variable {C : Cel} {G Fd : List Itm} {pc : Nat → Int32} {k : Nat} {r : Row} {μ : Mem}
noncomputable def waysV (C : Cel) (r : Row) (x to : Nat) : Int32 := if dR C r to x = 9999 then 0 else I (pT C r to x (dR C r to x) to)
theorem isD_dR (hC : C.ok) (hs : StOK C r) {to : Nat} (hto : there C to = true) {y j : Nat} (hj : j < 9999) : IsD (adj C r) (wh C r) to y j ↔ dR C r to y = j := by
  constructor
  · exact dst_of
  · intro h
    rcases dst_wh hC hs hto y with q | q
    · have : dR C r to y = 9999 := q.1
      omega
    · rw [← h]; exact q.2
theorem pT_not {to x i y : Nat} (h : ¬ (wh C r y = true ∧ dR C r to y + (i + 1) = dR C r to x)) : pT C r to x (i + 1) y = pT C r to x i y := by
  show (if _ then _ else _) = _
  rw [if_neg h]
theorem pT_is {to x i y : Nat} (h : wh C r y = true ∧ dR C r to y + (i + 1) = dR C r to x) : pT C r to x (i + 1) y = sMn (fun z => if adj C r z y = true ∧ dR C r to z + i = dR C r to x then pT C r to x i z else 0) 48 := by
  show (if _ then _ else _) = _
  rw [if_pos h]
theorem adj_4 {s z : Nat} (h : adj C r s z = true) : z = s + 1 ∨ z = s - 1 ∨ z = s + 8 ∨ z = s - 8 := by
  unfold adj at h
  simp only [Bool.or_eq_true, Bool.and_eq_true, decide_eq_true_eq] at h
  omega
/-- one level -/
theorem w58 (hC : C.ok) (hs : StOK C r) {to x : Nat} (hto : there C to = true) {N : Mem} (hG : Gr N) (hD : GD C r 468 N) {i e : Nat} (hd : dR C r to x < 48) (he : e + (i + 1) = dR C r to x) (hL1 : Lay C r to (N.2.2.1 469 e) e) (hL2 : Lay C r to (N.2.2.1 469 (e + 1)) (e + 1)) (K : Nat → Int32 → Int32 → Mem → Option (Int32 × Mem)) :
    ∀ f s m P, s + f = 48 → f < m → (∀ y, y < 48 → P y = I (if y < s then pT C r to x (i + 1) y else pT C r to x i y)) → ∃ P', fX5_shortestWays_58 K m 468 (I to) (I e) (I s) (sC N 470 P) = K 468 (I to) (I e + (-1)) (sC N 470 P') ∧ ∀ y, y < 48 → P' y = I (pT C r to x (i + 1) y) := by
  intro f
  induction f with
  | zero =>
    intro s m P h1 h2 hP
    obtain ⟨m, rfl⟩ : ∃ z, m = z + 1 := ⟨m - 1, by omega⟩
    refine ⟨P, ?_, fun y hy => by rw [hP y hy, if_pos (by omega)]⟩
    rw [fX5_shortestWays_58, if_neg (show ¬ I s < (48 : Int32) by rw [show s = 48 by omega]; decide)]
  | succ f ih =>
    intro s m P h1 h2 hP
    obtain ⟨m, rfl⟩ : ∃ z, m = z + 1 := ⟨m - 1, by omega⟩
    have hs48 : s < 48 := by omega
    have hG1 := hG.sC 470 P
    have hlay : (sC N 470 P).2.2.1 469 = N.2.2.1 469 := rfl
    have hwb : (sC N 470 P).2.2.1 468 = N.2.2.1 468 := rfl
    rw [fX5_shortestWays_58, if_pos (show I s < (48 : Int32) by rw [show (48 : Int32) = I 48 from rfl, I_lt (by omega) (by omega)]; omega), g_468_3 hG1, bs, ld_469 (by omega), bs, hlay, hwb, show I s + (1 : Int32) = I (s + 1) from I_add s 1]
    have hm : mb (N.2.2.1 469 e &&& N.2.2.1 468 1) s = true ↔ (wh C r s = true ∧ dR C r to s + (i + 1) = dR C r to x) := by
      rw [mb_and, Bool.and_eq_true, hL1 s, isD_dR hC hs hto (by omega), hD.2.1]
      constructor
      · rintro ⟨a, b⟩; exact ⟨b, by omega⟩
      · rintro ⟨a, b⟩; exact ⟨by omega, a⟩
    by_cases ht : wh C r s = true ∧ dR C r to s + (i + 1) = dR C r to x
    · have hmt := hm.mpr ht
      rw [if_neg (by rw [and_bit0 (by omega), hmt]; decide), g_468_4 hG1, bs, bs, show I e + (1 : Int32) = I (e + 1) from I_add e 1, ld_469 (by omega), bs, hlay]
      have hths : there C s = true := (wh_iff.mp ht.1).1
      have hD1 : GD C r 468 (sC N 470 P) := hD.fr rfl
      have hM : ∀ z, mb (fX5_beside 468 (fX10_bit (I s)) (sC N 470 P) &&& N.2.2.1 469 (e + 1)) z = true ↔ (adj C r z s = true ∧ dR C r to z + i = dR C r to x) := by
        intro z
        rw [mb_and, Bool.and_eq_true, hL2 z, isD_dR hC hs hto (by omega), beside_iff hC hs hD1 (fun y hy => by rw [mb_bit (by omega)] at hy; rw [of_decide_eq_true hy]; exact hths)]
        constructor
        · rintro ⟨⟨a, y, b, c⟩, d⟩
          rw [mb_bit (by omega)] at b
          rw [of_decide_eq_true b] at c
          exact ⟨by rw [adj_symm]; exact c, by omega⟩
        · rintro ⟨a, b⟩
          rw [adj_symm] at a
          exact ⟨⟨adj_there hC hs hths a, s, by rw [mb_bit (by omega)]; exact decide_eq_true rfl, a⟩, by omega⟩
      have hM48 : ∀ z, mb (fX5_beside 468 (fX10_bit (I s)) (sC N 470 P) &&& N.2.2.1 469 (e + 1)) z = true → z < 48 := by
        intro z hz
        have := ((hM z).mp hz).1
        rw [adj_symm] at this
        exact there_lt hC (adj_there hC hs hths this)
      have hov := over_ok (μ := sC N 470 P) hG1 (T := fun y => if y < s then pT C r to x (i + 1) y else pT C r to x i y) (fun z hz => by rw [sC_s]; exact hP z hz) 4 fuel 0 0 (fX5_beside 468 (fX10_bit (I s)) (sC N 470 P) &&& N.2.2.1 469 (e + 1)) (by unfold fuel; omega) hM48 (cnt4 (a := s + 1) (b := s - 1) (c := s + 8) (d := s - 8) (fun z _ hz => adj_4 (by rw [adj_symm]; exact ((hM z).mp hz).1))) (by omega)
      have hsum : sMn (fun z => if mb (fX5_beside 468 (fX10_bit (I s)) (sC N 470 P) &&& N.2.2.1 469 (e + 1)) z = true then (if z < s then pT C r to x (i + 1) z else pT C r to x i z) else 0) 48 = pT C r to x (i + 1) s := by
        rw [pT_is ht]
        apply sMn_congr
        intro z hz
        by_cases q : adj C r z s = true ∧ dR C r to z + i = dR C r to x
        · rw [if_pos ((hM z).mpr q), if_pos q]
          split
          · exact pT_not (by omega)
          · rfl
        · rw [if_neg (fun h => q ((hM z).mp h)), if_neg q]
      rw [Nat.zero_add, hsum] at hov
      unfold fX5_pathsOver
      rw [show fX5_pathsOver_8 (sC N 470 P) fuel 468 (0 : Int32) (fX5_beside 468 (fX10_bit (I s)) (sC N 470 P) &&& N.2.2.1 469 (e + 1)) (0 : Int32) = _ from hov, bs, st_470 hs48, bs, sC_s, sC_C]
      refine ih (s + 1) m _ (by omega) (by omega) (fun y hy => ?_)
      by_cases hys : y = s
      · subst hys
        rw [up_s, if_pos (by omega)]
      · rw [up_n _ _ hys, hP y hy]
        by_cases q : y < s
        · rw [if_pos q, if_pos (by omega)]
        · rw [if_neg q, if_neg (by omega)]
    · have hmf : mb (N.2.2.1 469 e &&& N.2.2.1 468 1) s = false := by
        cases q : mb (N.2.2.1 469 e &&& N.2.2.1 468 1) s
        · rfl
        · exact absurd (hm.mp q) ht
      rw [if_pos (by rw [and_bit0 (by omega)]; exact hmf)]
      refine ih (s + 1) m P (by omega) (by omega) (fun y hy => ?_)
      rw [hP y hy]
      by_cases hys : y = s
      · subst hys
        rw [if_neg (by omega), if_pos (by omega), pT_not ht]
      · by_cases q : y < s
        · rw [if_pos q, if_pos (by omega)]
        · rw [if_neg q, if_neg (by omega)]
theorem w50 (hC : C.ok) (hs : StOK C r) {to x : Nat} (hto : there C to = true) {N : Mem} (hG : Gr N) (hD : GD C r 468 N) (hd : dR C r to x < 48) (hL : ∀ j, j ≤ dR C r to x → Lay C r to (N.2.2.1 469 j) j) :
    ∀ f i m P, i + f = dR C r to x → f < m → (∀ y, y < 48 → P y = I (pT C r to x i y)) → ∃ P', fX5_shortestWays_50 m 468 (I to) (I f - 1) (sC N 470 P) = some (I (pT C r to x (dR C r to x) to), sC N 470 P') := by
  have hto48 := there_lt hC hto
  intro f
  induction f with
  | zero =>
    intro i m P h1 h2 hP
    obtain ⟨m, rfl⟩ : ∃ z, m = z + 1 := ⟨m - 1, by omega⟩
    refine ⟨P, ?_⟩
    rw [fX5_shortestWays_50, if_pos (by decide), g_468_4 (hG.sC _ _), bs, ld_470 hto48, bs, sC_s, hP to hto48, show i = dR C r to x by omega]
  | succ f ih =>
    intro i m P h1 h2 hP
    obtain ⟨m, rfl⟩ : ∃ z, m = z + 1 := ⟨m - 1, by omega⟩
    have e1 : I (f + 1) - 1 = I f := I_sub (n := f + 1) (m := 1) (by omega)
    rw [e1, fX5_shortestWays_50, if_neg (show ¬ I f < (0 : Int32) by rw [show (0 : Int32) = I 0 from rfl, I_lt (by omega) (by omega)]; omega)]
    obtain ⟨P', u1, u2⟩ := w58 hC hs hto hG hD (i := i) (e := f) hd (by omega) (hL f (by omega)) (hL (f + 1) (by omega)) (fX5_shortestWays_50 m) 48 0 fuel P (by omega) (by unfold fuel; omega) (fun y hy => by rw [if_neg (by omega)]; exact hP y hy)
    obtain ⟨P2, v1⟩ := ih (i + 1) m P' (by omega) (by omega) u2
    refine ⟨P2, ?_⟩
    refine Eq.trans u1 ?_
    rw [show I f + (-1 : Int32) = I f - 1 from (Int32.sub_eq_add_neg (I f) 1).symm]
    exact v1
theorem w17 {to x d : Nat} {N : Mem} (hG : Gr N) (hx : x < 48) : ∀ f s m P, s + f = 48 → f < m → ∃ P', fX5_shortestWays_17 m 468 (I x) (I to) (I d) (I s) (sC N 470 P) = fX5_shortestWays_50 fuel 468 (I to) (I d - 1) (sC N 470 (up P' x 1)) ∧ (∀ y, s ≤ y → y < 48 → P' y = 0) ∧ ∀ y, y < s → P' y = P y := by
  intro f
  induction f with
  | zero =>
    intro s m P h1 h2
    obtain ⟨m, rfl⟩ : ∃ z, m = z + 1 := ⟨m - 1, by omega⟩
    refine ⟨P, ?_, fun y a b => by omega, fun y _ => rfl⟩
    rw [fX5_shortestWays_17, if_neg (show ¬ I s < (48 : Int32) by rw [show s = 48 by omega]; decide), g_468_4 (hG.sC _ _), bs, st_470 hx, bs, sC_s, sC_C]
  | succ f ih =>
    intro s m P h1 h2
    obtain ⟨m, rfl⟩ : ∃ z, m = z + 1 := ⟨m - 1, by omega⟩
    obtain ⟨P', u1, u2, u3⟩ := ih (s + 1) m (up P s 0) (by omega) (by omega)
    refine ⟨P', ?_, fun y a b => ?_, fun y a => ?_⟩
    · rw [fX5_shortestWays_17, if_pos (show I s < (48 : Int32) by rw [show (48 : Int32) = I 48 from rfl, I_lt (by omega) (by omega)]; omega), g_468_4 (hG.sC _ _), bs, st_470 (by omega), bs, sC_s, sC_C, show I s + (1 : Int32) = I (s + 1) from I_add s 1]
      exact u1
    · by_cases q : y = s
      · rw [u3 y (by omega), q, up_s]
      · exact u2 y (by omega) b
    · rw [u3 y (by omega), up_n _ _ (by omega)]
theorem c_ways (hI : INV C G Fd pc k r μ) (a b : Int32) : CQ (fX10_ways 0 a b μ) μ (codeXX C a b true) (valXX C a b (fun x y => waysV C r x y)) := by
  have hC := hI.2.1
  have hs := hI.2.2.2.2.2.2.2.2.1.1.1
  unfold fX10_ways codeXX valXX
  rw [inside_ok hI, bs]
  cases hp : plc C a with
  | none => exact ⟨μ, FrB.refl _ _ μ, Or.inr (Or.inl ⟨rfl, rfl⟩)⟩
  | some x =>
    simp only
    rw [inside_ok hI, bs]
    cases hq : plc C b with
    | none => exact ⟨μ, FrB.refl _ _ μ, Or.inr (Or.inl ⟨rfl, rfl⟩)⟩
    | some to =>
      simp only
      have hx := plc_there hC hp
      have hto := plc_there hC hq
      have hx48 := there_lt hC hx
      obtain ⟨L0, e, f1, f2⟩ := here_ok hI
      have hG1 := f1.gr hI.1
      obtain ⟨L, e2, g1, g2, g3⟩ := cfar_ok hG1 hC hs f2 hx hto
      have hG2 := g1.gr hG1
      rw [e, bs]
      simp only
      unfold fX5_shortestWays waysV
      rw [e2, bs]
      simp only
      unfold farV
      rcases dR_le hI hto x with q | q
      · rw [if_neg (show ¬ dR C r to x = 9999 by omega), if_neg (show ¬ I (dR C r to x) = (-1 : Int32) from I_m1 (by omega)), if_neg (show ¬ dR C r to x = 9999 by omega)]
        have hN : sC (sLC (sLC μ 468 L0) 469 L) 470 ((sLC (sLC μ 468 L0) 469 L).2.1 470) = sLC (sLC μ 468 L0) 469 L := sC_same _ _
        obtain ⟨P', u1, u2, _⟩ := w17 (to := to) (x := x) (d := dR C r to x) hG2 hx48 48 0 fuel ((sLC (sLC μ 468 L0) 469 L).2.1 470) (by omega) (by unfold fuel; omega)
        rw [hN] at u1
        obtain ⟨P2, v1⟩ := w50 hC hs hto hG2 g2 q (fun j hj => by rw [sLC_s]; exact g3 (by omega) j hj) (dR C r to x) 0 fuel (up P' x 1) (by omega) (by unfold fuel; omega) (fun y hy => by
          show _ = I (if y = x then 1 else 0)
          by_cases z : y = x
          · rw [z, up_s, if_pos rfl]; rfl
          · rw [up_n _ _ z, if_neg z, u2 y (by omega) hy]; rfl)
        refine ⟨_, (f1.trans g1).trans (FrI.b (FrI.c (L := LC) (L2 := L2C) (sLC (sLC μ 468 L0) 469 L) P2 (by decide : 470 ∈ LC)) (fun _ h => h) (fun _ h => h)), Or.inl ⟨rfl, ?_⟩⟩
        rw [show fX5_shortestWays_17 fuel 468 (I x) (I to) (I (dR C r to x)) (0 : Int32) (sLC (sLC μ 468 L0) 469 L) = _ from u1, v1, bs]
      · rw [if_pos q, if_pos rfl, if_pos q]
        exact ⟨_, f1.trans g1, Or.inl ⟨rfl, rfl⟩⟩
end Cw
