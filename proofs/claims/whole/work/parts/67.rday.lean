/-! THE REFERENCE: what holds through a day; goes, fades -/
def vmG (w : Nat) : Nat := [0, 1, 2, 4, 3, 5].getD w 0
def vmF (w : Nat) : Nat := [6, 7, 8, 4, 5].getD w 0
def Cok (nv : Nat) (l : List Itm) : Prop := (∀ t ∈ l, iok nv t) ∧ l.length ≤ 700 ∧ (l ≠ [] → Hok l 0 1)
def RKo (c : Row) (f : Int32) (vm : Nat → Nat) (l : List Itm) : Prop := (l = [] ∧ f = -1) ∨ (l ≠ [] ∧ ∃ k, k < 1400 ∧ f = I k ∧ RCd c vm k l)
def RK (G Fd : List Itm) (μ : Mem) : Prop := RKo (μ.2.1 494) (μ.2.1 492 3) vmG G ∧ RKo (μ.2.1 494) (μ.2.1 492 4) vmF Fd ∧ Cok 6 G ∧ Cok 5 Fd
def ldR7 : List Nat := [492, 502, 504, 505, 506, 507, 508]
def FrD (μ ν : Mem) : Prop := ν.1 = μ.1 ∧ ν.2.2 = μ.2.2 ∧ (∀ c, c ∉ ldR7 → ν.2.1 c = μ.2.1 c) ∧ (∀ f, f ≠ 42 → f ≠ 43 → ν.2.1 492 f = μ.2.1 492 f)
/-- a day's work on the row at b -/
def RD (b : Nat) (μ ν : Mem) : Prop := FrD μ ν ∧ ∀ k, k < b ∨ b + 79 ≤ k → ν.2.1 502 k = μ.2.1 502 k
theorem RD.refl (b : Nat) (μ : Mem) : RD b μ μ := ⟨⟨rfl, rfl, fun _ _ => rfl, fun _ _ _ => rfl⟩, fun _ _ => rfl⟩
theorem RD.trans {b : Nat} {μ ν ξ : Mem} (h : RD b μ ν) (h' : RD b ν ξ) : RD b μ ξ :=
  ⟨⟨h'.1.1.trans h.1.1, h'.1.2.1.trans h.1.2.1, fun c hc => (h'.1.2.2.1 c hc).trans (h.1.2.2.1 c hc), fun f h1 h2 => (h'.1.2.2.2 f h1 h2).trans (h.1.2.2.2 f h1 h2)⟩, fun k hk => (h'.2 k hk).trans (h.2 k hk)⟩
theorem RD.c {b c : Nat} (μ : Mem) (g : Row) (hc : c ∈ [504, 505, 506, 507, 508]) : RD b μ (sC μ c g) := by
  have h1 : c ∈ ldR7 := by
    unfold ldR7
    simp only [List.mem_cons, List.not_mem_nil, or_false] at hc ⊢
    omega
  have h2 : c ≠ 492 ∧ c ≠ 502 := by
    simp only [List.mem_cons, List.not_mem_nil, or_false] at hc
    omega
  refine ⟨⟨rfl, rfl, fun d hd => sC_n μ g (fun e => hd (e ▸ h1)), fun f _ _ => by rw [sC_n μ g (fun e => h2.1 e.symm)]⟩, fun k _ => by rw [sC_n μ g (fun e => h2.2 e.symm)]⟩
theorem RD.row {b k : Nat} (μ : Mem) (v : Int32) (h1 : b ≤ k) (h2 : k < b + 79) : RD b μ (sC μ 502 (up (μ.2.1 502) k v)) := by
  refine ⟨⟨rfl, rfl, fun d hd => sC_n μ _ (fun e => hd (e ▸ by decide)), fun f _ _ => by rw [sC_n μ _ (by decide)]⟩, ?_⟩
  intro j hj
  rw [sC_s, up_n _ _ (by omega)]
theorem RD.f {b f : Nat} (μ : Mem) (v : Int32) (hf : f = 42 ∨ f = 43) : RD b μ (sC μ 492 (up (μ.2.1 492) f v)) := by
  refine ⟨⟨rfl, rfl, fun d hd => sC_n μ _ (fun e => hd (e ▸ by decide)), ?_⟩, fun k _ => by rw [sC_n μ _ (by decide)]⟩
  intro g h1 h2
  rw [sC_s, up_n _ _ (by omega)]
theorem RD.rc {b : Nat} {C : Cel} {μ ν : Mem} (h : RD b μ ν) (hR : RC C μ) : RC C ν :=
  hR.fr h.1.1 (by rw [h.1.2.1]) (h.1.2.2.2 1 (by decide) (by decide)) (h.1.2.2.2 2 (by decide) (by decide)) (h.1.2.2.1 493 (by decide))
theorem RD.rk {b : Nat} {G Fd : List Itm} {μ ν : Mem} (h : RD b μ ν) (hR : RK G Fd μ) : RK G Fd ν := by
  unfold RK
  rw [h.1.2.2.1 494 (by decide), h.1.2.2.2 3 (by decide) (by decide), h.1.2.2.2 4 (by decide) (by decide)]
  exact hR
theorem RC.c {C : Cel} {μ : Mem} (h : RC C μ) {c : Nat} (g : Row) (h1 : c ≠ 492) (h2 : c ≠ 493) : RC C (sC μ c g) :=
  h.fr rfl rfl (by rw [sC_n μ g (fun e => h1 e.symm)]) (by rw [sC_n μ g (fun e => h1 e.symm)]) (sC_n μ g (fun e => h2 e.symm))
theorem rwb_c (μ : Mem) {c : Nat} (g : Row) (h : c ≠ 502) (b : Nat) : rwb (sC μ c g) b = rwb μ b := by
  funext k
  unfold rwb
  rw [sC_n μ g (fun e => h e.symm)]
theorem rwb_up (μ : Mem) (b k : Nat) (v : Int32) : rwb (sC μ 502 (up (μ.2.1 502) (b + k) v)) b = up (rwb μ b) k v := by
  funext j
  unfold rwb
  rw [sC_s]
  unfold up
  by_cases e : j = k
  · subst e; simp
  · rw [if_neg (by omega), if_neg e]
theorem st_504l {μ : Mem} {n : Nat} {x : Int32} (h : (OfNat.ofNat n : Nat) < 9) : stI μ 504 (no_index (OfNat.ofNat n) : Int32) x = some (sC μ 504 (up (μ.2.1 504) (OfNat.ofNat n) x)) := st_504 h
theorem isGoing_ok {C : Cel} {G Fd : List Itm} {μ : Mem} (h : RC C μ) (hk : RK G Fd μ) {b p m x d : Nat} (hb : b ≤ 79) (hp : p < C.P) (hx : rwb μ b (55 + p) = I x) (hx48 : x < 48) (hd : μ.2.1 506 x = I d) :
    ∃ T Q, fX11_isGoing 492 (I b) (I p) (I m) μ = some (if goOn C G (rwb μ b) p m d = true then 1 else 0, sC (sC μ 504 T) 505 Q) := by
  have hG := h.1
  have hP := h.2.1.2.1
  unfold fX11_isGoing
  rcases hk.1 with ⟨hg, hf⟩ | ⟨hg, k, hk1, hf, hr⟩
  · rw [hf, if_pos rfl]
    refine ⟨μ.2.1 504, μ.2.1 505, ?_⟩
    rw [sC_same, sC_same]
    subst hg
    rfl
  · rw [hf, if_neg (I_m1 (by omega))]
    have hx' : μ.2.1 502 (b + (55 + p)) = I x := hx
    have hst : ∀ (T : Row) (v : Int32), fX11_standAt 492 (I b) v (sC μ 504 T) = some (cntI (fun q => rwb μ b (55 + q)) v C.P) := by
      intro T v
      rw [standAt_ok (h.c T (by decide) (by decide)) hb v, rwb_c μ T (by decide)]
    have h492 : ∀ T : Row, (sC μ 504 T).2.1 492 3 = I k := by
      intro T
      rw [sC_n μ T (by decide), hf]
    simp (disch := omega) only [bs, gC, g_492_37 hG, g_492_34 hG, g_492_39 hG, I_addl, I_add, ld_502, ld_506, st_504l, sC_C, sC_row, Nat.add_assoc, Nat.add_zero, reduceIte, hx', hd, hst, Nat.reduceEqDiff, hf]
    obtain ⟨Q, e⟩ := reckons_ok (μ := sC μ 504 (up (up (up (up (up (up (μ.2.1 504) 0 (μ.2.1 502 (b + (73 + p)))) 1 (I m)) 2 (I d)) 3 (μ.2.1 502 (b + (67 + p)))) 4 (cntI (fun q => rwb μ b (55 + q)) (I x) C.P - 1)) 5 (μ.2.1 502 b))) (hG.sC _ _) (vm := vmG) (nv := 6) (vals := gvals C (rwb μ b) p m d) (l := G) (k := k)
      (by
        intro w hw
        have hw6 : w = 0 ∨ w = 1 ∨ w = 2 ∨ w = 3 ∨ w = 4 ∨ w = 5 := by omega
        rw [sC_s]
        unfold gvals
        rcases hw6 with rfl | rfl | rfl | rfl | rfl | rfl
        · exact ⟨by decide, rfl⟩
        · exact ⟨by decide, rfl⟩
        · exact ⟨by decide, rfl⟩
        · refine ⟨by decide, ?_⟩
          simp only
          rw [hx]
          rfl
        · exact ⟨by decide, rfl⟩
        · exact ⟨by decide, rfl⟩)
      (by have := hk.2.2.1.2.1; omega) (by rw [sC_n μ _ (by decide)]; exact hr) hk.2.2.1.1 (hk.2.2.1.2.2 hg)
    rw [e]
    refine ⟨up (up (up (up (up (up (μ.2.1 504) 0 (μ.2.1 502 (b + (73 + p)))) 1 (I m)) 2 (I d)) 3 (μ.2.1 502 (b + (67 + p)))) 4 (cntI (fun q => rwb μ b (55 + q)) (I x) C.P - 1)) 5 (μ.2.1 502 b), Q, ?_⟩
    simp only [bs]
    have hgo : goOn C G (rwb μ b) p m d = decide (0 < evV (gvals C (rwb μ b) p m d) G) := by
      unfold goOn
      cases G with
      | nil => exact absurd rfl hg
      | cons t l => rfl
    rw [hgo]
    by_cases q : 0 < evV (gvals C (rwb μ b) p m d) G
    · rw [if_pos q, if_pos (decide_eq_true q)]
    · rw [if_neg q, if_neg (fun h => q (of_decide_eq_true h))]
theorem fadesBy_ok {C : Cel} {G Fd : List Itm} {μ : Mem} (h : RC C μ) (hk : RK G Fd μ) {b x : Nat} (hb : b ≤ 79) (hx48 : x < 48) :
    ∃ T Q, fX11_fadesBy 492 (I b) (I x) μ = some (fadeBy C Fd (rwb μ b) x, sC (sC μ 504 T) 505 Q) := by
  have hG := h.1
  unfold fX11_fadesBy fadeBy
  rcases hk.2.1 with ⟨hg, hf⟩ | ⟨hg, k, hk1, hf, hr⟩
  · rw [hf, if_pos rfl]
    refine ⟨μ.2.1 504, μ.2.1 505, ?_⟩
    rw [sC_same, sC_same]
    subst hg
    simp (disch := omega) only [bs, g_492_34 hG, I_addl, Nat.add_zero, ld_502]
    rw [if_pos (show List.isEmpty ([] : List Itm) = true from rfl)]
    show (if μ.2.1 502 b - μ.2.1 502 b / 5 * 5 = 4 then _ else _) = some ((if μ.2.1 502 (b + 0) - μ.2.1 502 (b + 0) / 5 * 5 = 4 then 1 else 0), μ)
    rw [Nat.add_zero]
    split <;> rfl
  · rw [hf, if_neg (I_m1 (by omega))]
    have hst : ∀ (T : Row) (v : Int32), fX11_standAt 492 (I b) v (sC μ 504 T) = some (cntI (fun q => rwb μ b (55 + q)) v C.P) := by
      intro T v
      rw [standAt_ok (h.c T (by decide) (by decide)) hb v, rwb_c μ T (by decide)]
    simp (disch := omega) only [bs, gC, g_492_37 hG, g_492_34 hG, I_addl, I_add, I_divl, I_md, ld_502, st_504l, sC_C, sC_row, Nat.add_assoc, Nat.add_zero, reduceIte, hst, Nat.reduceEqDiff, hf]
    obtain ⟨Q, e⟩ := reckons_ok (μ := sC μ 504 (up (up (up (up (up (μ.2.1 504) 6 (μ.2.1 502 (b + (1 + x)))) 7 (I (x % 8))) 8 (I (x / 8))) 4 (cntI (fun q => rwb μ b (55 + q)) (I x) C.P)) 5 (μ.2.1 502 b))) (hG.sC _ _) (vm := vmF) (nv := 5) (vals := fvals C (rwb μ b) x) (l := Fd) (k := k)
      (by
        intro w hw
        have hw6 : w = 0 ∨ w = 1 ∨ w = 2 ∨ w = 3 ∨ w = 4 := by omega
        rw [sC_s]
        unfold fvals
        rcases hw6 with rfl | rfl | rfl | rfl | rfl
        · exact ⟨by decide, rfl⟩
        · exact ⟨by decide, rfl⟩
        · exact ⟨by decide, rfl⟩
        · exact ⟨by decide, rfl⟩
        · exact ⟨by decide, rfl⟩)
      (by have := hk.2.2.2.2.1; omega) (by rw [sC_n μ _ (by decide)]; exact hr) hk.2.2.2.1 (hk.2.2.2.2.2 hg)
    rw [e]
    refine ⟨up (up (up (up (up (μ.2.1 504) 6 (μ.2.1 502 (b + (1 + x)))) 7 (I (x % 8))) 8 (I (x / 8))) 4 (cntI (fun q => rwb μ b (55 + q)) (I x) C.P)) 5 (μ.2.1 502 b), Q, ?_⟩
    simp only [bs]
    rw [if_neg (show ¬ Fd.isEmpty = true by cases Fd with
      | nil => exact absurd rfl hg
      | cons t l => exact Bool.false_ne_true)]
