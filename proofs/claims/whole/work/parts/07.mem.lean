/-! RULES of J: fields and arrays -/
def FLink (own : String) (idx c f : Nat) : Prop := f < nfOf c ∧ ∃ q : vw_C, clss[c]? = some q ∧ Cond.fieldLink own idx (q.2.1 f).1 (q.2.1 f).2.1 (q.2.1 f).2.2.1 ∈ lw_tbl
/-- what is so of each class of ours -/
def ClOK (c : Nat) (q : vw_C) : Prop := (∀ w ∈ u_ws q.1 q.2.1 q.2.2, w ∈ lw_tbl) ∧ ((u_ws q.1 q.2.1 q.2.2).all goodWord = true) ∧ (∀ k, k < q.2.2 → parseFieldDescriptor (q.2.1 k).2.2.1 = some (tyOf c k)) ∧ (∀ a, a < q.2.2 → ∀ b, b < q.2.2 → a ≠ b → (q.2.1 a).2.1 ≠ (q.2.1 b).2.1) ∧ q.2.2 = nfOf c
theorem clok0 : ClOK 0 (RX0, TX0, 3) := ⟨by decide +kernel, by decide +kernel, tyX0_ok, nmX0, rfl⟩
theorem clok1 : ClOK 1 (RX1, TX1, 8) := ⟨by decide +kernel, by decide +kernel, tyX1_ok, nmX1, rfl⟩
theorem clok2 : ClOK 2 (RX2, TX2, 8) := ⟨by decide +kernel, by decide +kernel, tyX2_ok, nmX2, rfl⟩
theorem clok3 : ClOK 3 (RX3, TX3, 1) := ⟨by decide +kernel, by decide +kernel, tyX3_ok, nmX3, rfl⟩
theorem clok4 : ClOK 4 (RX4, TX4, 3) := ⟨by decide +kernel, by decide +kernel, tyX4_ok, nmX4, rfl⟩
theorem clok5 : ClOK 5 (RX5, TX5, 5) := ⟨by decide +kernel, by decide +kernel, tyX5_ok, nmX5, rfl⟩
theorem clok6 : ClOK 6 (RX6, TX6, 11) := ⟨by decide +kernel, by decide +kernel, tyX6_ok, nmX6, rfl⟩
theorem clok7 : ClOK 7 (RX7, TX7, 3) := ⟨by decide +kernel, by decide +kernel, tyX7_ok, nmX7, rfl⟩
theorem clok8 : ClOK 8 (RX8, TX8, 4) := ⟨by decide +kernel, by decide +kernel, tyX8_ok, nmX8, rfl⟩
theorem clok9 : ClOK 9 (RX9, TX9, 7) := ⟨by decide +kernel, by decide +kernel, tyX9_ok, nmX9, rfl⟩
theorem clok10 : ClOK 10 (RX10, TX10, 20) := ⟨by decide +kernel, by decide +kernel, tyX10_ok, nmX10, rfl⟩
theorem clok11 : ClOK 11 (RX11, TX11, 60) := ⟨by decide +kernel, by decide +kernel, tyX11_ok, nmX11, rfl⟩
theorem clok {c : Nat} {q : vw_C} (h : clss[c]? = some q) : ClOK c q := by
  match c, h with
  | 0, h => cases h; exact clok0
  | 1, h => cases h; exact clok1
  | 2, h => cases h; exact clok2
  | 3, h => cases h; exact clok3
  | 4, h => cases h; exact clok4
  | 5, h => cases h; exact clok5
  | 6, h => cases h; exact clok6
  | 7, h => cases h; exact clok7
  | 8, h => cases h; exact clok8
  | 9, h => cases h; exact clok9
  | 10, h => cases h; exact clok10
  | 11, h => cases h; exact clok11
  | c + 12, h => simp [clss] at h
theorem cellE_obj (ω : Wd) (μ : Mem) {a c : Nat} (h : (kd a).1 = 10 + c) : cellE ω μ a = .inr (c, fvs ω μ a c) := by
  unfold cellE
  generalize kd a = q at h ⊢
  obtain ⟨x, y⟩ := q
  simp only at h
  subst h
  split <;> first | (rename_i h; injection h with h1 h2; omega) | skip
  rename_i h
  injection h with h1 h2
  subst h1
  simp
theorem cellE_arr (ω : Wd) (μ : Mem) {a n : Nat} (h : kd a = (0, n)) : cellE ω μ a = .inl (ω.arr 0, n, .inl (μ.2.1 a)) := by unfold cellE; rw [h]; rfl
theorem kd_pair {a t : Nat} (h : (kd a).1 = t) : kd a = (t, (kd a).2) := by rw [← h]
/-- the value of a field as the cell holds it -/
theorem fval_I (ω : Wd) (μ : Mem) {a c f : Nat} (h : fkOf (tyOf c f) = 0 ∨ fkOf (tyOf c f) = 3) : fval ω μ a c f = .int (μ.2.1 a f) := by unfold fval; rcases h with h | h <;> (rw [h]; rfl)
theorem fval_L (ω : Wd) (μ : Mem) {a c f : Nat} (h : fkOf (tyOf c f) = 1) : fval ω μ a c f = .long (μ.2.2.1 a f) := by unfold fval; rw [h]; rfl
theorem fval_R (ω : Wd) (μ : Mem) {a c f : Nat} (h : fkOf (tyOf c f) = 2) : fval ω μ a c f = va_rf ((μ.2.2.2 a f).map (ad ω)) := by unfold fval; rw [h]; rfl
section MemRules
variable {ω : Wd} {l : Launch} {Y : Mt} {d pc : Nat} {lv : List (Nat × Value)} {st : List Value} {μ : Mem} {k n : Nat} {Post : Oa → Mem → Prop}
/-- a field's value, whatever it is -/
theorem J.getV {a c f idx : Nat} {v : Value} (hd : decode Y.cc pc = .ok (.getfield idx, 3)) (hf : FLink Y.y.cls idx c f) (hk : (kd a).1 = 10 + c) (ha : a < μ.1) (ha' : a < 10000) (hv : fval ω μ a c f = vm ω v)
    (kk : J ω l Y d (pc + 3) lv (v :: st) μ k n Post) : J ω l Y d pc lv (.ref a :: st) μ k n Post := by
  intro p e R s m args below meth c9 H locs cells slots mc ms ls F hw hS hl hk9 hn9
  obtain ⟨hfn, q, hq, hlk⟩ := hf
  obtain ⟨o1, o2, o3, o4, o5⟩ := clok hq
  have he := wcs_get ω μ ha
  rw [cellE_obj ω μ hk, ← ad_new ω ha'] at he
  exact va_get (D := ω.D) (cl := clss) (tys := tysOf ω) (ws := wcs ω μ) F.2.2.2.1 F.2.2.2.2.1 (Ts := u_ws q.1 q.2.1 q.2.2) (fun w hw' => F.w (o1 w hw') (List.all_eq_true.mp o2 w hw')) (fun _ h => h) F.2.2.2.2.2.2.2.2.1 F.K hw.1 a he hq f (by rw [o5]; exact hfn)
    (F.w hlk rfl) (fun _ h => h) (v := vm ω v) (by rw [fvs_get ω μ a c hfn, hv]) hd (kk p e R s m args below meth c9 H locs cells slots mc ms ls F hw hS hl hk9 hn9)
theorem J.getI {a c f idx : Nat} (hd : decode Y.cc pc = .ok (.getfield idx, 3)) (hf : FLink Y.y.cls idx c f) (hk : (kd a).1 = 10 + c) (ha : a < μ.1) (ha' : a < 10000) (ht : fkOf (tyOf c f) = 0 ∨ fkOf (tyOf c f) = 3)
    (kk : J ω l Y d (pc + 3) lv (.int (μ.2.1 a f) :: st) μ k n Post) : J ω l Y d pc lv (.ref a :: st) μ k n Post := J.getV hd hf hk ha ha' (fval_I ω μ ht) kk
theorem J.getL {a c f idx : Nat} (hd : decode Y.cc pc = .ok (.getfield idx, 3)) (hf : FLink Y.y.cls idx c f) (hk : (kd a).1 = 10 + c) (ha : a < μ.1) (ha' : a < 10000) (ht : fkOf (tyOf c f) = 1)
    (kk : J ω l Y d (pc + 3) lv (.long (μ.2.2.1 a f) :: st) μ k n Post) : J ω l Y d pc lv (.ref a :: st) μ k n Post := J.getV hd hf hk ha ha' (fval_L ω μ ht) kk
theorem J.getR {a c f idx x : Nat} (hd : decode Y.cc pc = .ok (.getfield idx, 3)) (hf : FLink Y.y.cls idx c f) (hk : (kd a).1 = 10 + c) (ha : a < μ.1) (ha' : a < 10000) (ht : fkOf (tyOf c f) = 2) (hx : μ.2.2.2 a f = some x)
    (kk : J ω l Y d (pc + 3) lv (.ref x :: st) μ k n Post) : J ω l Y d pc lv (.ref a :: st) μ k n Post := J.getV (v := .ref x) hd hf hk ha ha' (by rw [fval_R ω μ ht, hx]; rfl) kk
/-- a store to a field: the world ν behind it -/
theorem J.putV {a c f idx : Nat} {v : Value} {ν : Mem} (hd : decode Y.cc pc = .ok (.putfield idx, 3)) (hf : FLink Y.y.cls idx c f) (hk : (kd a).1 = 10 + c) (ha : a < μ.1) (ha' : a < 10000)
    (hfin : ∀ q : vw_C, clss[c]? = some q → (q.2.1 f).2.2.2 = false ∨ ((q.2.1 f).2.2.2 = true ∧ Y.y.name = "<init>" ∧ (q.2.1 f).1 = Y.y.cls)) (hnar : narrow (tyOf c f) (vm ω v) = vm ω v) (hfit : fits (tyOf c f) (vm ω v) = true)
    (h1 : ν.1 = μ.1) (ho : ∀ b, b ≠ a → cellE ω ν b = cellE ω μ b) (hset : (fvs ω μ a c).set f (vm ω v) = fvs ω ν a c)
    (kk : J ω l Y d (pc + 3) lv st ν k n Post) : J ω l Y d pc lv (v :: .ref a :: st) μ k n Post := by
  intro p e R s m args below meth c9 H locs cells slots mc ms ls F hw hS hl hk9 hn9
  obtain ⟨hfn, q, hq, hlk⟩ := hf
  obtain ⟨o1, o2, o3, o4, o5⟩ := clok hq
  have he := wcs_get ω μ ha
  rw [cellE_obj ω μ hk, ← ad_new ω ha'] at he
  have hset' : (wcs ω μ).set a (ad ω a, .inr (c, (fvs ω μ a c).set f (vm ω v))) = wcs ω ν := by
    rw [hset, ad_new ω ha', ← wcs_set ω μ ν h1 ha ho, cellE_obj ω ν hk]
  have fin : ∀ (H1 : Heap) (locs1 : List Loc), va_P ω.D clss ((wcs ω μ).set a (ad ω a, .inr (c, (fvs ω μ a c).set f (vm ω v)))) H1 → va_D (aA ω) ((wcs ω μ).set a (ad ω a, .inr (c, (fvs ω μ a c).set f (vm ω v)))) → va_S (aA ω) s.heap H1 locs1 → H1.size = H.size →
      W p l e R s m args below meth c9 H1 locs1 cells slots (vx_MQ below (QR ω Post) (XR ω Post) args s mc ms (aA ω)) (F0 m (pc + 3) ls (st.map (vm ω))) := fun H1 locs1 hP1 hD1 hS1 hsz => by
    rw [hset'] at hP1
    exact kk p e R s m args below meth c9 H1 locs1 cells slots mc ms ls F ⟨hP1, fun hN => by rw [hsz, h1]; exact hw.2.1 (by rw [← h1]; exact hN), by rw [hsz, h1]; exact hw.2.2⟩ hS1 hl hk9 hn9
  have hts : ∀ w ∈ u_ws q.1 q.2.1 q.2.2, w.before args s = true := fun w hw' => F.w (o1 w hw') (List.all_eq_true.mp o2 w hw')
  have hap := va_apart (own := Y.y.cls) hts (fun _ h => h) (tyOf c) o3 o4 F.K hq
  obtain ⟨r, hr1, cell, q1, q2, q3, q4⟩ := hw.1 a _ he
  have hr : r = q := Option.some.inj (hr1.symm.trans hq)
  subst hr
  obtain ⟨hSl, hfc, kC, hkC, hkind⟩ := F.K.1 c _ hq
  have hfn' : f < r.2.2 := by rw [o5]; exact hfn
  obtain ⟨cf, kf, fi, fd, hi, hsl⟩ := hSl f hfn'
  have hlay := hts _ (u_in_lay hfn')
  have hst := (u_facts hfc hkC (u_lays hts (fun _ h => h) hfn') hi).1
  have hlen : f < (fvs ω μ a c).length := by rw [fvs_len]; exact hfn
  have hD := wcs_D ω μ
  have hlink : (Cond.fieldLink Y.y.cls idx (r.2.1 f).1 (r.2.1 f).2.1 (r.2.1 f).2.2.1).before args s = true := F.w hlk rfl
  unfold u_lay at hlay
  rcases hfin r hq with hf0 | ⟨hf1, hin2, hdecl⟩
  · rw [if_neg (by rw [hf0]; decide)] at hlay
    have h6 := u_store hfc hkC hkind hlay hi (o3 f hfn') hnar hfit
    refine W.putK F.2.2.2.1 F.2.2.2.2.1 (f := fd) ⟨F.2.2.2.2.2.2.2.2.1, hlink, ⟨_, _, _, hi⟩, hst⟩ (by rw [q2]; exact h6) q1 q3 (by rw [hsl]; exact k2_hasslot (q4 f hfn')) rfl rfl hd fun H' e1 e2 e3 => ?_
    rw [hsl] at e1 ⊢
    exact fin H' _ (hw.1.set hD he ⟨_, hq, t_OB.to (V := updV (vp_V (fvs ω μ a c)) f (vm ω v)) ⟨_, e1, q2, q3, t_set q4 hap hfn' (vm ω v)⟩ (fun j _ => vp_updV_set hlen (vm ω v) j)⟩ e3) (hD.set he) (hS.put e2 e3 (hD.2 a _ he)) e2
  · rw [if_pos hf1] at hlay
    have hcf : m.cls = cf := by
      obtain ⟨_, _, c', _, _, _, -, -, hf', -, -, -, hown2, -⟩ := Cond.laysFinal_spec hlay
      have e1 : c' = cf := by have := hi.symm.trans hf'; simp at this; exact this.1.symm
      rw [hdecl] at hown2
      rw [← e1]; exact Option.some.inj (F.2.2.2.2.2.2.2.2.1.symm.trans hown2)
    have h6 := u_fits hfc hkC hkind (Or.inr hlay) hi (o3 f hfn') hnar hfit
    refine W.putFinK F.2.2.2.1 F.2.2.2.2.1 F.2.2.2.2.2.2.2.2.1 hlink hi hst hcf (F.2.2.2.2.2.2.2.2.2.1.trans hin2) (by rw [q2]; exact h6) q1 q3 (by rw [hsl]; exact k2_hasslot (q4 f hfn')) rfl rfl hd fun H' e1 e2 e3 => ?_
    rw [hsl] at e1 ⊢
    exact fin H' _ (hw.1.set hD he ⟨_, hq, t_OB.to (V := updV (vp_V (fvs ω μ a c)) f (vm ω v)) ⟨_, e1, q2, q3, t_set q4 hap hfn' (vm ω v)⟩ (fun j _ => vp_updV_set hlen (vm ω v) j)⟩ e3) (hD.set he) (hS.put e2 e3 (hD.2 a _ he)) e2
end MemRules
