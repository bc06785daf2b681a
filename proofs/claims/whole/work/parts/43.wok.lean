/-! PRINTED (wip/gen/wok.py): what holds at the law's start -/
theorem hin_0 : ∀ w ∈ u_ws RX0 TX0 3, w ∈ lw_tbl := (List.forall_mem_cons.mpr ⟨tb1 (List.mem_of_getElem? (i := 211) (by decide +kernel)), (List.forall_mem_cons.mpr ⟨tb1 (List.mem_of_getElem? (i := 213) (by decide +kernel)), (List.forall_mem_cons.mpr ⟨tb1 (List.mem_of_getElem? (i := 215) (by decide +kernel)), (fun _ h => nomatch h)⟩)⟩)⟩)
theorem his_0 : Cond.instantiable RX0 3 ∈ lw_tbl := tb1 (List.mem_of_getElem? (i := 199) (by decide +kernel))
theorem hin_1 : ∀ w ∈ u_ws RX1 TX1 8, w ∈ lw_tbl := (List.forall_mem_cons.mpr ⟨tb1 (List.mem_of_getElem? (i := 136) (by decide +kernel)), (List.forall_mem_cons.mpr ⟨tb1 (List.mem_of_getElem? (i := 138) (by decide +kernel)), (List.forall_mem_cons.mpr ⟨tb1 (List.mem_of_getElem? (i := 140) (by decide +kernel)), (List.forall_mem_cons.mpr ⟨tb1 (List.mem_of_getElem? (i := 142) (by decide +kernel)), (List.forall_mem_cons.mpr ⟨tb1 (List.mem_of_getElem? (i := 144) (by decide +kernel)), (List.forall_mem_cons.mpr ⟨tb1 (List.mem_of_getElem? (i := 146) (by decide +kernel)), (List.forall_mem_cons.mpr ⟨tb1 (List.mem_of_getElem? (i := 148) (by decide +kernel)), (List.forall_mem_cons.mpr ⟨tb1 (List.mem_of_getElem? (i := 150) (by decide +kernel)), (fun _ h => nomatch h)⟩)⟩)⟩)⟩)⟩)⟩)⟩)⟩)
theorem his_1 : Cond.instantiable RX1 8 ∈ lw_tbl := tb1 (List.mem_of_getElem? (i := 35) (by decide +kernel))
theorem hin_2 : ∀ w ∈ u_ws RX2 TX2 8, w ∈ lw_tbl := (List.forall_mem_cons.mpr ⟨tb2 (List.mem_of_getElem? (i := 44) (by decide +kernel)), (List.forall_mem_cons.mpr ⟨tb2 (List.mem_of_getElem? (i := 46) (by decide +kernel)), (List.forall_mem_cons.mpr ⟨tb2 (List.mem_of_getElem? (i := 48) (by decide +kernel)), (List.forall_mem_cons.mpr ⟨tb2 (List.mem_of_getElem? (i := 50) (by decide +kernel)), (List.forall_mem_cons.mpr ⟨tb2 (List.mem_of_getElem? (i := 52) (by decide +kernel)), (List.forall_mem_cons.mpr ⟨tb2 (List.mem_of_getElem? (i := 54) (by decide +kernel)), (List.forall_mem_cons.mpr ⟨tb2 (List.mem_of_getElem? (i := 56) (by decide +kernel)), (List.forall_mem_cons.mpr ⟨tb2 (List.mem_of_getElem? (i := 58) (by decide +kernel)), (fun _ h => nomatch h)⟩)⟩)⟩)⟩)⟩)⟩)⟩)⟩)
theorem his_2 : Cond.instantiable RX2 8 ∈ lw_tbl := tb1 (List.mem_of_getElem? (i := 239) (by decide +kernel))
theorem hin_3 : ∀ w ∈ u_ws RX3 TX3 1, w ∈ lw_tbl := (List.forall_mem_cons.mpr ⟨tb2 (List.mem_of_getElem? (i := 89) (by decide +kernel)), (fun _ h => nomatch h)⟩)
theorem his_3 : Cond.instantiable RX3 1 ∈ lw_tbl := tb2 (List.mem_of_getElem? (i := 82) (by decide +kernel))
theorem hin_4 : ∀ w ∈ u_ws RX4 TX4 3, w ∈ lw_tbl := (List.forall_mem_cons.mpr ⟨tb2 (List.mem_of_getElem? (i := 74) (by decide +kernel)), (List.forall_mem_cons.mpr ⟨tb2 (List.mem_of_getElem? (i := 76) (by decide +kernel)), (List.forall_mem_cons.mpr ⟨tb2 (List.mem_of_getElem? (i := 78) (by decide +kernel)), (fun _ h => nomatch h)⟩)⟩)⟩)
theorem his_4 : Cond.instantiable RX4 3 ∈ lw_tbl := tb2 (List.mem_of_getElem? (i := 64) (by decide +kernel))
theorem hin_5 : ∀ w ∈ u_ws RX5 TX5 5, w ∈ lw_tbl := (List.forall_mem_cons.mpr ⟨tb2 (List.mem_of_getElem? (i := 19) (by decide +kernel)), (List.forall_mem_cons.mpr ⟨tb2 (List.mem_of_getElem? (i := 21) (by decide +kernel)), (List.forall_mem_cons.mpr ⟨tb2 (List.mem_of_getElem? (i := 23) (by decide +kernel)), (List.forall_mem_cons.mpr ⟨tb2 (List.mem_of_getElem? (i := 25) (by decide +kernel)), (List.forall_mem_cons.mpr ⟨tb2 (List.mem_of_getElem? (i := 27) (by decide +kernel)), (fun _ h => nomatch h)⟩)⟩)⟩)⟩)⟩)
theorem his_5 : Cond.instantiable RX5 5 ∈ lw_tbl := tb2 (List.mem_of_getElem? (i := 7) (by decide +kernel))
theorem hin_6 : ∀ w ∈ u_ws RX6 TX6 11, w ∈ lw_tbl := (List.forall_mem_cons.mpr ⟨tb1 (List.mem_of_getElem? (i := 172) (by decide +kernel)), (List.forall_mem_cons.mpr ⟨tb1 (List.mem_of_getElem? (i := 174) (by decide +kernel)), (List.forall_mem_cons.mpr ⟨tb1 (List.mem_of_getElem? (i := 176) (by decide +kernel)), (List.forall_mem_cons.mpr ⟨tb1 (List.mem_of_getElem? (i := 178) (by decide +kernel)), (List.forall_mem_cons.mpr ⟨tb1 (List.mem_of_getElem? (i := 180) (by decide +kernel)), (List.forall_mem_cons.mpr ⟨tb1 (List.mem_of_getElem? (i := 182) (by decide +kernel)), (List.forall_mem_cons.mpr ⟨tb1 (List.mem_of_getElem? (i := 184) (by decide +kernel)), (List.forall_mem_cons.mpr ⟨tb1 (List.mem_of_getElem? (i := 186) (by decide +kernel)), (List.forall_mem_cons.mpr ⟨tb1 (List.mem_of_getElem? (i := 188) (by decide +kernel)), (List.forall_mem_cons.mpr ⟨tb1 (List.mem_of_getElem? (i := 190) (by decide +kernel)), (List.forall_mem_cons.mpr ⟨tb1 (List.mem_of_getElem? (i := 192) (by decide +kernel)), (fun _ h => nomatch h)⟩)⟩)⟩)⟩)⟩)⟩)⟩)⟩)⟩)⟩)⟩)
theorem his_6 : Cond.instantiable RX6 11 ∈ lw_tbl := tb1 (List.mem_of_getElem? (i := 154) (by decide +kernel))
theorem hin_7 : ∀ w ∈ u_ws RX7 TX7 3, w ∈ lw_tbl := (List.forall_mem_cons.mpr ⟨tb1 (List.mem_of_getElem? (i := 50) (by decide +kernel)), (List.forall_mem_cons.mpr ⟨tb1 (List.mem_of_getElem? (i := 52) (by decide +kernel)), (List.forall_mem_cons.mpr ⟨tb1 (List.mem_of_getElem? (i := 54) (by decide +kernel)), (fun _ h => nomatch h)⟩)⟩)⟩)
theorem his_7 : Cond.instantiable RX7 3 ∈ lw_tbl := tb1 (List.mem_of_getElem? (i := 41) (by decide +kernel))
theorem hin_8 : ∀ w ∈ u_ws RX8 TX8 4, w ∈ lw_tbl := (List.forall_mem_cons.mpr ⟨tb1 (List.mem_of_getElem? (i := 229) (by decide +kernel)), (List.forall_mem_cons.mpr ⟨tb1 (List.mem_of_getElem? (i := 231) (by decide +kernel)), (List.forall_mem_cons.mpr ⟨tb1 (List.mem_of_getElem? (i := 233) (by decide +kernel)), (List.forall_mem_cons.mpr ⟨tb1 (List.mem_of_getElem? (i := 235) (by decide +kernel)), (fun _ h => nomatch h)⟩)⟩)⟩)⟩)
theorem his_8 : Cond.instantiable RX8 4 ∈ lw_tbl := tb1 (List.mem_of_getElem? (i := 219) (by decide +kernel))
theorem hin_9 : ∀ w ∈ u_ws RX9 TX9 7, w ∈ lw_tbl := (List.forall_mem_cons.mpr ⟨tb1 (List.mem_of_getElem? (i := 95) (by decide +kernel)), (List.forall_mem_cons.mpr ⟨tb1 (List.mem_of_getElem? (i := 97) (by decide +kernel)), (List.forall_mem_cons.mpr ⟨tb1 (List.mem_of_getElem? (i := 99) (by decide +kernel)), (List.forall_mem_cons.mpr ⟨tb1 (List.mem_of_getElem? (i := 101) (by decide +kernel)), (List.forall_mem_cons.mpr ⟨tb1 (List.mem_of_getElem? (i := 103) (by decide +kernel)), (List.forall_mem_cons.mpr ⟨tb1 (List.mem_of_getElem? (i := 105) (by decide +kernel)), (List.forall_mem_cons.mpr ⟨tb1 (List.mem_of_getElem? (i := 107) (by decide +kernel)), (fun _ h => nomatch h)⟩)⟩)⟩)⟩)⟩)⟩)⟩)
theorem his_9 : Cond.instantiable RX9 7 ∈ lw_tbl := tb1 (List.mem_of_getElem? (i := 59) (by decide +kernel))
theorem hin_10 : ∀ w ∈ u_ws RX10 TX10 20, w ∈ lw_tbl := (List.forall_mem_cons.mpr ⟨tb2 (List.mem_of_getElem? (i := 113) (by decide +kernel)), (List.forall_mem_cons.mpr ⟨tb2 (List.mem_of_getElem? (i := 115) (by decide +kernel)), (List.forall_mem_cons.mpr ⟨tb2 (List.mem_of_getElem? (i := 117) (by decide +kernel)), (List.forall_mem_cons.mpr ⟨tb2 (List.mem_of_getElem? (i := 119) (by decide +kernel)), (List.forall_mem_cons.mpr ⟨tb2 (List.mem_of_getElem? (i := 121) (by decide +kernel)), (List.forall_mem_cons.mpr ⟨tb2 (List.mem_of_getElem? (i := 123) (by decide +kernel)), (List.forall_mem_cons.mpr ⟨tb2 (List.mem_of_getElem? (i := 125) (by decide +kernel)), (List.forall_mem_cons.mpr ⟨tb2 (List.mem_of_getElem? (i := 127) (by decide +kernel)), (List.forall_mem_cons.mpr ⟨tb2 (List.mem_of_getElem? (i := 129) (by decide +kernel)), (List.forall_mem_cons.mpr ⟨tb2 (List.mem_of_getElem? (i := 131) (by decide +kernel)), (List.forall_mem_cons.mpr ⟨tb2 (List.mem_of_getElem? (i := 133) (by decide +kernel)), (List.forall_mem_cons.mpr ⟨tb2 (List.mem_of_getElem? (i := 135) (by decide +kernel)), (List.forall_mem_cons.mpr ⟨tb2 (List.mem_of_getElem? (i := 137) (by decide +kernel)), (List.forall_mem_cons.mpr ⟨tb2 (List.mem_of_getElem? (i := 139) (by decide +kernel)), (List.forall_mem_cons.mpr ⟨tb2 (List.mem_of_getElem? (i := 141) (by decide +kernel)), (List.forall_mem_cons.mpr ⟨tb2 (List.mem_of_getElem? (i := 143) (by decide +kernel)), (List.forall_mem_cons.mpr ⟨tb2 (List.mem_of_getElem? (i := 145) (by decide +kernel)), (List.forall_mem_cons.mpr ⟨tb2 (List.mem_of_getElem? (i := 147) (by decide +kernel)), (List.forall_mem_cons.mpr ⟨tb2 (List.mem_of_getElem? (i := 149) (by decide +kernel)), (List.forall_mem_cons.mpr ⟨tb2 (List.mem_of_getElem? (i := 151) (by decide +kernel)), (fun _ h => nomatch h)⟩)⟩)⟩)⟩)⟩)⟩)⟩)⟩)⟩)⟩)⟩)⟩)⟩)⟩)⟩)⟩)⟩)⟩)⟩)⟩)
theorem his_10 : Cond.instantiable RX10 20 ∈ lw_tbl := tb1 (List.mem_of_getElem? (i := 27) (by decide +kernel))
theorem hin_11 : ∀ w ∈ u_ws RX11 TX11 60, w ∈ lw_tbl := (List.forall_mem_cons.mpr ⟨tb6 (List.mem_of_getElem? (i := 173) (by decide +kernel)), (List.forall_mem_cons.mpr ⟨tb6 (List.mem_of_getElem? (i := 175) (by decide +kernel)), (List.forall_mem_cons.mpr ⟨tb6 (List.mem_of_getElem? (i := 177) (by decide +kernel)), (List.forall_mem_cons.mpr ⟨tb6 (List.mem_of_getElem? (i := 179) (by decide +kernel)), (List.forall_mem_cons.mpr ⟨tb6 (List.mem_of_getElem? (i := 181) (by decide +kernel)), (List.forall_mem_cons.mpr ⟨tb6 (List.mem_of_getElem? (i := 183) (by decide +kernel)), (List.forall_mem_cons.mpr ⟨tb6 (List.mem_of_getElem? (i := 185) (by decide +kernel)), (List.forall_mem_cons.mpr ⟨tb6 (List.mem_of_getElem? (i := 187) (by decide +kernel)), (List.forall_mem_cons.mpr ⟨tb6 (List.mem_of_getElem? (i := 189) (by decide +kernel)), (List.forall_mem_cons.mpr ⟨tb6 (List.mem_of_getElem? (i := 191) (by decide +kernel)), (List.forall_mem_cons.mpr ⟨tb6 (List.mem_of_getElem? (i := 193) (by decide +kernel)), (List.forall_mem_cons.mpr ⟨tb6 (List.mem_of_getElem? (i := 195) (by decide +kernel)), (List.forall_mem_cons.mpr ⟨tb6 (List.mem_of_getElem? (i := 197) (by decide +kernel)), (List.forall_mem_cons.mpr ⟨tb6 (List.mem_of_getElem? (i := 199) (by decide +kernel)), (List.forall_mem_cons.mpr ⟨tb6 (List.mem_of_getElem? (i := 201) (by decide +kernel)), (List.forall_mem_cons.mpr ⟨tb6 (List.mem_of_getElem? (i := 203) (by decide +kernel)), (List.forall_mem_cons.mpr ⟨tb6 (List.mem_of_getElem? (i := 205) (by decide +kernel)), (List.forall_mem_cons.mpr ⟨tb6 (List.mem_of_getElem? (i := 207) (by decide +kernel)), (List.forall_mem_cons.mpr ⟨tb6 (List.mem_of_getElem? (i := 209) (by decide +kernel)), (List.forall_mem_cons.mpr ⟨tb6 (List.mem_of_getElem? (i := 211) (by decide +kernel)), (List.forall_mem_cons.mpr ⟨tb6 (List.mem_of_getElem? (i := 213) (by decide +kernel)), (List.forall_mem_cons.mpr ⟨tb6 (List.mem_of_getElem? (i := 215) (by decide +kernel)), (List.forall_mem_cons.mpr ⟨tb6 (List.mem_of_getElem? (i := 217) (by decide +kernel)), (List.forall_mem_cons.mpr ⟨tb6 (List.mem_of_getElem? (i := 219) (by decide +kernel)), (List.forall_mem_cons.mpr ⟨tb6 (List.mem_of_getElem? (i := 221) (by decide +kernel)), (List.forall_mem_cons.mpr ⟨tb6 (List.mem_of_getElem? (i := 223) (by decide +kernel)), (List.forall_mem_cons.mpr ⟨tb6 (List.mem_of_getElem? (i := 225) (by decide +kernel)), (List.forall_mem_cons.mpr ⟨tb6 (List.mem_of_getElem? (i := 227) (by decide +kernel)), (List.forall_mem_cons.mpr ⟨tb6 (List.mem_of_getElem? (i := 229) (by decide +kernel)), (List.forall_mem_cons.mpr ⟨tb6 (List.mem_of_getElem? (i := 231) (by decide +kernel)), (List.forall_mem_cons.mpr ⟨tb6 (List.mem_of_getElem? (i := 233) (by decide +kernel)), (List.forall_mem_cons.mpr ⟨tb6 (List.mem_of_getElem? (i := 235) (by decide +kernel)), (List.forall_mem_cons.mpr ⟨tb6 (List.mem_of_getElem? (i := 237) (by decide +kernel)), (List.forall_mem_cons.mpr ⟨tb6 (List.mem_of_getElem? (i := 239) (by decide +kernel)), (List.forall_mem_cons.mpr ⟨tb7 (List.mem_of_getElem? (i := 1) (by decide +kernel)), (List.forall_mem_cons.mpr ⟨tb7 (List.mem_of_getElem? (i := 3) (by decide +kernel)), (List.forall_mem_cons.mpr ⟨tb7 (List.mem_of_getElem? (i := 5) (by decide +kernel)), (List.forall_mem_cons.mpr ⟨tb7 (List.mem_of_getElem? (i := 7) (by decide +kernel)), (List.forall_mem_cons.mpr ⟨tb7 (List.mem_of_getElem? (i := 9) (by decide +kernel)), (List.forall_mem_cons.mpr ⟨tb7 (List.mem_of_getElem? (i := 11) (by decide +kernel)), (List.forall_mem_cons.mpr ⟨tb7 (List.mem_of_getElem? (i := 13) (by decide +kernel)), (List.forall_mem_cons.mpr ⟨tb7 (List.mem_of_getElem? (i := 15) (by decide +kernel)), (List.forall_mem_cons.mpr ⟨tb7 (List.mem_of_getElem? (i := 17) (by decide +kernel)), (List.forall_mem_cons.mpr ⟨tb7 (List.mem_of_getElem? (i := 19) (by decide +kernel)), (List.forall_mem_cons.mpr ⟨tb7 (List.mem_of_getElem? (i := 21) (by decide +kernel)), (List.forall_mem_cons.mpr ⟨tb7 (List.mem_of_getElem? (i := 23) (by decide +kernel)), (List.forall_mem_cons.mpr ⟨tb7 (List.mem_of_getElem? (i := 25) (by decide +kernel)), (List.forall_mem_cons.mpr ⟨tb7 (List.mem_of_getElem? (i := 27) (by decide +kernel)), (List.forall_mem_cons.mpr ⟨tb7 (List.mem_of_getElem? (i := 29) (by decide +kernel)), (List.forall_mem_cons.mpr ⟨tb7 (List.mem_of_getElem? (i := 31) (by decide +kernel)), (List.forall_mem_cons.mpr ⟨tb7 (List.mem_of_getElem? (i := 33) (by decide +kernel)), (List.forall_mem_cons.mpr ⟨tb7 (List.mem_of_getElem? (i := 35) (by decide +kernel)), (List.forall_mem_cons.mpr ⟨tb7 (List.mem_of_getElem? (i := 37) (by decide +kernel)), (List.forall_mem_cons.mpr ⟨tb7 (List.mem_of_getElem? (i := 39) (by decide +kernel)), (List.forall_mem_cons.mpr ⟨tb7 (List.mem_of_getElem? (i := 41) (by decide +kernel)), (List.forall_mem_cons.mpr ⟨tb7 (List.mem_of_getElem? (i := 43) (by decide +kernel)), (List.forall_mem_cons.mpr ⟨tb7 (List.mem_of_getElem? (i := 45) (by decide +kernel)), (List.forall_mem_cons.mpr ⟨tb7 (List.mem_of_getElem? (i := 47) (by decide +kernel)), (List.forall_mem_cons.mpr ⟨tb7 (List.mem_of_getElem? (i := 49) (by decide +kernel)), (List.forall_mem_cons.mpr ⟨tb7 (List.mem_of_getElem? (i := 51) (by decide +kernel)), (fun _ h => nomatch h)⟩)⟩)⟩)⟩)⟩)⟩)⟩)⟩)⟩)⟩)⟩)⟩)⟩)⟩)⟩)⟩)⟩)⟩)⟩)⟩)⟩)⟩)⟩)⟩)⟩)⟩)⟩)⟩)⟩)⟩)⟩)⟩)⟩)⟩)⟩)⟩)⟩)⟩)⟩)⟩)⟩)⟩)⟩)⟩)⟩)⟩)⟩)⟩)⟩)⟩)⟩)⟩)⟩)⟩)⟩)⟩)⟩)⟩)⟩)⟩)
theorem his_11 : Cond.instantiable RX11 60 ∈ lw_tbl := tb6 (List.mem_of_getElem? (i := 108) (by decide +kernel))
theorem wok_K {s : State} {args : Array Value} (hts : ∀ w ∈ lw_tbl, w.before args s = true) : ∃ D : va_G, ∀ (c : Nat) (q : vw_C), clss[c]? = some q → u_Kn s q.1 q.2.1 q.2.2 (D.1 c) (D.2 c) := by
  have h0 : ∀ c : Nat, ∃ r : ClassId × (Nat → Nat), ∀ q : vw_C, clss[c]? = some q → u_Kn s q.1 q.2.1 q.2.2 r.1 r.2 := by
    intro c
    match c with
    | 0 =>
      obtain ⟨a, b, h⟩ := u_known hts hin_0 (hts _ his_0)
      exact ⟨(a, b), fun q hq => by cases hq; exact h⟩
    | 1 =>
      obtain ⟨a, b, h⟩ := u_known hts hin_1 (hts _ his_1)
      exact ⟨(a, b), fun q hq => by cases hq; exact h⟩
    | 2 =>
      obtain ⟨a, b, h⟩ := u_known hts hin_2 (hts _ his_2)
      exact ⟨(a, b), fun q hq => by cases hq; exact h⟩
    | 3 =>
      obtain ⟨a, b, h⟩ := u_known hts hin_3 (hts _ his_3)
      exact ⟨(a, b), fun q hq => by cases hq; exact h⟩
    | 4 =>
      obtain ⟨a, b, h⟩ := u_known hts hin_4 (hts _ his_4)
      exact ⟨(a, b), fun q hq => by cases hq; exact h⟩
    | 5 =>
      obtain ⟨a, b, h⟩ := u_known hts hin_5 (hts _ his_5)
      exact ⟨(a, b), fun q hq => by cases hq; exact h⟩
    | 6 =>
      obtain ⟨a, b, h⟩ := u_known hts hin_6 (hts _ his_6)
      exact ⟨(a, b), fun q hq => by cases hq; exact h⟩
    | 7 =>
      obtain ⟨a, b, h⟩ := u_known hts hin_7 (hts _ his_7)
      exact ⟨(a, b), fun q hq => by cases hq; exact h⟩
    | 8 =>
      obtain ⟨a, b, h⟩ := u_known hts hin_8 (hts _ his_8)
      exact ⟨(a, b), fun q hq => by cases hq; exact h⟩
    | 9 =>
      obtain ⟨a, b, h⟩ := u_known hts hin_9 (hts _ his_9)
      exact ⟨(a, b), fun q hq => by cases hq; exact h⟩
    | 10 =>
      obtain ⟨a, b, h⟩ := u_known hts hin_10 (hts _ his_10)
      exact ⟨(a, b), fun q hq => by cases hq; exact h⟩
    | 11 =>
      obtain ⟨a, b, h⟩ := u_known hts hin_11 (hts _ his_11)
      exact ⟨(a, b), fun q hq => by cases hq; exact h⟩
    | n + 12 => exact ⟨(0, fun _ => 0), fun q hq => by cases hq⟩
  obtain ⟨f, hf⟩ := Classical.axiomOfChoice h0
  exact ⟨(fun c => (f c).1, fun c => (f c).2), fun c q h => hf c q h⟩
def noff : List Nat := [37, 68, 103, 118, 153, 163, 175, 188, 201, 236, 261, 287, 316, 345, 385]
def nfl : List Cond := Jvm.Free.XT.flat (Jvm.Cond.and given_1 narrow_1)
def tmS (i : Nat) : Term := .string (strs.getD i ("", 0, "")).1 (strs.getD i ("", 0, "")).2.1
abbrev tmV (i : Nat) : Term := .field (tmS i) "java/lang/String" "value" "[B"
theorem n_ex : ∀ i : Fin 15, nfl[noff.getD i.1 0]? = some (Cond.exactly (tmS i.1) "java/lang/String") := by decide +kernel
theorem n_co : ∀ i : Fin 15, nfl[noff.getD i.1 0 + 1]? = some (Cond.eq (.field (tmS i.1) "java/lang/String" "coder" "B") (.int 0)) := by decide +kernel
theorem n_ar : ∀ i : Fin 15, nfl[noff.getD i.1 0 + 2]? = some (Cond.arrayOf (tmV i.1) .byte) := by decide +kernel
theorem n_le : ∀ i : Fin 15, nfl[noff.getD i.1 0 + 3]? = some (Cond.eq (.length (tmV i.1)) (.int (Int32.ofNat (slen.getD i.1 0)))) := by decide +kernel
theorem n_el : ∀ i : Fin 15, ∀ j : Fin (slen.getD i.1 0), nfl[noff.getD i.1 0 + 4 + j.1]? = some (Cond.eq (.elem (tmV i.1) (.int (Int32.ofNat j.1))) (.int ((sbyt.getD i.1 []).getD j.1 0))) := by decide +kernel
theorem n_ne : ∀ i : Fin 15, ∀ j : Fin i.1, nfl[noff.getD i.1 0 + 4 + slen.getD i.1 0 + j.1]? = some (Cond.not (Cond.eq (tmS j.1) (tmS i.1))) := by decide +kernel
theorem n_len : ∀ i : Fin 15, slen.getD i.1 0 < 2 ^ 31 := by decide +kernel
theorem over_arr {args : Array Value} {s : State} {ty : FieldType} (h : (Cond.arrayOver (.array ty)).before args s = true) : ∃ (c comp : ClassId) (k : Class), s.vm.classes[c]? = some k ∧ k.kind = .array comp (.array ty) ∧ s.vm.findClass ("[" ++ (FieldType.array ty).toString) = some c := by
  simp only [Cond.before, Cond.holds, Cond.value, beq_iff_eq] at h
  cases hc : s.vm.findClass (FieldType.array ty).toString with
  | none => simp [hc] at h
  | some comp =>
    simp only [hc, Option.bind_some, Option.bind_eq_some_iff, Option.map_eq_some_iff] at h
    obtain ⟨c, hi, k, hk, hb⟩ := h
    obtain ⟨hlt, hp, -⟩ := Array.findIdx?_eq_some_iff_getElem.mp hi
    have hkk : s.vm.classes[c] = k := (Array.getElem?_eq_some_iff.mp hk).2
    rw [hkk] at hp
    cases hkind : k.kind with
    | array component ty =>
      rw [hkind] at hb hp
      simp at hb hp
      exact ⟨c, comp, k, hk, by rw [hkind, hp, hb.1], hb.2⟩
    | _ => rw [hkind] at hb; simp at hb
theorem cls_arr {args : Array Value} {s : State} {ty : FieldType} (h : (Cond.arrayClass ty).before args s = true) : ∃ c : ClassId, ArrOfT s c ty ∧ s.vm.findClass ("[" ++ ty.toString) = some c := by
  obtain ⟨c, k, comp, h1, h2, h3⟩ := Cond.arrayClass_spec h
  exact ⟨c, fun n z => ⟨fun k h => (by cases h), k, h2, comp, h3⟩, h1⟩
theorem wok_A {s : State} {args : Array Value} (hts : ∀ w ∈ lw_tbl, w.before args s = true) : ∃ arr : Nat → ClassId, ∀ (k : Nat) (q : ClassId × FieldType), ([(arr 0, .int), (arr 1, .long), (arr 2, .boolean), (arr 3, .array .int), (arr 4, .object RX9)] : List (ClassId × FieldType))[k]? = some q → ArrOfT s q.1 q.2 ∧ va_RA s q.1 q.2 := by
  obtain ⟨c0, a0, b0⟩ := cls_arr (hts _ aw_int)
  obtain ⟨c1, a1, b1⟩ := cls_arr (hts _ aw_long)
  obtain ⟨c2, a2, b2⟩ := cls_arr (hts _ aw_boolean)
  obtain ⟨c3, k3, kk3, x1, x2, x3⟩ := over_arr (hts _ an_3)
  obtain ⟨comp, c4, k4, y1, -, y2, y3, y4⟩ := Cond.arrayOver_spec (hts _ an_2)
  refine ⟨fun n => [c0, c1, c2, c3, c4].getD n 0, fun k q hq => ?_⟩
  match k with
  | 0 => cases hq; exact ⟨a0, b0⟩
  | 1 => cases hq; exact ⟨a1, b1⟩
  | 2 => cases hq; exact ⟨a2, b2⟩
  | 3 => cases hq; exact ⟨fun n z => ⟨fun k h => (by cases h), _, x1, _, x2⟩, x3⟩
  | 4 => cases hq; exact ⟨fun n z => ⟨fun k h => (by cases h), _, y2, _, y3⟩, ⟨k4, comp, y2, y3, y1, y4⟩⟩
  | n + 5 => cases hq
theorem n_4 : nfl[4]? = some (Cond.isRef (.static Bundle.tN "UNASSIGNED_STACK" Bundle.steD)) := by decide +kernel
theorem n_5 : nfl[5]? = some (Cond.isRef (.static Bundle.tN "SUPPRESSED_SENTINEL" Bundle.listD)) := by decide +kernel
theorem n_6 : nfl[6]? = some (Cond.eq (.static "java/lang/String" "COMPACT_STRINGS" "Z") (.int 1)) := by decide +kernel
theorem n_7 : nfl[7]? = some (Cond.isRef (.static "jdk/internal/util/Preconditions" "SIOOBE_FORMATTER" "Ljava/util/function/BiFunction;")) := by decide +kernel
theorem n_36 : nfl[36]? = some (Cond.not (.castable "java/lang/IllegalArgumentException" "java/util/NoSuchElementException")) := by decide +kernel
theorem wok_of {s : State} {b L : Nat} {xs : Nat → Int32} (hts : ∀ w ∈ lw_tbl, w.before #[Value.ref b] s = true) (hX : va_X b L xs s s.heap) (hbl : b < s.heap.size) (hg : (Jvm.Cond.and given_1 narrow_1).before #[Value.ref b] s = true) : ∃ ω : Wd, ω.s0 = s ∧ ω.b = b ∧ ω.L = L ∧ ω.xs = xs ∧ WOK ω := by
  have hf : ∀ w ∈ nfl, w.before #[Value.ref b] s = true := flat_of_before _ hg
  have hi : ∀ {j : Nat} {w : Cond}, nfl[j]? = some w → w.before #[Value.ref b] s = true := fun h => hf _ (List.mem_of_getElem? h)
  have hA : ∀ a : Nat, a < s.heap.size → ¬ (s.heap.size ≤ a) := fun a h1 h2 => absurd h1 (Nat.not_lt.mpr h2)
  obtain ⟨D, hD⟩ := wok_K hts
  obtain ⟨arr, harr⟩ := wok_A hts
  obtain ⟨adK, adV, hS, hT⟩ := vk_Sof (args := #[Value.ref b]) (s := s) (N := 15) (tm := tmS) (len := slen) (byt := sbyt) (A := fun q => s.heap.size ≤ q) (fun i h => n_len ⟨i, h⟩) (fun i h => hi (n_ex ⟨i, h⟩)) (fun i h => hi (n_co ⟨i, h⟩)) (fun i h => hi (n_ar ⟨i, h⟩)) (fun i h => hi (n_le ⟨i, h⟩))
    (fun i h j h2 => hi (n_el ⟨i, h⟩ ⟨j, h2⟩)) (fun i j h1 h2 hne => by
      rcases Nat.lt_or_gt_of_ne hne with q | q
      · exact Or.inl (hi (n_ne ⟨j, h2⟩ ⟨i, q⟩))
      · exact Or.inr (hi (n_ne ⟨i, h1⟩ ⟨j, q⟩))) hA
  refine ⟨(s, D, arr, adK, adV, b, L, xs), rfl, rfl, rfl, rfl, hts, ⟨hD, harr⟩, hS, fun i q hq => ?_, va_Zof (hts _ (tb3 (List.mem_of_getElem? (i := 196) (by decide +kernel)))) (hts _ (tb1 (List.mem_of_getElem? (i := 18) (by decide +kernel)))) (va_eqt (hi n_6)) hA, vx_Zqof (hts _ (tb3 (List.mem_of_getElem? (i := 109) (by decide +kernel)))) (hts _ (tb1 (List.mem_of_getElem? (i := 13) (by decide +kernel)))) (hi n_4) hA, vx_Zqof (hts _ (tb3 (List.mem_of_getElem? (i := 111) (by decide +kernel)))) (hts _ (tb1 (List.mem_of_getElem? (i := 13) (by decide +kernel)))) (hi n_5) hA, hX, hbl, va_Nc.of (hi n_36), va_Zqof (hts _ (tb3 (List.mem_of_getElem? (i := 235) (by decide +kernel)))) (hts _ (tb1 (List.mem_of_getElem? (i := 21) (by decide +kernel)))) (hi n_7) hA⟩
  match i with
  | 0 => cases hq; exact vk_R.of (hts _ (tb1 (List.mem_of_getElem? (i := 159) (by decide +kernel)))) (hT 0 (by decide))
  | 1 => cases hq; exact vk_R.of (hts _ (tb3 (List.mem_of_getElem? (i := 122) (by decide +kernel)))) (hT 1 (by decide))
  | 2 => cases hq; exact vk_R.of (hts _ (tb3 (List.mem_of_getElem? (i := 182) (by decide +kernel)))) (hT 2 (by decide))
  | 3 => cases hq; exact vk_R.of (hts _ (tb4 (List.mem_of_getElem? (i := 29) (by decide +kernel)))) (hT 3 (by decide))
  | 4 => cases hq; exact vk_R.of (hts _ (tb4 (List.mem_of_getElem? (i := 90) (by decide +kernel)))) (hT 4 (by decide))
  | 5 => cases hq; exact vk_R.of (hts _ (tb4 (List.mem_of_getElem? (i := 112) (by decide +kernel)))) (hT 5 (by decide))
  | 6 => cases hq; exact vk_R.of (hts _ (tb4 (List.mem_of_getElem? (i := 142) (by decide +kernel)))) (hT 6 (by decide))
  | 7 => cases hq; exact vk_R.of (hts _ (tb4 (List.mem_of_getElem? (i := 143) (by decide +kernel)))) (hT 7 (by decide))
  | 8 => cases hq; exact vk_R.of (hts _ (tb4 (List.mem_of_getElem? (i := 144) (by decide +kernel)))) (hT 8 (by decide))
  | 9 => cases hq; exact vk_R.of (hts _ (tb4 (List.mem_of_getElem? (i := 170) (by decide +kernel)))) (hT 9 (by decide))
  | 10 => cases hq; exact vk_R.of (hts _ (tb4 (List.mem_of_getElem? (i := 214) (by decide +kernel)))) (hT 10 (by decide))
  | 11 => cases hq; exact vk_R.of (hts _ (tb4 (List.mem_of_getElem? (i := 237) (by decide +kernel)))) (hT 11 (by decide))
  | 12 => cases hq; exact vk_R.of (hts _ (tb5 (List.mem_of_getElem? (i := 14) (by decide +kernel)))) (hT 12 (by decide))
  | 13 => cases hq; exact vk_R.of (hts _ (tb5 (List.mem_of_getElem? (i := 60) (by decide +kernel)))) (hT 13 (by decide))
  | 14 => cases hq; exact vk_R.of (hts _ (tb6 (List.mem_of_getElem? (i := 29) (by decide +kernel)))) (hT 14 (by decide))
  | n + 15 => cases hq
