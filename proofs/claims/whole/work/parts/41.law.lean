abbrev mL_law : Mt := (yL_law, cL_law, 7, (some .boolean), [])
theorem ml_RL_111 : Cond.methodLink RL 111 yX10_feed ∈ lw_tbl := tb2 (List.mem_of_getElem? (i := 154) (by decide +kernel))
theorem ml_RL_115 : Cond.methodLink RL 115 yX11_feed ∈ lw_tbl := tb7 (List.mem_of_getElem? (i := 59) (by decide +kernel))
theorem ml_RL_116 : Cond.methodLink RL 116 yL_cellar ∈ lw_tbl := tb3 (List.mem_of_getElem? (i := 74) (by decide +kernel))
theorem ml_RL_121 : Cond.methodLink RL 121 yX11_cellar ∈ lw_tbl := tb7 (List.mem_of_getElem? (i := 67) (by decide +kernel))
theorem ml_RL_122 : Cond.methodLink RL 122 yX11_thrown ∈ lw_tbl := tb7 (List.mem_of_getElem? (i := 55) (by decide +kernel))
theorem ml_RL_126 : Cond.methodLink RL 126 yX10_fault ∈ lw_tbl := tb2 (List.mem_of_getElem? (i := 162) (by decide +kernel))
theorem ml_RL_129 : Cond.methodLink RL 129 yX11_fault ∈ lw_tbl := tb7 (List.mem_of_getElem? (i := 197) (by decide +kernel))
theorem ml_RL_130 : Cond.methodLink RL 130 yL_count ∈ lw_tbl := tb4 (List.mem_of_getElem? (i := 149) (by decide +kernel))
theorem ml_RL_132 : Cond.methodLink RL 132 yX11_count ∈ lw_tbl := tb7 (List.mem_of_getElem? (i := 205) (by decide +kernel))
theorem ml_RL_133 : Cond.methodLink RL 133 yL_deed ∈ lw_tbl := tb4 (List.mem_of_getElem? (i := 203) (by decide +kernel))
theorem ml_RL_136 : Cond.methodLink RL 136 yX11_deed ∈ lw_tbl := tb8 (List.mem_of_getElem? (i := 8) (by decide +kernel))
theorem ml_RL_137 : Cond.methodLink RL 137 yL_person ∈ lw_tbl := tb4 (List.mem_of_getElem? (i := 226) (by decide +kernel))
theorem ml_RL_139 : Cond.methodLink RL 139 yX11_person ∈ lw_tbl := tb8 (List.mem_of_getElem? (i := 20) (by decide +kernel))
theorem ml_RL_140 : Cond.methodLink RL 140 yL_ink ∈ lw_tbl := tb5 (List.mem_of_getElem? (i := 3) (by decide +kernel))
theorem ml_RL_142 : Cond.methodLink RL 142 yX11_ink ∈ lw_tbl := tb8 (List.mem_of_getElem? (i := 42) (by decide +kernel))
theorem ml_RL_143 : Cond.methodLink RL 143 yX10_days ∈ lw_tbl := tb2 (List.mem_of_getElem? (i := 166) (by decide +kernel))
theorem ml_RL_146 : Cond.methodLink RL 146 yX11_days ∈ lw_tbl := tb8 (List.mem_of_getElem? (i := 50) (by decide +kernel))
theorem ml_RL_147 : Cond.methodLink RL 147 yL_type ∈ lw_tbl := tb5 (List.mem_of_getElem? (i := 15) (by decide +kernel))
theorem ml_RL_149 : Cond.methodLink RL 149 yX11_type ∈ lw_tbl := tb8 (List.mem_of_getElem? (i := 92) (by decide +kernel))
theorem ml_RL_150 : Cond.methodLink RL 150 yL_stile ∈ lw_tbl := tb5 (List.mem_of_getElem? (i := 23) (by decide +kernel))
theorem ml_RL_153 : Cond.methodLink RL 153 yX11_stile ∈ lw_tbl := tb8 (List.mem_of_getElem? (i := 96) (by decide +kernel))
theorem ml_RL_154 : Cond.methodLink RL 154 yL_send ∈ lw_tbl := tb5 (List.mem_of_getElem? (i := 35) (by decide +kernel))
theorem ml_RL_156 : Cond.methodLink RL 156 yX11_send ∈ lw_tbl := tb8 (List.mem_of_getElem? (i := 100) (by decide +kernel))
theorem ml_RL_157 : Cond.methodLink RL 157 yL_let ∈ lw_tbl := tb5 (List.mem_of_getElem? (i := 42) (by decide +kernel))
theorem ml_RL_159 : Cond.methodLink RL 159 yX11_let ∈ lw_tbl := tb8 (List.mem_of_getElem? (i := 104) (by decide +kernel))
theorem ml_RL_160 : Cond.methodLink RL 160 yX10_undo ∈ lw_tbl := tb3 (List.mem_of_getElem? (i := 41) (by decide +kernel))
theorem ml_RL_163 : Cond.methodLink RL 163 yX11_undo ∈ lw_tbl := tb7 (List.mem_of_getElem? (i := 201) (by decide +kernel))
theorem ml_RL_164 : Cond.methodLink RL 164 yL_then ∈ lw_tbl := tb5 (List.mem_of_getElem? (i := 49) (by decide +kernel))
theorem ml_RL_167 : Cond.methodLink RL 167 yX11_then ∈ lw_tbl := tb8 (List.mem_of_getElem? (i := 108) (by decide +kernel))
theorem ml_RL_168 : Cond.methodLink RL 168 yL_comes ∈ lw_tbl := tb5 (List.mem_of_getElem? (i := 61) (by decide +kernel))
theorem ml_RL_170 : Cond.methodLink RL 170 yX11_comes ∈ lw_tbl := tb8 (List.mem_of_getElem? (i := 128) (by decide +kernel))
theorem ml_RL_171 : Cond.methodLink RL 171 yL_meet ∈ lw_tbl := tb5 (List.mem_of_getElem? (i := 68) (by decide +kernel))
theorem ml_RL_173 : Cond.methodLink RL 173 yX11_meet ∈ lw_tbl := tb8 (List.mem_of_getElem? (i := 132) (by decide +kernel))
theorem ml_RL_174 : Cond.methodLink RL 174 yL_later ∈ lw_tbl := tb5 (List.mem_of_getElem? (i := 75) (by decide +kernel))
theorem ml_RL_176 : Cond.methodLink RL 176 yX11_later ∈ lw_tbl := tb8 (List.mem_of_getElem? (i := 136) (by decide +kernel))
theorem ml_RL_177 : Cond.methodLink RL 177 yL_clear ∈ lw_tbl := tb5 (List.mem_of_getElem? (i := 87) (by decide +kernel))
theorem ml_RL_179 : Cond.methodLink RL 179 yX11_clear ∈ lw_tbl := tb8 (List.mem_of_getElem? (i := 144) (by decide +kernel))
theorem ml_RL_180 : Cond.methodLink RL 180 yL_way ∈ lw_tbl := tb5 (List.mem_of_getElem? (i := 94) (by decide +kernel))
theorem ml_RL_182 : Cond.methodLink RL 182 yX11_way ∈ lw_tbl := tb8 (List.mem_of_getElem? (i := 156) (by decide +kernel))
theorem ml_RL_183 : Cond.methodLink RL 183 yL_reached ∈ lw_tbl := tb5 (List.mem_of_getElem? (i := 110) (by decide +kernel))
theorem ml_RL_185 : Cond.methodLink RL 185 yX11_reached ∈ lw_tbl := tb8 (List.mem_of_getElem? (i := 172) (by decide +kernel))
theorem ml_RL_186 : Cond.methodLink RL 186 yL_farthest ∈ lw_tbl := tb5 (List.mem_of_getElem? (i := 118) (by decide +kernel))
theorem ml_RL_188 : Cond.methodLink RL 188 yX11_farthest ∈ lw_tbl := tb8 (List.mem_of_getElem? (i := 176) (by decide +kernel))
theorem ml_RL_189 : Cond.methodLink RL 189 yL_gather ∈ lw_tbl := tb5 (List.mem_of_getElem? (i := 130) (by decide +kernel))
theorem ml_RL_191 : Cond.methodLink RL 191 yX11_gather ∈ lw_tbl := tb8 (List.mem_of_getElem? (i := 184) (by decide +kernel))
theorem ml_RL_192 : Cond.methodLink RL 192 yL_errands ∈ lw_tbl := tb5 (List.mem_of_getElem? (i := 145) (by decide +kernel))
theorem ml_RL_194 : Cond.methodLink RL 194 yX11_errands ∈ lw_tbl := tb8 (List.mem_of_getElem? (i := 188) (by decide +kernel))
theorem ml_RL_195 : Cond.methodLink RL 195 yL_errand ∈ lw_tbl := tb5 (List.mem_of_getElem? (i := 180) (by decide +kernel))
theorem ml_RL_197 : Cond.methodLink RL 197 yX11_errand ∈ lw_tbl := tb8 (List.mem_of_getElem? (i := 204) (by decide +kernel))
theorem ml_RL_198 : Cond.methodLink RL 198 yL_see ∈ lw_tbl := tb5 (List.mem_of_getElem? (i := 195) (by decide +kernel))
theorem ml_RL_200 : Cond.methodLink RL 200 yX11_see ∈ lw_tbl := tb8 (List.mem_of_getElem? (i := 208) (by decide +kernel))
theorem ml_RL_201 : Cond.methodLink RL 201 yX10_forget ∈ lw_tbl := tb3 (List.mem_of_getElem? (i := 49) (by decide +kernel))
theorem ml_RL_204 : Cond.methodLink RL 204 yX11_forget ∈ lw_tbl := tb8 (List.mem_of_getElem? (i := 212) (by decide +kernel))
theorem ml_RL_205 : Cond.methodLink RL 205 yL_quick ∈ lw_tbl := tb5 (List.mem_of_getElem? (i := 206) (by decide +kernel))
theorem ml_RL_207 : Cond.methodLink RL 207 yX11_quick ∈ lw_tbl := tb8 (List.mem_of_getElem? (i := 216) (by decide +kernel))
theorem ml_RL_208 : Cond.methodLink RL 208 yL_look ∈ lw_tbl := tb5 (List.mem_of_getElem? (i := 230) (by decide +kernel))
theorem ml_RL_210 : Cond.methodLink RL 210 yX11_look ∈ lw_tbl := tb8 (List.mem_of_getElem? (i := 228) (by decide +kernel))
theorem ml_RL_211 : Cond.methodLink RL 211 yL_candles ∈ lw_tbl := tb6 (List.mem_of_getElem? (i := 5) (by decide +kernel))
theorem ml_RL_213 : Cond.methodLink RL 213 yX11_candles ∈ lw_tbl := tb8 (List.mem_of_getElem? (i := 232) (by decide +kernel))
theorem ml_RL_214 : Cond.methodLink RL 214 yL_game ∈ lw_tbl := tb6 (List.mem_of_getElem? (i := 22) (by decide +kernel))
theorem ml_RL_216 : Cond.methodLink RL 216 yX11_game ∈ lw_tbl := tb8 (List.mem_of_getElem? (i := 236) (by decide +kernel))
theorem ml_RL_217 : Cond.methodLink RL 217 yL_years ∈ lw_tbl := tb6 (List.mem_of_getElem? (i := 42) (by decide +kernel))
theorem ml_RL_219 : Cond.methodLink RL 219 yX11_years ∈ lw_tbl := tb9 (List.mem_of_getElem? (i := 4) (by decide +kernel))
theorem ml_RL_220 : Cond.methodLink RL 220 yL_ahead ∈ lw_tbl := tb6 (List.mem_of_getElem? (i := 66) (by decide +kernel))
theorem ml_RL_222 : Cond.methodLink RL 222 yX11_ahead ∈ lw_tbl := tb8 (List.mem_of_getElem? (i := 148) (by decide +kernel))
theorem ml_RL_223 : Cond.methodLink RL 223 yL_ways ∈ lw_tbl := tb6 (List.mem_of_getElem? (i := 77) (by decide +kernel))
theorem ml_RL_225 : Cond.methodLink RL 225 yX11_ways ∈ lw_tbl := tb8 (List.mem_of_getElem? (i := 168) (by decide +kernel))
theorem ml_RL_226 : Cond.methodLink RL 226 yL_near ∈ lw_tbl := tb6 (List.mem_of_getElem? (i := 93) (by decide +kernel))
theorem ml_RL_228 : Cond.methodLink RL 228 yX11_near ∈ lw_tbl := tb8 (List.mem_of_getElem? (i := 180) (by decide +kernel))
theorem ml_RL_229 : Cond.methodLink RL 229 yL_gone ∈ lw_tbl := tb6 (List.mem_of_getElem? (i := 100) (by decide +kernel))
theorem ml_RL_231 : Cond.methodLink RL 231 yX11_gone ∈ lw_tbl := tb8 (List.mem_of_getElem? (i := 152) (by decide +kernel))
theorem ml_RL_232 : Cond.methodLink RL 232 yX10_image ∈ lw_tbl := tb3 (List.mem_of_getElem? (i := 57) (by decide +kernel))
theorem ml_RL_235 : Cond.methodLink RL 235 yX11_image ∈ lw_tbl := tb9 (List.mem_of_getElem? (i := 24) (by decide +kernel))
theorem ml_RL_236 : Cond.methodLink RL 236 yX10_restore ∈ lw_tbl := tb3 (List.mem_of_getElem? (i := 70) (by decide +kernel))
theorem ml_RL_240 : Cond.methodLink RL 240 yX11_restore ∈ lw_tbl := tb9 (List.mem_of_getElem? (i := 28) (by decide +kernel))
theorem ib_63 : (Int8.ofInt 63).toInt32 = 63 := by decide
def fL_law_2366 (ω : Wd)  (K23 : Nat → Nat → Nat → Nat → Int32 → Mem → Option (Int32 × Mem)) (v0 : Nat) (v1 : Nat) (v2 : Nat) (v3 : Nat) (v4 : Int32) (μ : Mem) : Option (Int32 × Mem) :=
  K23 v0 v1 v2 v3 (v4 + (6 : Int32)) μ
set_option maxHeartbeats 4000000 in
theorem tL_law_2366 {ω : Wd} {l : Launch} (d : Nat) {bk bn : Nat} {res : Int32 × Mem} (K23 : Nat → Nat → Nat → Nat → Int32 → Mem → Option (Int32 × Mem)) (hK23 : ∀ (v0 : Nat) (v1 : Nat) (v2 : Nat) (v3 : Nat) (v4 : Int32) (μ : Mem), K23 v0 v1 v2 v3 v4 μ = some res → μ.1 = NN → (kd v1).1 = 20 → (kd v2).1 = 21 → (kd v3).1 = 1 → J ω l mL_law (d + 74) 23 [(0, .ref 30000), (1, .ref v1), (2, .ref v2), (3, .ref v3), (4, .int v4)] [] μ bk bn (PE (.inl (some (.int res.1))) res.2 (isB res.1))) : ∀ (v0 : Nat) (v1 : Nat) (v2 : Nat) (v3 : Nat) (v4 : Int32) (μ : Mem), fL_law_2366 ω K23 v0 v1 v2 v3 v4 μ = some res → μ.1 = NN → (kd v1).1 = 20 → (kd v2).1 = 21 → (kd v3).1 = 1 → J ω l mL_law (d + 74) 2366 [(0, .ref 30000), (1, .ref v1), (2, .ref v2), (3, .ref v3), (4, .int v4)] [] μ bk bn (PE (.inl (some (.int res.1))) res.2 (isB res.1)) := by
  intro v0 v1 v2 v3 v4 μ h hN k1 k2 k3
  unfold fL_law_2366 at h
  refine J.iinc (pc := 2366) (j := 4) ([(4, .int (v4 + (6 : Int32))), (0, .ref 30000), (1, .ref v1), (2, .ref v2), (3, .ref v3)]) dL_law_2366 rfl (iincv ic_6) (Nat.le_of_ble_eq_true rfl) rfl ?_
  refine J.goto (pc := 2369) (tgt := 23) dL_law_2369 (by decide) ?_
  refine J.pick [1, 2, 3, 4, 0] rfl ?_
  exact hK23 v0 v1 v2 v3 (v4 + (6 : Int32)) μ h hN k1 k2 k3
def fL_law_23 (ω : Wd)  : Nat → Nat → Nat → Nat → Nat → Int32 → Mem → Option (Int32 × Mem)
  | 0, _, _, _, _, _, _ => none
  | n + 1, v0, v1, v2, v3, v4, μ =>
    if ((Int32.ofNat ω.L) - (6 : Int32)) < v4 then
      some ((1 : Int32), μ)
    else
      ((if inb v4 ω.L = true then some (ω.xs (ix v4)) else none)).bind fun x1 =>
      if (x1 &&& (63 : Int32)) = (0 : Int32) then
        ((if inb (v4 + (1 : Int32)) ω.L = true then some (ω.xs (ix (v4 + (1 : Int32)))) else none)).bind fun x3 =>
        ((if inb (v4 + (2 : Int32)) ω.L = true then some (ω.xs (ix (v4 + (2 : Int32)))) else none)).bind fun x5 =>
        ((if inb (v4 + (3 : Int32)) ω.L = true then some (ω.xs (ix (v4 + (3 : Int32)))) else none)).bind fun x7 =>
        ((if inb (v4 + (4 : Int32)) ω.L = true then some (ω.xs (ix (v4 + (4 : Int32)))) else none)).bind fun x9 =>
        ((if inb (v4 + (5 : Int32)) ω.L = true then some (ω.xs (ix (v4 + (5 : Int32)))) else none)).bind fun x11 =>
        (fX10_feed v1 x3 x5 x7 x9 x11 μ).bind fun (r15, μ14) =>
        ((if inb (v4 + (1 : Int32)) ω.L = true then some (ω.xs (ix (v4 + (1 : Int32)))) else none)).bind fun x18 =>
        ((if inb (v4 + (2 : Int32)) ω.L = true then some (ω.xs (ix (v4 + (2 : Int32)))) else none)).bind fun x20 =>
        ((if inb (v4 + (3 : Int32)) ω.L = true then some (ω.xs (ix (v4 + (3 : Int32)))) else none)).bind fun x22 =>
        ((if inb (v4 + (4 : Int32)) ω.L = true then some (ω.xs (ix (v4 + (4 : Int32)))) else none)).bind fun x24 =>
        ((if inb (v4 + (5 : Int32)) ω.L = true then some (ω.xs (ix (v4 + (5 : Int32)))) else none)).bind fun x26 =>
        (fX11_feed v2 x18 x20 x22 x24 x26 μ14).bind fun (r30, μ29) =>
        if r15 = r30 then
          (fL_law_2366 ω (fL_law_23 ω n)) v0 v1 v2 v3 v4 μ29
        else
          some ((0 : Int32), μ29)
      else
      if (x1 &&& (63 : Int32)) = (1 : Int32) then
        ((if inb (v4 + (1 : Int32)) ω.L = true then some (ω.xs (ix (v4 + (1 : Int32)))) else none)).bind fun x33 =>
        (fL_cellar v1 x33 v3 μ).bind fun (r37, μ36) =>
        ((if inb (v4 + (1 : Int32)) ω.L = true then some (ω.xs (ix (v4 + (1 : Int32)))) else none)).bind fun x40 =>
        (fX11_cellar v2 x40 μ36).bind fun (r44, μ43) =>
        if (fX11_thrown v2 μ43) = r37 then
          if r37 = 0 then
            (ldL μ43 v3 (0 : Int32)).bind fun x50 =>
            if x50 = (r44.toInt64) then
              (fL_law_2366 ω (fL_law_23 ω n)) v0 v1 v2 v3 v4 μ43
            else
              some ((0 : Int32), μ43)
          else
            (fL_law_2366 ω (fL_law_23 ω n)) v0 v1 v2 v3 v4 μ43
        else
          some ((0 : Int32), μ43)
      else
      if (x1 &&& (63 : Int32)) = (2 : Int32) then
        (fX11_fault v2 μ).bind fun (r57, μ56) =>
        if (fX10_fault v1 μ) = r57 then
          (fL_law_2366 ω (fL_law_23 ω n)) v0 v1 v2 v3 v4 μ56
        else
          some ((0 : Int32), μ56)
      else
      if (x1 &&& (63 : Int32)) = (3 : Int32) then
        ((if inb (v4 + (1 : Int32)) ω.L = true then some (ω.xs (ix (v4 + (1 : Int32)))) else none)).bind fun x60 =>
        (fL_count v1 x60 v3 μ).bind fun (r64, μ63) =>
        ((if inb (v4 + (1 : Int32)) ω.L = true then some (ω.xs (ix (v4 + (1 : Int32)))) else none)).bind fun x67 =>
        (fX11_count v2 x67 μ63).bind fun (r71, μ70) =>
        if (fX11_thrown v2 μ70) = r64 then
          if r64 = 0 then
            (ldL μ70 v3 (0 : Int32)).bind fun x77 =>
            if x77 = (r71.toInt64) then
              (fL_law_2366 ω (fL_law_23 ω n)) v0 v1 v2 v3 v4 μ70
            else
              some ((0 : Int32), μ70)
          else
            (fL_law_2366 ω (fL_law_23 ω n)) v0 v1 v2 v3 v4 μ70
        else
          some ((0 : Int32), μ70)
      else
      if (x1 &&& (63 : Int32)) = (4 : Int32) then
        ((if inb (v4 + (1 : Int32)) ω.L = true then some (ω.xs (ix (v4 + (1 : Int32)))) else none)).bind fun x79 =>
        ((if inb (v4 + (2 : Int32)) ω.L = true then some (ω.xs (ix (v4 + (2 : Int32)))) else none)).bind fun x81 =>
        (fL_deed v1 x79 x81 v3 μ).bind fun (r85, μ84) =>
        ((if inb (v4 + (1 : Int32)) ω.L = true then some (ω.xs (ix (v4 + (1 : Int32)))) else none)).bind fun x88 =>
        ((if inb (v4 + (2 : Int32)) ω.L = true then some (ω.xs (ix (v4 + (2 : Int32)))) else none)).bind fun x90 =>
        (fX11_deed v2 x88 x90 μ84).bind fun (r94, μ93) =>
        if (fX11_thrown v2 μ93) = r85 then
          if r85 = 0 then
            (ldL μ93 v3 (0 : Int32)).bind fun x100 =>
            if x100 = (r94.toInt64) then
              (fL_law_2366 ω (fL_law_23 ω n)) v0 v1 v2 v3 v4 μ93
            else
              some ((0 : Int32), μ93)
          else
            (fL_law_2366 ω (fL_law_23 ω n)) v0 v1 v2 v3 v4 μ93
        else
          some ((0 : Int32), μ93)
      else
      if (x1 &&& (63 : Int32)) = (5 : Int32) then
        ((if inb (v4 + (1 : Int32)) ω.L = true then some (ω.xs (ix (v4 + (1 : Int32)))) else none)).bind fun x102 =>
        ((if inb (v4 + (2 : Int32)) ω.L = true then some (ω.xs (ix (v4 + (2 : Int32)))) else none)).bind fun x104 =>
        (fL_person v1 x102 x104 v3 μ).bind fun (r108, μ107) =>
        ((if inb (v4 + (1 : Int32)) ω.L = true then some (ω.xs (ix (v4 + (1 : Int32)))) else none)).bind fun x111 =>
        ((if inb (v4 + (2 : Int32)) ω.L = true then some (ω.xs (ix (v4 + (2 : Int32)))) else none)).bind fun x113 =>
        (fX11_person v2 x111 x113 μ107).bind fun (r117, μ116) =>
        if (fX11_thrown v2 μ116) = r108 then
          if r108 = 0 then
            (ldL μ116 v3 (0 : Int32)).bind fun x123 =>
            if x123 = (r117.toInt64) then
              (fL_law_2366 ω (fL_law_23 ω n)) v0 v1 v2 v3 v4 μ116
            else
              some ((0 : Int32), μ116)
          else
            (fL_law_2366 ω (fL_law_23 ω n)) v0 v1 v2 v3 v4 μ116
        else
          some ((0 : Int32), μ116)
      else
      if (x1 &&& (63 : Int32)) = (6 : Int32) then
        ((if inb (v4 + (1 : Int32)) ω.L = true then some (ω.xs (ix (v4 + (1 : Int32)))) else none)).bind fun x125 =>
        (fL_ink v1 x125 v3 μ).bind fun (r129, μ128) =>
        ((if inb (v4 + (1 : Int32)) ω.L = true then some (ω.xs (ix (v4 + (1 : Int32)))) else none)).bind fun x132 =>
        (fX11_ink v2 x132 μ128).bind fun (r136, μ135) =>
        if (fX11_thrown v2 μ135) = r129 then
          if r129 = 0 then
            (ldL μ135 v3 (0 : Int32)).bind fun x142 =>
            if x142 = (r136.toInt64) then
              (fL_law_2366 ω (fL_law_23 ω n)) v0 v1 v2 v3 v4 μ135
            else
              some ((0 : Int32), μ135)
          else
            (fL_law_2366 ω (fL_law_23 ω n)) v0 v1 v2 v3 v4 μ135
        else
          some ((0 : Int32), μ135)
      else
      if (x1 &&& (63 : Int32)) = (7 : Int32) then
        ((if inb (v4 + (1 : Int32)) ω.L = true then some (ω.xs (ix (v4 + (1 : Int32)))) else none)).bind fun x144 =>
        (fX10_days v1 x144 μ).bind fun (r148, μ147) =>
        ((if inb (v4 + (1 : Int32)) ω.L = true then some (ω.xs (ix (v4 + (1 : Int32)))) else none)).bind fun x151 =>
        (fX11_days v2 x151 μ147).bind fun (r155, μ154) =>
        if r148 = r155 then
          (fL_law_2366 ω (fL_law_23 ω n)) v0 v1 v2 v3 v4 μ154
        else
          some ((0 : Int32), μ154)
      else
      if (x1 &&& (63 : Int32)) = (8 : Int32) then
        ((if inb (v4 + (1 : Int32)) ω.L = true then some (ω.xs (ix (v4 + (1 : Int32)))) else none)).bind fun x158 =>
        ((if inb (v4 + (2 : Int32)) ω.L = true then some (ω.xs (ix (v4 + (2 : Int32)))) else none)).bind fun x160 =>
        (fL_type v1 x158 x160 v3 μ).bind fun (r164, μ163) =>
        ((if inb (v4 + (1 : Int32)) ω.L = true then some (ω.xs (ix (v4 + (1 : Int32)))) else none)).bind fun x167 =>
        ((if inb (v4 + (2 : Int32)) ω.L = true then some (ω.xs (ix (v4 + (2 : Int32)))) else none)).bind fun x169 =>
        (fX11_type v2 x167 x169 μ163).bind fun (r173, μ172) =>
        if (fX11_thrown v2 μ172) = r164 then
          if r164 = 0 then
            (ldL μ172 v3 (0 : Int32)).bind fun x179 =>
            if x179 = (r173.toInt64) then
              (fL_law_2366 ω (fL_law_23 ω n)) v0 v1 v2 v3 v4 μ172
            else
              some ((0 : Int32), μ172)
          else
            (fL_law_2366 ω (fL_law_23 ω n)) v0 v1 v2 v3 v4 μ172
        else
          some ((0 : Int32), μ172)
      else
      if (x1 &&& (63 : Int32)) = (9 : Int32) then
        ((if inb (v4 + (1 : Int32)) ω.L = true then some (ω.xs (ix (v4 + (1 : Int32)))) else none)).bind fun x181 =>
        ((if inb (v4 + (2 : Int32)) ω.L = true then some (ω.xs (ix (v4 + (2 : Int32)))) else none)).bind fun x183 =>
        if x183 = 0 then
          (fL_stile v1 x181 (0 : Int32) v3 μ).bind fun (r187, μ186) =>
          ((if inb (v4 + (1 : Int32)) ω.L = true then some (ω.xs (ix (v4 + (1 : Int32)))) else none)).bind fun x190 =>
          ((if inb (v4 + (2 : Int32)) ω.L = true then some (ω.xs (ix (v4 + (2 : Int32)))) else none)).bind fun x192 =>
          if x192 = 0 then
            (fX11_stile v2 x190 (0 : Int32) μ186).bind fun (r196, μ195) =>
            if (fX11_thrown v2 μ195) = r187 then
              if r187 = 0 then
                (ldL μ195 v3 (0 : Int32)).bind fun x202 =>
                if r196 = 0 then
                  if x202 = (0 : Int64) then
                    (fL_law_2366 ω (fL_law_23 ω n)) v0 v1 v2 v3 v4 μ195
                  else
                    some ((0 : Int32), μ195)
                else
                  if x202 = (1 : Int64) then
                    (fL_law_2366 ω (fL_law_23 ω n)) v0 v1 v2 v3 v4 μ195
                  else
                    some ((0 : Int32), μ195)
              else
                (fL_law_2366 ω (fL_law_23 ω n)) v0 v1 v2 v3 v4 μ195
            else
              some ((0 : Int32), μ195)
          else
            (fX11_stile v2 x190 (1 : Int32) μ186).bind fun (r206, μ205) =>
            if (fX11_thrown v2 μ205) = r187 then
              if r187 = 0 then
                (ldL μ205 v3 (0 : Int32)).bind fun x212 =>
                if r206 = 0 then
                  if x212 = (0 : Int64) then
                    (fL_law_2366 ω (fL_law_23 ω n)) v0 v1 v2 v3 v4 μ205
                  else
                    some ((0 : Int32), μ205)
                else
                  if x212 = (1 : Int64) then
                    (fL_law_2366 ω (fL_law_23 ω n)) v0 v1 v2 v3 v4 μ205
                  else
                    some ((0 : Int32), μ205)
              else
                (fL_law_2366 ω (fL_law_23 ω n)) v0 v1 v2 v3 v4 μ205
            else
              some ((0 : Int32), μ205)
        else
          (fL_stile v1 x181 (1 : Int32) v3 μ).bind fun (r216, μ215) =>
          ((if inb (v4 + (1 : Int32)) ω.L = true then some (ω.xs (ix (v4 + (1 : Int32)))) else none)).bind fun x219 =>
          ((if inb (v4 + (2 : Int32)) ω.L = true then some (ω.xs (ix (v4 + (2 : Int32)))) else none)).bind fun x221 =>
          if x221 = 0 then
            (fX11_stile v2 x219 (0 : Int32) μ215).bind fun (r225, μ224) =>
            if (fX11_thrown v2 μ224) = r216 then
              if r216 = 0 then
                (ldL μ224 v3 (0 : Int32)).bind fun x231 =>
                if r225 = 0 then
                  if x231 = (0 : Int64) then
                    (fL_law_2366 ω (fL_law_23 ω n)) v0 v1 v2 v3 v4 μ224
                  else
                    some ((0 : Int32), μ224)
                else
                  if x231 = (1 : Int64) then
                    (fL_law_2366 ω (fL_law_23 ω n)) v0 v1 v2 v3 v4 μ224
                  else
                    some ((0 : Int32), μ224)
              else
                (fL_law_2366 ω (fL_law_23 ω n)) v0 v1 v2 v3 v4 μ224
            else
              some ((0 : Int32), μ224)
          else
            (fX11_stile v2 x219 (1 : Int32) μ215).bind fun (r235, μ234) =>
            if (fX11_thrown v2 μ234) = r216 then
              if r216 = 0 then
                (ldL μ234 v3 (0 : Int32)).bind fun x241 =>
                if r235 = 0 then
                  if x241 = (0 : Int64) then
                    (fL_law_2366 ω (fL_law_23 ω n)) v0 v1 v2 v3 v4 μ234
                  else
                    some ((0 : Int32), μ234)
                else
                  if x241 = (1 : Int64) then
                    (fL_law_2366 ω (fL_law_23 ω n)) v0 v1 v2 v3 v4 μ234
                  else
                    some ((0 : Int32), μ234)
              else
                (fL_law_2366 ω (fL_law_23 ω n)) v0 v1 v2 v3 v4 μ234
            else
              some ((0 : Int32), μ234)
      else
      if (x1 &&& (63 : Int32)) = (10 : Int32) then
        ((if inb (v4 + (1 : Int32)) ω.L = true then some (ω.xs (ix (v4 + (1 : Int32)))) else none)).bind fun x243 =>
        ((if inb (v4 + (2 : Int32)) ω.L = true then some (ω.xs (ix (v4 + (2 : Int32)))) else none)).bind fun x245 =>
        (fL_send v1 x243 x245 v3 μ).bind fun (r249, μ248) =>
        ((if inb (v4 + (1 : Int32)) ω.L = true then some (ω.xs (ix (v4 + (1 : Int32)))) else none)).bind fun x252 =>
        ((if inb (v4 + (2 : Int32)) ω.L = true then some (ω.xs (ix (v4 + (2 : Int32)))) else none)).bind fun x254 =>
        (fX11_send v2 x252 x254 μ248).bind fun (r258, μ257) =>
        if (fX11_thrown v2 μ257) = r249 then
          if r249 = 0 then
            (ldL μ257 v3 (0 : Int32)).bind fun x264 =>
            if x264 = (r258.toInt64) then
              (fL_law_2366 ω (fL_law_23 ω n)) v0 v1 v2 v3 v4 μ257
            else
              some ((0 : Int32), μ257)
          else
            (fL_law_2366 ω (fL_law_23 ω n)) v0 v1 v2 v3 v4 μ257
        else
          some ((0 : Int32), μ257)
      else
      if (x1 &&& (63 : Int32)) = (11 : Int32) then
        ((if inb (v4 + (1 : Int32)) ω.L = true then some (ω.xs (ix (v4 + (1 : Int32)))) else none)).bind fun x266 =>
        ((if inb (v4 + (2 : Int32)) ω.L = true then some (ω.xs (ix (v4 + (2 : Int32)))) else none)).bind fun x268 =>
        (fL_let v1 x266 x268 v3 μ).bind fun (r272, μ271) =>
        ((if inb (v4 + (1 : Int32)) ω.L = true then some (ω.xs (ix (v4 + (1 : Int32)))) else none)).bind fun x275 =>
        ((if inb (v4 + (2 : Int32)) ω.L = true then some (ω.xs (ix (v4 + (2 : Int32)))) else none)).bind fun x277 =>
        (fX11_let v2 x275 x277 μ271).bind fun (r281, μ280) =>
        if (fX11_thrown v2 μ280) = r272 then
          if r272 = 0 then
            (ldL μ280 v3 (0 : Int32)).bind fun x287 =>
            if x287 = (r281.toInt64) then
              (fL_law_2366 ω (fL_law_23 ω n)) v0 v1 v2 v3 v4 μ280
            else
              some ((0 : Int32), μ280)
          else
            (fL_law_2366 ω (fL_law_23 ω n)) v0 v1 v2 v3 v4 μ280
        else
          some ((0 : Int32), μ280)
      else
      if (x1 &&& (63 : Int32)) = (12 : Int32) then
        (fX10_undo v1 μ).bind fun (r291, μ290) =>
        (fX11_undo v2 μ290).bind fun (r296, μ295) =>
        if r291 = r296 then
          (fL_law_2366 ω (fL_law_23 ω n)) v0 v1 v2 v3 v4 μ295
        else
          some ((0 : Int32), μ295)
      else
      if (x1 &&& (63 : Int32)) = (13 : Int32) then
        ((if inb (v4 + (1 : Int32)) ω.L = true then some (ω.xs (ix (v4 + (1 : Int32)))) else none)).bind fun x299 =>
        ((if inb (v4 + (2 : Int32)) ω.L = true then some (ω.xs (ix (v4 + (2 : Int32)))) else none)).bind fun x301 =>
        ((if inb (v4 + (3 : Int32)) ω.L = true then some (ω.xs (ix (v4 + (3 : Int32)))) else none)).bind fun x303 =>
        (fL_then v1 x299 x301 x303 v3 μ).bind fun (r307, μ306) =>
        ((if inb (v4 + (1 : Int32)) ω.L = true then some (ω.xs (ix (v4 + (1 : Int32)))) else none)).bind fun x310 =>
        ((if inb (v4 + (2 : Int32)) ω.L = true then some (ω.xs (ix (v4 + (2 : Int32)))) else none)).bind fun x312 =>
        ((if inb (v4 + (3 : Int32)) ω.L = true then some (ω.xs (ix (v4 + (3 : Int32)))) else none)).bind fun x314 =>
        (fX11_then v2 x310 x312 x314 μ306).bind fun (r318, μ317) =>
        if (fX11_thrown v2 μ317) = r307 then
          if r307 = 0 then
            (ldL μ317 v3 (0 : Int32)).bind fun x324 =>
            if x324 = (r318.toInt64) then
              (fL_law_2366 ω (fL_law_23 ω n)) v0 v1 v2 v3 v4 μ317
            else
              some ((0 : Int32), μ317)
          else
            (fL_law_2366 ω (fL_law_23 ω n)) v0 v1 v2 v3 v4 μ317
        else
          some ((0 : Int32), μ317)
      else
      if (x1 &&& (63 : Int32)) = (14 : Int32) then
        ((if inb (v4 + (1 : Int32)) ω.L = true then some (ω.xs (ix (v4 + (1 : Int32)))) else none)).bind fun x326 =>
        (fL_comes v1 x326 v3 μ).bind fun (r330, μ329) =>
        ((if inb (v4 + (1 : Int32)) ω.L = true then some (ω.xs (ix (v4 + (1 : Int32)))) else none)).bind fun x333 =>
        (fX11_comes v2 x333 μ329).bind fun (r337, μ336) =>
        if (fX11_thrown v2 μ336) = r330 then
          if r330 = 0 then
            (ldL μ336 v3 (0 : Int32)).bind fun x343 =>
            if x343 = (r337.toInt64) then
              (fL_law_2366 ω (fL_law_23 ω n)) v0 v1 v2 v3 v4 μ336
            else
              some ((0 : Int32), μ336)
          else
            (fL_law_2366 ω (fL_law_23 ω n)) v0 v1 v2 v3 v4 μ336
        else
          some ((0 : Int32), μ336)
      else
      if (x1 &&& (63 : Int32)) = (15 : Int32) then
        ((if inb (v4 + (1 : Int32)) ω.L = true then some (ω.xs (ix (v4 + (1 : Int32)))) else none)).bind fun x345 =>
        ((if inb (v4 + (2 : Int32)) ω.L = true then some (ω.xs (ix (v4 + (2 : Int32)))) else none)).bind fun x347 =>
        (fL_meet v1 x345 x347 v3 μ).bind fun (r351, μ350) =>
        ((if inb (v4 + (1 : Int32)) ω.L = true then some (ω.xs (ix (v4 + (1 : Int32)))) else none)).bind fun x354 =>
        ((if inb (v4 + (2 : Int32)) ω.L = true then some (ω.xs (ix (v4 + (2 : Int32)))) else none)).bind fun x356 =>
        (fX11_meet v2 x354 x356 μ350).bind fun (r360, μ359) =>
        if (fX11_thrown v2 μ359) = r351 then
          if r351 = 0 then
            (ldL μ359 v3 (0 : Int32)).bind fun x366 =>
            if x366 = (r360.toInt64) then
              (fL_law_2366 ω (fL_law_23 ω n)) v0 v1 v2 v3 v4 μ359
            else
              some ((0 : Int32), μ359)
          else
            (fL_law_2366 ω (fL_law_23 ω n)) v0 v1 v2 v3 v4 μ359
        else
          some ((0 : Int32), μ359)
      else
      if (x1 &&& (63 : Int32)) = (16 : Int32) then
        ((if inb (v4 + (1 : Int32)) ω.L = true then some (ω.xs (ix (v4 + (1 : Int32)))) else none)).bind fun x368 =>
        ((if inb (v4 + (2 : Int32)) ω.L = true then some (ω.xs (ix (v4 + (2 : Int32)))) else none)).bind fun x370 =>
        (fL_later v1 x368 x370 v3 μ).bind fun (r374, μ373) =>
        ((if inb (v4 + (1 : Int32)) ω.L = true then some (ω.xs (ix (v4 + (1 : Int32)))) else none)).bind fun x377 =>
        ((if inb (v4 + (2 : Int32)) ω.L = true then some (ω.xs (ix (v4 + (2 : Int32)))) else none)).bind fun x379 =>
        (fX11_later v2 x377 x379 μ373).bind fun (r383, μ382) =>
        if (fX11_thrown v2 μ382) = r374 then
          if r374 = 0 then
            (ldL μ382 v3 (0 : Int32)).bind fun x389 =>
            if x389 = (r383.toInt64) then
              (fL_law_2366 ω (fL_law_23 ω n)) v0 v1 v2 v3 v4 μ382
            else
              some ((0 : Int32), μ382)
          else
            (fL_law_2366 ω (fL_law_23 ω n)) v0 v1 v2 v3 v4 μ382
        else
          some ((0 : Int32), μ382)
      else
      if (x1 &&& (63 : Int32)) = (17 : Int32) then
        ((if inb (v4 + (1 : Int32)) ω.L = true then some (ω.xs (ix (v4 + (1 : Int32)))) else none)).bind fun x391 =>
        (fL_clear v1 x391 v3 μ).bind fun (r395, μ394) =>
        ((if inb (v4 + (1 : Int32)) ω.L = true then some (ω.xs (ix (v4 + (1 : Int32)))) else none)).bind fun x398 =>
        (fX11_clear v2 x398 μ394).bind fun (r402, μ401) =>
        if (fX11_thrown v2 μ401) = r395 then
          if r395 = 0 then
            (ldL μ401 v3 (0 : Int32)).bind fun x408 =>
            if x408 = (r402.toInt64) then
              (fL_law_2366 ω (fL_law_23 ω n)) v0 v1 v2 v3 v4 μ401
            else
              some ((0 : Int32), μ401)
          else
            (fL_law_2366 ω (fL_law_23 ω n)) v0 v1 v2 v3 v4 μ401
        else
          some ((0 : Int32), μ401)
      else
      if (x1 &&& (63 : Int32)) = (18 : Int32) then
        ((if inb (v4 + (1 : Int32)) ω.L = true then some (ω.xs (ix (v4 + (1 : Int32)))) else none)).bind fun x410 =>
        ((if inb (v4 + (2 : Int32)) ω.L = true then some (ω.xs (ix (v4 + (2 : Int32)))) else none)).bind fun x412 =>
        ((if inb (v4 + (3 : Int32)) ω.L = true then some (ω.xs (ix (v4 + (3 : Int32)))) else none)).bind fun x414 =>
        (fL_way v1 x410 x412 x414 v3 μ).bind fun (r418, μ417) =>
        ((if inb (v4 + (1 : Int32)) ω.L = true then some (ω.xs (ix (v4 + (1 : Int32)))) else none)).bind fun x421 =>
        ((if inb (v4 + (2 : Int32)) ω.L = true then some (ω.xs (ix (v4 + (2 : Int32)))) else none)).bind fun x423 =>
        ((if inb (v4 + (3 : Int32)) ω.L = true then some (ω.xs (ix (v4 + (3 : Int32)))) else none)).bind fun x425 =>
        (fX11_way v2 x421 x423 x425 μ417).bind fun (r429, μ428) =>
        if (fX11_thrown v2 μ428) = r418 then
          if r418 = 0 then
            (ldL μ428 v3 (0 : Int32)).bind fun x435 =>
            if x435 = (r429.toInt64) then
              (fL_law_2366 ω (fL_law_23 ω n)) v0 v1 v2 v3 v4 μ428
            else
              some ((0 : Int32), μ428)
          else
            (fL_law_2366 ω (fL_law_23 ω n)) v0 v1 v2 v3 v4 μ428
        else
          some ((0 : Int32), μ428)
      else
      if (x1 &&& (63 : Int32)) = (19 : Int32) then
        ((if inb (v4 + (1 : Int32)) ω.L = true then some (ω.xs (ix (v4 + (1 : Int32)))) else none)).bind fun x437 =>
        ((if inb (v4 + (2 : Int32)) ω.L = true then some (ω.xs (ix (v4 + (2 : Int32)))) else none)).bind fun x439 =>
        (fL_reached v1 x437 x439 v3 μ).bind fun (r443, μ442) =>
        ((if inb (v4 + (1 : Int32)) ω.L = true then some (ω.xs (ix (v4 + (1 : Int32)))) else none)).bind fun x446 =>
        ((if inb (v4 + (2 : Int32)) ω.L = true then some (ω.xs (ix (v4 + (2 : Int32)))) else none)).bind fun x448 =>
        (fX11_reached v2 x446 x448 μ442).bind fun (r452, μ451) =>
        if (fX11_thrown v2 μ451) = r443 then
          if r443 = 0 then
            (ldL μ451 v3 (0 : Int32)).bind fun x458 =>
            if x458 = (r452.toInt64) then
              (fL_law_2366 ω (fL_law_23 ω n)) v0 v1 v2 v3 v4 μ451
            else
              some ((0 : Int32), μ451)
          else
            (fL_law_2366 ω (fL_law_23 ω n)) v0 v1 v2 v3 v4 μ451
        else
          some ((0 : Int32), μ451)
      else
      if (x1 &&& (63 : Int32)) = (20 : Int32) then
        ((if inb (v4 + (1 : Int32)) ω.L = true then some (ω.xs (ix (v4 + (1 : Int32)))) else none)).bind fun x460 =>
        ((if inb (v4 + (2 : Int32)) ω.L = true then some (ω.xs (ix (v4 + (2 : Int32)))) else none)).bind fun x462 =>
        (fL_farthest v1 x460 x462 v3 μ).bind fun (r466, μ465) =>
        ((if inb (v4 + (1 : Int32)) ω.L = true then some (ω.xs (ix (v4 + (1 : Int32)))) else none)).bind fun x469 =>
        ((if inb (v4 + (2 : Int32)) ω.L = true then some (ω.xs (ix (v4 + (2 : Int32)))) else none)).bind fun x471 =>
        (fX11_farthest v2 x469 x471 μ465).bind fun (r475, μ474) =>
        if (fX11_thrown v2 μ474) = r466 then
          if r466 = 0 then
            (ldL μ474 v3 (0 : Int32)).bind fun x481 =>
            if x481 = (r475.toInt64) then
              (fL_law_2366 ω (fL_law_23 ω n)) v0 v1 v2 v3 v4 μ474
            else
              some ((0 : Int32), μ474)
          else
            (fL_law_2366 ω (fL_law_23 ω n)) v0 v1 v2 v3 v4 μ474
        else
          some ((0 : Int32), μ474)
      else
      if (x1 &&& (63 : Int32)) = (21 : Int32) then
        ((if inb (v4 + (1 : Int32)) ω.L = true then some (ω.xs (ix (v4 + (1 : Int32)))) else none)).bind fun x483 =>
        (fL_gather v1 x483 v3 μ).bind fun (r487, μ486) =>
        ((if inb (v4 + (1 : Int32)) ω.L = true then some (ω.xs (ix (v4 + (1 : Int32)))) else none)).bind fun x490 =>
        (fX11_gather v2 x490 μ486).bind fun (r494, μ493) =>
        if (fX11_thrown v2 μ493) = r487 then
          if r487 = 0 then
            (ldL μ493 v3 (0 : Int32)).bind fun x500 =>
            if x500 = (r494.toInt64) then
              (fL_law_2366 ω (fL_law_23 ω n)) v0 v1 v2 v3 v4 μ493
            else
              some ((0 : Int32), μ493)
          else
            (fL_law_2366 ω (fL_law_23 ω n)) v0 v1 v2 v3 v4 μ493
        else
          some ((0 : Int32), μ493)
      else
      if (x1 &&& (63 : Int32)) = (22 : Int32) then
        ((if inb (v4 + (1 : Int32)) ω.L = true then some (ω.xs (ix (v4 + (1 : Int32)))) else none)).bind fun x502 =>
        (fL_errands v1 x502 v3 μ).bind fun (r506, μ505) =>
        ((if inb (v4 + (1 : Int32)) ω.L = true then some (ω.xs (ix (v4 + (1 : Int32)))) else none)).bind fun x509 =>
        (fX11_errands v2 x509 μ505).bind fun (r513, μ512) =>
        if (fX11_thrown v2 μ512) = r506 then
          if r506 = 0 then
            (ldL μ512 v3 (0 : Int32)).bind fun x519 =>
            if x519 = (r513.toInt64) then
              (fL_law_2366 ω (fL_law_23 ω n)) v0 v1 v2 v3 v4 μ512
            else
              some ((0 : Int32), μ512)
          else
            (fL_law_2366 ω (fL_law_23 ω n)) v0 v1 v2 v3 v4 μ512
        else
          some ((0 : Int32), μ512)
      else
      if (x1 &&& (63 : Int32)) = (23 : Int32) then
        ((if inb (v4 + (1 : Int32)) ω.L = true then some (ω.xs (ix (v4 + (1 : Int32)))) else none)).bind fun x521 =>
        (fL_errand v1 x521 v3 μ).bind fun (r525, μ524) =>
        ((if inb (v4 + (1 : Int32)) ω.L = true then some (ω.xs (ix (v4 + (1 : Int32)))) else none)).bind fun x528 =>
        (fX11_errand v2 x528 μ524).bind fun (r532, μ531) =>
        if (fX11_thrown v2 μ531) = r525 then
          if r525 = 0 then
            (ldL μ531 v3 (0 : Int32)).bind fun x538 =>
            if x538 = (r532.toInt64) then
              (fL_law_2366 ω (fL_law_23 ω n)) v0 v1 v2 v3 v4 μ531
            else
              some ((0 : Int32), μ531)
          else
            (fL_law_2366 ω (fL_law_23 ω n)) v0 v1 v2 v3 v4 μ531
        else
          some ((0 : Int32), μ531)
      else
      if (x1 &&& (63 : Int32)) = (24 : Int32) then
        ((if inb (v4 + (1 : Int32)) ω.L = true then some (ω.xs (ix (v4 + (1 : Int32)))) else none)).bind fun x540 =>
        ((if inb (v4 + (2 : Int32)) ω.L = true then some (ω.xs (ix (v4 + (2 : Int32)))) else none)).bind fun x542 =>
        ((if inb (v4 + (3 : Int32)) ω.L = true then some (ω.xs (ix (v4 + (3 : Int32)))) else none)).bind fun x544 =>
        (fL_see v1 x540 x542 x544 v3 μ).bind fun (r548, μ547) =>
        ((if inb (v4 + (1 : Int32)) ω.L = true then some (ω.xs (ix (v4 + (1 : Int32)))) else none)).bind fun x551 =>
        ((if inb (v4 + (2 : Int32)) ω.L = true then some (ω.xs (ix (v4 + (2 : Int32)))) else none)).bind fun x553 =>
        ((if inb (v4 + (3 : Int32)) ω.L = true then some (ω.xs (ix (v4 + (3 : Int32)))) else none)).bind fun x555 =>
        (fX11_see v2 x551 x553 x555 μ547).bind fun (r559, μ558) =>
        if (fX11_thrown v2 μ558) = r548 then
          if r548 = 0 then
            (ldL μ558 v3 (0 : Int32)).bind fun x565 =>
            if x565 = (r559.toInt64) then
              (fL_law_2366 ω (fL_law_23 ω n)) v0 v1 v2 v3 v4 μ558
            else
              some ((0 : Int32), μ558)
          else
            (fL_law_2366 ω (fL_law_23 ω n)) v0 v1 v2 v3 v4 μ558
        else
          some ((0 : Int32), μ558)
      else
      if (x1 &&& (63 : Int32)) = (25 : Int32) then
        (fX10_forget v1 μ).bind fun μ568 =>
        (fX11_forget v2 μ568).bind fun μ572 =>
        (fL_law_2366 ω (fL_law_23 ω n)) v0 v1 v2 v3 v4 μ572
      else
      if (x1 &&& (63 : Int32)) = (26 : Int32) then
        ((if inb (v4 + (1 : Int32)) ω.L = true then some (ω.xs (ix (v4 + (1 : Int32)))) else none)).bind fun x575 =>
        (fL_quick v1 x575 v3 μ).bind fun (r579, μ578) =>
        ((if inb (v4 + (1 : Int32)) ω.L = true then some (ω.xs (ix (v4 + (1 : Int32)))) else none)).bind fun x582 =>
        (fX11_quick v2 x582 μ578).bind fun (r586, μ585) =>
        if (fX11_thrown v2 μ585) = r579 then
          if r579 = 0 then
            (ldL μ585 v3 (0 : Int32)).bind fun x592 =>
            if x592 = (r586.toInt64) then
              (fL_law_2366 ω (fL_law_23 ω n)) v0 v1 v2 v3 v4 μ585
            else
              some ((0 : Int32), μ585)
          else
            (fL_law_2366 ω (fL_law_23 ω n)) v0 v1 v2 v3 v4 μ585
        else
          some ((0 : Int32), μ585)
      else
      if (x1 &&& (63 : Int32)) = (27 : Int32) then
        ((if inb (v4 + (1 : Int32)) ω.L = true then some (ω.xs (ix (v4 + (1 : Int32)))) else none)).bind fun x594 =>
        (fL_look v1 x594 v3 μ).bind fun (r598, μ597) =>
        ((if inb (v4 + (1 : Int32)) ω.L = true then some (ω.xs (ix (v4 + (1 : Int32)))) else none)).bind fun x601 =>
        (fX11_look v2 x601 μ597).bind fun (r605, μ604) =>
        if (fX11_thrown v2 μ604) = r598 then
          if r598 = 0 then
            (ldL μ604 v3 (0 : Int32)).bind fun x611 =>
            if x611 = (r605.toInt64) then
              (fL_law_2366 ω (fL_law_23 ω n)) v0 v1 v2 v3 v4 μ604
            else
              some ((0 : Int32), μ604)
          else
            (fL_law_2366 ω (fL_law_23 ω n)) v0 v1 v2 v3 v4 μ604
        else
          some ((0 : Int32), μ604)
      else
      if (x1 &&& (63 : Int32)) = (28 : Int32) then
        ((if inb (v4 + (1 : Int32)) ω.L = true then some (ω.xs (ix (v4 + (1 : Int32)))) else none)).bind fun x613 =>
        ((if inb (v4 + (2 : Int32)) ω.L = true then some (ω.xs (ix (v4 + (2 : Int32)))) else none)).bind fun x615 =>
        ((if inb (v4 + (3 : Int32)) ω.L = true then some (ω.xs (ix (v4 + (3 : Int32)))) else none)).bind fun x617 =>
        (fL_candles v1 x613 x615 x617 v3 μ).bind fun (r621, μ620) =>
        ((if inb (v4 + (1 : Int32)) ω.L = true then some (ω.xs (ix (v4 + (1 : Int32)))) else none)).bind fun x624 =>
        ((if inb (v4 + (2 : Int32)) ω.L = true then some (ω.xs (ix (v4 + (2 : Int32)))) else none)).bind fun x626 =>
        ((if inb (v4 + (3 : Int32)) ω.L = true then some (ω.xs (ix (v4 + (3 : Int32)))) else none)).bind fun x628 =>
        (fX11_candles v2 x624 x626 x628 μ620).bind fun (r632, μ631) =>
        if (fX11_thrown v2 μ631) = r621 then
          if r621 = 0 then
            (ldL μ631 v3 (0 : Int32)).bind fun x638 =>
            if x638 = (r632.toInt64) then
              (fL_law_2366 ω (fL_law_23 ω n)) v0 v1 v2 v3 v4 μ631
            else
              some ((0 : Int32), μ631)
          else
            (fL_law_2366 ω (fL_law_23 ω n)) v0 v1 v2 v3 v4 μ631
        else
          some ((0 : Int32), μ631)
      else
      if (x1 &&& (63 : Int32)) = (29 : Int32) then
        ((if inb (v4 + (1 : Int32)) ω.L = true then some (ω.xs (ix (v4 + (1 : Int32)))) else none)).bind fun x640 =>
        ((if inb (v4 + (2 : Int32)) ω.L = true then some (ω.xs (ix (v4 + (2 : Int32)))) else none)).bind fun x642 =>
        ((if inb (v4 + (3 : Int32)) ω.L = true then some (ω.xs (ix (v4 + (3 : Int32)))) else none)).bind fun x644 =>
        (fL_game v1 x640 x642 x644 v3 μ).bind fun (r648, μ647) =>
        ((if inb (v4 + (1 : Int32)) ω.L = true then some (ω.xs (ix (v4 + (1 : Int32)))) else none)).bind fun x651 =>
        ((if inb (v4 + (2 : Int32)) ω.L = true then some (ω.xs (ix (v4 + (2 : Int32)))) else none)).bind fun x653 =>
        ((if inb (v4 + (3 : Int32)) ω.L = true then some (ω.xs (ix (v4 + (3 : Int32)))) else none)).bind fun x655 =>
        (fX11_game v2 x651 x653 x655 μ647).bind fun (r659, μ658) =>
        if (fX11_thrown v2 μ658) = r648 then
          if r648 = 0 then
            (ldL μ658 v3 (0 : Int32)).bind fun x665 =>
            if x665 = (r659.toInt64) then
              (fL_law_2366 ω (fL_law_23 ω n)) v0 v1 v2 v3 v4 μ658
            else
              some ((0 : Int32), μ658)
          else
            (fL_law_2366 ω (fL_law_23 ω n)) v0 v1 v2 v3 v4 μ658
        else
          some ((0 : Int32), μ658)
      else
      if (x1 &&& (63 : Int32)) = (30 : Int32) then
        ((if inb (v4 + (1 : Int32)) ω.L = true then some (ω.xs (ix (v4 + (1 : Int32)))) else none)).bind fun x667 =>
        ((if inb (v4 + (2 : Int32)) ω.L = true then some (ω.xs (ix (v4 + (2 : Int32)))) else none)).bind fun x669 =>
        ((if inb (v4 + (3 : Int32)) ω.L = true then some (ω.xs (ix (v4 + (3 : Int32)))) else none)).bind fun x671 =>
        (fL_years v1 x667 x669 x671 v3 μ).bind fun (r675, μ674) =>
        ((if inb (v4 + (1 : Int32)) ω.L = true then some (ω.xs (ix (v4 + (1 : Int32)))) else none)).bind fun x678 =>
        ((if inb (v4 + (2 : Int32)) ω.L = true then some (ω.xs (ix (v4 + (2 : Int32)))) else none)).bind fun x680 =>
        ((if inb (v4 + (3 : Int32)) ω.L = true then some (ω.xs (ix (v4 + (3 : Int32)))) else none)).bind fun x682 =>
        (fX11_years v2 x678 x680 x682 μ674).bind fun (r686, μ685) =>
        if (fX11_thrown v2 μ685) = r675 then
          if r675 = 0 then
            (ldL μ685 v3 (0 : Int32)).bind fun x692 =>
            if x692 = (r686.toInt64) then
              (fL_law_2366 ω (fL_law_23 ω n)) v0 v1 v2 v3 v4 μ685
            else
              some ((0 : Int32), μ685)
          else
            (fL_law_2366 ω (fL_law_23 ω n)) v0 v1 v2 v3 v4 μ685
        else
          some ((0 : Int32), μ685)
      else
      if (x1 &&& (63 : Int32)) = (31 : Int32) then
        ((if inb (v4 + (1 : Int32)) ω.L = true then some (ω.xs (ix (v4 + (1 : Int32)))) else none)).bind fun x694 =>
        ((if inb (v4 + (2 : Int32)) ω.L = true then some (ω.xs (ix (v4 + (2 : Int32)))) else none)).bind fun x696 =>
        (fL_ahead v1 x694 x696 v3 μ).bind fun (r700, μ699) =>
        ((if inb (v4 + (1 : Int32)) ω.L = true then some (ω.xs (ix (v4 + (1 : Int32)))) else none)).bind fun x703 =>
        ((if inb (v4 + (2 : Int32)) ω.L = true then some (ω.xs (ix (v4 + (2 : Int32)))) else none)).bind fun x705 =>
        (fX11_ahead v2 x703 x705 μ699).bind fun (r709, μ708) =>
        if (fX11_thrown v2 μ708) = r700 then
          if r700 = 0 then
            (ldL μ708 v3 (0 : Int32)).bind fun x715 =>
            if x715 = (r709.toInt64) then
              (fL_law_2366 ω (fL_law_23 ω n)) v0 v1 v2 v3 v4 μ708
            else
              some ((0 : Int32), μ708)
          else
            (fL_law_2366 ω (fL_law_23 ω n)) v0 v1 v2 v3 v4 μ708
        else
          some ((0 : Int32), μ708)
      else
      if (x1 &&& (63 : Int32)) = (32 : Int32) then
        ((if inb (v4 + (1 : Int32)) ω.L = true then some (ω.xs (ix (v4 + (1 : Int32)))) else none)).bind fun x717 =>
        ((if inb (v4 + (2 : Int32)) ω.L = true then some (ω.xs (ix (v4 + (2 : Int32)))) else none)).bind fun x719 =>
        (fL_ways v1 x717 x719 v3 μ).bind fun (r723, μ722) =>
        ((if inb (v4 + (1 : Int32)) ω.L = true then some (ω.xs (ix (v4 + (1 : Int32)))) else none)).bind fun x726 =>
        ((if inb (v4 + (2 : Int32)) ω.L = true then some (ω.xs (ix (v4 + (2 : Int32)))) else none)).bind fun x728 =>
        (fX11_ways v2 x726 x728 μ722).bind fun (r732, μ731) =>
        if (fX11_thrown v2 μ731) = r723 then
          if r723 = 0 then
            (ldL μ731 v3 (0 : Int32)).bind fun x738 =>
            if x738 = (r732.toInt64) then
              (fL_law_2366 ω (fL_law_23 ω n)) v0 v1 v2 v3 v4 μ731
            else
              some ((0 : Int32), μ731)
          else
            (fL_law_2366 ω (fL_law_23 ω n)) v0 v1 v2 v3 v4 μ731
        else
          some ((0 : Int32), μ731)
      else
      if (x1 &&& (63 : Int32)) = (33 : Int32) then
        ((if inb (v4 + (1 : Int32)) ω.L = true then some (ω.xs (ix (v4 + (1 : Int32)))) else none)).bind fun x740 =>
        (fL_near v1 x740 v3 μ).bind fun (r744, μ743) =>
        ((if inb (v4 + (1 : Int32)) ω.L = true then some (ω.xs (ix (v4 + (1 : Int32)))) else none)).bind fun x747 =>
        (fX11_near v2 x747 μ743).bind fun (r751, μ750) =>
        if (fX11_thrown v2 μ750) = r744 then
          if r744 = 0 then
            (ldL μ750 v3 (0 : Int32)).bind fun x757 =>
            if x757 = (r751.toInt64) then
              (fL_law_2366 ω (fL_law_23 ω n)) v0 v1 v2 v3 v4 μ750
            else
              some ((0 : Int32), μ750)
          else
            (fL_law_2366 ω (fL_law_23 ω n)) v0 v1 v2 v3 v4 μ750
        else
          some ((0 : Int32), μ750)
      else
      if (x1 &&& (63 : Int32)) = (34 : Int32) then
        ((if inb (v4 + (1 : Int32)) ω.L = true then some (ω.xs (ix (v4 + (1 : Int32)))) else none)).bind fun x759 =>
        ((if inb (v4 + (2 : Int32)) ω.L = true then some (ω.xs (ix (v4 + (2 : Int32)))) else none)).bind fun x761 =>
        (fL_gone v1 x759 x761 v3 μ).bind fun (r765, μ764) =>
        ((if inb (v4 + (1 : Int32)) ω.L = true then some (ω.xs (ix (v4 + (1 : Int32)))) else none)).bind fun x768 =>
        ((if inb (v4 + (2 : Int32)) ω.L = true then some (ω.xs (ix (v4 + (2 : Int32)))) else none)).bind fun x770 =>
        (fX11_gone v2 x768 x770 μ764).bind fun (r774, μ773) =>
        if (fX11_thrown v2 μ773) = r765 then
          if r765 = 0 then
            (ldL μ773 v3 (0 : Int32)).bind fun x780 =>
            if x780 = (r774.toInt64) then
              (fL_law_2366 ω (fL_law_23 ω n)) v0 v1 v2 v3 v4 μ773
            else
              some ((0 : Int32), μ773)
          else
            (fL_law_2366 ω (fL_law_23 ω n)) v0 v1 v2 v3 v4 μ773
        else
          some ((0 : Int32), μ773)
      else
      if (x1 &&& (63 : Int32)) = (35 : Int32) then
        (fX10_image v1 μ).bind fun μ783 =>
        (fX11_image v2 μ783).bind fun μ787 =>
        (fL_law_2366 ω (fL_law_23 ω n)) v0 v1 v2 v3 v4 μ787
      else
      if (x1 &&& (63 : Int32)) = (36 : Int32) then
        (fX10_restore v1 μ).bind fun (r792, μ791) =>
        (fX11_restore v2 μ791).bind fun (r797, μ796) =>
        if r792 = r797 then
          (fL_law_2366 ω (fL_law_23 ω n)) v0 v1 v2 v3 v4 μ796
        else
          some ((0 : Int32), μ796)
      else
      (fL_law_2366 ω (fL_law_23 ω n)) v0 v1 v2 v3 v4 μ
set_option maxHeartbeats 4000000 in
theorem tL_law_23 {ω : Wd} {l : Launch} (d : Nat) {res : Int32 × Mem} : ∀ n : Nat, ∀ (v0 : Nat) (v1 : Nat) (v2 : Nat) (v3 : Nat) (v4 : Int32) (μ : Mem), fL_law_23 ω n v0 v1 v2 v3 v4 μ = some res → μ.1 = NN → (kd v1).1 = 20 → (kd v2).1 = 21 → (kd v3).1 = 1 → J ω l mL_law (d + 74) 23 [(0, .ref 30000), (1, .ref v1), (2, .ref v2), (3, .ref v3), (4, .int v4)] [] μ (4 * n) (24 * n) (PE (.inl (some (.int res.1))) res.2 (isB res.1)) := by
  intro n
  induction n with
  | zero =>
    intro v0 v1 v2 v3 v4 μ h hN k1 k2 k3
    have h9 : (none : Option (Int32 × Mem)) = some res := h
    cases h9
  | succ n ih =>
    intro v0 v1 v2 v3 v4 μ h hN k1 k2 k3
    unfold fL_law_23 at h
    refine J.room (k' := (4 + 4 * n)) (n' := (24 + 24 * n)) (by omega) (by omega) ?_
    refine J.iload (pc := 23) dL_law_23 4 rfl ?_
    refine J.aload_n (pc := 25) dL_law_25 rfl 0 rfl ?_
    refine J.scrLen (pc := 26) dL_law_26 ?_
    refine J.bipush (pc := 27) dL_law_27 ib_6 ?_
    refine J.isub (pc := 29) dL_law_29 ?_
    rcases ifc h with ⟨hc, h⟩ | ⟨hc, h⟩
    · refine J.cgt (pc := 30) (tgt := 2372) dL_law_30 (by decide) (fun _ => ?_) (fun q => absurd hc q)
      refine J.iconst (pc := 2372) dL_law_2372 ic_1 ?_
      cases h
      exact J.zret (pc := 2373) dL_law_2373 rfl (narB (Or.inr rfl)) ⟨rfl, rfl, hN, (Or.inr rfl)⟩
    · refine J.cgt (pc := 30) (tgt := 2372) dL_law_30 (by decide) (fun q => absurd q hc) (fun _ => ?_)
      refine J.aload_n (pc := 33) dL_law_33 rfl 0 rfl ?_
      refine J.iload (pc := 34) dL_law_34 4 rfl ?_
      obtain ⟨x1, e2, h⟩ := bnd h
      refine J.scrLd' (pc := 36) dL_law_36 e2 ?_
      refine J.bipush (pc := 37) dL_law_37 ib_63 ?_
      refine J.iand (pc := 39) dL_law_39 ?_
      rcases ifc h with ⟨hc, h⟩ | ⟨ns1, h⟩
      · refine J.tableIn (pc := 40) (off := 164) (tgt := 204) dL_law_40 (by rw [hc]; decide) (by rw [hc]; decide) (by rw [hc]; decide) (by decide) ?_
        refine J.aload_n (pc := 204) dL_law_204 rfl 1 rfl ?_
        refine J.aload_n (pc := 205) dL_law_205 rfl 0 rfl ?_
        refine J.iload (pc := 206) dL_law_206 4 rfl ?_
        refine J.iconst (pc := 208) dL_law_208 ic_1 ?_
        refine J.iadd (pc := 209) dL_law_209 ?_
        obtain ⟨x3, e4, h⟩ := bnd h
        refine J.scrLd' (pc := 210) dL_law_210 e4 ?_
        refine J.aload_n (pc := 211) dL_law_211 rfl 0 rfl ?_
        refine J.iload (pc := 212) dL_law_212 4 rfl ?_
        refine J.iconst (pc := 214) dL_law_214 ic_2 ?_
        refine J.iadd (pc := 215) dL_law_215 ?_
        obtain ⟨x5, e6, h⟩ := bnd h
        refine J.scrLd' (pc := 216) dL_law_216 e6 ?_
        refine J.aload_n (pc := 217) dL_law_217 rfl 0 rfl ?_
        refine J.iload (pc := 218) dL_law_218 4 rfl ?_
        refine J.iconst (pc := 220) dL_law_220 ic_3 ?_
        refine J.iadd (pc := 221) dL_law_221 ?_
        obtain ⟨x7, e8, h⟩ := bnd h
        refine J.scrLd' (pc := 222) dL_law_222 e8 ?_
        refine J.aload_n (pc := 223) dL_law_223 rfl 0 rfl ?_
        refine J.iload (pc := 224) dL_law_224 4 rfl ?_
        refine J.iconst (pc := 226) dL_law_226 ic_4 ?_
        refine J.iadd (pc := 227) dL_law_227 ?_
        obtain ⟨x9, e10, h⟩ := bnd h
        refine J.scrLd' (pc := 228) dL_law_228 e10 ?_
        refine J.aload_n (pc := 229) dL_law_229 rfl 0 rfl ?_
        refine J.iload (pc := 230) dL_law_230 4 rfl ?_
        refine J.iconst (pc := 232) dL_law_232 ic_5 ?_
        refine J.iadd (pc := 233) dL_law_233 ?_
        obtain ⟨x11, e12, h⟩ := bnd h
        refine J.scrLd' (pc := 234) dL_law_234 e12 ?_
        obtain ⟨⟨r15, μ14⟩, e13, h⟩ := bnd h
        try dsimp only at h
        refine J.callV (Y := mL_law) (Z := mX10_feed) (pc := 235) (st := []) (k2 := (4 + 4 * n)) (n2 := (24 + 24 * n)) dL_law_235 ml_RL_111 mo_X10_feed mv_X10_feed rfl (tX10_feed (d + 72) e13 hN k1) k1 (okN hN k1 (by decide)).1 (okN hN k1 (by decide)).2 cq_10 (by decide) rfl rfl (Nat.le_of_ble_eq_true rfl) (by omega) (by omega) (fun v ν hp => ?_) (fun i ν hp => nrm hp.1)
        obtain ⟨rfl, rfl, hN16, hb17⟩ := QEl hp
        show J _ _ _ _ 238 _ ([.int r15]) _ _ _ _
        refine J.aload_n (pc := 238) dL_law_238 rfl 2 rfl ?_
        refine J.aload_n (pc := 239) dL_law_239 rfl 0 rfl ?_
        refine J.iload (pc := 240) dL_law_240 4 rfl ?_
        refine J.iconst (pc := 242) dL_law_242 ic_1 ?_
        refine J.iadd (pc := 243) dL_law_243 ?_
        obtain ⟨x18, e19, h⟩ := bnd h
        refine J.scrLd' (pc := 244) dL_law_244 e19 ?_
        refine J.aload_n (pc := 245) dL_law_245 rfl 0 rfl ?_
        refine J.iload (pc := 246) dL_law_246 4 rfl ?_
        refine J.iconst (pc := 248) dL_law_248 ic_2 ?_
        refine J.iadd (pc := 249) dL_law_249 ?_
        obtain ⟨x20, e21, h⟩ := bnd h
        refine J.scrLd' (pc := 250) dL_law_250 e21 ?_
        refine J.aload_n (pc := 251) dL_law_251 rfl 0 rfl ?_
        refine J.iload (pc := 252) dL_law_252 4 rfl ?_
        refine J.iconst (pc := 254) dL_law_254 ic_3 ?_
        refine J.iadd (pc := 255) dL_law_255 ?_
        obtain ⟨x22, e23, h⟩ := bnd h
        refine J.scrLd' (pc := 256) dL_law_256 e23 ?_
        refine J.aload_n (pc := 257) dL_law_257 rfl 0 rfl ?_
        refine J.iload (pc := 258) dL_law_258 4 rfl ?_
        refine J.iconst (pc := 260) dL_law_260 ic_4 ?_
        refine J.iadd (pc := 261) dL_law_261 ?_
        obtain ⟨x24, e25, h⟩ := bnd h
        refine J.scrLd' (pc := 262) dL_law_262 e25 ?_
        refine J.aload_n (pc := 263) dL_law_263 rfl 0 rfl ?_
        refine J.iload (pc := 264) dL_law_264 4 rfl ?_
        refine J.iconst (pc := 266) dL_law_266 ic_5 ?_
        refine J.iadd (pc := 267) dL_law_267 ?_
        obtain ⟨x26, e27, h⟩ := bnd h
        refine J.scrLd' (pc := 268) dL_law_268 e27 ?_
        obtain ⟨⟨r30, μ29⟩, e28, h⟩ := bnd h
        try dsimp only at h
        refine J.callV (Y := mL_law) (Z := mX11_feed) (pc := 269) (st := [.int r15]) (k2 := (4 + 4 * n)) (n2 := (24 + 24 * n)) dL_law_269 ml_RL_115 mo_X11_feed mv_X11_feed rfl (tX11_feed (d + 72) e28 hN16 k2) k2 (okN hN16 k2 (by decide)).1 (okN hN16 k2 (by decide)).2 cq_11 (by decide) rfl rfl (Nat.le_of_ble_eq_true rfl) (by omega) (by omega) (fun v ν hp => ?_) (fun i ν hp => nrm hp.1)
        obtain ⟨rfl, rfl, hN31, hb32⟩ := QEl hp
        show J _ _ _ _ 272 _ ([.int r30, .int r15]) _ _ _ _
        rcases ifc h with ⟨hc, h⟩ | ⟨hc, h⟩
        · refine J.ceq (pc := 272) (tgt := 2366) dL_law_272 (by decide) (fun _ => ?_) (fun q => absurd hc q)
          refine J.room (k' := 4 * n) (n' := 24 * n) (by omega) (by omega) ?_
          exact (tL_law_2366 d (fL_law_23 ω n) ih) v0 v1 v2 v3 v4 μ29 h hN31 k1 k2 k3
        · refine J.ceq (pc := 272) (tgt := 2366) dL_law_272 (by decide) (fun q => absurd q hc) (fun _ => ?_)
          refine J.iconst (pc := 275) dL_law_275 ic_0 ?_
          cases h
          exact J.zret (pc := 276) dL_law_276 rfl (narB (Or.inl rfl)) ⟨rfl, rfl, hN31, (Or.inl rfl)⟩
      rcases ifc h with ⟨hc, h⟩ | ⟨ns2, h⟩
      · refine J.tableIn (pc := 40) (off := 237) (tgt := 277) dL_law_40 (by rw [hc]; decide) (by rw [hc]; decide) (by rw [hc]; decide) (by decide) ?_
        refine J.aload_n (pc := 277) dL_law_277 rfl 1 rfl ?_
        refine J.aload_n (pc := 278) dL_law_278 rfl 0 rfl ?_
        refine J.iload (pc := 279) dL_law_279 4 rfl ?_
        refine J.iconst (pc := 281) dL_law_281 ic_1 ?_
        refine J.iadd (pc := 282) dL_law_282 ?_
        obtain ⟨x33, e34, h⟩ := bnd h
        refine J.scrLd' (pc := 283) dL_law_283 e34 ?_
        refine J.aload_n (pc := 284) dL_law_284 rfl 3 rfl ?_
        obtain ⟨⟨r37, μ36⟩, e35, h⟩ := bnd h
        try dsimp only at h
        refine J.callSW (Y := mL_law) (Z := mL_cellar) (pc := 285) (st := []) (k2 := (3 + 4 * n)) (n2 := (18 + 24 * n)) dL_law_285 ml_RL_116 mo_L_cellar ms_L_cellar rfl (tL_cellar d e35 hN k1 k3) (fun i ν hp => nrm hp.1) rfl rfl (Nat.le_of_ble_eq_true rfl) (by omega) (by omega) (fun v ν hp => ?_)
        obtain ⟨rfl, rfl, hN38, hb39⟩ := QEl hp
        show J _ _ _ _ 288 _ ([.int r37]) _ _ _ _
        refine J.istore (pc := 288) ([(5, .int r37), (0, .ref 30000), (1, .ref v1), (2, .ref v2), (3, .ref v3), (4, .int v4)]) dL_law_288 (Nat.le_of_ble_eq_true rfl) rfl ?_
        refine J.aload_n (pc := 290) dL_law_290 rfl 3 rfl ?_
        refine J.aload_n (pc := 291) dL_law_291 rfl 1 rfl ?_
        refine J.iload (pc := 292) dL_law_292 5 rfl ?_
        refine J.iconst (pc := 294) dL_law_294 ic_1 ?_
        refine J.iadd (pc := 295) dL_law_295 ?_
        obtain ⟨x40, e41, h⟩ := bnd h
        refine J.scrLd' (pc := 296) dL_law_296 e41 ?_
        obtain ⟨⟨r44, μ43⟩, e42, h⟩ := bnd h
        try dsimp only at h
        refine J.callV (Y := mL_law) (Z := mX11_cellar) (pc := 297) (st := []) (k2 := (3 + 4 * n)) (n2 := (18 + 24 * n)) dL_law_297 ml_RL_121 mo_X11_cellar mv_X11_cellar rfl (tX11_cellar (d + 66) e42 hN38 k2) k2 (okN hN38 k2 (by decide)).1 (okN hN38 k2 (by decide)).2 cq_11 (by decide) rfl rfl (Nat.le_of_ble_eq_true rfl) (by omega) (by omega) (fun v ν hp => ?_) (fun i ν hp => nrm hp.1)
        obtain ⟨rfl, rfl, hN45, hb46⟩ := QEl hp
        show J _ _ _ _ 300 _ ([.int r44]) _ _ _ _
        refine J.istore (pc := 300) ([(6, .int r44), (5, .int r37), (0, .ref 30000), (1, .ref v1), (2, .ref v2), (3, .ref v3), (4, .int v4)]) dL_law_300 (Nat.le_of_ble_eq_true rfl) rfl ?_
        refine J.aload_n (pc := 302) dL_law_302 rfl 4 rfl ?_
        refine J.callV (Y := mL_law) (Z := mX11_thrown) (pc := 303) (st := []) (k2 := (3 + 4 * n)) (n2 := (18 + 24 * n)) dL_law_303 ml_RL_122 mo_X11_thrown mv_X11_thrown rfl (tX11_thrown (d + 73) v2 μ43 hN45 k2) k2 (okN hN45 k2 (by decide)).1 (okN hN45 k2 (by decide)).2 cq_11 (by decide) rfl rfl (Nat.le_of_ble_eq_true rfl) (by omega) (by omega) (fun v ν hp => ?_) (fun i ν hp => nrm hp.1)
        obtain ⟨rfl, rfl, hN48, hb49⟩ := QEl hp
        show J _ _ _ _ 306 _ ([.int (fX11_thrown v2 μ43)]) _ _ _ _
        refine J.iload (pc := 306) dL_law_306 1 rfl ?_
        rcases ifc h with ⟨hc, h⟩ | ⟨hc, h⟩
        · refine J.ceq (pc := 308) (tgt := 313) dL_law_308 (by decide) (fun _ => ?_) (fun q => absurd hc q)
          refine J.iload (pc := 313) dL_law_313 1 rfl ?_
          rcases ifc h with ⟨hc, h⟩ | ⟨hc, h⟩
          · refine J.zne (pc := 315) (tgt := 330) dL_law_315 (by decide) (fun _ => ?_) (fun q => absurd hc q)
            refine J.aload_n (pc := 318) dL_law_318 rfl 5 rfl ?_
            refine J.iconst (pc := 319) dL_law_319 ic_0 ?_
            obtain ⟨x50, e51, h⟩ := bnd h
            refine J.aL (pc := 320) dL_law_320 k3 (okN hN48 k3 (by decide)) e51 ?_
            refine J.iload (pc := 321) dL_law_321 0 rfl ?_
            refine J.i2l (pc := 323) dL_law_323 ?_
            rcases ifc h with ⟨hc, h⟩ | ⟨hc, h⟩
            · refine J.meq (pc := 324) (tgt := 330) dL_law_324 dL_law_325 (by decide) (fun _ => ?_) (fun q => absurd hc q)
              refine J.goto (pc := 330) (tgt := 2366) dL_law_330 (by decide) ?_
              refine J.pick [2, 3, 4, 5, 6] rfl ?_
              refine J.room (k' := 4 * n) (n' := 24 * n) (by omega) (by omega) ?_
              exact (tL_law_2366 d (fL_law_23 ω n) ih) v0 v1 v2 v3 v4 μ43 h hN48 k1 k2 k3
            · refine J.meq (pc := 324) (tgt := 330) dL_law_324 dL_law_325 (by decide) (fun q => absurd q hc) (fun _ => ?_)
              refine J.iconst (pc := 328) dL_law_328 ic_0 ?_
              cases h
              exact J.zret (pc := 329) dL_law_329 rfl (narB (Or.inl rfl)) ⟨rfl, rfl, hN48, (Or.inl rfl)⟩
          · refine J.zne (pc := 315) (tgt := 330) dL_law_315 (by decide) (fun q => absurd q hc) (fun _ => ?_)
            refine J.goto (pc := 330) (tgt := 2366) dL_law_330 (by decide) ?_
            refine J.pick [2, 3, 4, 5, 6] rfl ?_
            refine J.room (k' := 4 * n) (n' := 24 * n) (by omega) (by omega) ?_
            exact (tL_law_2366 d (fL_law_23 ω n) ih) v0 v1 v2 v3 v4 μ43 h hN48 k1 k2 k3
        · refine J.ceq (pc := 308) (tgt := 313) dL_law_308 (by decide) (fun q => absurd q hc) (fun _ => ?_)
          refine J.iconst (pc := 311) dL_law_311 ic_0 ?_
          cases h
          exact J.zret (pc := 312) dL_law_312 rfl (narB (Or.inl rfl)) ⟨rfl, rfl, hN48, (Or.inl rfl)⟩
      rcases ifc h with ⟨hc, h⟩ | ⟨ns3, h⟩
      · refine J.tableIn (pc := 40) (off := 293) (tgt := 333) dL_law_40 (by rw [hc]; decide) (by rw [hc]; decide) (by rw [hc]; decide) (by decide) ?_
        refine J.aload_n (pc := 333) dL_law_333 rfl 1 rfl ?_
        refine J.callV (Y := mL_law) (Z := mX10_fault) (pc := 334) (st := []) (k2 := (4 + 4 * n)) (n2 := (24 + 24 * n)) dL_law_334 ml_RL_126 mo_X10_fault mv_X10_fault rfl (tX10_fault (d + 73) v1 μ hN k1) k1 (okN hN k1 (by decide)).1 (okN hN k1 (by decide)).2 cq_10 (by decide) rfl rfl (Nat.le_of_ble_eq_true rfl) (by omega) (by omega) (fun v ν hp => ?_) (fun i ν hp => nrm hp.1)
        obtain ⟨rfl, rfl, hN53, hb54⟩ := QEl hp
        show J _ _ _ _ 337 _ ([.int (fX10_fault v1 μ)]) _ _ _ _
        refine J.aload_n (pc := 337) dL_law_337 rfl 2 rfl ?_
        obtain ⟨⟨r57, μ56⟩, e55, h⟩ := bnd h
        try dsimp only at h
        refine J.callV (Y := mL_law) (Z := mX11_fault) (pc := 338) (st := [.int (fX10_fault v1 μ)]) (k2 := (4 + 4 * n)) (n2 := (24 + 24 * n)) dL_law_338 ml_RL_129 mo_X11_fault mv_X11_fault rfl (tX11_fault (d + 73) e55 hN53 k2) k2 (okN hN53 k2 (by decide)).1 (okN hN53 k2 (by decide)).2 cq_11 (by decide) rfl rfl (Nat.le_of_ble_eq_true rfl) (by omega) (by omega) (fun v ν hp => ?_) (fun i ν hp => nrm hp.1)
        obtain ⟨rfl, rfl, hN58, hb59⟩ := QEl hp
        show J _ _ _ _ 341 _ ([.int r57, .int (fX10_fault v1 μ)]) _ _ _ _
        rcases ifc h with ⟨hc, h⟩ | ⟨hc, h⟩
        · refine J.ceq (pc := 341) (tgt := 2366) dL_law_341 (by decide) (fun _ => ?_) (fun q => absurd hc q)
          refine J.room (k' := 4 * n) (n' := 24 * n) (by omega) (by omega) ?_
          exact (tL_law_2366 d (fL_law_23 ω n) ih) v0 v1 v2 v3 v4 μ56 h hN58 k1 k2 k3
        · refine J.ceq (pc := 341) (tgt := 2366) dL_law_341 (by decide) (fun q => absurd q hc) (fun _ => ?_)
          refine J.iconst (pc := 344) dL_law_344 ic_0 ?_
          cases h
          exact J.zret (pc := 345) dL_law_345 rfl (narB (Or.inl rfl)) ⟨rfl, rfl, hN58, (Or.inl rfl)⟩
      rcases ifc h with ⟨hc, h⟩ | ⟨ns4, h⟩
      · refine J.tableIn (pc := 40) (off := 306) (tgt := 346) dL_law_40 (by rw [hc]; decide) (by rw [hc]; decide) (by rw [hc]; decide) (by decide) ?_
        refine J.aload_n (pc := 346) dL_law_346 rfl 1 rfl ?_
        refine J.aload_n (pc := 347) dL_law_347 rfl 0 rfl ?_
        refine J.iload (pc := 348) dL_law_348 4 rfl ?_
        refine J.iconst (pc := 350) dL_law_350 ic_1 ?_
        refine J.iadd (pc := 351) dL_law_351 ?_
        obtain ⟨x60, e61, h⟩ := bnd h
        refine J.scrLd' (pc := 352) dL_law_352 e61 ?_
        refine J.aload_n (pc := 353) dL_law_353 rfl 3 rfl ?_
        obtain ⟨⟨r64, μ63⟩, e62, h⟩ := bnd h
        try dsimp only at h
        refine J.callSW (Y := mL_law) (Z := mL_count) (pc := 354) (st := []) (k2 := (3 + 4 * n)) (n2 := (18 + 24 * n)) dL_law_354 ml_RL_130 mo_L_count ms_L_count rfl (tL_count (d + 63) e62 hN k1 k3) (fun i ν hp => nrm hp.1) rfl rfl (Nat.le_of_ble_eq_true rfl) (by omega) (by omega) (fun v ν hp => ?_)
        obtain ⟨rfl, rfl, hN65, hb66⟩ := QEl hp
        show J _ _ _ _ 357 _ ([.int r64]) _ _ _ _
        refine J.istore (pc := 357) ([(5, .int r64), (0, .ref 30000), (1, .ref v1), (2, .ref v2), (3, .ref v3), (4, .int v4)]) dL_law_357 (Nat.le_of_ble_eq_true rfl) rfl ?_
        refine J.aload_n (pc := 359) dL_law_359 rfl 3 rfl ?_
        refine J.aload_n (pc := 360) dL_law_360 rfl 1 rfl ?_
        refine J.iload (pc := 361) dL_law_361 5 rfl ?_
        refine J.iconst (pc := 363) dL_law_363 ic_1 ?_
        refine J.iadd (pc := 364) dL_law_364 ?_
        obtain ⟨x67, e68, h⟩ := bnd h
        refine J.scrLd' (pc := 365) dL_law_365 e68 ?_
        obtain ⟨⟨r71, μ70⟩, e69, h⟩ := bnd h
        try dsimp only at h
        refine J.callV (Y := mL_law) (Z := mX11_count) (pc := 366) (st := []) (k2 := (3 + 4 * n)) (n2 := (18 + 24 * n)) dL_law_366 ml_RL_132 mo_X11_count mv_X11_count rfl (tX11_count (d + 70) e69 hN65 k2) k2 (okN hN65 k2 (by decide)).1 (okN hN65 k2 (by decide)).2 cq_11 (by decide) rfl rfl (Nat.le_of_ble_eq_true rfl) (by omega) (by omega) (fun v ν hp => ?_) (fun i ν hp => nrm hp.1)
        obtain ⟨rfl, rfl, hN72, hb73⟩ := QEl hp
        show J _ _ _ _ 369 _ ([.int r71]) _ _ _ _
        refine J.istore (pc := 369) ([(6, .int r71), (5, .int r64), (0, .ref 30000), (1, .ref v1), (2, .ref v2), (3, .ref v3), (4, .int v4)]) dL_law_369 (Nat.le_of_ble_eq_true rfl) rfl ?_
        refine J.aload_n (pc := 371) dL_law_371 rfl 4 rfl ?_
        refine J.callV (Y := mL_law) (Z := mX11_thrown) (pc := 372) (st := []) (k2 := (3 + 4 * n)) (n2 := (18 + 24 * n)) dL_law_372 ml_RL_122 mo_X11_thrown mv_X11_thrown rfl (tX11_thrown (d + 73) v2 μ70 hN72 k2) k2 (okN hN72 k2 (by decide)).1 (okN hN72 k2 (by decide)).2 cq_11 (by decide) rfl rfl (Nat.le_of_ble_eq_true rfl) (by omega) (by omega) (fun v ν hp => ?_) (fun i ν hp => nrm hp.1)
        obtain ⟨rfl, rfl, hN75, hb76⟩ := QEl hp
        show J _ _ _ _ 375 _ ([.int (fX11_thrown v2 μ70)]) _ _ _ _
        refine J.iload (pc := 375) dL_law_375 1 rfl ?_
        rcases ifc h with ⟨hc, h⟩ | ⟨hc, h⟩
        · refine J.ceq (pc := 377) (tgt := 382) dL_law_377 (by decide) (fun _ => ?_) (fun q => absurd hc q)
          refine J.iload (pc := 382) dL_law_382 1 rfl ?_
          rcases ifc h with ⟨hc, h⟩ | ⟨hc, h⟩
          · refine J.zne (pc := 384) (tgt := 399) dL_law_384 (by decide) (fun _ => ?_) (fun q => absurd hc q)
            refine J.aload_n (pc := 387) dL_law_387 rfl 5 rfl ?_
            refine J.iconst (pc := 388) dL_law_388 ic_0 ?_
            obtain ⟨x77, e78, h⟩ := bnd h
            refine J.aL (pc := 389) dL_law_389 k3 (okN hN75 k3 (by decide)) e78 ?_
            refine J.iload (pc := 390) dL_law_390 0 rfl ?_
            refine J.i2l (pc := 392) dL_law_392 ?_
            rcases ifc h with ⟨hc, h⟩ | ⟨hc, h⟩
            · refine J.meq (pc := 393) (tgt := 399) dL_law_393 dL_law_394 (by decide) (fun _ => ?_) (fun q => absurd hc q)
              refine J.goto (pc := 399) (tgt := 2366) dL_law_399 (by decide) ?_
              refine J.pick [2, 3, 4, 5, 6] rfl ?_
              refine J.room (k' := 4 * n) (n' := 24 * n) (by omega) (by omega) ?_
              exact (tL_law_2366 d (fL_law_23 ω n) ih) v0 v1 v2 v3 v4 μ70 h hN75 k1 k2 k3
            · refine J.meq (pc := 393) (tgt := 399) dL_law_393 dL_law_394 (by decide) (fun q => absurd q hc) (fun _ => ?_)
              refine J.iconst (pc := 397) dL_law_397 ic_0 ?_
              cases h
              exact J.zret (pc := 398) dL_law_398 rfl (narB (Or.inl rfl)) ⟨rfl, rfl, hN75, (Or.inl rfl)⟩
          · refine J.zne (pc := 384) (tgt := 399) dL_law_384 (by decide) (fun q => absurd q hc) (fun _ => ?_)
            refine J.goto (pc := 399) (tgt := 2366) dL_law_399 (by decide) ?_
            refine J.pick [2, 3, 4, 5, 6] rfl ?_
            refine J.room (k' := 4 * n) (n' := 24 * n) (by omega) (by omega) ?_
            exact (tL_law_2366 d (fL_law_23 ω n) ih) v0 v1 v2 v3 v4 μ70 h hN75 k1 k2 k3
        · refine J.ceq (pc := 377) (tgt := 382) dL_law_377 (by decide) (fun q => absurd q hc) (fun _ => ?_)
          refine J.iconst (pc := 380) dL_law_380 ic_0 ?_
          cases h
          exact J.zret (pc := 381) dL_law_381 rfl (narB (Or.inl rfl)) ⟨rfl, rfl, hN75, (Or.inl rfl)⟩
      rcases ifc h with ⟨hc, h⟩ | ⟨ns5, h⟩
      · refine J.tableIn (pc := 40) (off := 362) (tgt := 402) dL_law_40 (by rw [hc]; decide) (by rw [hc]; decide) (by rw [hc]; decide) (by decide) ?_
        refine J.aload_n (pc := 402) dL_law_402 rfl 1 rfl ?_
        refine J.aload_n (pc := 403) dL_law_403 rfl 0 rfl ?_
        refine J.iload (pc := 404) dL_law_404 4 rfl ?_
        refine J.iconst (pc := 406) dL_law_406 ic_1 ?_
        refine J.iadd (pc := 407) dL_law_407 ?_
        obtain ⟨x79, e80, h⟩ := bnd h
        refine J.scrLd' (pc := 408) dL_law_408 e80 ?_
        refine J.aload_n (pc := 409) dL_law_409 rfl 0 rfl ?_
        refine J.iload (pc := 410) dL_law_410 4 rfl ?_
        refine J.iconst (pc := 412) dL_law_412 ic_2 ?_
        refine J.iadd (pc := 413) dL_law_413 ?_
        obtain ⟨x81, e82, h⟩ := bnd h
        refine J.scrLd' (pc := 414) dL_law_414 e82 ?_
        refine J.aload_n (pc := 415) dL_law_415 rfl 3 rfl ?_
        obtain ⟨⟨r85, μ84⟩, e83, h⟩ := bnd h
        try dsimp only at h
        refine J.callSW (Y := mL_law) (Z := mL_deed) (pc := 416) (st := []) (k2 := (2 + 4 * n)) (n2 := (12 + 24 * n)) dL_law_416 ml_RL_133 mo_L_deed ms_L_deed rfl (tL_deed (d + 63) e83 hN k1 k3) (fun i ν hp => nrm hp.1) rfl rfl (Nat.le_of_ble_eq_true rfl) (by omega) (by omega) (fun v ν hp => ?_)
        obtain ⟨rfl, rfl, hN86, hb87⟩ := QEl hp
        show J _ _ _ _ 419 _ ([.int r85]) _ _ _ _
        refine J.istore (pc := 419) ([(5, .int r85), (0, .ref 30000), (1, .ref v1), (2, .ref v2), (3, .ref v3), (4, .int v4)]) dL_law_419 (Nat.le_of_ble_eq_true rfl) rfl ?_
        refine J.aload_n (pc := 421) dL_law_421 rfl 3 rfl ?_
        refine J.aload_n (pc := 422) dL_law_422 rfl 1 rfl ?_
        refine J.iload (pc := 423) dL_law_423 5 rfl ?_
        refine J.iconst (pc := 425) dL_law_425 ic_1 ?_
        refine J.iadd (pc := 426) dL_law_426 ?_
        obtain ⟨x88, e89, h⟩ := bnd h
        refine J.scrLd' (pc := 427) dL_law_427 e89 ?_
        refine J.aload_n (pc := 428) dL_law_428 rfl 1 rfl ?_
        refine J.iload (pc := 429) dL_law_429 5 rfl ?_
        refine J.iconst (pc := 431) dL_law_431 ic_2 ?_
        refine J.iadd (pc := 432) dL_law_432 ?_
        obtain ⟨x90, e91, h⟩ := bnd h
        refine J.scrLd' (pc := 433) dL_law_433 e91 ?_
        obtain ⟨⟨r94, μ93⟩, e92, h⟩ := bnd h
        try dsimp only at h
        refine J.callV (Y := mL_law) (Z := mX11_deed) (pc := 434) (st := []) (k2 := (2 + 4 * n)) (n2 := (12 + 24 * n)) dL_law_434 ml_RL_136 mo_X11_deed mv_X11_deed rfl (tX11_deed (d + 71) e92 hN86 k2) k2 (okN hN86 k2 (by decide)).1 (okN hN86 k2 (by decide)).2 cq_11 (by decide) rfl rfl (Nat.le_of_ble_eq_true rfl) (by omega) (by omega) (fun v ν hp => ?_) (fun i ν hp => nrm hp.1)
        obtain ⟨rfl, rfl, hN95, hb96⟩ := QEl hp
        show J _ _ _ _ 437 _ ([.int r94]) _ _ _ _
        refine J.istore (pc := 437) ([(6, .int r94), (5, .int r85), (0, .ref 30000), (1, .ref v1), (2, .ref v2), (3, .ref v3), (4, .int v4)]) dL_law_437 (Nat.le_of_ble_eq_true rfl) rfl ?_
        refine J.aload_n (pc := 439) dL_law_439 rfl 4 rfl ?_
        refine J.callV (Y := mL_law) (Z := mX11_thrown) (pc := 440) (st := []) (k2 := (2 + 4 * n)) (n2 := (12 + 24 * n)) dL_law_440 ml_RL_122 mo_X11_thrown mv_X11_thrown rfl (tX11_thrown (d + 73) v2 μ93 hN95 k2) k2 (okN hN95 k2 (by decide)).1 (okN hN95 k2 (by decide)).2 cq_11 (by decide) rfl rfl (Nat.le_of_ble_eq_true rfl) (by omega) (by omega) (fun v ν hp => ?_) (fun i ν hp => nrm hp.1)
        obtain ⟨rfl, rfl, hN98, hb99⟩ := QEl hp
        show J _ _ _ _ 443 _ ([.int (fX11_thrown v2 μ93)]) _ _ _ _
        refine J.iload (pc := 443) dL_law_443 1 rfl ?_
        rcases ifc h with ⟨hc, h⟩ | ⟨hc, h⟩
        · refine J.ceq (pc := 445) (tgt := 450) dL_law_445 (by decide) (fun _ => ?_) (fun q => absurd hc q)
          refine J.iload (pc := 450) dL_law_450 1 rfl ?_
          rcases ifc h with ⟨hc, h⟩ | ⟨hc, h⟩
          · refine J.zne (pc := 452) (tgt := 467) dL_law_452 (by decide) (fun _ => ?_) (fun q => absurd hc q)
            refine J.aload_n (pc := 455) dL_law_455 rfl 5 rfl ?_
            refine J.iconst (pc := 456) dL_law_456 ic_0 ?_
            obtain ⟨x100, e101, h⟩ := bnd h
            refine J.aL (pc := 457) dL_law_457 k3 (okN hN98 k3 (by decide)) e101 ?_
            refine J.iload (pc := 458) dL_law_458 0 rfl ?_
            refine J.i2l (pc := 460) dL_law_460 ?_
            rcases ifc h with ⟨hc, h⟩ | ⟨hc, h⟩
            · refine J.meq (pc := 461) (tgt := 467) dL_law_461 dL_law_462 (by decide) (fun _ => ?_) (fun q => absurd hc q)
              refine J.goto (pc := 467) (tgt := 2366) dL_law_467 (by decide) ?_
              refine J.pick [2, 3, 4, 5, 6] rfl ?_
              refine J.room (k' := 4 * n) (n' := 24 * n) (by omega) (by omega) ?_
              exact (tL_law_2366 d (fL_law_23 ω n) ih) v0 v1 v2 v3 v4 μ93 h hN98 k1 k2 k3
            · refine J.meq (pc := 461) (tgt := 467) dL_law_461 dL_law_462 (by decide) (fun q => absurd q hc) (fun _ => ?_)
              refine J.iconst (pc := 465) dL_law_465 ic_0 ?_
              cases h
              exact J.zret (pc := 466) dL_law_466 rfl (narB (Or.inl rfl)) ⟨rfl, rfl, hN98, (Or.inl rfl)⟩
          · refine J.zne (pc := 452) (tgt := 467) dL_law_452 (by decide) (fun q => absurd q hc) (fun _ => ?_)
            refine J.goto (pc := 467) (tgt := 2366) dL_law_467 (by decide) ?_
            refine J.pick [2, 3, 4, 5, 6] rfl ?_
            refine J.room (k' := 4 * n) (n' := 24 * n) (by omega) (by omega) ?_
            exact (tL_law_2366 d (fL_law_23 ω n) ih) v0 v1 v2 v3 v4 μ93 h hN98 k1 k2 k3
        · refine J.ceq (pc := 445) (tgt := 450) dL_law_445 (by decide) (fun q => absurd q hc) (fun _ => ?_)
          refine J.iconst (pc := 448) dL_law_448 ic_0 ?_
          cases h
          exact J.zret (pc := 449) dL_law_449 rfl (narB (Or.inl rfl)) ⟨rfl, rfl, hN98, (Or.inl rfl)⟩
      rcases ifc h with ⟨hc, h⟩ | ⟨ns6, h⟩
      · refine J.tableIn (pc := 40) (off := 430) (tgt := 470) dL_law_40 (by rw [hc]; decide) (by rw [hc]; decide) (by rw [hc]; decide) (by decide) ?_
        refine J.aload_n (pc := 470) dL_law_470 rfl 1 rfl ?_
        refine J.aload_n (pc := 471) dL_law_471 rfl 0 rfl ?_
        refine J.iload (pc := 472) dL_law_472 4 rfl ?_
        refine J.iconst (pc := 474) dL_law_474 ic_1 ?_
        refine J.iadd (pc := 475) dL_law_475 ?_
        obtain ⟨x102, e103, h⟩ := bnd h
        refine J.scrLd' (pc := 476) dL_law_476 e103 ?_
        refine J.aload_n (pc := 477) dL_law_477 rfl 0 rfl ?_
        refine J.iload (pc := 478) dL_law_478 4 rfl ?_
        refine J.iconst (pc := 480) dL_law_480 ic_2 ?_
        refine J.iadd (pc := 481) dL_law_481 ?_
        obtain ⟨x104, e105, h⟩ := bnd h
        refine J.scrLd' (pc := 482) dL_law_482 e105 ?_
        refine J.aload_n (pc := 483) dL_law_483 rfl 3 rfl ?_
        obtain ⟨⟨r108, μ107⟩, e106, h⟩ := bnd h
        try dsimp only at h
        refine J.callSW (Y := mL_law) (Z := mL_person) (pc := 484) (st := []) (k2 := (2 + 4 * n)) (n2 := (12 + 24 * n)) dL_law_484 ml_RL_137 mo_L_person ms_L_person rfl (tL_person (d + 63) e106 hN k1 k3) (fun i ν hp => nrm hp.1) rfl rfl (Nat.le_of_ble_eq_true rfl) (by omega) (by omega) (fun v ν hp => ?_)
        obtain ⟨rfl, rfl, hN109, hb110⟩ := QEl hp
        show J _ _ _ _ 487 _ ([.int r108]) _ _ _ _
        refine J.istore (pc := 487) ([(5, .int r108), (0, .ref 30000), (1, .ref v1), (2, .ref v2), (3, .ref v3), (4, .int v4)]) dL_law_487 (Nat.le_of_ble_eq_true rfl) rfl ?_
        refine J.aload_n (pc := 489) dL_law_489 rfl 3 rfl ?_
        refine J.aload_n (pc := 490) dL_law_490 rfl 1 rfl ?_
        refine J.iload (pc := 491) dL_law_491 5 rfl ?_
        refine J.iconst (pc := 493) dL_law_493 ic_1 ?_
        refine J.iadd (pc := 494) dL_law_494 ?_
        obtain ⟨x111, e112, h⟩ := bnd h
        refine J.scrLd' (pc := 495) dL_law_495 e112 ?_
        refine J.aload_n (pc := 496) dL_law_496 rfl 1 rfl ?_
        refine J.iload (pc := 497) dL_law_497 5 rfl ?_
        refine J.iconst (pc := 499) dL_law_499 ic_2 ?_
        refine J.iadd (pc := 500) dL_law_500 ?_
        obtain ⟨x113, e114, h⟩ := bnd h
        refine J.scrLd' (pc := 501) dL_law_501 e114 ?_
        obtain ⟨⟨r117, μ116⟩, e115, h⟩ := bnd h
        try dsimp only at h
        refine J.callV (Y := mL_law) (Z := mX11_person) (pc := 502) (st := []) (k2 := (2 + 4 * n)) (n2 := (12 + 24 * n)) dL_law_502 ml_RL_139 mo_X11_person mv_X11_person rfl (tX11_person (d + 70) e115 hN109 k2) k2 (okN hN109 k2 (by decide)).1 (okN hN109 k2 (by decide)).2 cq_11 (by decide) rfl rfl (Nat.le_of_ble_eq_true rfl) (by omega) (by omega) (fun v ν hp => ?_) (fun i ν hp => nrm hp.1)
        obtain ⟨rfl, rfl, hN118, hb119⟩ := QEl hp
        show J _ _ _ _ 505 _ ([.int r117]) _ _ _ _
        refine J.istore (pc := 505) ([(6, .int r117), (5, .int r108), (0, .ref 30000), (1, .ref v1), (2, .ref v2), (3, .ref v3), (4, .int v4)]) dL_law_505 (Nat.le_of_ble_eq_true rfl) rfl ?_
        refine J.aload_n (pc := 507) dL_law_507 rfl 4 rfl ?_
        refine J.callV (Y := mL_law) (Z := mX11_thrown) (pc := 508) (st := []) (k2 := (2 + 4 * n)) (n2 := (12 + 24 * n)) dL_law_508 ml_RL_122 mo_X11_thrown mv_X11_thrown rfl (tX11_thrown (d + 73) v2 μ116 hN118 k2) k2 (okN hN118 k2 (by decide)).1 (okN hN118 k2 (by decide)).2 cq_11 (by decide) rfl rfl (Nat.le_of_ble_eq_true rfl) (by omega) (by omega) (fun v ν hp => ?_) (fun i ν hp => nrm hp.1)
        obtain ⟨rfl, rfl, hN121, hb122⟩ := QEl hp
        show J _ _ _ _ 511 _ ([.int (fX11_thrown v2 μ116)]) _ _ _ _
        refine J.iload (pc := 511) dL_law_511 1 rfl ?_
        rcases ifc h with ⟨hc, h⟩ | ⟨hc, h⟩
        · refine J.ceq (pc := 513) (tgt := 518) dL_law_513 (by decide) (fun _ => ?_) (fun q => absurd hc q)
          refine J.iload (pc := 518) dL_law_518 1 rfl ?_
          rcases ifc h with ⟨hc, h⟩ | ⟨hc, h⟩
          · refine J.zne (pc := 520) (tgt := 535) dL_law_520 (by decide) (fun _ => ?_) (fun q => absurd hc q)
            refine J.aload_n (pc := 523) dL_law_523 rfl 5 rfl ?_
            refine J.iconst (pc := 524) dL_law_524 ic_0 ?_
            obtain ⟨x123, e124, h⟩ := bnd h
            refine J.aL (pc := 525) dL_law_525 k3 (okN hN121 k3 (by decide)) e124 ?_
            refine J.iload (pc := 526) dL_law_526 0 rfl ?_
            refine J.i2l (pc := 528) dL_law_528 ?_
            rcases ifc h with ⟨hc, h⟩ | ⟨hc, h⟩
            · refine J.meq (pc := 529) (tgt := 535) dL_law_529 dL_law_530 (by decide) (fun _ => ?_) (fun q => absurd hc q)
              refine J.goto (pc := 535) (tgt := 2366) dL_law_535 (by decide) ?_
              refine J.pick [2, 3, 4, 5, 6] rfl ?_
              refine J.room (k' := 4 * n) (n' := 24 * n) (by omega) (by omega) ?_
              exact (tL_law_2366 d (fL_law_23 ω n) ih) v0 v1 v2 v3 v4 μ116 h hN121 k1 k2 k3
            · refine J.meq (pc := 529) (tgt := 535) dL_law_529 dL_law_530 (by decide) (fun q => absurd q hc) (fun _ => ?_)
              refine J.iconst (pc := 533) dL_law_533 ic_0 ?_
              cases h
              exact J.zret (pc := 534) dL_law_534 rfl (narB (Or.inl rfl)) ⟨rfl, rfl, hN121, (Or.inl rfl)⟩
          · refine J.zne (pc := 520) (tgt := 535) dL_law_520 (by decide) (fun q => absurd q hc) (fun _ => ?_)
            refine J.goto (pc := 535) (tgt := 2366) dL_law_535 (by decide) ?_
            refine J.pick [2, 3, 4, 5, 6] rfl ?_
            refine J.room (k' := 4 * n) (n' := 24 * n) (by omega) (by omega) ?_
            exact (tL_law_2366 d (fL_law_23 ω n) ih) v0 v1 v2 v3 v4 μ116 h hN121 k1 k2 k3
        · refine J.ceq (pc := 513) (tgt := 518) dL_law_513 (by decide) (fun q => absurd q hc) (fun _ => ?_)
          refine J.iconst (pc := 516) dL_law_516 ic_0 ?_
          cases h
          exact J.zret (pc := 517) dL_law_517 rfl (narB (Or.inl rfl)) ⟨rfl, rfl, hN121, (Or.inl rfl)⟩
      rcases ifc h with ⟨hc, h⟩ | ⟨ns7, h⟩
      · refine J.tableIn (pc := 40) (off := 498) (tgt := 538) dL_law_40 (by rw [hc]; decide) (by rw [hc]; decide) (by rw [hc]; decide) (by decide) ?_
        refine J.aload_n (pc := 538) dL_law_538 rfl 1 rfl ?_
        refine J.aload_n (pc := 539) dL_law_539 rfl 0 rfl ?_
        refine J.iload (pc := 540) dL_law_540 4 rfl ?_
        refine J.iconst (pc := 542) dL_law_542 ic_1 ?_
        refine J.iadd (pc := 543) dL_law_543 ?_
        obtain ⟨x125, e126, h⟩ := bnd h
        refine J.scrLd' (pc := 544) dL_law_544 e126 ?_
        refine J.aload_n (pc := 545) dL_law_545 rfl 3 rfl ?_
        obtain ⟨⟨r129, μ128⟩, e127, h⟩ := bnd h
        try dsimp only at h
        refine J.callSW (Y := mL_law) (Z := mL_ink) (pc := 546) (st := []) (k2 := (3 + 4 * n)) (n2 := (18 + 24 * n)) dL_law_546 ml_RL_140 mo_L_ink ms_L_ink rfl (tL_ink (d + 63) e127 hN k1 k3) (fun i ν hp => nrm hp.1) rfl rfl (Nat.le_of_ble_eq_true rfl) (by omega) (by omega) (fun v ν hp => ?_)
        obtain ⟨rfl, rfl, hN130, hb131⟩ := QEl hp
        show J _ _ _ _ 549 _ ([.int r129]) _ _ _ _
        refine J.istore (pc := 549) ([(5, .int r129), (0, .ref 30000), (1, .ref v1), (2, .ref v2), (3, .ref v3), (4, .int v4)]) dL_law_549 (Nat.le_of_ble_eq_true rfl) rfl ?_
        refine J.aload_n (pc := 551) dL_law_551 rfl 3 rfl ?_
        refine J.aload_n (pc := 552) dL_law_552 rfl 1 rfl ?_
        refine J.iload (pc := 553) dL_law_553 5 rfl ?_
        refine J.iconst (pc := 555) dL_law_555 ic_1 ?_
        refine J.iadd (pc := 556) dL_law_556 ?_
        obtain ⟨x132, e133, h⟩ := bnd h
        refine J.scrLd' (pc := 557) dL_law_557 e133 ?_
        obtain ⟨⟨r136, μ135⟩, e134, h⟩ := bnd h
        try dsimp only at h
        refine J.callV (Y := mL_law) (Z := mX11_ink) (pc := 558) (st := []) (k2 := (3 + 4 * n)) (n2 := (18 + 24 * n)) dL_law_558 ml_RL_142 mo_X11_ink mv_X11_ink rfl (tX11_ink (d + 71) e134 hN130 k2) k2 (okN hN130 k2 (by decide)).1 (okN hN130 k2 (by decide)).2 cq_11 (by decide) rfl rfl (Nat.le_of_ble_eq_true rfl) (by omega) (by omega) (fun v ν hp => ?_) (fun i ν hp => nrm hp.1)
        obtain ⟨rfl, rfl, hN137, hb138⟩ := QEl hp
        show J _ _ _ _ 561 _ ([.int r136]) _ _ _ _
        refine J.istore (pc := 561) ([(6, .int r136), (5, .int r129), (0, .ref 30000), (1, .ref v1), (2, .ref v2), (3, .ref v3), (4, .int v4)]) dL_law_561 (Nat.le_of_ble_eq_true rfl) rfl ?_
        refine J.aload_n (pc := 563) dL_law_563 rfl 4 rfl ?_
        refine J.callV (Y := mL_law) (Z := mX11_thrown) (pc := 564) (st := []) (k2 := (3 + 4 * n)) (n2 := (18 + 24 * n)) dL_law_564 ml_RL_122 mo_X11_thrown mv_X11_thrown rfl (tX11_thrown (d + 73) v2 μ135 hN137 k2) k2 (okN hN137 k2 (by decide)).1 (okN hN137 k2 (by decide)).2 cq_11 (by decide) rfl rfl (Nat.le_of_ble_eq_true rfl) (by omega) (by omega) (fun v ν hp => ?_) (fun i ν hp => nrm hp.1)
        obtain ⟨rfl, rfl, hN140, hb141⟩ := QEl hp
        show J _ _ _ _ 567 _ ([.int (fX11_thrown v2 μ135)]) _ _ _ _
        refine J.iload (pc := 567) dL_law_567 1 rfl ?_
        rcases ifc h with ⟨hc, h⟩ | ⟨hc, h⟩
        · refine J.ceq (pc := 569) (tgt := 574) dL_law_569 (by decide) (fun _ => ?_) (fun q => absurd hc q)
          refine J.iload (pc := 574) dL_law_574 1 rfl ?_
          rcases ifc h with ⟨hc, h⟩ | ⟨hc, h⟩
          · refine J.zne (pc := 576) (tgt := 591) dL_law_576 (by decide) (fun _ => ?_) (fun q => absurd hc q)
            refine J.aload_n (pc := 579) dL_law_579 rfl 5 rfl ?_
            refine J.iconst (pc := 580) dL_law_580 ic_0 ?_
            obtain ⟨x142, e143, h⟩ := bnd h
            refine J.aL (pc := 581) dL_law_581 k3 (okN hN140 k3 (by decide)) e143 ?_
            refine J.iload (pc := 582) dL_law_582 0 rfl ?_
            refine J.i2l (pc := 584) dL_law_584 ?_
            rcases ifc h with ⟨hc, h⟩ | ⟨hc, h⟩
            · refine J.meq (pc := 585) (tgt := 591) dL_law_585 dL_law_586 (by decide) (fun _ => ?_) (fun q => absurd hc q)
              refine J.goto (pc := 591) (tgt := 2366) dL_law_591 (by decide) ?_
              refine J.pick [2, 3, 4, 5, 6] rfl ?_
              refine J.room (k' := 4 * n) (n' := 24 * n) (by omega) (by omega) ?_
              exact (tL_law_2366 d (fL_law_23 ω n) ih) v0 v1 v2 v3 v4 μ135 h hN140 k1 k2 k3
            · refine J.meq (pc := 585) (tgt := 591) dL_law_585 dL_law_586 (by decide) (fun q => absurd q hc) (fun _ => ?_)
              refine J.iconst (pc := 589) dL_law_589 ic_0 ?_
              cases h
              exact J.zret (pc := 590) dL_law_590 rfl (narB (Or.inl rfl)) ⟨rfl, rfl, hN140, (Or.inl rfl)⟩
          · refine J.zne (pc := 576) (tgt := 591) dL_law_576 (by decide) (fun q => absurd q hc) (fun _ => ?_)
            refine J.goto (pc := 591) (tgt := 2366) dL_law_591 (by decide) ?_
            refine J.pick [2, 3, 4, 5, 6] rfl ?_
            refine J.room (k' := 4 * n) (n' := 24 * n) (by omega) (by omega) ?_
            exact (tL_law_2366 d (fL_law_23 ω n) ih) v0 v1 v2 v3 v4 μ135 h hN140 k1 k2 k3
        · refine J.ceq (pc := 569) (tgt := 574) dL_law_569 (by decide) (fun q => absurd q hc) (fun _ => ?_)
          refine J.iconst (pc := 572) dL_law_572 ic_0 ?_
          cases h
          exact J.zret (pc := 573) dL_law_573 rfl (narB (Or.inl rfl)) ⟨rfl, rfl, hN140, (Or.inl rfl)⟩
      rcases ifc h with ⟨hc, h⟩ | ⟨ns8, h⟩
      · refine J.tableIn (pc := 40) (off := 554) (tgt := 594) dL_law_40 (by rw [hc]; decide) (by rw [hc]; decide) (by rw [hc]; decide) (by decide) ?_
        refine J.aload_n (pc := 594) dL_law_594 rfl 1 rfl ?_
        refine J.aload_n (pc := 595) dL_law_595 rfl 0 rfl ?_
        refine J.iload (pc := 596) dL_law_596 4 rfl ?_
        refine J.iconst (pc := 598) dL_law_598 ic_1 ?_
        refine J.iadd (pc := 599) dL_law_599 ?_
        obtain ⟨x144, e145, h⟩ := bnd h
        refine J.scrLd' (pc := 600) dL_law_600 e145 ?_
        obtain ⟨⟨r148, μ147⟩, e146, h⟩ := bnd h
        try dsimp only at h
        refine J.callV (Y := mL_law) (Z := mX10_days) (pc := 601) (st := []) (k2 := (4 + 4 * n)) (n2 := (24 + 24 * n)) dL_law_601 ml_RL_143 mo_X10_days mv_X10_days rfl (tX10_days (d + 67) e146 hN k1) k1 (okN hN k1 (by decide)).1 (okN hN k1 (by decide)).2 cq_10 (by decide) rfl rfl (Nat.le_of_ble_eq_true rfl) (by omega) (by omega) (fun v ν hp => ?_) (fun i ν hp => nrm hp.1)
        obtain ⟨rfl, rfl, hN149, hb150⟩ := QEl hp
        show J _ _ _ _ 604 _ ([.int r148]) _ _ _ _
        refine J.aload_n (pc := 604) dL_law_604 rfl 2 rfl ?_
        refine J.aload_n (pc := 605) dL_law_605 rfl 0 rfl ?_
        refine J.iload (pc := 606) dL_law_606 4 rfl ?_
        refine J.iconst (pc := 608) dL_law_608 ic_1 ?_
        refine J.iadd (pc := 609) dL_law_609 ?_
        obtain ⟨x151, e152, h⟩ := bnd h
        refine J.scrLd' (pc := 610) dL_law_610 e152 ?_
        obtain ⟨⟨r155, μ154⟩, e153, h⟩ := bnd h
        try dsimp only at h
        refine J.callV (Y := mL_law) (Z := mX11_days) (pc := 611) (st := [.int r148]) (k2 := (4 + 4 * n)) (n2 := (24 + 24 * n)) dL_law_611 ml_RL_146 mo_X11_days mv_X11_days rfl (tX11_days (d + 68) e153 hN149 k2) k2 (okN hN149 k2 (by decide)).1 (okN hN149 k2 (by decide)).2 cq_11 (by decide) rfl rfl (Nat.le_of_ble_eq_true rfl) (by omega) (by omega) (fun v ν hp => ?_) (fun i ν hp => nrm hp.1)
        obtain ⟨rfl, rfl, hN156, hb157⟩ := QEl hp
        show J _ _ _ _ 614 _ ([.int r155, .int r148]) _ _ _ _
        rcases ifc h with ⟨hc, h⟩ | ⟨hc, h⟩
        · refine J.ceq (pc := 614) (tgt := 2366) dL_law_614 (by decide) (fun _ => ?_) (fun q => absurd hc q)
          refine J.room (k' := 4 * n) (n' := 24 * n) (by omega) (by omega) ?_
          exact (tL_law_2366 d (fL_law_23 ω n) ih) v0 v1 v2 v3 v4 μ154 h hN156 k1 k2 k3
        · refine J.ceq (pc := 614) (tgt := 2366) dL_law_614 (by decide) (fun q => absurd q hc) (fun _ => ?_)
          refine J.iconst (pc := 617) dL_law_617 ic_0 ?_
          cases h
          exact J.zret (pc := 618) dL_law_618 rfl (narB (Or.inl rfl)) ⟨rfl, rfl, hN156, (Or.inl rfl)⟩
      rcases ifc h with ⟨hc, h⟩ | ⟨ns9, h⟩
      · refine J.tableIn (pc := 40) (off := 579) (tgt := 619) dL_law_40 (by rw [hc]; decide) (by rw [hc]; decide) (by rw [hc]; decide) (by decide) ?_
        refine J.aload_n (pc := 619) dL_law_619 rfl 1 rfl ?_
        refine J.aload_n (pc := 620) dL_law_620 rfl 0 rfl ?_
        refine J.iload (pc := 621) dL_law_621 4 rfl ?_
        refine J.iconst (pc := 623) dL_law_623 ic_1 ?_
        refine J.iadd (pc := 624) dL_law_624 ?_
        obtain ⟨x158, e159, h⟩ := bnd h
        refine J.scrLd' (pc := 625) dL_law_625 e159 ?_
        refine J.aload_n (pc := 626) dL_law_626 rfl 0 rfl ?_
        refine J.iload (pc := 627) dL_law_627 4 rfl ?_
        refine J.iconst (pc := 629) dL_law_629 ic_2 ?_
        refine J.iadd (pc := 630) dL_law_630 ?_
        obtain ⟨x160, e161, h⟩ := bnd h
        refine J.scrLd' (pc := 631) dL_law_631 e161 ?_
        refine J.aload_n (pc := 632) dL_law_632 rfl 3 rfl ?_
        obtain ⟨⟨r164, μ163⟩, e162, h⟩ := bnd h
        try dsimp only at h
        refine J.callSW (Y := mL_law) (Z := mL_type) (pc := 633) (st := []) (k2 := (3 + 4 * n)) (n2 := (18 + 24 * n)) dL_law_633 ml_RL_147 mo_L_type ms_L_type rfl (tL_type (d + 63) e162 hN k1 k3) (fun i ν hp => nrm hp.1) rfl rfl (Nat.le_of_ble_eq_true rfl) (by omega) (by omega) (fun v ν hp => ?_)
        obtain ⟨rfl, rfl, hN165, hb166⟩ := QEl hp
        show J _ _ _ _ 636 _ ([.int r164]) _ _ _ _
        refine J.istore (pc := 636) ([(5, .int r164), (0, .ref 30000), (1, .ref v1), (2, .ref v2), (3, .ref v3), (4, .int v4)]) dL_law_636 (Nat.le_of_ble_eq_true rfl) rfl ?_
        refine J.aload_n (pc := 638) dL_law_638 rfl 3 rfl ?_
        refine J.aload_n (pc := 639) dL_law_639 rfl 1 rfl ?_
        refine J.iload (pc := 640) dL_law_640 5 rfl ?_
        refine J.iconst (pc := 642) dL_law_642 ic_1 ?_
        refine J.iadd (pc := 643) dL_law_643 ?_
        obtain ⟨x167, e168, h⟩ := bnd h
        refine J.scrLd' (pc := 644) dL_law_644 e168 ?_
        refine J.aload_n (pc := 645) dL_law_645 rfl 1 rfl ?_
        refine J.iload (pc := 646) dL_law_646 5 rfl ?_
        refine J.iconst (pc := 648) dL_law_648 ic_2 ?_
        refine J.iadd (pc := 649) dL_law_649 ?_
        obtain ⟨x169, e170, h⟩ := bnd h
        refine J.scrLd' (pc := 650) dL_law_650 e170 ?_
        obtain ⟨⟨r173, μ172⟩, e171, h⟩ := bnd h
        try dsimp only at h
        refine J.callV (Y := mL_law) (Z := mX11_type) (pc := 651) (st := []) (k2 := (3 + 4 * n)) (n2 := (18 + 24 * n)) dL_law_651 ml_RL_149 mo_X11_type mv_X11_type rfl (tX11_type (d + 71) e171 hN165 k2) k2 (okN hN165 k2 (by decide)).1 (okN hN165 k2 (by decide)).2 cq_11 (by decide) rfl rfl (Nat.le_of_ble_eq_true rfl) (by omega) (by omega) (fun v ν hp => ?_) (fun i ν hp => nrm hp.1)
        obtain ⟨rfl, rfl, hN174, hb175⟩ := QEl hp
        show J _ _ _ _ 654 _ ([.int r173]) _ _ _ _
        refine J.istore (pc := 654) ([(6, .int r173), (5, .int r164), (0, .ref 30000), (1, .ref v1), (2, .ref v2), (3, .ref v3), (4, .int v4)]) dL_law_654 (Nat.le_of_ble_eq_true rfl) rfl ?_
        refine J.aload_n (pc := 656) dL_law_656 rfl 4 rfl ?_
        refine J.callV (Y := mL_law) (Z := mX11_thrown) (pc := 657) (st := []) (k2 := (3 + 4 * n)) (n2 := (18 + 24 * n)) dL_law_657 ml_RL_122 mo_X11_thrown mv_X11_thrown rfl (tX11_thrown (d + 73) v2 μ172 hN174 k2) k2 (okN hN174 k2 (by decide)).1 (okN hN174 k2 (by decide)).2 cq_11 (by decide) rfl rfl (Nat.le_of_ble_eq_true rfl) (by omega) (by omega) (fun v ν hp => ?_) (fun i ν hp => nrm hp.1)
        obtain ⟨rfl, rfl, hN177, hb178⟩ := QEl hp
        show J _ _ _ _ 660 _ ([.int (fX11_thrown v2 μ172)]) _ _ _ _
        refine J.iload (pc := 660) dL_law_660 1 rfl ?_
        rcases ifc h with ⟨hc, h⟩ | ⟨hc, h⟩
        · refine J.ceq (pc := 662) (tgt := 667) dL_law_662 (by decide) (fun _ => ?_) (fun q => absurd hc q)
          refine J.iload (pc := 667) dL_law_667 1 rfl ?_
          rcases ifc h with ⟨hc, h⟩ | ⟨hc, h⟩
          · refine J.zne (pc := 669) (tgt := 684) dL_law_669 (by decide) (fun _ => ?_) (fun q => absurd hc q)
            refine J.aload_n (pc := 672) dL_law_672 rfl 5 rfl ?_
            refine J.iconst (pc := 673) dL_law_673 ic_0 ?_
            obtain ⟨x179, e180, h⟩ := bnd h
            refine J.aL (pc := 674) dL_law_674 k3 (okN hN177 k3 (by decide)) e180 ?_
            refine J.iload (pc := 675) dL_law_675 0 rfl ?_
            refine J.i2l (pc := 677) dL_law_677 ?_
            rcases ifc h with ⟨hc, h⟩ | ⟨hc, h⟩
            · refine J.meq (pc := 678) (tgt := 684) dL_law_678 dL_law_679 (by decide) (fun _ => ?_) (fun q => absurd hc q)
              refine J.goto (pc := 684) (tgt := 2366) dL_law_684 (by decide) ?_
              refine J.pick [2, 3, 4, 5, 6] rfl ?_
              refine J.room (k' := 4 * n) (n' := 24 * n) (by omega) (by omega) ?_
              exact (tL_law_2366 d (fL_law_23 ω n) ih) v0 v1 v2 v3 v4 μ172 h hN177 k1 k2 k3
            · refine J.meq (pc := 678) (tgt := 684) dL_law_678 dL_law_679 (by decide) (fun q => absurd q hc) (fun _ => ?_)
              refine J.iconst (pc := 682) dL_law_682 ic_0 ?_
              cases h
              exact J.zret (pc := 683) dL_law_683 rfl (narB (Or.inl rfl)) ⟨rfl, rfl, hN177, (Or.inl rfl)⟩
          · refine J.zne (pc := 669) (tgt := 684) dL_law_669 (by decide) (fun q => absurd q hc) (fun _ => ?_)
            refine J.goto (pc := 684) (tgt := 2366) dL_law_684 (by decide) ?_
            refine J.pick [2, 3, 4, 5, 6] rfl ?_
            refine J.room (k' := 4 * n) (n' := 24 * n) (by omega) (by omega) ?_
            exact (tL_law_2366 d (fL_law_23 ω n) ih) v0 v1 v2 v3 v4 μ172 h hN177 k1 k2 k3
        · refine J.ceq (pc := 662) (tgt := 667) dL_law_662 (by decide) (fun q => absurd q hc) (fun _ => ?_)
          refine J.iconst (pc := 665) dL_law_665 ic_0 ?_
          cases h
          exact J.zret (pc := 666) dL_law_666 rfl (narB (Or.inl rfl)) ⟨rfl, rfl, hN177, (Or.inl rfl)⟩
      rcases ifc h with ⟨hc, h⟩ | ⟨ns10, h⟩
      · refine J.tableIn (pc := 40) (off := 647) (tgt := 687) dL_law_40 (by rw [hc]; decide) (by rw [hc]; decide) (by rw [hc]; decide) (by decide) ?_
        refine J.aload_n (pc := 687) dL_law_687 rfl 1 rfl ?_
        refine J.aload_n (pc := 688) dL_law_688 rfl 0 rfl ?_
        refine J.iload (pc := 689) dL_law_689 4 rfl ?_
        refine J.iconst (pc := 691) dL_law_691 ic_1 ?_
        refine J.iadd (pc := 692) dL_law_692 ?_
        obtain ⟨x181, e182, h⟩ := bnd h
        refine J.scrLd' (pc := 693) dL_law_693 e182 ?_
        refine J.aload_n (pc := 694) dL_law_694 rfl 0 rfl ?_
        refine J.iload (pc := 695) dL_law_695 4 rfl ?_
        refine J.iconst (pc := 697) dL_law_697 ic_2 ?_
        refine J.iadd (pc := 698) dL_law_698 ?_
        obtain ⟨x183, e184, h⟩ := bnd h
        refine J.scrLd' (pc := 699) dL_law_699 e184 ?_
        rcases ifc h with ⟨hc, h⟩ | ⟨hc, h⟩
        · refine J.zeq (pc := 700) (tgt := 707) dL_law_700 (by decide) (fun _ => ?_) (fun q => absurd hc q)
          refine J.iconst (pc := 707) dL_law_707 ic_0 ?_
          refine J.aload_n (pc := 708) dL_law_708 rfl 3 rfl ?_
          obtain ⟨⟨r187, μ186⟩, e185, h⟩ := bnd h
          try dsimp only at h
          refine J.callSW (Y := mL_law) (Z := mL_stile) (pc := 709) (st := []) (k2 := (3 + 4 * n)) (n2 := (18 + 24 * n)) dL_law_709 ml_RL_150 mo_L_stile ms_L_stile rfl (tL_stile (d + 63) e185 hN k1 k3) (fun i ν hp => nrm hp.1) rfl rfl (Nat.le_of_ble_eq_true rfl) (by omega) (by omega) (fun v ν hp => ?_)
          obtain ⟨rfl, rfl, hN188, hb189⟩ := QEl hp
          show J _ _ _ _ 712 _ ([.int r187]) _ _ _ _
          refine J.istore (pc := 712) ([(5, .int r187), (0, .ref 30000), (1, .ref v1), (2, .ref v2), (3, .ref v3), (4, .int v4)]) dL_law_712 (Nat.le_of_ble_eq_true rfl) rfl ?_
          refine J.aload_n (pc := 714) dL_law_714 rfl 3 rfl ?_
          refine J.aload_n (pc := 715) dL_law_715 rfl 1 rfl ?_
          refine J.iload (pc := 716) dL_law_716 5 rfl ?_
          refine J.iconst (pc := 718) dL_law_718 ic_1 ?_
          refine J.iadd (pc := 719) dL_law_719 ?_
          obtain ⟨x190, e191, h⟩ := bnd h
          refine J.scrLd' (pc := 720) dL_law_720 e191 ?_
          refine J.aload_n (pc := 721) dL_law_721 rfl 1 rfl ?_
          refine J.iload (pc := 722) dL_law_722 5 rfl ?_
          refine J.iconst (pc := 724) dL_law_724 ic_2 ?_
          refine J.iadd (pc := 725) dL_law_725 ?_
          obtain ⟨x192, e193, h⟩ := bnd h
          refine J.scrLd' (pc := 726) dL_law_726 e193 ?_
          rcases ifc h with ⟨hc, h⟩ | ⟨hc, h⟩
          · refine J.zeq (pc := 727) (tgt := 734) dL_law_727 (by decide) (fun _ => ?_) (fun q => absurd hc q)
            refine J.iconst (pc := 734) dL_law_734 ic_0 ?_
            obtain ⟨⟨r196, μ195⟩, e194, h⟩ := bnd h
            try dsimp only at h
            refine J.callV (Y := mL_law) (Z := mX11_stile) (pc := 735) (st := []) (k2 := (3 + 4 * n)) (n2 := (18 + 24 * n)) dL_law_735 ml_RL_153 mo_X11_stile mv_X11_stile rfl (tX11_stile (d + 71) e194 hN188 k2) k2 (okN hN188 k2 (by decide)).1 (okN hN188 k2 (by decide)).2 cq_11 (by decide) rfl rfl (Nat.le_of_ble_eq_true rfl) (by omega) (by omega) (fun v ν hp => ?_) (fun i ν hp => nrm hp.1)
            obtain ⟨rfl, rfl, hN197, hb198⟩ := QEl hp
            show J _ _ _ _ 738 _ ([.int r196]) _ _ _ _
            refine J.istore (pc := 738) ([(6, .int r196), (5, .int r187), (0, .ref 30000), (1, .ref v1), (2, .ref v2), (3, .ref v3), (4, .int v4)]) dL_law_738 (Nat.le_of_ble_eq_true rfl) rfl ?_
            refine J.aload_n (pc := 740) dL_law_740 rfl 4 rfl ?_
            refine J.callV (Y := mL_law) (Z := mX11_thrown) (pc := 741) (st := []) (k2 := (3 + 4 * n)) (n2 := (18 + 24 * n)) dL_law_741 ml_RL_122 mo_X11_thrown mv_X11_thrown rfl (tX11_thrown (d + 73) v2 μ195 hN197 k2) k2 (okN hN197 k2 (by decide)).1 (okN hN197 k2 (by decide)).2 cq_11 (by decide) rfl rfl (Nat.le_of_ble_eq_true rfl) (by omega) (by omega) (fun v ν hp => ?_) (fun i ν hp => nrm hp.1)
            obtain ⟨rfl, rfl, hN200, hb201⟩ := QEl hp
            show J _ _ _ _ 744 _ ([.int (fX11_thrown v2 μ195)]) _ _ _ _
            refine J.iload (pc := 744) dL_law_744 1 rfl ?_
            rcases ifc h with ⟨hc, h⟩ | ⟨hc, h⟩
            · refine J.ceq (pc := 746) (tgt := 751) dL_law_746 (by decide) (fun _ => ?_) (fun q => absurd hc q)
              refine J.iload (pc := 751) dL_law_751 1 rfl ?_
              rcases ifc h with ⟨hc, h⟩ | ⟨hc, h⟩
              · refine J.zne (pc := 753) (tgt := 775) dL_law_753 (by decide) (fun _ => ?_) (fun q => absurd hc q)
                refine J.aload_n (pc := 756) dL_law_756 rfl 5 rfl ?_
                refine J.iconst (pc := 757) dL_law_757 ic_0 ?_
                obtain ⟨x202, e203, h⟩ := bnd h
                refine J.aL (pc := 758) dL_law_758 k3 (okN hN200 k3 (by decide)) e203 ?_
                refine J.iload (pc := 759) dL_law_759 0 rfl ?_
                rcases ifc h with ⟨hc, h⟩ | ⟨hc, h⟩
                · refine J.zeq (pc := 761) (tgt := 768) dL_law_761 (by decide) (fun _ => ?_) (fun q => absurd hc q)
                  refine J.lconst (pc := 768) dL_law_768 lc_0 ?_
                  rcases ifc h with ⟨hc, h⟩ | ⟨hc, h⟩
                  · refine J.meq (pc := 769) (tgt := 775) dL_law_769 dL_law_770 (by decide) (fun _ => ?_) (fun q => absurd hc q)
                    refine J.goto (pc := 775) (tgt := 2366) dL_law_775 (by decide) ?_
                    refine J.pick [2, 3, 4, 5, 6] rfl ?_
                    refine J.room (k' := 4 * n) (n' := 24 * n) (by omega) (by omega) ?_
                    exact (tL_law_2366 d (fL_law_23 ω n) ih) v0 v1 v2 v3 v4 μ195 h hN200 k1 k2 k3
                  · refine J.meq (pc := 769) (tgt := 775) dL_law_769 dL_law_770 (by decide) (fun q => absurd q hc) (fun _ => ?_)
                    refine J.iconst (pc := 773) dL_law_773 ic_0 ?_
                    cases h
                    exact J.zret (pc := 774) dL_law_774 rfl (narB (Or.inl rfl)) ⟨rfl, rfl, hN200, (Or.inl rfl)⟩
                · refine J.zeq (pc := 761) (tgt := 768) dL_law_761 (by decide) (fun q => absurd q hc) (fun _ => ?_)
                  refine J.lconst (pc := 764) dL_law_764 lc_1 ?_
                  refine J.goto (pc := 765) (tgt := 769) dL_law_765 (by decide) ?_
                  rcases ifc h with ⟨hc, h⟩ | ⟨hc, h⟩
                  · refine J.meq (pc := 769) (tgt := 775) dL_law_769 dL_law_770 (by decide) (fun _ => ?_) (fun q => absurd hc q)
                    refine J.goto (pc := 775) (tgt := 2366) dL_law_775 (by decide) ?_
                    refine J.pick [2, 3, 4, 5, 6] rfl ?_
                    refine J.room (k' := 4 * n) (n' := 24 * n) (by omega) (by omega) ?_
                    exact (tL_law_2366 d (fL_law_23 ω n) ih) v0 v1 v2 v3 v4 μ195 h hN200 k1 k2 k3
                  · refine J.meq (pc := 769) (tgt := 775) dL_law_769 dL_law_770 (by decide) (fun q => absurd q hc) (fun _ => ?_)
                    refine J.iconst (pc := 773) dL_law_773 ic_0 ?_
                    cases h
                    exact J.zret (pc := 774) dL_law_774 rfl (narB (Or.inl rfl)) ⟨rfl, rfl, hN200, (Or.inl rfl)⟩
              · refine J.zne (pc := 753) (tgt := 775) dL_law_753 (by decide) (fun q => absurd q hc) (fun _ => ?_)
                refine J.goto (pc := 775) (tgt := 2366) dL_law_775 (by decide) ?_
                refine J.pick [2, 3, 4, 5, 6] rfl ?_
                refine J.room (k' := 4 * n) (n' := 24 * n) (by omega) (by omega) ?_
                exact (tL_law_2366 d (fL_law_23 ω n) ih) v0 v1 v2 v3 v4 μ195 h hN200 k1 k2 k3
            · refine J.ceq (pc := 746) (tgt := 751) dL_law_746 (by decide) (fun q => absurd q hc) (fun _ => ?_)
              refine J.iconst (pc := 749) dL_law_749 ic_0 ?_
              cases h
              exact J.zret (pc := 750) dL_law_750 rfl (narB (Or.inl rfl)) ⟨rfl, rfl, hN200, (Or.inl rfl)⟩
          · refine J.zeq (pc := 727) (tgt := 734) dL_law_727 (by decide) (fun q => absurd q hc) (fun _ => ?_)
            refine J.iconst (pc := 730) dL_law_730 ic_1 ?_
            refine J.goto (pc := 731) (tgt := 735) dL_law_731 (by decide) ?_
            obtain ⟨⟨r206, μ205⟩, e204, h⟩ := bnd h
            try dsimp only at h
            refine J.callV (Y := mL_law) (Z := mX11_stile) (pc := 735) (st := []) (k2 := (3 + 4 * n)) (n2 := (18 + 24 * n)) dL_law_735 ml_RL_153 mo_X11_stile mv_X11_stile rfl (tX11_stile (d + 71) e204 hN188 k2) k2 (okN hN188 k2 (by decide)).1 (okN hN188 k2 (by decide)).2 cq_11 (by decide) rfl rfl (Nat.le_of_ble_eq_true rfl) (by omega) (by omega) (fun v ν hp => ?_) (fun i ν hp => nrm hp.1)
            obtain ⟨rfl, rfl, hN207, hb208⟩ := QEl hp
            show J _ _ _ _ 738 _ ([.int r206]) _ _ _ _
            refine J.istore (pc := 738) ([(6, .int r206), (5, .int r187), (0, .ref 30000), (1, .ref v1), (2, .ref v2), (3, .ref v3), (4, .int v4)]) dL_law_738 (Nat.le_of_ble_eq_true rfl) rfl ?_
            refine J.aload_n (pc := 740) dL_law_740 rfl 4 rfl ?_
            refine J.callV (Y := mL_law) (Z := mX11_thrown) (pc := 741) (st := []) (k2 := (3 + 4 * n)) (n2 := (18 + 24 * n)) dL_law_741 ml_RL_122 mo_X11_thrown mv_X11_thrown rfl (tX11_thrown (d + 73) v2 μ205 hN207 k2) k2 (okN hN207 k2 (by decide)).1 (okN hN207 k2 (by decide)).2 cq_11 (by decide) rfl rfl (Nat.le_of_ble_eq_true rfl) (by omega) (by omega) (fun v ν hp => ?_) (fun i ν hp => nrm hp.1)
            obtain ⟨rfl, rfl, hN210, hb211⟩ := QEl hp
            show J _ _ _ _ 744 _ ([.int (fX11_thrown v2 μ205)]) _ _ _ _
            refine J.iload (pc := 744) dL_law_744 1 rfl ?_
            rcases ifc h with ⟨hc, h⟩ | ⟨hc, h⟩
            · refine J.ceq (pc := 746) (tgt := 751) dL_law_746 (by decide) (fun _ => ?_) (fun q => absurd hc q)
              refine J.iload (pc := 751) dL_law_751 1 rfl ?_
              rcases ifc h with ⟨hc, h⟩ | ⟨hc, h⟩
              · refine J.zne (pc := 753) (tgt := 775) dL_law_753 (by decide) (fun _ => ?_) (fun q => absurd hc q)
                refine J.aload_n (pc := 756) dL_law_756 rfl 5 rfl ?_
                refine J.iconst (pc := 757) dL_law_757 ic_0 ?_
                obtain ⟨x212, e213, h⟩ := bnd h
                refine J.aL (pc := 758) dL_law_758 k3 (okN hN210 k3 (by decide)) e213 ?_
                refine J.iload (pc := 759) dL_law_759 0 rfl ?_
                rcases ifc h with ⟨hc, h⟩ | ⟨hc, h⟩
                · refine J.zeq (pc := 761) (tgt := 768) dL_law_761 (by decide) (fun _ => ?_) (fun q => absurd hc q)
                  refine J.lconst (pc := 768) dL_law_768 lc_0 ?_
                  rcases ifc h with ⟨hc, h⟩ | ⟨hc, h⟩
                  · refine J.meq (pc := 769) (tgt := 775) dL_law_769 dL_law_770 (by decide) (fun _ => ?_) (fun q => absurd hc q)
                    refine J.goto (pc := 775) (tgt := 2366) dL_law_775 (by decide) ?_
                    refine J.pick [2, 3, 4, 5, 6] rfl ?_
                    refine J.room (k' := 4 * n) (n' := 24 * n) (by omega) (by omega) ?_
                    exact (tL_law_2366 d (fL_law_23 ω n) ih) v0 v1 v2 v3 v4 μ205 h hN210 k1 k2 k3
                  · refine J.meq (pc := 769) (tgt := 775) dL_law_769 dL_law_770 (by decide) (fun q => absurd q hc) (fun _ => ?_)
                    refine J.iconst (pc := 773) dL_law_773 ic_0 ?_
                    cases h
                    exact J.zret (pc := 774) dL_law_774 rfl (narB (Or.inl rfl)) ⟨rfl, rfl, hN210, (Or.inl rfl)⟩
                · refine J.zeq (pc := 761) (tgt := 768) dL_law_761 (by decide) (fun q => absurd q hc) (fun _ => ?_)
                  refine J.lconst (pc := 764) dL_law_764 lc_1 ?_
                  refine J.goto (pc := 765) (tgt := 769) dL_law_765 (by decide) ?_
                  rcases ifc h with ⟨hc, h⟩ | ⟨hc, h⟩
                  · refine J.meq (pc := 769) (tgt := 775) dL_law_769 dL_law_770 (by decide) (fun _ => ?_) (fun q => absurd hc q)
                    refine J.goto (pc := 775) (tgt := 2366) dL_law_775 (by decide) ?_
                    refine J.pick [2, 3, 4, 5, 6] rfl ?_
                    refine J.room (k' := 4 * n) (n' := 24 * n) (by omega) (by omega) ?_
                    exact (tL_law_2366 d (fL_law_23 ω n) ih) v0 v1 v2 v3 v4 μ205 h hN210 k1 k2 k3
                  · refine J.meq (pc := 769) (tgt := 775) dL_law_769 dL_law_770 (by decide) (fun q => absurd q hc) (fun _ => ?_)
                    refine J.iconst (pc := 773) dL_law_773 ic_0 ?_
                    cases h
                    exact J.zret (pc := 774) dL_law_774 rfl (narB (Or.inl rfl)) ⟨rfl, rfl, hN210, (Or.inl rfl)⟩
              · refine J.zne (pc := 753) (tgt := 775) dL_law_753 (by decide) (fun q => absurd q hc) (fun _ => ?_)
                refine J.goto (pc := 775) (tgt := 2366) dL_law_775 (by decide) ?_
                refine J.pick [2, 3, 4, 5, 6] rfl ?_
                refine J.room (k' := 4 * n) (n' := 24 * n) (by omega) (by omega) ?_
                exact (tL_law_2366 d (fL_law_23 ω n) ih) v0 v1 v2 v3 v4 μ205 h hN210 k1 k2 k3
            · refine J.ceq (pc := 746) (tgt := 751) dL_law_746 (by decide) (fun q => absurd q hc) (fun _ => ?_)
              refine J.iconst (pc := 749) dL_law_749 ic_0 ?_
              cases h
              exact J.zret (pc := 750) dL_law_750 rfl (narB (Or.inl rfl)) ⟨rfl, rfl, hN210, (Or.inl rfl)⟩
        · refine J.zeq (pc := 700) (tgt := 707) dL_law_700 (by decide) (fun q => absurd q hc) (fun _ => ?_)
          refine J.iconst (pc := 703) dL_law_703 ic_1 ?_
          refine J.goto (pc := 704) (tgt := 708) dL_law_704 (by decide) ?_
          refine J.aload_n (pc := 708) dL_law_708 rfl 3 rfl ?_
          obtain ⟨⟨r216, μ215⟩, e214, h⟩ := bnd h
          try dsimp only at h
          refine J.callSW (Y := mL_law) (Z := mL_stile) (pc := 709) (st := []) (k2 := (3 + 4 * n)) (n2 := (18 + 24 * n)) dL_law_709 ml_RL_150 mo_L_stile ms_L_stile rfl (tL_stile (d + 63) e214 hN k1 k3) (fun i ν hp => nrm hp.1) rfl rfl (Nat.le_of_ble_eq_true rfl) (by omega) (by omega) (fun v ν hp => ?_)
          obtain ⟨rfl, rfl, hN217, hb218⟩ := QEl hp
          show J _ _ _ _ 712 _ ([.int r216]) _ _ _ _
          refine J.istore (pc := 712) ([(5, .int r216), (0, .ref 30000), (1, .ref v1), (2, .ref v2), (3, .ref v3), (4, .int v4)]) dL_law_712 (Nat.le_of_ble_eq_true rfl) rfl ?_
          refine J.aload_n (pc := 714) dL_law_714 rfl 3 rfl ?_
          refine J.aload_n (pc := 715) dL_law_715 rfl 1 rfl ?_
          refine J.iload (pc := 716) dL_law_716 5 rfl ?_
          refine J.iconst (pc := 718) dL_law_718 ic_1 ?_
          refine J.iadd (pc := 719) dL_law_719 ?_
          obtain ⟨x219, e220, h⟩ := bnd h
          refine J.scrLd' (pc := 720) dL_law_720 e220 ?_
          refine J.aload_n (pc := 721) dL_law_721 rfl 1 rfl ?_
          refine J.iload (pc := 722) dL_law_722 5 rfl ?_
          refine J.iconst (pc := 724) dL_law_724 ic_2 ?_
          refine J.iadd (pc := 725) dL_law_725 ?_
          obtain ⟨x221, e222, h⟩ := bnd h
          refine J.scrLd' (pc := 726) dL_law_726 e222 ?_
          rcases ifc h with ⟨hc, h⟩ | ⟨hc, h⟩
          · refine J.zeq (pc := 727) (tgt := 734) dL_law_727 (by decide) (fun _ => ?_) (fun q => absurd hc q)
            refine J.iconst (pc := 734) dL_law_734 ic_0 ?_
            obtain ⟨⟨r225, μ224⟩, e223, h⟩ := bnd h
            try dsimp only at h
            refine J.callV (Y := mL_law) (Z := mX11_stile) (pc := 735) (st := []) (k2 := (3 + 4 * n)) (n2 := (18 + 24 * n)) dL_law_735 ml_RL_153 mo_X11_stile mv_X11_stile rfl (tX11_stile (d + 71) e223 hN217 k2) k2 (okN hN217 k2 (by decide)).1 (okN hN217 k2 (by decide)).2 cq_11 (by decide) rfl rfl (Nat.le_of_ble_eq_true rfl) (by omega) (by omega) (fun v ν hp => ?_) (fun i ν hp => nrm hp.1)
            obtain ⟨rfl, rfl, hN226, hb227⟩ := QEl hp
            show J _ _ _ _ 738 _ ([.int r225]) _ _ _ _
            refine J.istore (pc := 738) ([(6, .int r225), (5, .int r216), (0, .ref 30000), (1, .ref v1), (2, .ref v2), (3, .ref v3), (4, .int v4)]) dL_law_738 (Nat.le_of_ble_eq_true rfl) rfl ?_
            refine J.aload_n (pc := 740) dL_law_740 rfl 4 rfl ?_
            refine J.callV (Y := mL_law) (Z := mX11_thrown) (pc := 741) (st := []) (k2 := (3 + 4 * n)) (n2 := (18 + 24 * n)) dL_law_741 ml_RL_122 mo_X11_thrown mv_X11_thrown rfl (tX11_thrown (d + 73) v2 μ224 hN226 k2) k2 (okN hN226 k2 (by decide)).1 (okN hN226 k2 (by decide)).2 cq_11 (by decide) rfl rfl (Nat.le_of_ble_eq_true rfl) (by omega) (by omega) (fun v ν hp => ?_) (fun i ν hp => nrm hp.1)
            obtain ⟨rfl, rfl, hN229, hb230⟩ := QEl hp
            show J _ _ _ _ 744 _ ([.int (fX11_thrown v2 μ224)]) _ _ _ _
            refine J.iload (pc := 744) dL_law_744 1 rfl ?_
            rcases ifc h with ⟨hc, h⟩ | ⟨hc, h⟩
            · refine J.ceq (pc := 746) (tgt := 751) dL_law_746 (by decide) (fun _ => ?_) (fun q => absurd hc q)
              refine J.iload (pc := 751) dL_law_751 1 rfl ?_
              rcases ifc h with ⟨hc, h⟩ | ⟨hc, h⟩
              · refine J.zne (pc := 753) (tgt := 775) dL_law_753 (by decide) (fun _ => ?_) (fun q => absurd hc q)
                refine J.aload_n (pc := 756) dL_law_756 rfl 5 rfl ?_
                refine J.iconst (pc := 757) dL_law_757 ic_0 ?_
                obtain ⟨x231, e232, h⟩ := bnd h
                refine J.aL (pc := 758) dL_law_758 k3 (okN hN229 k3 (by decide)) e232 ?_
                refine J.iload (pc := 759) dL_law_759 0 rfl ?_
                rcases ifc h with ⟨hc, h⟩ | ⟨hc, h⟩
                · refine J.zeq (pc := 761) (tgt := 768) dL_law_761 (by decide) (fun _ => ?_) (fun q => absurd hc q)
                  refine J.lconst (pc := 768) dL_law_768 lc_0 ?_
                  rcases ifc h with ⟨hc, h⟩ | ⟨hc, h⟩
                  · refine J.meq (pc := 769) (tgt := 775) dL_law_769 dL_law_770 (by decide) (fun _ => ?_) (fun q => absurd hc q)
                    refine J.goto (pc := 775) (tgt := 2366) dL_law_775 (by decide) ?_
                    refine J.pick [2, 3, 4, 5, 6] rfl ?_
                    refine J.room (k' := 4 * n) (n' := 24 * n) (by omega) (by omega) ?_
                    exact (tL_law_2366 d (fL_law_23 ω n) ih) v0 v1 v2 v3 v4 μ224 h hN229 k1 k2 k3
                  · refine J.meq (pc := 769) (tgt := 775) dL_law_769 dL_law_770 (by decide) (fun q => absurd q hc) (fun _ => ?_)
                    refine J.iconst (pc := 773) dL_law_773 ic_0 ?_
                    cases h
                    exact J.zret (pc := 774) dL_law_774 rfl (narB (Or.inl rfl)) ⟨rfl, rfl, hN229, (Or.inl rfl)⟩
                · refine J.zeq (pc := 761) (tgt := 768) dL_law_761 (by decide) (fun q => absurd q hc) (fun _ => ?_)
                  refine J.lconst (pc := 764) dL_law_764 lc_1 ?_
                  refine J.goto (pc := 765) (tgt := 769) dL_law_765 (by decide) ?_
                  rcases ifc h with ⟨hc, h⟩ | ⟨hc, h⟩
                  · refine J.meq (pc := 769) (tgt := 775) dL_law_769 dL_law_770 (by decide) (fun _ => ?_) (fun q => absurd hc q)
                    refine J.goto (pc := 775) (tgt := 2366) dL_law_775 (by decide) ?_
                    refine J.pick [2, 3, 4, 5, 6] rfl ?_
                    refine J.room (k' := 4 * n) (n' := 24 * n) (by omega) (by omega) ?_
                    exact (tL_law_2366 d (fL_law_23 ω n) ih) v0 v1 v2 v3 v4 μ224 h hN229 k1 k2 k3
                  · refine J.meq (pc := 769) (tgt := 775) dL_law_769 dL_law_770 (by decide) (fun q => absurd q hc) (fun _ => ?_)
                    refine J.iconst (pc := 773) dL_law_773 ic_0 ?_
                    cases h
                    exact J.zret (pc := 774) dL_law_774 rfl (narB (Or.inl rfl)) ⟨rfl, rfl, hN229, (Or.inl rfl)⟩
              · refine J.zne (pc := 753) (tgt := 775) dL_law_753 (by decide) (fun q => absurd q hc) (fun _ => ?_)
                refine J.goto (pc := 775) (tgt := 2366) dL_law_775 (by decide) ?_
                refine J.pick [2, 3, 4, 5, 6] rfl ?_
                refine J.room (k' := 4 * n) (n' := 24 * n) (by omega) (by omega) ?_
                exact (tL_law_2366 d (fL_law_23 ω n) ih) v0 v1 v2 v3 v4 μ224 h hN229 k1 k2 k3
            · refine J.ceq (pc := 746) (tgt := 751) dL_law_746 (by decide) (fun q => absurd q hc) (fun _ => ?_)
              refine J.iconst (pc := 749) dL_law_749 ic_0 ?_
              cases h
              exact J.zret (pc := 750) dL_law_750 rfl (narB (Or.inl rfl)) ⟨rfl, rfl, hN229, (Or.inl rfl)⟩
          · refine J.zeq (pc := 727) (tgt := 734) dL_law_727 (by decide) (fun q => absurd q hc) (fun _ => ?_)
            refine J.iconst (pc := 730) dL_law_730 ic_1 ?_
            refine J.goto (pc := 731) (tgt := 735) dL_law_731 (by decide) ?_
            obtain ⟨⟨r235, μ234⟩, e233, h⟩ := bnd h
            try dsimp only at h
            refine J.callV (Y := mL_law) (Z := mX11_stile) (pc := 735) (st := []) (k2 := (3 + 4 * n)) (n2 := (18 + 24 * n)) dL_law_735 ml_RL_153 mo_X11_stile mv_X11_stile rfl (tX11_stile (d + 71) e233 hN217 k2) k2 (okN hN217 k2 (by decide)).1 (okN hN217 k2 (by decide)).2 cq_11 (by decide) rfl rfl (Nat.le_of_ble_eq_true rfl) (by omega) (by omega) (fun v ν hp => ?_) (fun i ν hp => nrm hp.1)
            obtain ⟨rfl, rfl, hN236, hb237⟩ := QEl hp
            show J _ _ _ _ 738 _ ([.int r235]) _ _ _ _
            refine J.istore (pc := 738) ([(6, .int r235), (5, .int r216), (0, .ref 30000), (1, .ref v1), (2, .ref v2), (3, .ref v3), (4, .int v4)]) dL_law_738 (Nat.le_of_ble_eq_true rfl) rfl ?_
            refine J.aload_n (pc := 740) dL_law_740 rfl 4 rfl ?_
            refine J.callV (Y := mL_law) (Z := mX11_thrown) (pc := 741) (st := []) (k2 := (3 + 4 * n)) (n2 := (18 + 24 * n)) dL_law_741 ml_RL_122 mo_X11_thrown mv_X11_thrown rfl (tX11_thrown (d + 73) v2 μ234 hN236 k2) k2 (okN hN236 k2 (by decide)).1 (okN hN236 k2 (by decide)).2 cq_11 (by decide) rfl rfl (Nat.le_of_ble_eq_true rfl) (by omega) (by omega) (fun v ν hp => ?_) (fun i ν hp => nrm hp.1)
            obtain ⟨rfl, rfl, hN239, hb240⟩ := QEl hp
            show J _ _ _ _ 744 _ ([.int (fX11_thrown v2 μ234)]) _ _ _ _
            refine J.iload (pc := 744) dL_law_744 1 rfl ?_
            rcases ifc h with ⟨hc, h⟩ | ⟨hc, h⟩
            · refine J.ceq (pc := 746) (tgt := 751) dL_law_746 (by decide) (fun _ => ?_) (fun q => absurd hc q)
              refine J.iload (pc := 751) dL_law_751 1 rfl ?_
              rcases ifc h with ⟨hc, h⟩ | ⟨hc, h⟩
              · refine J.zne (pc := 753) (tgt := 775) dL_law_753 (by decide) (fun _ => ?_) (fun q => absurd hc q)
                refine J.aload_n (pc := 756) dL_law_756 rfl 5 rfl ?_
                refine J.iconst (pc := 757) dL_law_757 ic_0 ?_
                obtain ⟨x241, e242, h⟩ := bnd h
                refine J.aL (pc := 758) dL_law_758 k3 (okN hN239 k3 (by decide)) e242 ?_
                refine J.iload (pc := 759) dL_law_759 0 rfl ?_
                rcases ifc h with ⟨hc, h⟩ | ⟨hc, h⟩
                · refine J.zeq (pc := 761) (tgt := 768) dL_law_761 (by decide) (fun _ => ?_) (fun q => absurd hc q)
                  refine J.lconst (pc := 768) dL_law_768 lc_0 ?_
                  rcases ifc h with ⟨hc, h⟩ | ⟨hc, h⟩
                  · refine J.meq (pc := 769) (tgt := 775) dL_law_769 dL_law_770 (by decide) (fun _ => ?_) (fun q => absurd hc q)
                    refine J.goto (pc := 775) (tgt := 2366) dL_law_775 (by decide) ?_
                    refine J.pick [2, 3, 4, 5, 6] rfl ?_
                    refine J.room (k' := 4 * n) (n' := 24 * n) (by omega) (by omega) ?_
                    exact (tL_law_2366 d (fL_law_23 ω n) ih) v0 v1 v2 v3 v4 μ234 h hN239 k1 k2 k3
                  · refine J.meq (pc := 769) (tgt := 775) dL_law_769 dL_law_770 (by decide) (fun q => absurd q hc) (fun _ => ?_)
                    refine J.iconst (pc := 773) dL_law_773 ic_0 ?_
                    cases h
                    exact J.zret (pc := 774) dL_law_774 rfl (narB (Or.inl rfl)) ⟨rfl, rfl, hN239, (Or.inl rfl)⟩
                · refine J.zeq (pc := 761) (tgt := 768) dL_law_761 (by decide) (fun q => absurd q hc) (fun _ => ?_)
                  refine J.lconst (pc := 764) dL_law_764 lc_1 ?_
                  refine J.goto (pc := 765) (tgt := 769) dL_law_765 (by decide) ?_
                  rcases ifc h with ⟨hc, h⟩ | ⟨hc, h⟩
                  · refine J.meq (pc := 769) (tgt := 775) dL_law_769 dL_law_770 (by decide) (fun _ => ?_) (fun q => absurd hc q)
                    refine J.goto (pc := 775) (tgt := 2366) dL_law_775 (by decide) ?_
                    refine J.pick [2, 3, 4, 5, 6] rfl ?_
                    refine J.room (k' := 4 * n) (n' := 24 * n) (by omega) (by omega) ?_
                    exact (tL_law_2366 d (fL_law_23 ω n) ih) v0 v1 v2 v3 v4 μ234 h hN239 k1 k2 k3
                  · refine J.meq (pc := 769) (tgt := 775) dL_law_769 dL_law_770 (by decide) (fun q => absurd q hc) (fun _ => ?_)
                    refine J.iconst (pc := 773) dL_law_773 ic_0 ?_
                    cases h
                    exact J.zret (pc := 774) dL_law_774 rfl (narB (Or.inl rfl)) ⟨rfl, rfl, hN239, (Or.inl rfl)⟩
              · refine J.zne (pc := 753) (tgt := 775) dL_law_753 (by decide) (fun q => absurd q hc) (fun _ => ?_)
                refine J.goto (pc := 775) (tgt := 2366) dL_law_775 (by decide) ?_
                refine J.pick [2, 3, 4, 5, 6] rfl ?_
                refine J.room (k' := 4 * n) (n' := 24 * n) (by omega) (by omega) ?_
                exact (tL_law_2366 d (fL_law_23 ω n) ih) v0 v1 v2 v3 v4 μ234 h hN239 k1 k2 k3
            · refine J.ceq (pc := 746) (tgt := 751) dL_law_746 (by decide) (fun q => absurd q hc) (fun _ => ?_)
              refine J.iconst (pc := 749) dL_law_749 ic_0 ?_
              cases h
              exact J.zret (pc := 750) dL_law_750 rfl (narB (Or.inl rfl)) ⟨rfl, rfl, hN239, (Or.inl rfl)⟩
      rcases ifc h with ⟨hc, h⟩ | ⟨ns11, h⟩
      · refine J.tableIn (pc := 40) (off := 738) (tgt := 778) dL_law_40 (by rw [hc]; decide) (by rw [hc]; decide) (by rw [hc]; decide) (by decide) ?_
        refine J.aload_n (pc := 778) dL_law_778 rfl 1 rfl ?_
        refine J.aload_n (pc := 779) dL_law_779 rfl 0 rfl ?_
        refine J.iload (pc := 780) dL_law_780 4 rfl ?_
        refine J.iconst (pc := 782) dL_law_782 ic_1 ?_
        refine J.iadd (pc := 783) dL_law_783 ?_
        obtain ⟨x243, e244, h⟩ := bnd h
        refine J.scrLd' (pc := 784) dL_law_784 e244 ?_
        refine J.aload_n (pc := 785) dL_law_785 rfl 0 rfl ?_
        refine J.iload (pc := 786) dL_law_786 4 rfl ?_
        refine J.iconst (pc := 788) dL_law_788 ic_2 ?_
        refine J.iadd (pc := 789) dL_law_789 ?_
        obtain ⟨x245, e246, h⟩ := bnd h
        refine J.scrLd' (pc := 790) dL_law_790 e246 ?_
        refine J.aload_n (pc := 791) dL_law_791 rfl 3 rfl ?_
        obtain ⟨⟨r249, μ248⟩, e247, h⟩ := bnd h
        try dsimp only at h
        refine J.callSW (Y := mL_law) (Z := mL_send) (pc := 792) (st := []) (k2 := (2 + 4 * n)) (n2 := (12 + 24 * n)) dL_law_792 ml_RL_154 mo_L_send ms_L_send rfl (tL_send (d + 63) e247 hN k1 k3) (fun i ν hp => nrm hp.1) rfl rfl (Nat.le_of_ble_eq_true rfl) (by omega) (by omega) (fun v ν hp => ?_)
        obtain ⟨rfl, rfl, hN250, hb251⟩ := QEl hp
        show J _ _ _ _ 795 _ ([.int r249]) _ _ _ _
        refine J.istore (pc := 795) ([(5, .int r249), (0, .ref 30000), (1, .ref v1), (2, .ref v2), (3, .ref v3), (4, .int v4)]) dL_law_795 (Nat.le_of_ble_eq_true rfl) rfl ?_
        refine J.aload_n (pc := 797) dL_law_797 rfl 3 rfl ?_
        refine J.aload_n (pc := 798) dL_law_798 rfl 1 rfl ?_
        refine J.iload (pc := 799) dL_law_799 5 rfl ?_
        refine J.iconst (pc := 801) dL_law_801 ic_1 ?_
        refine J.iadd (pc := 802) dL_law_802 ?_
        obtain ⟨x252, e253, h⟩ := bnd h
        refine J.scrLd' (pc := 803) dL_law_803 e253 ?_
        refine J.aload_n (pc := 804) dL_law_804 rfl 1 rfl ?_
        refine J.iload (pc := 805) dL_law_805 5 rfl ?_
        refine J.iconst (pc := 807) dL_law_807 ic_2 ?_
        refine J.iadd (pc := 808) dL_law_808 ?_
        obtain ⟨x254, e255, h⟩ := bnd h
        refine J.scrLd' (pc := 809) dL_law_809 e255 ?_
        obtain ⟨⟨r258, μ257⟩, e256, h⟩ := bnd h
        try dsimp only at h
        refine J.callV (Y := mL_law) (Z := mX11_send) (pc := 810) (st := []) (k2 := (2 + 4 * n)) (n2 := (12 + 24 * n)) dL_law_810 ml_RL_156 mo_X11_send mv_X11_send rfl (tX11_send (d + 71) e256 hN250 k2) k2 (okN hN250 k2 (by decide)).1 (okN hN250 k2 (by decide)).2 cq_11 (by decide) rfl rfl (Nat.le_of_ble_eq_true rfl) (by omega) (by omega) (fun v ν hp => ?_) (fun i ν hp => nrm hp.1)
        obtain ⟨rfl, rfl, hN259, hb260⟩ := QEl hp
        show J _ _ _ _ 813 _ ([.int r258]) _ _ _ _
        refine J.istore (pc := 813) ([(6, .int r258), (5, .int r249), (0, .ref 30000), (1, .ref v1), (2, .ref v2), (3, .ref v3), (4, .int v4)]) dL_law_813 (Nat.le_of_ble_eq_true rfl) rfl ?_
        refine J.aload_n (pc := 815) dL_law_815 rfl 4 rfl ?_
        refine J.callV (Y := mL_law) (Z := mX11_thrown) (pc := 816) (st := []) (k2 := (2 + 4 * n)) (n2 := (12 + 24 * n)) dL_law_816 ml_RL_122 mo_X11_thrown mv_X11_thrown rfl (tX11_thrown (d + 73) v2 μ257 hN259 k2) k2 (okN hN259 k2 (by decide)).1 (okN hN259 k2 (by decide)).2 cq_11 (by decide) rfl rfl (Nat.le_of_ble_eq_true rfl) (by omega) (by omega) (fun v ν hp => ?_) (fun i ν hp => nrm hp.1)
        obtain ⟨rfl, rfl, hN262, hb263⟩ := QEl hp
        show J _ _ _ _ 819 _ ([.int (fX11_thrown v2 μ257)]) _ _ _ _
        refine J.iload (pc := 819) dL_law_819 1 rfl ?_
        rcases ifc h with ⟨hc, h⟩ | ⟨hc, h⟩
        · refine J.ceq (pc := 821) (tgt := 826) dL_law_821 (by decide) (fun _ => ?_) (fun q => absurd hc q)
          refine J.iload (pc := 826) dL_law_826 1 rfl ?_
          rcases ifc h with ⟨hc, h⟩ | ⟨hc, h⟩
          · refine J.zne (pc := 828) (tgt := 843) dL_law_828 (by decide) (fun _ => ?_) (fun q => absurd hc q)
            refine J.aload_n (pc := 831) dL_law_831 rfl 5 rfl ?_
            refine J.iconst (pc := 832) dL_law_832 ic_0 ?_
            obtain ⟨x264, e265, h⟩ := bnd h
            refine J.aL (pc := 833) dL_law_833 k3 (okN hN262 k3 (by decide)) e265 ?_
            refine J.iload (pc := 834) dL_law_834 0 rfl ?_
            refine J.i2l (pc := 836) dL_law_836 ?_
            rcases ifc h with ⟨hc, h⟩ | ⟨hc, h⟩
            · refine J.meq (pc := 837) (tgt := 843) dL_law_837 dL_law_838 (by decide) (fun _ => ?_) (fun q => absurd hc q)
              refine J.goto (pc := 843) (tgt := 2366) dL_law_843 (by decide) ?_
              refine J.pick [2, 3, 4, 5, 6] rfl ?_
              refine J.room (k' := 4 * n) (n' := 24 * n) (by omega) (by omega) ?_
              exact (tL_law_2366 d (fL_law_23 ω n) ih) v0 v1 v2 v3 v4 μ257 h hN262 k1 k2 k3
            · refine J.meq (pc := 837) (tgt := 843) dL_law_837 dL_law_838 (by decide) (fun q => absurd q hc) (fun _ => ?_)
              refine J.iconst (pc := 841) dL_law_841 ic_0 ?_
              cases h
              exact J.zret (pc := 842) dL_law_842 rfl (narB (Or.inl rfl)) ⟨rfl, rfl, hN262, (Or.inl rfl)⟩
          · refine J.zne (pc := 828) (tgt := 843) dL_law_828 (by decide) (fun q => absurd q hc) (fun _ => ?_)
            refine J.goto (pc := 843) (tgt := 2366) dL_law_843 (by decide) ?_
            refine J.pick [2, 3, 4, 5, 6] rfl ?_
            refine J.room (k' := 4 * n) (n' := 24 * n) (by omega) (by omega) ?_
            exact (tL_law_2366 d (fL_law_23 ω n) ih) v0 v1 v2 v3 v4 μ257 h hN262 k1 k2 k3
        · refine J.ceq (pc := 821) (tgt := 826) dL_law_821 (by decide) (fun q => absurd q hc) (fun _ => ?_)
          refine J.iconst (pc := 824) dL_law_824 ic_0 ?_
          cases h
          exact J.zret (pc := 825) dL_law_825 rfl (narB (Or.inl rfl)) ⟨rfl, rfl, hN262, (Or.inl rfl)⟩
      rcases ifc h with ⟨hc, h⟩ | ⟨ns12, h⟩
      · refine J.tableIn (pc := 40) (off := 806) (tgt := 846) dL_law_40 (by rw [hc]; decide) (by rw [hc]; decide) (by rw [hc]; decide) (by decide) ?_
        refine J.aload_n (pc := 846) dL_law_846 rfl 1 rfl ?_
        refine J.aload_n (pc := 847) dL_law_847 rfl 0 rfl ?_
        refine J.iload (pc := 848) dL_law_848 4 rfl ?_
        refine J.iconst (pc := 850) dL_law_850 ic_1 ?_
        refine J.iadd (pc := 851) dL_law_851 ?_
        obtain ⟨x266, e267, h⟩ := bnd h
        refine J.scrLd' (pc := 852) dL_law_852 e267 ?_
        refine J.aload_n (pc := 853) dL_law_853 rfl 0 rfl ?_
        refine J.iload (pc := 854) dL_law_854 4 rfl ?_
        refine J.iconst (pc := 856) dL_law_856 ic_2 ?_
        refine J.iadd (pc := 857) dL_law_857 ?_
        obtain ⟨x268, e269, h⟩ := bnd h
        refine J.scrLd' (pc := 858) dL_law_858 e269 ?_
        refine J.aload_n (pc := 859) dL_law_859 rfl 3 rfl ?_
        obtain ⟨⟨r272, μ271⟩, e270, h⟩ := bnd h
        try dsimp only at h
        refine J.callSW (Y := mL_law) (Z := mL_let) (pc := 860) (st := []) (k2 := (2 + 4 * n)) (n2 := (12 + 24 * n)) dL_law_860 ml_RL_157 mo_L_let ms_L_let rfl (tL_let (d + 63) e270 hN k1 k3) (fun i ν hp => nrm hp.1) rfl rfl (Nat.le_of_ble_eq_true rfl) (by omega) (by omega) (fun v ν hp => ?_)
        obtain ⟨rfl, rfl, hN273, hb274⟩ := QEl hp
        show J _ _ _ _ 863 _ ([.int r272]) _ _ _ _
        refine J.istore (pc := 863) ([(5, .int r272), (0, .ref 30000), (1, .ref v1), (2, .ref v2), (3, .ref v3), (4, .int v4)]) dL_law_863 (Nat.le_of_ble_eq_true rfl) rfl ?_
        refine J.aload_n (pc := 865) dL_law_865 rfl 3 rfl ?_
        refine J.aload_n (pc := 866) dL_law_866 rfl 1 rfl ?_
        refine J.iload (pc := 867) dL_law_867 5 rfl ?_
        refine J.iconst (pc := 869) dL_law_869 ic_1 ?_
        refine J.iadd (pc := 870) dL_law_870 ?_
        obtain ⟨x275, e276, h⟩ := bnd h
        refine J.scrLd' (pc := 871) dL_law_871 e276 ?_
        refine J.aload_n (pc := 872) dL_law_872 rfl 1 rfl ?_
        refine J.iload (pc := 873) dL_law_873 5 rfl ?_
        refine J.iconst (pc := 875) dL_law_875 ic_2 ?_
        refine J.iadd (pc := 876) dL_law_876 ?_
        obtain ⟨x277, e278, h⟩ := bnd h
        refine J.scrLd' (pc := 877) dL_law_877 e278 ?_
        obtain ⟨⟨r281, μ280⟩, e279, h⟩ := bnd h
        try dsimp only at h
        refine J.callV (Y := mL_law) (Z := mX11_let) (pc := 878) (st := []) (k2 := (2 + 4 * n)) (n2 := (12 + 24 * n)) dL_law_878 ml_RL_159 mo_X11_let mv_X11_let rfl (tX11_let (d + 71) e279 hN273 k2) k2 (okN hN273 k2 (by decide)).1 (okN hN273 k2 (by decide)).2 cq_11 (by decide) rfl rfl (Nat.le_of_ble_eq_true rfl) (by omega) (by omega) (fun v ν hp => ?_) (fun i ν hp => nrm hp.1)
        obtain ⟨rfl, rfl, hN282, hb283⟩ := QEl hp
        show J _ _ _ _ 881 _ ([.int r281]) _ _ _ _
        refine J.istore (pc := 881) ([(6, .int r281), (5, .int r272), (0, .ref 30000), (1, .ref v1), (2, .ref v2), (3, .ref v3), (4, .int v4)]) dL_law_881 (Nat.le_of_ble_eq_true rfl) rfl ?_
        refine J.aload_n (pc := 883) dL_law_883 rfl 4 rfl ?_
        refine J.callV (Y := mL_law) (Z := mX11_thrown) (pc := 884) (st := []) (k2 := (2 + 4 * n)) (n2 := (12 + 24 * n)) dL_law_884 ml_RL_122 mo_X11_thrown mv_X11_thrown rfl (tX11_thrown (d + 73) v2 μ280 hN282 k2) k2 (okN hN282 k2 (by decide)).1 (okN hN282 k2 (by decide)).2 cq_11 (by decide) rfl rfl (Nat.le_of_ble_eq_true rfl) (by omega) (by omega) (fun v ν hp => ?_) (fun i ν hp => nrm hp.1)
        obtain ⟨rfl, rfl, hN285, hb286⟩ := QEl hp
        show J _ _ _ _ 887 _ ([.int (fX11_thrown v2 μ280)]) _ _ _ _
        refine J.iload (pc := 887) dL_law_887 1 rfl ?_
        rcases ifc h with ⟨hc, h⟩ | ⟨hc, h⟩
        · refine J.ceq (pc := 889) (tgt := 894) dL_law_889 (by decide) (fun _ => ?_) (fun q => absurd hc q)
          refine J.iload (pc := 894) dL_law_894 1 rfl ?_
          rcases ifc h with ⟨hc, h⟩ | ⟨hc, h⟩
          · refine J.zne (pc := 896) (tgt := 911) dL_law_896 (by decide) (fun _ => ?_) (fun q => absurd hc q)
            refine J.aload_n (pc := 899) dL_law_899 rfl 5 rfl ?_
            refine J.iconst (pc := 900) dL_law_900 ic_0 ?_
            obtain ⟨x287, e288, h⟩ := bnd h
            refine J.aL (pc := 901) dL_law_901 k3 (okN hN285 k3 (by decide)) e288 ?_
            refine J.iload (pc := 902) dL_law_902 0 rfl ?_
            refine J.i2l (pc := 904) dL_law_904 ?_
            rcases ifc h with ⟨hc, h⟩ | ⟨hc, h⟩
            · refine J.meq (pc := 905) (tgt := 911) dL_law_905 dL_law_906 (by decide) (fun _ => ?_) (fun q => absurd hc q)
              refine J.goto (pc := 911) (tgt := 2366) dL_law_911 (by decide) ?_
              refine J.pick [2, 3, 4, 5, 6] rfl ?_
              refine J.room (k' := 4 * n) (n' := 24 * n) (by omega) (by omega) ?_
              exact (tL_law_2366 d (fL_law_23 ω n) ih) v0 v1 v2 v3 v4 μ280 h hN285 k1 k2 k3
            · refine J.meq (pc := 905) (tgt := 911) dL_law_905 dL_law_906 (by decide) (fun q => absurd q hc) (fun _ => ?_)
              refine J.iconst (pc := 909) dL_law_909 ic_0 ?_
              cases h
              exact J.zret (pc := 910) dL_law_910 rfl (narB (Or.inl rfl)) ⟨rfl, rfl, hN285, (Or.inl rfl)⟩
          · refine J.zne (pc := 896) (tgt := 911) dL_law_896 (by decide) (fun q => absurd q hc) (fun _ => ?_)
            refine J.goto (pc := 911) (tgt := 2366) dL_law_911 (by decide) ?_
            refine J.pick [2, 3, 4, 5, 6] rfl ?_
            refine J.room (k' := 4 * n) (n' := 24 * n) (by omega) (by omega) ?_
            exact (tL_law_2366 d (fL_law_23 ω n) ih) v0 v1 v2 v3 v4 μ280 h hN285 k1 k2 k3
        · refine J.ceq (pc := 889) (tgt := 894) dL_law_889 (by decide) (fun q => absurd q hc) (fun _ => ?_)
          refine J.iconst (pc := 892) dL_law_892 ic_0 ?_
          cases h
          exact J.zret (pc := 893) dL_law_893 rfl (narB (Or.inl rfl)) ⟨rfl, rfl, hN285, (Or.inl rfl)⟩
      rcases ifc h with ⟨hc, h⟩ | ⟨ns13, h⟩
      · refine J.tableIn (pc := 40) (off := 874) (tgt := 914) dL_law_40 (by rw [hc]; decide) (by rw [hc]; decide) (by rw [hc]; decide) (by decide) ?_
        refine J.aload_n (pc := 914) dL_law_914 rfl 1 rfl ?_
        obtain ⟨⟨r291, μ290⟩, e289, h⟩ := bnd h
        try dsimp only at h
        refine J.callV (Y := mL_law) (Z := mX10_undo) (pc := 915) (st := []) (k2 := (4 + 4 * n)) (n2 := (24 + 24 * n)) dL_law_915 ml_RL_160 mo_X10_undo mv_X10_undo rfl (tX10_undo (d + 70) e289 hN k1) k1 (okN hN k1 (by decide)).1 (okN hN k1 (by decide)).2 cq_10 (by decide) rfl rfl (Nat.le_of_ble_eq_true rfl) (by omega) (by omega) (fun v ν hp => ?_) (fun i ν hp => nrm hp.1)
        obtain ⟨rfl, rfl, hN292, hb293⟩ := QEl hp
        show J _ _ _ _ 918 _ ([.int r291]) _ _ _ _
        refine J.aload_n (pc := 918) dL_law_918 rfl 2 rfl ?_
        obtain ⟨⟨r296, μ295⟩, e294, h⟩ := bnd h
        try dsimp only at h
        refine J.callV (Y := mL_law) (Z := mX11_undo) (pc := 919) (st := [.int r291]) (k2 := (4 + 4 * n)) (n2 := (24 + 24 * n)) dL_law_919 ml_RL_163 mo_X11_undo mv_X11_undo rfl (tX11_undo (d + 73) e294 hN292 k2) k2 (okN hN292 k2 (by decide)).1 (okN hN292 k2 (by decide)).2 cq_11 (by decide) rfl rfl (Nat.le_of_ble_eq_true rfl) (by omega) (by omega) (fun v ν hp => ?_) (fun i ν hp => nrm hp.1)
        obtain ⟨rfl, rfl, hN297, hb298⟩ := QEl hp
        show J _ _ _ _ 922 _ ([.int r296, .int r291]) _ _ _ _
        rcases ifc h with ⟨hc, h⟩ | ⟨hc, h⟩
        · refine J.ceq (pc := 922) (tgt := 2366) dL_law_922 (by decide) (fun _ => ?_) (fun q => absurd hc q)
          refine J.room (k' := 4 * n) (n' := 24 * n) (by omega) (by omega) ?_
          exact (tL_law_2366 d (fL_law_23 ω n) ih) v0 v1 v2 v3 v4 μ295 h hN297 k1 k2 k3
        · refine J.ceq (pc := 922) (tgt := 2366) dL_law_922 (by decide) (fun q => absurd q hc) (fun _ => ?_)
          refine J.iconst (pc := 925) dL_law_925 ic_0 ?_
          cases h
          exact J.zret (pc := 926) dL_law_926 rfl (narB (Or.inl rfl)) ⟨rfl, rfl, hN297, (Or.inl rfl)⟩
      rcases ifc h with ⟨hc, h⟩ | ⟨ns14, h⟩
      · refine J.tableIn (pc := 40) (off := 887) (tgt := 927) dL_law_40 (by rw [hc]; decide) (by rw [hc]; decide) (by rw [hc]; decide) (by decide) ?_
        refine J.aload_n (pc := 927) dL_law_927 rfl 1 rfl ?_
        refine J.aload_n (pc := 928) dL_law_928 rfl 0 rfl ?_
        refine J.iload (pc := 929) dL_law_929 4 rfl ?_
        refine J.iconst (pc := 931) dL_law_931 ic_1 ?_
        refine J.iadd (pc := 932) dL_law_932 ?_
        obtain ⟨x299, e300, h⟩ := bnd h
        refine J.scrLd' (pc := 933) dL_law_933 e300 ?_
        refine J.aload_n (pc := 934) dL_law_934 rfl 0 rfl ?_
        refine J.iload (pc := 935) dL_law_935 4 rfl ?_
        refine J.iconst (pc := 937) dL_law_937 ic_2 ?_
        refine J.iadd (pc := 938) dL_law_938 ?_
        obtain ⟨x301, e302, h⟩ := bnd h
        refine J.scrLd' (pc := 939) dL_law_939 e302 ?_
        refine J.aload_n (pc := 940) dL_law_940 rfl 0 rfl ?_
        refine J.iload (pc := 941) dL_law_941 4 rfl ?_
        refine J.iconst (pc := 943) dL_law_943 ic_3 ?_
        refine J.iadd (pc := 944) dL_law_944 ?_
        obtain ⟨x303, e304, h⟩ := bnd h
        refine J.scrLd' (pc := 945) dL_law_945 e304 ?_
        refine J.aload_n (pc := 946) dL_law_946 rfl 3 rfl ?_
        obtain ⟨⟨r307, μ306⟩, e305, h⟩ := bnd h
        try dsimp only at h
        refine J.callSW (Y := mL_law) (Z := mL_then) (pc := 947) (st := []) (k2 := (1 + 4 * n)) (n2 := (6 + 24 * n)) dL_law_947 ml_RL_164 mo_L_then ms_L_then rfl (tL_then (d + 63) e305 hN k1 k3) (fun i ν hp => nrm hp.1) rfl rfl (Nat.le_of_ble_eq_true rfl) (by omega) (by omega) (fun v ν hp => ?_)
        obtain ⟨rfl, rfl, hN308, hb309⟩ := QEl hp
        show J _ _ _ _ 950 _ ([.int r307]) _ _ _ _
        refine J.istore (pc := 950) ([(5, .int r307), (0, .ref 30000), (1, .ref v1), (2, .ref v2), (3, .ref v3), (4, .int v4)]) dL_law_950 (Nat.le_of_ble_eq_true rfl) rfl ?_
        refine J.aload_n (pc := 952) dL_law_952 rfl 3 rfl ?_
        refine J.aload_n (pc := 953) dL_law_953 rfl 1 rfl ?_
        refine J.iload (pc := 954) dL_law_954 5 rfl ?_
        refine J.iconst (pc := 956) dL_law_956 ic_1 ?_
        refine J.iadd (pc := 957) dL_law_957 ?_
        obtain ⟨x310, e311, h⟩ := bnd h
        refine J.scrLd' (pc := 958) dL_law_958 e311 ?_
        refine J.aload_n (pc := 959) dL_law_959 rfl 1 rfl ?_
        refine J.iload (pc := 960) dL_law_960 5 rfl ?_
        refine J.iconst (pc := 962) dL_law_962 ic_2 ?_
        refine J.iadd (pc := 963) dL_law_963 ?_
        obtain ⟨x312, e313, h⟩ := bnd h
        refine J.scrLd' (pc := 964) dL_law_964 e313 ?_
        refine J.aload_n (pc := 965) dL_law_965 rfl 1 rfl ?_
        refine J.iload (pc := 966) dL_law_966 5 rfl ?_
        refine J.iconst (pc := 968) dL_law_968 ic_3 ?_
        refine J.iadd (pc := 969) dL_law_969 ?_
        obtain ⟨x314, e315, h⟩ := bnd h
        refine J.scrLd' (pc := 970) dL_law_970 e315 ?_
        obtain ⟨⟨r318, μ317⟩, e316, h⟩ := bnd h
        try dsimp only at h
        refine J.callV (Y := mL_law) (Z := mX11_then) (pc := 971) (st := []) (k2 := (1 + 4 * n)) (n2 := (6 + 24 * n)) dL_law_971 ml_RL_167 mo_X11_then mv_X11_then rfl (tX11_then (d + 66) e316 hN308 k2) k2 (okN hN308 k2 (by decide)).1 (okN hN308 k2 (by decide)).2 cq_11 (by decide) rfl rfl (Nat.le_of_ble_eq_true rfl) (by omega) (by omega) (fun v ν hp => ?_) (fun i ν hp => nrm hp.1)
        obtain ⟨rfl, rfl, hN319, hb320⟩ := QEl hp
        show J _ _ _ _ 974 _ ([.int r318]) _ _ _ _
        refine J.istore (pc := 974) ([(6, .int r318), (5, .int r307), (0, .ref 30000), (1, .ref v1), (2, .ref v2), (3, .ref v3), (4, .int v4)]) dL_law_974 (Nat.le_of_ble_eq_true rfl) rfl ?_
        refine J.aload_n (pc := 976) dL_law_976 rfl 4 rfl ?_
        refine J.callV (Y := mL_law) (Z := mX11_thrown) (pc := 977) (st := []) (k2 := (1 + 4 * n)) (n2 := (6 + 24 * n)) dL_law_977 ml_RL_122 mo_X11_thrown mv_X11_thrown rfl (tX11_thrown (d + 73) v2 μ317 hN319 k2) k2 (okN hN319 k2 (by decide)).1 (okN hN319 k2 (by decide)).2 cq_11 (by decide) rfl rfl (Nat.le_of_ble_eq_true rfl) (by omega) (by omega) (fun v ν hp => ?_) (fun i ν hp => nrm hp.1)
        obtain ⟨rfl, rfl, hN322, hb323⟩ := QEl hp
        show J _ _ _ _ 980 _ ([.int (fX11_thrown v2 μ317)]) _ _ _ _
        refine J.iload (pc := 980) dL_law_980 1 rfl ?_
        rcases ifc h with ⟨hc, h⟩ | ⟨hc, h⟩
        · refine J.ceq (pc := 982) (tgt := 987) dL_law_982 (by decide) (fun _ => ?_) (fun q => absurd hc q)
          refine J.iload (pc := 987) dL_law_987 1 rfl ?_
          rcases ifc h with ⟨hc, h⟩ | ⟨hc, h⟩
          · refine J.zne (pc := 989) (tgt := 1004) dL_law_989 (by decide) (fun _ => ?_) (fun q => absurd hc q)
            refine J.aload_n (pc := 992) dL_law_992 rfl 5 rfl ?_
            refine J.iconst (pc := 993) dL_law_993 ic_0 ?_
            obtain ⟨x324, e325, h⟩ := bnd h
            refine J.aL (pc := 994) dL_law_994 k3 (okN hN322 k3 (by decide)) e325 ?_
            refine J.iload (pc := 995) dL_law_995 0 rfl ?_
            refine J.i2l (pc := 997) dL_law_997 ?_
            rcases ifc h with ⟨hc, h⟩ | ⟨hc, h⟩
            · refine J.meq (pc := 998) (tgt := 1004) dL_law_998 dL_law_999 (by decide) (fun _ => ?_) (fun q => absurd hc q)
              refine J.goto (pc := 1004) (tgt := 2366) dL_law_1004 (by decide) ?_
              refine J.pick [2, 3, 4, 5, 6] rfl ?_
              refine J.room (k' := 4 * n) (n' := 24 * n) (by omega) (by omega) ?_
              exact (tL_law_2366 d (fL_law_23 ω n) ih) v0 v1 v2 v3 v4 μ317 h hN322 k1 k2 k3
            · refine J.meq (pc := 998) (tgt := 1004) dL_law_998 dL_law_999 (by decide) (fun q => absurd q hc) (fun _ => ?_)
              refine J.iconst (pc := 1002) dL_law_1002 ic_0 ?_
              cases h
              exact J.zret (pc := 1003) dL_law_1003 rfl (narB (Or.inl rfl)) ⟨rfl, rfl, hN322, (Or.inl rfl)⟩
          · refine J.zne (pc := 989) (tgt := 1004) dL_law_989 (by decide) (fun q => absurd q hc) (fun _ => ?_)
            refine J.goto (pc := 1004) (tgt := 2366) dL_law_1004 (by decide) ?_
            refine J.pick [2, 3, 4, 5, 6] rfl ?_
            refine J.room (k' := 4 * n) (n' := 24 * n) (by omega) (by omega) ?_
            exact (tL_law_2366 d (fL_law_23 ω n) ih) v0 v1 v2 v3 v4 μ317 h hN322 k1 k2 k3
        · refine J.ceq (pc := 982) (tgt := 987) dL_law_982 (by decide) (fun q => absurd q hc) (fun _ => ?_)
          refine J.iconst (pc := 985) dL_law_985 ic_0 ?_
          cases h
          exact J.zret (pc := 986) dL_law_986 rfl (narB (Or.inl rfl)) ⟨rfl, rfl, hN322, (Or.inl rfl)⟩
      rcases ifc h with ⟨hc, h⟩ | ⟨ns15, h⟩
      · refine J.tableIn (pc := 40) (off := 967) (tgt := 1007) dL_law_40 (by rw [hc]; decide) (by rw [hc]; decide) (by rw [hc]; decide) (by decide) ?_
        refine J.aload_n (pc := 1007) dL_law_1007 rfl 1 rfl ?_
        refine J.aload_n (pc := 1008) dL_law_1008 rfl 0 rfl ?_
        refine J.iload (pc := 1009) dL_law_1009 4 rfl ?_
        refine J.iconst (pc := 1011) dL_law_1011 ic_1 ?_
        refine J.iadd (pc := 1012) dL_law_1012 ?_
        obtain ⟨x326, e327, h⟩ := bnd h
        refine J.scrLd' (pc := 1013) dL_law_1013 e327 ?_
        refine J.aload_n (pc := 1014) dL_law_1014 rfl 3 rfl ?_
        obtain ⟨⟨r330, μ329⟩, e328, h⟩ := bnd h
        try dsimp only at h
        refine J.callSW (Y := mL_law) (Z := mL_comes) (pc := 1015) (st := []) (k2 := (3 + 4 * n)) (n2 := (18 + 24 * n)) dL_law_1015 ml_RL_168 mo_L_comes ms_L_comes rfl (tL_comes (d + 63) e328 hN k1 k3) (fun i ν hp => nrm hp.1) rfl rfl (Nat.le_of_ble_eq_true rfl) (by omega) (by omega) (fun v ν hp => ?_)
        obtain ⟨rfl, rfl, hN331, hb332⟩ := QEl hp
        show J _ _ _ _ 1018 _ ([.int r330]) _ _ _ _
        refine J.istore (pc := 1018) ([(5, .int r330), (0, .ref 30000), (1, .ref v1), (2, .ref v2), (3, .ref v3), (4, .int v4)]) dL_law_1018 (Nat.le_of_ble_eq_true rfl) rfl ?_
        refine J.aload_n (pc := 1020) dL_law_1020 rfl 3 rfl ?_
        refine J.aload_n (pc := 1021) dL_law_1021 rfl 1 rfl ?_
        refine J.iload (pc := 1022) dL_law_1022 5 rfl ?_
        refine J.iconst (pc := 1024) dL_law_1024 ic_1 ?_
        refine J.iadd (pc := 1025) dL_law_1025 ?_
        obtain ⟨x333, e334, h⟩ := bnd h
        refine J.scrLd' (pc := 1026) dL_law_1026 e334 ?_
        obtain ⟨⟨r337, μ336⟩, e335, h⟩ := bnd h
        try dsimp only at h
        refine J.callV (Y := mL_law) (Z := mX11_comes) (pc := 1027) (st := []) (k2 := (3 + 4 * n)) (n2 := (18 + 24 * n)) dL_law_1027 ml_RL_170 mo_X11_comes mv_X11_comes rfl (tX11_comes (d + 68) e335 hN331 k2) k2 (okN hN331 k2 (by decide)).1 (okN hN331 k2 (by decide)).2 cq_11 (by decide) rfl rfl (Nat.le_of_ble_eq_true rfl) (by omega) (by omega) (fun v ν hp => ?_) (fun i ν hp => nrm hp.1)
        obtain ⟨rfl, rfl, hN338, hb339⟩ := QEl hp
        show J _ _ _ _ 1030 _ ([.int r337]) _ _ _ _
        refine J.istore (pc := 1030) ([(6, .int r337), (5, .int r330), (0, .ref 30000), (1, .ref v1), (2, .ref v2), (3, .ref v3), (4, .int v4)]) dL_law_1030 (Nat.le_of_ble_eq_true rfl) rfl ?_
        refine J.aload_n (pc := 1032) dL_law_1032 rfl 4 rfl ?_
        refine J.callV (Y := mL_law) (Z := mX11_thrown) (pc := 1033) (st := []) (k2 := (3 + 4 * n)) (n2 := (18 + 24 * n)) dL_law_1033 ml_RL_122 mo_X11_thrown mv_X11_thrown rfl (tX11_thrown (d + 73) v2 μ336 hN338 k2) k2 (okN hN338 k2 (by decide)).1 (okN hN338 k2 (by decide)).2 cq_11 (by decide) rfl rfl (Nat.le_of_ble_eq_true rfl) (by omega) (by omega) (fun v ν hp => ?_) (fun i ν hp => nrm hp.1)
        obtain ⟨rfl, rfl, hN341, hb342⟩ := QEl hp
        show J _ _ _ _ 1036 _ ([.int (fX11_thrown v2 μ336)]) _ _ _ _
        refine J.iload (pc := 1036) dL_law_1036 1 rfl ?_
        rcases ifc h with ⟨hc, h⟩ | ⟨hc, h⟩
        · refine J.ceq (pc := 1038) (tgt := 1043) dL_law_1038 (by decide) (fun _ => ?_) (fun q => absurd hc q)
          refine J.iload (pc := 1043) dL_law_1043 1 rfl ?_
          rcases ifc h with ⟨hc, h⟩ | ⟨hc, h⟩
          · refine J.zne (pc := 1045) (tgt := 1060) dL_law_1045 (by decide) (fun _ => ?_) (fun q => absurd hc q)
            refine J.aload_n (pc := 1048) dL_law_1048 rfl 5 rfl ?_
            refine J.iconst (pc := 1049) dL_law_1049 ic_0 ?_
            obtain ⟨x343, e344, h⟩ := bnd h
            refine J.aL (pc := 1050) dL_law_1050 k3 (okN hN341 k3 (by decide)) e344 ?_
            refine J.iload (pc := 1051) dL_law_1051 0 rfl ?_
            refine J.i2l (pc := 1053) dL_law_1053 ?_
            rcases ifc h with ⟨hc, h⟩ | ⟨hc, h⟩
            · refine J.meq (pc := 1054) (tgt := 1060) dL_law_1054 dL_law_1055 (by decide) (fun _ => ?_) (fun q => absurd hc q)
              refine J.goto (pc := 1060) (tgt := 2366) dL_law_1060 (by decide) ?_
              refine J.pick [2, 3, 4, 5, 6] rfl ?_
              refine J.room (k' := 4 * n) (n' := 24 * n) (by omega) (by omega) ?_
              exact (tL_law_2366 d (fL_law_23 ω n) ih) v0 v1 v2 v3 v4 μ336 h hN341 k1 k2 k3
            · refine J.meq (pc := 1054) (tgt := 1060) dL_law_1054 dL_law_1055 (by decide) (fun q => absurd q hc) (fun _ => ?_)
              refine J.iconst (pc := 1058) dL_law_1058 ic_0 ?_
              cases h
              exact J.zret (pc := 1059) dL_law_1059 rfl (narB (Or.inl rfl)) ⟨rfl, rfl, hN341, (Or.inl rfl)⟩
          · refine J.zne (pc := 1045) (tgt := 1060) dL_law_1045 (by decide) (fun q => absurd q hc) (fun _ => ?_)
            refine J.goto (pc := 1060) (tgt := 2366) dL_law_1060 (by decide) ?_
            refine J.pick [2, 3, 4, 5, 6] rfl ?_
            refine J.room (k' := 4 * n) (n' := 24 * n) (by omega) (by omega) ?_
            exact (tL_law_2366 d (fL_law_23 ω n) ih) v0 v1 v2 v3 v4 μ336 h hN341 k1 k2 k3
        · refine J.ceq (pc := 1038) (tgt := 1043) dL_law_1038 (by decide) (fun q => absurd q hc) (fun _ => ?_)
          refine J.iconst (pc := 1041) dL_law_1041 ic_0 ?_
          cases h
          exact J.zret (pc := 1042) dL_law_1042 rfl (narB (Or.inl rfl)) ⟨rfl, rfl, hN341, (Or.inl rfl)⟩
      rcases ifc h with ⟨hc, h⟩ | ⟨ns16, h⟩
      · refine J.tableIn (pc := 40) (off := 1023) (tgt := 1063) dL_law_40 (by rw [hc]; decide) (by rw [hc]; decide) (by rw [hc]; decide) (by decide) ?_
        refine J.aload_n (pc := 1063) dL_law_1063 rfl 1 rfl ?_
        refine J.aload_n (pc := 1064) dL_law_1064 rfl 0 rfl ?_
        refine J.iload (pc := 1065) dL_law_1065 4 rfl ?_
        refine J.iconst (pc := 1067) dL_law_1067 ic_1 ?_
        refine J.iadd (pc := 1068) dL_law_1068 ?_
        obtain ⟨x345, e346, h⟩ := bnd h
        refine J.scrLd' (pc := 1069) dL_law_1069 e346 ?_
        refine J.aload_n (pc := 1070) dL_law_1070 rfl 0 rfl ?_
        refine J.iload (pc := 1071) dL_law_1071 4 rfl ?_
        refine J.iconst (pc := 1073) dL_law_1073 ic_2 ?_
        refine J.iadd (pc := 1074) dL_law_1074 ?_
        obtain ⟨x347, e348, h⟩ := bnd h
        refine J.scrLd' (pc := 1075) dL_law_1075 e348 ?_
        refine J.aload_n (pc := 1076) dL_law_1076 rfl 3 rfl ?_
        obtain ⟨⟨r351, μ350⟩, e349, h⟩ := bnd h
        try dsimp only at h
        refine J.callSW (Y := mL_law) (Z := mL_meet) (pc := 1077) (st := []) (k2 := (2 + 4 * n)) (n2 := (12 + 24 * n)) dL_law_1077 ml_RL_171 mo_L_meet ms_L_meet rfl (tL_meet (d + 63) e349 hN k1 k3) (fun i ν hp => nrm hp.1) rfl rfl (Nat.le_of_ble_eq_true rfl) (by omega) (by omega) (fun v ν hp => ?_)
        obtain ⟨rfl, rfl, hN352, hb353⟩ := QEl hp
        show J _ _ _ _ 1080 _ ([.int r351]) _ _ _ _
        refine J.istore (pc := 1080) ([(5, .int r351), (0, .ref 30000), (1, .ref v1), (2, .ref v2), (3, .ref v3), (4, .int v4)]) dL_law_1080 (Nat.le_of_ble_eq_true rfl) rfl ?_
        refine J.aload_n (pc := 1082) dL_law_1082 rfl 3 rfl ?_
        refine J.aload_n (pc := 1083) dL_law_1083 rfl 1 rfl ?_
        refine J.iload (pc := 1084) dL_law_1084 5 rfl ?_
        refine J.iconst (pc := 1086) dL_law_1086 ic_1 ?_
        refine J.iadd (pc := 1087) dL_law_1087 ?_
        obtain ⟨x354, e355, h⟩ := bnd h
        refine J.scrLd' (pc := 1088) dL_law_1088 e355 ?_
        refine J.aload_n (pc := 1089) dL_law_1089 rfl 1 rfl ?_
        refine J.iload (pc := 1090) dL_law_1090 5 rfl ?_
        refine J.iconst (pc := 1092) dL_law_1092 ic_2 ?_
        refine J.iadd (pc := 1093) dL_law_1093 ?_
        obtain ⟨x356, e357, h⟩ := bnd h
        refine J.scrLd' (pc := 1094) dL_law_1094 e357 ?_
        obtain ⟨⟨r360, μ359⟩, e358, h⟩ := bnd h
        try dsimp only at h
        refine J.callV (Y := mL_law) (Z := mX11_meet) (pc := 1095) (st := []) (k2 := (2 + 4 * n)) (n2 := (12 + 24 * n)) dL_law_1095 ml_RL_173 mo_X11_meet mv_X11_meet rfl (tX11_meet (d + 68) e358 hN352 k2) k2 (okN hN352 k2 (by decide)).1 (okN hN352 k2 (by decide)).2 cq_11 (by decide) rfl rfl (Nat.le_of_ble_eq_true rfl) (by omega) (by omega) (fun v ν hp => ?_) (fun i ν hp => nrm hp.1)
        obtain ⟨rfl, rfl, hN361, hb362⟩ := QEl hp
        show J _ _ _ _ 1098 _ ([.int r360]) _ _ _ _
        refine J.istore (pc := 1098) ([(6, .int r360), (5, .int r351), (0, .ref 30000), (1, .ref v1), (2, .ref v2), (3, .ref v3), (4, .int v4)]) dL_law_1098 (Nat.le_of_ble_eq_true rfl) rfl ?_
        refine J.aload_n (pc := 1100) dL_law_1100 rfl 4 rfl ?_
        refine J.callV (Y := mL_law) (Z := mX11_thrown) (pc := 1101) (st := []) (k2 := (2 + 4 * n)) (n2 := (12 + 24 * n)) dL_law_1101 ml_RL_122 mo_X11_thrown mv_X11_thrown rfl (tX11_thrown (d + 73) v2 μ359 hN361 k2) k2 (okN hN361 k2 (by decide)).1 (okN hN361 k2 (by decide)).2 cq_11 (by decide) rfl rfl (Nat.le_of_ble_eq_true rfl) (by omega) (by omega) (fun v ν hp => ?_) (fun i ν hp => nrm hp.1)
        obtain ⟨rfl, rfl, hN364, hb365⟩ := QEl hp
        show J _ _ _ _ 1104 _ ([.int (fX11_thrown v2 μ359)]) _ _ _ _
        refine J.iload (pc := 1104) dL_law_1104 1 rfl ?_
        rcases ifc h with ⟨hc, h⟩ | ⟨hc, h⟩
        · refine J.ceq (pc := 1106) (tgt := 1111) dL_law_1106 (by decide) (fun _ => ?_) (fun q => absurd hc q)
          refine J.iload (pc := 1111) dL_law_1111 1 rfl ?_
          rcases ifc h with ⟨hc, h⟩ | ⟨hc, h⟩
          · refine J.zne (pc := 1113) (tgt := 1128) dL_law_1113 (by decide) (fun _ => ?_) (fun q => absurd hc q)
            refine J.aload_n (pc := 1116) dL_law_1116 rfl 5 rfl ?_
            refine J.iconst (pc := 1117) dL_law_1117 ic_0 ?_
            obtain ⟨x366, e367, h⟩ := bnd h
            refine J.aL (pc := 1118) dL_law_1118 k3 (okN hN364 k3 (by decide)) e367 ?_
            refine J.iload (pc := 1119) dL_law_1119 0 rfl ?_
            refine J.i2l (pc := 1121) dL_law_1121 ?_
            rcases ifc h with ⟨hc, h⟩ | ⟨hc, h⟩
            · refine J.meq (pc := 1122) (tgt := 1128) dL_law_1122 dL_law_1123 (by decide) (fun _ => ?_) (fun q => absurd hc q)
              refine J.goto (pc := 1128) (tgt := 2366) dL_law_1128 (by decide) ?_
              refine J.pick [2, 3, 4, 5, 6] rfl ?_
              refine J.room (k' := 4 * n) (n' := 24 * n) (by omega) (by omega) ?_
              exact (tL_law_2366 d (fL_law_23 ω n) ih) v0 v1 v2 v3 v4 μ359 h hN364 k1 k2 k3
            · refine J.meq (pc := 1122) (tgt := 1128) dL_law_1122 dL_law_1123 (by decide) (fun q => absurd q hc) (fun _ => ?_)
              refine J.iconst (pc := 1126) dL_law_1126 ic_0 ?_
              cases h
              exact J.zret (pc := 1127) dL_law_1127 rfl (narB (Or.inl rfl)) ⟨rfl, rfl, hN364, (Or.inl rfl)⟩
          · refine J.zne (pc := 1113) (tgt := 1128) dL_law_1113 (by decide) (fun q => absurd q hc) (fun _ => ?_)
            refine J.goto (pc := 1128) (tgt := 2366) dL_law_1128 (by decide) ?_
            refine J.pick [2, 3, 4, 5, 6] rfl ?_
            refine J.room (k' := 4 * n) (n' := 24 * n) (by omega) (by omega) ?_
            exact (tL_law_2366 d (fL_law_23 ω n) ih) v0 v1 v2 v3 v4 μ359 h hN364 k1 k2 k3
        · refine J.ceq (pc := 1106) (tgt := 1111) dL_law_1106 (by decide) (fun q => absurd q hc) (fun _ => ?_)
          refine J.iconst (pc := 1109) dL_law_1109 ic_0 ?_
          cases h
          exact J.zret (pc := 1110) dL_law_1110 rfl (narB (Or.inl rfl)) ⟨rfl, rfl, hN364, (Or.inl rfl)⟩
      rcases ifc h with ⟨hc, h⟩ | ⟨ns17, h⟩
      · refine J.tableIn (pc := 40) (off := 1091) (tgt := 1131) dL_law_40 (by rw [hc]; decide) (by rw [hc]; decide) (by rw [hc]; decide) (by decide) ?_
        refine J.aload_n (pc := 1131) dL_law_1131 rfl 1 rfl ?_
        refine J.aload_n (pc := 1132) dL_law_1132 rfl 0 rfl ?_
        refine J.iload (pc := 1133) dL_law_1133 4 rfl ?_
        refine J.iconst (pc := 1135) dL_law_1135 ic_1 ?_
        refine J.iadd (pc := 1136) dL_law_1136 ?_
        obtain ⟨x368, e369, h⟩ := bnd h
        refine J.scrLd' (pc := 1137) dL_law_1137 e369 ?_
        refine J.aload_n (pc := 1138) dL_law_1138 rfl 0 rfl ?_
        refine J.iload (pc := 1139) dL_law_1139 4 rfl ?_
        refine J.iconst (pc := 1141) dL_law_1141 ic_2 ?_
        refine J.iadd (pc := 1142) dL_law_1142 ?_
        obtain ⟨x370, e371, h⟩ := bnd h
        refine J.scrLd' (pc := 1143) dL_law_1143 e371 ?_
        refine J.aload_n (pc := 1144) dL_law_1144 rfl 3 rfl ?_
        obtain ⟨⟨r374, μ373⟩, e372, h⟩ := bnd h
        try dsimp only at h
        refine J.callSW (Y := mL_law) (Z := mL_later) (pc := 1145) (st := []) (k2 := (2 + 4 * n)) (n2 := (12 + 24 * n)) dL_law_1145 ml_RL_174 mo_L_later ms_L_later rfl (tL_later (d + 63) e372 hN k1 k3) (fun i ν hp => nrm hp.1) rfl rfl (Nat.le_of_ble_eq_true rfl) (by omega) (by omega) (fun v ν hp => ?_)
        obtain ⟨rfl, rfl, hN375, hb376⟩ := QEl hp
        show J _ _ _ _ 1148 _ ([.int r374]) _ _ _ _
        refine J.istore (pc := 1148) ([(5, .int r374), (0, .ref 30000), (1, .ref v1), (2, .ref v2), (3, .ref v3), (4, .int v4)]) dL_law_1148 (Nat.le_of_ble_eq_true rfl) rfl ?_
        refine J.aload_n (pc := 1150) dL_law_1150 rfl 3 rfl ?_
        refine J.aload_n (pc := 1151) dL_law_1151 rfl 1 rfl ?_
        refine J.iload (pc := 1152) dL_law_1152 5 rfl ?_
        refine J.iconst (pc := 1154) dL_law_1154 ic_1 ?_
        refine J.iadd (pc := 1155) dL_law_1155 ?_
        obtain ⟨x377, e378, h⟩ := bnd h
        refine J.scrLd' (pc := 1156) dL_law_1156 e378 ?_
        refine J.aload_n (pc := 1157) dL_law_1157 rfl 1 rfl ?_
        refine J.iload (pc := 1158) dL_law_1158 5 rfl ?_
        refine J.iconst (pc := 1160) dL_law_1160 ic_2 ?_
        refine J.iadd (pc := 1161) dL_law_1161 ?_
        obtain ⟨x379, e380, h⟩ := bnd h
        refine J.scrLd' (pc := 1162) dL_law_1162 e380 ?_
        obtain ⟨⟨r383, μ382⟩, e381, h⟩ := bnd h
        try dsimp only at h
        refine J.callV (Y := mL_law) (Z := mX11_later) (pc := 1163) (st := []) (k2 := (2 + 4 * n)) (n2 := (12 + 24 * n)) dL_law_1163 ml_RL_176 mo_X11_later mv_X11_later rfl (tX11_later (d + 66) e381 hN375 k2) k2 (okN hN375 k2 (by decide)).1 (okN hN375 k2 (by decide)).2 cq_11 (by decide) rfl rfl (Nat.le_of_ble_eq_true rfl) (by omega) (by omega) (fun v ν hp => ?_) (fun i ν hp => nrm hp.1)
        obtain ⟨rfl, rfl, hN384, hb385⟩ := QEl hp
        show J _ _ _ _ 1166 _ ([.int r383]) _ _ _ _
        refine J.istore (pc := 1166) ([(6, .int r383), (5, .int r374), (0, .ref 30000), (1, .ref v1), (2, .ref v2), (3, .ref v3), (4, .int v4)]) dL_law_1166 (Nat.le_of_ble_eq_true rfl) rfl ?_
        refine J.aload_n (pc := 1168) dL_law_1168 rfl 4 rfl ?_
        refine J.callV (Y := mL_law) (Z := mX11_thrown) (pc := 1169) (st := []) (k2 := (2 + 4 * n)) (n2 := (12 + 24 * n)) dL_law_1169 ml_RL_122 mo_X11_thrown mv_X11_thrown rfl (tX11_thrown (d + 73) v2 μ382 hN384 k2) k2 (okN hN384 k2 (by decide)).1 (okN hN384 k2 (by decide)).2 cq_11 (by decide) rfl rfl (Nat.le_of_ble_eq_true rfl) (by omega) (by omega) (fun v ν hp => ?_) (fun i ν hp => nrm hp.1)
        obtain ⟨rfl, rfl, hN387, hb388⟩ := QEl hp
        show J _ _ _ _ 1172 _ ([.int (fX11_thrown v2 μ382)]) _ _ _ _
        refine J.iload (pc := 1172) dL_law_1172 1 rfl ?_
        rcases ifc h with ⟨hc, h⟩ | ⟨hc, h⟩
        · refine J.ceq (pc := 1174) (tgt := 1179) dL_law_1174 (by decide) (fun _ => ?_) (fun q => absurd hc q)
          refine J.iload (pc := 1179) dL_law_1179 1 rfl ?_
          rcases ifc h with ⟨hc, h⟩ | ⟨hc, h⟩
          · refine J.zne (pc := 1181) (tgt := 1196) dL_law_1181 (by decide) (fun _ => ?_) (fun q => absurd hc q)
            refine J.aload_n (pc := 1184) dL_law_1184 rfl 5 rfl ?_
            refine J.iconst (pc := 1185) dL_law_1185 ic_0 ?_
            obtain ⟨x389, e390, h⟩ := bnd h
            refine J.aL (pc := 1186) dL_law_1186 k3 (okN hN387 k3 (by decide)) e390 ?_
            refine J.iload (pc := 1187) dL_law_1187 0 rfl ?_
            refine J.i2l (pc := 1189) dL_law_1189 ?_
            rcases ifc h with ⟨hc, h⟩ | ⟨hc, h⟩
            · refine J.meq (pc := 1190) (tgt := 1196) dL_law_1190 dL_law_1191 (by decide) (fun _ => ?_) (fun q => absurd hc q)
              refine J.goto (pc := 1196) (tgt := 2366) dL_law_1196 (by decide) ?_
              refine J.pick [2, 3, 4, 5, 6] rfl ?_
              refine J.room (k' := 4 * n) (n' := 24 * n) (by omega) (by omega) ?_
              exact (tL_law_2366 d (fL_law_23 ω n) ih) v0 v1 v2 v3 v4 μ382 h hN387 k1 k2 k3
            · refine J.meq (pc := 1190) (tgt := 1196) dL_law_1190 dL_law_1191 (by decide) (fun q => absurd q hc) (fun _ => ?_)
              refine J.iconst (pc := 1194) dL_law_1194 ic_0 ?_
              cases h
              exact J.zret (pc := 1195) dL_law_1195 rfl (narB (Or.inl rfl)) ⟨rfl, rfl, hN387, (Or.inl rfl)⟩
          · refine J.zne (pc := 1181) (tgt := 1196) dL_law_1181 (by decide) (fun q => absurd q hc) (fun _ => ?_)
            refine J.goto (pc := 1196) (tgt := 2366) dL_law_1196 (by decide) ?_
            refine J.pick [2, 3, 4, 5, 6] rfl ?_
            refine J.room (k' := 4 * n) (n' := 24 * n) (by omega) (by omega) ?_
            exact (tL_law_2366 d (fL_law_23 ω n) ih) v0 v1 v2 v3 v4 μ382 h hN387 k1 k2 k3
        · refine J.ceq (pc := 1174) (tgt := 1179) dL_law_1174 (by decide) (fun q => absurd q hc) (fun _ => ?_)
          refine J.iconst (pc := 1177) dL_law_1177 ic_0 ?_
          cases h
          exact J.zret (pc := 1178) dL_law_1178 rfl (narB (Or.inl rfl)) ⟨rfl, rfl, hN387, (Or.inl rfl)⟩
      rcases ifc h with ⟨hc, h⟩ | ⟨ns18, h⟩
      · refine J.tableIn (pc := 40) (off := 1159) (tgt := 1199) dL_law_40 (by rw [hc]; decide) (by rw [hc]; decide) (by rw [hc]; decide) (by decide) ?_
        refine J.aload_n (pc := 1199) dL_law_1199 rfl 1 rfl ?_
        refine J.aload_n (pc := 1200) dL_law_1200 rfl 0 rfl ?_
        refine J.iload (pc := 1201) dL_law_1201 4 rfl ?_
        refine J.iconst (pc := 1203) dL_law_1203 ic_1 ?_
        refine J.iadd (pc := 1204) dL_law_1204 ?_
        obtain ⟨x391, e392, h⟩ := bnd h
        refine J.scrLd' (pc := 1205) dL_law_1205 e392 ?_
        refine J.aload_n (pc := 1206) dL_law_1206 rfl 3 rfl ?_
        obtain ⟨⟨r395, μ394⟩, e393, h⟩ := bnd h
        try dsimp only at h
        refine J.callSW (Y := mL_law) (Z := mL_clear) (pc := 1207) (st := []) (k2 := (3 + 4 * n)) (n2 := (18 + 24 * n)) dL_law_1207 ml_RL_177 mo_L_clear ms_L_clear rfl (tL_clear (d + 63) e393 hN k1 k3) (fun i ν hp => nrm hp.1) rfl rfl (Nat.le_of_ble_eq_true rfl) (by omega) (by omega) (fun v ν hp => ?_)
        obtain ⟨rfl, rfl, hN396, hb397⟩ := QEl hp
        show J _ _ _ _ 1210 _ ([.int r395]) _ _ _ _
        refine J.istore (pc := 1210) ([(5, .int r395), (0, .ref 30000), (1, .ref v1), (2, .ref v2), (3, .ref v3), (4, .int v4)]) dL_law_1210 (Nat.le_of_ble_eq_true rfl) rfl ?_
        refine J.aload_n (pc := 1212) dL_law_1212 rfl 3 rfl ?_
        refine J.aload_n (pc := 1213) dL_law_1213 rfl 1 rfl ?_
        refine J.iload (pc := 1214) dL_law_1214 5 rfl ?_
        refine J.iconst (pc := 1216) dL_law_1216 ic_1 ?_
        refine J.iadd (pc := 1217) dL_law_1217 ?_
        obtain ⟨x398, e399, h⟩ := bnd h
        refine J.scrLd' (pc := 1218) dL_law_1218 e399 ?_
        obtain ⟨⟨r402, μ401⟩, e400, h⟩ := bnd h
        try dsimp only at h
        refine J.callV (Y := mL_law) (Z := mX11_clear) (pc := 1219) (st := []) (k2 := (3 + 4 * n)) (n2 := (18 + 24 * n)) dL_law_1219 ml_RL_179 mo_X11_clear mv_X11_clear rfl (tX11_clear (d + 68) e400 hN396 k2) k2 (okN hN396 k2 (by decide)).1 (okN hN396 k2 (by decide)).2 cq_11 (by decide) rfl rfl (Nat.le_of_ble_eq_true rfl) (by omega) (by omega) (fun v ν hp => ?_) (fun i ν hp => nrm hp.1)
        obtain ⟨rfl, rfl, hN403, hb404⟩ := QEl hp
        show J _ _ _ _ 1222 _ ([.int r402]) _ _ _ _
        refine J.istore (pc := 1222) ([(6, .int r402), (5, .int r395), (0, .ref 30000), (1, .ref v1), (2, .ref v2), (3, .ref v3), (4, .int v4)]) dL_law_1222 (Nat.le_of_ble_eq_true rfl) rfl ?_
        refine J.aload_n (pc := 1224) dL_law_1224 rfl 4 rfl ?_
        refine J.callV (Y := mL_law) (Z := mX11_thrown) (pc := 1225) (st := []) (k2 := (3 + 4 * n)) (n2 := (18 + 24 * n)) dL_law_1225 ml_RL_122 mo_X11_thrown mv_X11_thrown rfl (tX11_thrown (d + 73) v2 μ401 hN403 k2) k2 (okN hN403 k2 (by decide)).1 (okN hN403 k2 (by decide)).2 cq_11 (by decide) rfl rfl (Nat.le_of_ble_eq_true rfl) (by omega) (by omega) (fun v ν hp => ?_) (fun i ν hp => nrm hp.1)
        obtain ⟨rfl, rfl, hN406, hb407⟩ := QEl hp
        show J _ _ _ _ 1228 _ ([.int (fX11_thrown v2 μ401)]) _ _ _ _
        refine J.iload (pc := 1228) dL_law_1228 1 rfl ?_
        rcases ifc h with ⟨hc, h⟩ | ⟨hc, h⟩
        · refine J.ceq (pc := 1230) (tgt := 1235) dL_law_1230 (by decide) (fun _ => ?_) (fun q => absurd hc q)
          refine J.iload (pc := 1235) dL_law_1235 1 rfl ?_
          rcases ifc h with ⟨hc, h⟩ | ⟨hc, h⟩
          · refine J.zne (pc := 1237) (tgt := 1252) dL_law_1237 (by decide) (fun _ => ?_) (fun q => absurd hc q)
            refine J.aload_n (pc := 1240) dL_law_1240 rfl 5 rfl ?_
            refine J.iconst (pc := 1241) dL_law_1241 ic_0 ?_
            obtain ⟨x408, e409, h⟩ := bnd h
            refine J.aL (pc := 1242) dL_law_1242 k3 (okN hN406 k3 (by decide)) e409 ?_
            refine J.iload (pc := 1243) dL_law_1243 0 rfl ?_
            refine J.i2l (pc := 1245) dL_law_1245 ?_
            rcases ifc h with ⟨hc, h⟩ | ⟨hc, h⟩
            · refine J.meq (pc := 1246) (tgt := 1252) dL_law_1246 dL_law_1247 (by decide) (fun _ => ?_) (fun q => absurd hc q)
              refine J.goto (pc := 1252) (tgt := 2366) dL_law_1252 (by decide) ?_
              refine J.pick [2, 3, 4, 5, 6] rfl ?_
              refine J.room (k' := 4 * n) (n' := 24 * n) (by omega) (by omega) ?_
              exact (tL_law_2366 d (fL_law_23 ω n) ih) v0 v1 v2 v3 v4 μ401 h hN406 k1 k2 k3
            · refine J.meq (pc := 1246) (tgt := 1252) dL_law_1246 dL_law_1247 (by decide) (fun q => absurd q hc) (fun _ => ?_)
              refine J.iconst (pc := 1250) dL_law_1250 ic_0 ?_
              cases h
              exact J.zret (pc := 1251) dL_law_1251 rfl (narB (Or.inl rfl)) ⟨rfl, rfl, hN406, (Or.inl rfl)⟩
          · refine J.zne (pc := 1237) (tgt := 1252) dL_law_1237 (by decide) (fun q => absurd q hc) (fun _ => ?_)
            refine J.goto (pc := 1252) (tgt := 2366) dL_law_1252 (by decide) ?_
            refine J.pick [2, 3, 4, 5, 6] rfl ?_
            refine J.room (k' := 4 * n) (n' := 24 * n) (by omega) (by omega) ?_
            exact (tL_law_2366 d (fL_law_23 ω n) ih) v0 v1 v2 v3 v4 μ401 h hN406 k1 k2 k3
        · refine J.ceq (pc := 1230) (tgt := 1235) dL_law_1230 (by decide) (fun q => absurd q hc) (fun _ => ?_)
          refine J.iconst (pc := 1233) dL_law_1233 ic_0 ?_
          cases h
          exact J.zret (pc := 1234) dL_law_1234 rfl (narB (Or.inl rfl)) ⟨rfl, rfl, hN406, (Or.inl rfl)⟩
      rcases ifc h with ⟨hc, h⟩ | ⟨ns19, h⟩
      · refine J.tableIn (pc := 40) (off := 1215) (tgt := 1255) dL_law_40 (by rw [hc]; decide) (by rw [hc]; decide) (by rw [hc]; decide) (by decide) ?_
        refine J.aload_n (pc := 1255) dL_law_1255 rfl 1 rfl ?_
        refine J.aload_n (pc := 1256) dL_law_1256 rfl 0 rfl ?_
        refine J.iload (pc := 1257) dL_law_1257 4 rfl ?_
        refine J.iconst (pc := 1259) dL_law_1259 ic_1 ?_
        refine J.iadd (pc := 1260) dL_law_1260 ?_
        obtain ⟨x410, e411, h⟩ := bnd h
        refine J.scrLd' (pc := 1261) dL_law_1261 e411 ?_
        refine J.aload_n (pc := 1262) dL_law_1262 rfl 0 rfl ?_
        refine J.iload (pc := 1263) dL_law_1263 4 rfl ?_
        refine J.iconst (pc := 1265) dL_law_1265 ic_2 ?_
        refine J.iadd (pc := 1266) dL_law_1266 ?_
        obtain ⟨x412, e413, h⟩ := bnd h
        refine J.scrLd' (pc := 1267) dL_law_1267 e413 ?_
        refine J.aload_n (pc := 1268) dL_law_1268 rfl 0 rfl ?_
        refine J.iload (pc := 1269) dL_law_1269 4 rfl ?_
        refine J.iconst (pc := 1271) dL_law_1271 ic_3 ?_
        refine J.iadd (pc := 1272) dL_law_1272 ?_
        obtain ⟨x414, e415, h⟩ := bnd h
        refine J.scrLd' (pc := 1273) dL_law_1273 e415 ?_
        refine J.aload_n (pc := 1274) dL_law_1274 rfl 3 rfl ?_
        obtain ⟨⟨r418, μ417⟩, e416, h⟩ := bnd h
        try dsimp only at h
        refine J.callSW (Y := mL_law) (Z := mL_way) (pc := 1275) (st := []) (k2 := (1 + 4 * n)) (n2 := (6 + 24 * n)) dL_law_1275 ml_RL_180 mo_L_way ms_L_way rfl (tL_way (d + 63) e416 hN k1 k3) (fun i ν hp => nrm hp.1) rfl rfl (Nat.le_of_ble_eq_true rfl) (by omega) (by omega) (fun v ν hp => ?_)
        obtain ⟨rfl, rfl, hN419, hb420⟩ := QEl hp
        show J _ _ _ _ 1278 _ ([.int r418]) _ _ _ _
        refine J.istore (pc := 1278) ([(5, .int r418), (0, .ref 30000), (1, .ref v1), (2, .ref v2), (3, .ref v3), (4, .int v4)]) dL_law_1278 (Nat.le_of_ble_eq_true rfl) rfl ?_
        refine J.aload_n (pc := 1280) dL_law_1280 rfl 3 rfl ?_
        refine J.aload_n (pc := 1281) dL_law_1281 rfl 1 rfl ?_
        refine J.iload (pc := 1282) dL_law_1282 5 rfl ?_
        refine J.iconst (pc := 1284) dL_law_1284 ic_1 ?_
        refine J.iadd (pc := 1285) dL_law_1285 ?_
        obtain ⟨x421, e422, h⟩ := bnd h
        refine J.scrLd' (pc := 1286) dL_law_1286 e422 ?_
        refine J.aload_n (pc := 1287) dL_law_1287 rfl 1 rfl ?_
        refine J.iload (pc := 1288) dL_law_1288 5 rfl ?_
        refine J.iconst (pc := 1290) dL_law_1290 ic_2 ?_
        refine J.iadd (pc := 1291) dL_law_1291 ?_
        obtain ⟨x423, e424, h⟩ := bnd h
        refine J.scrLd' (pc := 1292) dL_law_1292 e424 ?_
        refine J.aload_n (pc := 1293) dL_law_1293 rfl 1 rfl ?_
        refine J.iload (pc := 1294) dL_law_1294 5 rfl ?_
        refine J.iconst (pc := 1296) dL_law_1296 ic_3 ?_
        refine J.iadd (pc := 1297) dL_law_1297 ?_
        obtain ⟨x425, e426, h⟩ := bnd h
        refine J.scrLd' (pc := 1298) dL_law_1298 e426 ?_
        obtain ⟨⟨r429, μ428⟩, e427, h⟩ := bnd h
        try dsimp only at h
        refine J.callV (Y := mL_law) (Z := mX11_way) (pc := 1299) (st := []) (k2 := (1 + 4 * n)) (n2 := (6 + 24 * n)) dL_law_1299 ml_RL_182 mo_X11_way mv_X11_way rfl (tX11_way (d + 69) e427 hN419 k2) k2 (okN hN419 k2 (by decide)).1 (okN hN419 k2 (by decide)).2 cq_11 (by decide) rfl rfl (Nat.le_of_ble_eq_true rfl) (by omega) (by omega) (fun v ν hp => ?_) (fun i ν hp => nrm hp.1)
        obtain ⟨rfl, rfl, hN430, hb431⟩ := QEl hp
        show J _ _ _ _ 1302 _ ([.int r429]) _ _ _ _
        refine J.istore (pc := 1302) ([(6, .int r429), (5, .int r418), (0, .ref 30000), (1, .ref v1), (2, .ref v2), (3, .ref v3), (4, .int v4)]) dL_law_1302 (Nat.le_of_ble_eq_true rfl) rfl ?_
        refine J.aload_n (pc := 1304) dL_law_1304 rfl 4 rfl ?_
        refine J.callV (Y := mL_law) (Z := mX11_thrown) (pc := 1305) (st := []) (k2 := (1 + 4 * n)) (n2 := (6 + 24 * n)) dL_law_1305 ml_RL_122 mo_X11_thrown mv_X11_thrown rfl (tX11_thrown (d + 73) v2 μ428 hN430 k2) k2 (okN hN430 k2 (by decide)).1 (okN hN430 k2 (by decide)).2 cq_11 (by decide) rfl rfl (Nat.le_of_ble_eq_true rfl) (by omega) (by omega) (fun v ν hp => ?_) (fun i ν hp => nrm hp.1)
        obtain ⟨rfl, rfl, hN433, hb434⟩ := QEl hp
        show J _ _ _ _ 1308 _ ([.int (fX11_thrown v2 μ428)]) _ _ _ _
        refine J.iload (pc := 1308) dL_law_1308 1 rfl ?_
        rcases ifc h with ⟨hc, h⟩ | ⟨hc, h⟩
        · refine J.ceq (pc := 1310) (tgt := 1315) dL_law_1310 (by decide) (fun _ => ?_) (fun q => absurd hc q)
          refine J.iload (pc := 1315) dL_law_1315 1 rfl ?_
          rcases ifc h with ⟨hc, h⟩ | ⟨hc, h⟩
          · refine J.zne (pc := 1317) (tgt := 1332) dL_law_1317 (by decide) (fun _ => ?_) (fun q => absurd hc q)
            refine J.aload_n (pc := 1320) dL_law_1320 rfl 5 rfl ?_
            refine J.iconst (pc := 1321) dL_law_1321 ic_0 ?_
            obtain ⟨x435, e436, h⟩ := bnd h
            refine J.aL (pc := 1322) dL_law_1322 k3 (okN hN433 k3 (by decide)) e436 ?_
            refine J.iload (pc := 1323) dL_law_1323 0 rfl ?_
            refine J.i2l (pc := 1325) dL_law_1325 ?_
            rcases ifc h with ⟨hc, h⟩ | ⟨hc, h⟩
            · refine J.meq (pc := 1326) (tgt := 1332) dL_law_1326 dL_law_1327 (by decide) (fun _ => ?_) (fun q => absurd hc q)
              refine J.goto (pc := 1332) (tgt := 2366) dL_law_1332 (by decide) ?_
              refine J.pick [2, 3, 4, 5, 6] rfl ?_
              refine J.room (k' := 4 * n) (n' := 24 * n) (by omega) (by omega) ?_
              exact (tL_law_2366 d (fL_law_23 ω n) ih) v0 v1 v2 v3 v4 μ428 h hN433 k1 k2 k3
            · refine J.meq (pc := 1326) (tgt := 1332) dL_law_1326 dL_law_1327 (by decide) (fun q => absurd q hc) (fun _ => ?_)
              refine J.iconst (pc := 1330) dL_law_1330 ic_0 ?_
              cases h
              exact J.zret (pc := 1331) dL_law_1331 rfl (narB (Or.inl rfl)) ⟨rfl, rfl, hN433, (Or.inl rfl)⟩
          · refine J.zne (pc := 1317) (tgt := 1332) dL_law_1317 (by decide) (fun q => absurd q hc) (fun _ => ?_)
            refine J.goto (pc := 1332) (tgt := 2366) dL_law_1332 (by decide) ?_
            refine J.pick [2, 3, 4, 5, 6] rfl ?_
            refine J.room (k' := 4 * n) (n' := 24 * n) (by omega) (by omega) ?_
            exact (tL_law_2366 d (fL_law_23 ω n) ih) v0 v1 v2 v3 v4 μ428 h hN433 k1 k2 k3
        · refine J.ceq (pc := 1310) (tgt := 1315) dL_law_1310 (by decide) (fun q => absurd q hc) (fun _ => ?_)
          refine J.iconst (pc := 1313) dL_law_1313 ic_0 ?_
          cases h
          exact J.zret (pc := 1314) dL_law_1314 rfl (narB (Or.inl rfl)) ⟨rfl, rfl, hN433, (Or.inl rfl)⟩
      rcases ifc h with ⟨hc, h⟩ | ⟨ns20, h⟩
      · refine J.tableIn (pc := 40) (off := 1295) (tgt := 1335) dL_law_40 (by rw [hc]; decide) (by rw [hc]; decide) (by rw [hc]; decide) (by decide) ?_
        refine J.aload_n (pc := 1335) dL_law_1335 rfl 1 rfl ?_
        refine J.aload_n (pc := 1336) dL_law_1336 rfl 0 rfl ?_
        refine J.iload (pc := 1337) dL_law_1337 4 rfl ?_
        refine J.iconst (pc := 1339) dL_law_1339 ic_1 ?_
        refine J.iadd (pc := 1340) dL_law_1340 ?_
        obtain ⟨x437, e438, h⟩ := bnd h
        refine J.scrLd' (pc := 1341) dL_law_1341 e438 ?_
        refine J.aload_n (pc := 1342) dL_law_1342 rfl 0 rfl ?_
        refine J.iload (pc := 1343) dL_law_1343 4 rfl ?_
        refine J.iconst (pc := 1345) dL_law_1345 ic_2 ?_
        refine J.iadd (pc := 1346) dL_law_1346 ?_
        obtain ⟨x439, e440, h⟩ := bnd h
        refine J.scrLd' (pc := 1347) dL_law_1347 e440 ?_
        refine J.aload_n (pc := 1348) dL_law_1348 rfl 3 rfl ?_
        obtain ⟨⟨r443, μ442⟩, e441, h⟩ := bnd h
        try dsimp only at h
        refine J.callSW (Y := mL_law) (Z := mL_reached) (pc := 1349) (st := []) (k2 := (2 + 4 * n)) (n2 := (12 + 24 * n)) dL_law_1349 ml_RL_183 mo_L_reached ms_L_reached rfl (tL_reached (d + 63) e441 hN k1 k3) (fun i ν hp => nrm hp.1) rfl rfl (Nat.le_of_ble_eq_true rfl) (by omega) (by omega) (fun v ν hp => ?_)
        obtain ⟨rfl, rfl, hN444, hb445⟩ := QEl hp
        show J _ _ _ _ 1352 _ ([.int r443]) _ _ _ _
        refine J.istore (pc := 1352) ([(5, .int r443), (0, .ref 30000), (1, .ref v1), (2, .ref v2), (3, .ref v3), (4, .int v4)]) dL_law_1352 (Nat.le_of_ble_eq_true rfl) rfl ?_
        refine J.aload_n (pc := 1354) dL_law_1354 rfl 3 rfl ?_
        refine J.aload_n (pc := 1355) dL_law_1355 rfl 1 rfl ?_
        refine J.iload (pc := 1356) dL_law_1356 5 rfl ?_
        refine J.iconst (pc := 1358) dL_law_1358 ic_1 ?_
        refine J.iadd (pc := 1359) dL_law_1359 ?_
        obtain ⟨x446, e447, h⟩ := bnd h
        refine J.scrLd' (pc := 1360) dL_law_1360 e447 ?_
        refine J.aload_n (pc := 1361) dL_law_1361 rfl 1 rfl ?_
        refine J.iload (pc := 1362) dL_law_1362 5 rfl ?_
        refine J.iconst (pc := 1364) dL_law_1364 ic_2 ?_
        refine J.iadd (pc := 1365) dL_law_1365 ?_
        obtain ⟨x448, e449, h⟩ := bnd h
        refine J.scrLd' (pc := 1366) dL_law_1366 e449 ?_
        obtain ⟨⟨r452, μ451⟩, e450, h⟩ := bnd h
        try dsimp only at h
        refine J.callV (Y := mL_law) (Z := mX11_reached) (pc := 1367) (st := []) (k2 := (2 + 4 * n)) (n2 := (12 + 24 * n)) dL_law_1367 ml_RL_185 mo_X11_reached mv_X11_reached rfl (tX11_reached (d + 70) e450 hN444 k2) k2 (okN hN444 k2 (by decide)).1 (okN hN444 k2 (by decide)).2 cq_11 (by decide) rfl rfl (Nat.le_of_ble_eq_true rfl) (by omega) (by omega) (fun v ν hp => ?_) (fun i ν hp => nrm hp.1)
        obtain ⟨rfl, rfl, hN453, hb454⟩ := QEl hp
        show J _ _ _ _ 1370 _ ([.int r452]) _ _ _ _
        refine J.istore (pc := 1370) ([(6, .int r452), (5, .int r443), (0, .ref 30000), (1, .ref v1), (2, .ref v2), (3, .ref v3), (4, .int v4)]) dL_law_1370 (Nat.le_of_ble_eq_true rfl) rfl ?_
        refine J.aload_n (pc := 1372) dL_law_1372 rfl 4 rfl ?_
        refine J.callV (Y := mL_law) (Z := mX11_thrown) (pc := 1373) (st := []) (k2 := (2 + 4 * n)) (n2 := (12 + 24 * n)) dL_law_1373 ml_RL_122 mo_X11_thrown mv_X11_thrown rfl (tX11_thrown (d + 73) v2 μ451 hN453 k2) k2 (okN hN453 k2 (by decide)).1 (okN hN453 k2 (by decide)).2 cq_11 (by decide) rfl rfl (Nat.le_of_ble_eq_true rfl) (by omega) (by omega) (fun v ν hp => ?_) (fun i ν hp => nrm hp.1)
        obtain ⟨rfl, rfl, hN456, hb457⟩ := QEl hp
        show J _ _ _ _ 1376 _ ([.int (fX11_thrown v2 μ451)]) _ _ _ _
        refine J.iload (pc := 1376) dL_law_1376 1 rfl ?_
        rcases ifc h with ⟨hc, h⟩ | ⟨hc, h⟩
        · refine J.ceq (pc := 1378) (tgt := 1383) dL_law_1378 (by decide) (fun _ => ?_) (fun q => absurd hc q)
          refine J.iload (pc := 1383) dL_law_1383 1 rfl ?_
          rcases ifc h with ⟨hc, h⟩ | ⟨hc, h⟩
          · refine J.zne (pc := 1385) (tgt := 1400) dL_law_1385 (by decide) (fun _ => ?_) (fun q => absurd hc q)
            refine J.aload_n (pc := 1388) dL_law_1388 rfl 5 rfl ?_
            refine J.iconst (pc := 1389) dL_law_1389 ic_0 ?_
            obtain ⟨x458, e459, h⟩ := bnd h
            refine J.aL (pc := 1390) dL_law_1390 k3 (okN hN456 k3 (by decide)) e459 ?_
            refine J.iload (pc := 1391) dL_law_1391 0 rfl ?_
            refine J.i2l (pc := 1393) dL_law_1393 ?_
            rcases ifc h with ⟨hc, h⟩ | ⟨hc, h⟩
            · refine J.meq (pc := 1394) (tgt := 1400) dL_law_1394 dL_law_1395 (by decide) (fun _ => ?_) (fun q => absurd hc q)
              refine J.goto (pc := 1400) (tgt := 2366) dL_law_1400 (by decide) ?_
              refine J.pick [2, 3, 4, 5, 6] rfl ?_
              refine J.room (k' := 4 * n) (n' := 24 * n) (by omega) (by omega) ?_
              exact (tL_law_2366 d (fL_law_23 ω n) ih) v0 v1 v2 v3 v4 μ451 h hN456 k1 k2 k3
            · refine J.meq (pc := 1394) (tgt := 1400) dL_law_1394 dL_law_1395 (by decide) (fun q => absurd q hc) (fun _ => ?_)
              refine J.iconst (pc := 1398) dL_law_1398 ic_0 ?_
              cases h
              exact J.zret (pc := 1399) dL_law_1399 rfl (narB (Or.inl rfl)) ⟨rfl, rfl, hN456, (Or.inl rfl)⟩
          · refine J.zne (pc := 1385) (tgt := 1400) dL_law_1385 (by decide) (fun q => absurd q hc) (fun _ => ?_)
            refine J.goto (pc := 1400) (tgt := 2366) dL_law_1400 (by decide) ?_
            refine J.pick [2, 3, 4, 5, 6] rfl ?_
            refine J.room (k' := 4 * n) (n' := 24 * n) (by omega) (by omega) ?_
            exact (tL_law_2366 d (fL_law_23 ω n) ih) v0 v1 v2 v3 v4 μ451 h hN456 k1 k2 k3
        · refine J.ceq (pc := 1378) (tgt := 1383) dL_law_1378 (by decide) (fun q => absurd q hc) (fun _ => ?_)
          refine J.iconst (pc := 1381) dL_law_1381 ic_0 ?_
          cases h
          exact J.zret (pc := 1382) dL_law_1382 rfl (narB (Or.inl rfl)) ⟨rfl, rfl, hN456, (Or.inl rfl)⟩
      rcases ifc h with ⟨hc, h⟩ | ⟨ns21, h⟩
      · refine J.tableIn (pc := 40) (off := 1363) (tgt := 1403) dL_law_40 (by rw [hc]; decide) (by rw [hc]; decide) (by rw [hc]; decide) (by decide) ?_
        refine J.aload_n (pc := 1403) dL_law_1403 rfl 1 rfl ?_
        refine J.aload_n (pc := 1404) dL_law_1404 rfl 0 rfl ?_
        refine J.iload (pc := 1405) dL_law_1405 4 rfl ?_
        refine J.iconst (pc := 1407) dL_law_1407 ic_1 ?_
        refine J.iadd (pc := 1408) dL_law_1408 ?_
        obtain ⟨x460, e461, h⟩ := bnd h
        refine J.scrLd' (pc := 1409) dL_law_1409 e461 ?_
        refine J.aload_n (pc := 1410) dL_law_1410 rfl 0 rfl ?_
        refine J.iload (pc := 1411) dL_law_1411 4 rfl ?_
        refine J.iconst (pc := 1413) dL_law_1413 ic_2 ?_
        refine J.iadd (pc := 1414) dL_law_1414 ?_
        obtain ⟨x462, e463, h⟩ := bnd h
        refine J.scrLd' (pc := 1415) dL_law_1415 e463 ?_
        refine J.aload_n (pc := 1416) dL_law_1416 rfl 3 rfl ?_
        obtain ⟨⟨r466, μ465⟩, e464, h⟩ := bnd h
        try dsimp only at h
        refine J.callSW (Y := mL_law) (Z := mL_farthest) (pc := 1417) (st := []) (k2 := (2 + 4 * n)) (n2 := (12 + 24 * n)) dL_law_1417 ml_RL_186 mo_L_farthest ms_L_farthest rfl (tL_farthest (d + 63) e464 hN k1 k3) (fun i ν hp => nrm hp.1) rfl rfl (Nat.le_of_ble_eq_true rfl) (by omega) (by omega) (fun v ν hp => ?_)
        obtain ⟨rfl, rfl, hN467, hb468⟩ := QEl hp
        show J _ _ _ _ 1420 _ ([.int r466]) _ _ _ _
        refine J.istore (pc := 1420) ([(5, .int r466), (0, .ref 30000), (1, .ref v1), (2, .ref v2), (3, .ref v3), (4, .int v4)]) dL_law_1420 (Nat.le_of_ble_eq_true rfl) rfl ?_
        refine J.aload_n (pc := 1422) dL_law_1422 rfl 3 rfl ?_
        refine J.aload_n (pc := 1423) dL_law_1423 rfl 1 rfl ?_
        refine J.iload (pc := 1424) dL_law_1424 5 rfl ?_
        refine J.iconst (pc := 1426) dL_law_1426 ic_1 ?_
        refine J.iadd (pc := 1427) dL_law_1427 ?_
        obtain ⟨x469, e470, h⟩ := bnd h
        refine J.scrLd' (pc := 1428) dL_law_1428 e470 ?_
        refine J.aload_n (pc := 1429) dL_law_1429 rfl 1 rfl ?_
        refine J.iload (pc := 1430) dL_law_1430 5 rfl ?_
        refine J.iconst (pc := 1432) dL_law_1432 ic_2 ?_
        refine J.iadd (pc := 1433) dL_law_1433 ?_
        obtain ⟨x471, e472, h⟩ := bnd h
        refine J.scrLd' (pc := 1434) dL_law_1434 e472 ?_
        obtain ⟨⟨r475, μ474⟩, e473, h⟩ := bnd h
        try dsimp only at h
        refine J.callV (Y := mL_law) (Z := mX11_farthest) (pc := 1435) (st := []) (k2 := (2 + 4 * n)) (n2 := (12 + 24 * n)) dL_law_1435 ml_RL_188 mo_X11_farthest mv_X11_farthest rfl (tX11_farthest (d + 70) e473 hN467 k2) k2 (okN hN467 k2 (by decide)).1 (okN hN467 k2 (by decide)).2 cq_11 (by decide) rfl rfl (Nat.le_of_ble_eq_true rfl) (by omega) (by omega) (fun v ν hp => ?_) (fun i ν hp => nrm hp.1)
        obtain ⟨rfl, rfl, hN476, hb477⟩ := QEl hp
        show J _ _ _ _ 1438 _ ([.int r475]) _ _ _ _
        refine J.istore (pc := 1438) ([(6, .int r475), (5, .int r466), (0, .ref 30000), (1, .ref v1), (2, .ref v2), (3, .ref v3), (4, .int v4)]) dL_law_1438 (Nat.le_of_ble_eq_true rfl) rfl ?_
        refine J.aload_n (pc := 1440) dL_law_1440 rfl 4 rfl ?_
        refine J.callV (Y := mL_law) (Z := mX11_thrown) (pc := 1441) (st := []) (k2 := (2 + 4 * n)) (n2 := (12 + 24 * n)) dL_law_1441 ml_RL_122 mo_X11_thrown mv_X11_thrown rfl (tX11_thrown (d + 73) v2 μ474 hN476 k2) k2 (okN hN476 k2 (by decide)).1 (okN hN476 k2 (by decide)).2 cq_11 (by decide) rfl rfl (Nat.le_of_ble_eq_true rfl) (by omega) (by omega) (fun v ν hp => ?_) (fun i ν hp => nrm hp.1)
        obtain ⟨rfl, rfl, hN479, hb480⟩ := QEl hp
        show J _ _ _ _ 1444 _ ([.int (fX11_thrown v2 μ474)]) _ _ _ _
        refine J.iload (pc := 1444) dL_law_1444 1 rfl ?_
        rcases ifc h with ⟨hc, h⟩ | ⟨hc, h⟩
        · refine J.ceq (pc := 1446) (tgt := 1451) dL_law_1446 (by decide) (fun _ => ?_) (fun q => absurd hc q)
          refine J.iload (pc := 1451) dL_law_1451 1 rfl ?_
          rcases ifc h with ⟨hc, h⟩ | ⟨hc, h⟩
          · refine J.zne (pc := 1453) (tgt := 1468) dL_law_1453 (by decide) (fun _ => ?_) (fun q => absurd hc q)
            refine J.aload_n (pc := 1456) dL_law_1456 rfl 5 rfl ?_
            refine J.iconst (pc := 1457) dL_law_1457 ic_0 ?_
            obtain ⟨x481, e482, h⟩ := bnd h
            refine J.aL (pc := 1458) dL_law_1458 k3 (okN hN479 k3 (by decide)) e482 ?_
            refine J.iload (pc := 1459) dL_law_1459 0 rfl ?_
            refine J.i2l (pc := 1461) dL_law_1461 ?_
            rcases ifc h with ⟨hc, h⟩ | ⟨hc, h⟩
            · refine J.meq (pc := 1462) (tgt := 1468) dL_law_1462 dL_law_1463 (by decide) (fun _ => ?_) (fun q => absurd hc q)
              refine J.goto (pc := 1468) (tgt := 2366) dL_law_1468 (by decide) ?_
              refine J.pick [2, 3, 4, 5, 6] rfl ?_
              refine J.room (k' := 4 * n) (n' := 24 * n) (by omega) (by omega) ?_
              exact (tL_law_2366 d (fL_law_23 ω n) ih) v0 v1 v2 v3 v4 μ474 h hN479 k1 k2 k3
            · refine J.meq (pc := 1462) (tgt := 1468) dL_law_1462 dL_law_1463 (by decide) (fun q => absurd q hc) (fun _ => ?_)
              refine J.iconst (pc := 1466) dL_law_1466 ic_0 ?_
              cases h
              exact J.zret (pc := 1467) dL_law_1467 rfl (narB (Or.inl rfl)) ⟨rfl, rfl, hN479, (Or.inl rfl)⟩
          · refine J.zne (pc := 1453) (tgt := 1468) dL_law_1453 (by decide) (fun q => absurd q hc) (fun _ => ?_)
            refine J.goto (pc := 1468) (tgt := 2366) dL_law_1468 (by decide) ?_
            refine J.pick [2, 3, 4, 5, 6] rfl ?_
            refine J.room (k' := 4 * n) (n' := 24 * n) (by omega) (by omega) ?_
            exact (tL_law_2366 d (fL_law_23 ω n) ih) v0 v1 v2 v3 v4 μ474 h hN479 k1 k2 k3
        · refine J.ceq (pc := 1446) (tgt := 1451) dL_law_1446 (by decide) (fun q => absurd q hc) (fun _ => ?_)
          refine J.iconst (pc := 1449) dL_law_1449 ic_0 ?_
          cases h
          exact J.zret (pc := 1450) dL_law_1450 rfl (narB (Or.inl rfl)) ⟨rfl, rfl, hN479, (Or.inl rfl)⟩
      rcases ifc h with ⟨hc, h⟩ | ⟨ns22, h⟩
      · refine J.tableIn (pc := 40) (off := 1431) (tgt := 1471) dL_law_40 (by rw [hc]; decide) (by rw [hc]; decide) (by rw [hc]; decide) (by decide) ?_
        refine J.aload_n (pc := 1471) dL_law_1471 rfl 1 rfl ?_
        refine J.aload_n (pc := 1472) dL_law_1472 rfl 0 rfl ?_
        refine J.iload (pc := 1473) dL_law_1473 4 rfl ?_
        refine J.iconst (pc := 1475) dL_law_1475 ic_1 ?_
        refine J.iadd (pc := 1476) dL_law_1476 ?_
        obtain ⟨x483, e484, h⟩ := bnd h
        refine J.scrLd' (pc := 1477) dL_law_1477 e484 ?_
        refine J.aload_n (pc := 1478) dL_law_1478 rfl 3 rfl ?_
        obtain ⟨⟨r487, μ486⟩, e485, h⟩ := bnd h
        try dsimp only at h
        refine J.callSW (Y := mL_law) (Z := mL_gather) (pc := 1479) (st := []) (k2 := (3 + 4 * n)) (n2 := (18 + 24 * n)) dL_law_1479 ml_RL_189 mo_L_gather ms_L_gather rfl (tL_gather (d + 63) e485 hN k1 k3) (fun i ν hp => nrm hp.1) rfl rfl (Nat.le_of_ble_eq_true rfl) (by omega) (by omega) (fun v ν hp => ?_)
        obtain ⟨rfl, rfl, hN488, hb489⟩ := QEl hp
        show J _ _ _ _ 1482 _ ([.int r487]) _ _ _ _
        refine J.istore (pc := 1482) ([(5, .int r487), (0, .ref 30000), (1, .ref v1), (2, .ref v2), (3, .ref v3), (4, .int v4)]) dL_law_1482 (Nat.le_of_ble_eq_true rfl) rfl ?_
        refine J.aload_n (pc := 1484) dL_law_1484 rfl 3 rfl ?_
        refine J.aload_n (pc := 1485) dL_law_1485 rfl 1 rfl ?_
        refine J.iload (pc := 1486) dL_law_1486 5 rfl ?_
        refine J.iconst (pc := 1488) dL_law_1488 ic_1 ?_
        refine J.iadd (pc := 1489) dL_law_1489 ?_
        obtain ⟨x490, e491, h⟩ := bnd h
        refine J.scrLd' (pc := 1490) dL_law_1490 e491 ?_
        obtain ⟨⟨r494, μ493⟩, e492, h⟩ := bnd h
        try dsimp only at h
        refine J.callV (Y := mL_law) (Z := mX11_gather) (pc := 1491) (st := []) (k2 := (3 + 4 * n)) (n2 := (18 + 24 * n)) dL_law_1491 ml_RL_191 mo_X11_gather mv_X11_gather rfl (tX11_gather (d + 71) e492 hN488 k2) k2 (okN hN488 k2 (by decide)).1 (okN hN488 k2 (by decide)).2 cq_11 (by decide) rfl rfl (Nat.le_of_ble_eq_true rfl) (by omega) (by omega) (fun v ν hp => ?_) (fun i ν hp => nrm hp.1)
        obtain ⟨rfl, rfl, hN495, hb496⟩ := QEl hp
        show J _ _ _ _ 1494 _ ([.int r494]) _ _ _ _
        refine J.istore (pc := 1494) ([(6, .int r494), (5, .int r487), (0, .ref 30000), (1, .ref v1), (2, .ref v2), (3, .ref v3), (4, .int v4)]) dL_law_1494 (Nat.le_of_ble_eq_true rfl) rfl ?_
        refine J.aload_n (pc := 1496) dL_law_1496 rfl 4 rfl ?_
        refine J.callV (Y := mL_law) (Z := mX11_thrown) (pc := 1497) (st := []) (k2 := (3 + 4 * n)) (n2 := (18 + 24 * n)) dL_law_1497 ml_RL_122 mo_X11_thrown mv_X11_thrown rfl (tX11_thrown (d + 73) v2 μ493 hN495 k2) k2 (okN hN495 k2 (by decide)).1 (okN hN495 k2 (by decide)).2 cq_11 (by decide) rfl rfl (Nat.le_of_ble_eq_true rfl) (by omega) (by omega) (fun v ν hp => ?_) (fun i ν hp => nrm hp.1)
        obtain ⟨rfl, rfl, hN498, hb499⟩ := QEl hp
        show J _ _ _ _ 1500 _ ([.int (fX11_thrown v2 μ493)]) _ _ _ _
        refine J.iload (pc := 1500) dL_law_1500 1 rfl ?_
        rcases ifc h with ⟨hc, h⟩ | ⟨hc, h⟩
        · refine J.ceq (pc := 1502) (tgt := 1507) dL_law_1502 (by decide) (fun _ => ?_) (fun q => absurd hc q)
          refine J.iload (pc := 1507) dL_law_1507 1 rfl ?_
          rcases ifc h with ⟨hc, h⟩ | ⟨hc, h⟩
          · refine J.zne (pc := 1509) (tgt := 1524) dL_law_1509 (by decide) (fun _ => ?_) (fun q => absurd hc q)
            refine J.aload_n (pc := 1512) dL_law_1512 rfl 5 rfl ?_
            refine J.iconst (pc := 1513) dL_law_1513 ic_0 ?_
            obtain ⟨x500, e501, h⟩ := bnd h
            refine J.aL (pc := 1514) dL_law_1514 k3 (okN hN498 k3 (by decide)) e501 ?_
            refine J.iload (pc := 1515) dL_law_1515 0 rfl ?_
            refine J.i2l (pc := 1517) dL_law_1517 ?_
            rcases ifc h with ⟨hc, h⟩ | ⟨hc, h⟩
            · refine J.meq (pc := 1518) (tgt := 1524) dL_law_1518 dL_law_1519 (by decide) (fun _ => ?_) (fun q => absurd hc q)
              refine J.goto (pc := 1524) (tgt := 2366) dL_law_1524 (by decide) ?_
              refine J.pick [2, 3, 4, 5, 6] rfl ?_
              refine J.room (k' := 4 * n) (n' := 24 * n) (by omega) (by omega) ?_
              exact (tL_law_2366 d (fL_law_23 ω n) ih) v0 v1 v2 v3 v4 μ493 h hN498 k1 k2 k3
            · refine J.meq (pc := 1518) (tgt := 1524) dL_law_1518 dL_law_1519 (by decide) (fun q => absurd q hc) (fun _ => ?_)
              refine J.iconst (pc := 1522) dL_law_1522 ic_0 ?_
              cases h
              exact J.zret (pc := 1523) dL_law_1523 rfl (narB (Or.inl rfl)) ⟨rfl, rfl, hN498, (Or.inl rfl)⟩
          · refine J.zne (pc := 1509) (tgt := 1524) dL_law_1509 (by decide) (fun q => absurd q hc) (fun _ => ?_)
            refine J.goto (pc := 1524) (tgt := 2366) dL_law_1524 (by decide) ?_
            refine J.pick [2, 3, 4, 5, 6] rfl ?_
            refine J.room (k' := 4 * n) (n' := 24 * n) (by omega) (by omega) ?_
            exact (tL_law_2366 d (fL_law_23 ω n) ih) v0 v1 v2 v3 v4 μ493 h hN498 k1 k2 k3
        · refine J.ceq (pc := 1502) (tgt := 1507) dL_law_1502 (by decide) (fun q => absurd q hc) (fun _ => ?_)
          refine J.iconst (pc := 1505) dL_law_1505 ic_0 ?_
          cases h
          exact J.zret (pc := 1506) dL_law_1506 rfl (narB (Or.inl rfl)) ⟨rfl, rfl, hN498, (Or.inl rfl)⟩
      rcases ifc h with ⟨hc, h⟩ | ⟨ns23, h⟩
      · refine J.tableIn (pc := 40) (off := 1487) (tgt := 1527) dL_law_40 (by rw [hc]; decide) (by rw [hc]; decide) (by rw [hc]; decide) (by decide) ?_
        refine J.aload_n (pc := 1527) dL_law_1527 rfl 1 rfl ?_
        refine J.aload_n (pc := 1528) dL_law_1528 rfl 0 rfl ?_
        refine J.iload (pc := 1529) dL_law_1529 4 rfl ?_
        refine J.iconst (pc := 1531) dL_law_1531 ic_1 ?_
        refine J.iadd (pc := 1532) dL_law_1532 ?_
        obtain ⟨x502, e503, h⟩ := bnd h
        refine J.scrLd' (pc := 1533) dL_law_1533 e503 ?_
        refine J.aload_n (pc := 1534) dL_law_1534 rfl 3 rfl ?_
        obtain ⟨⟨r506, μ505⟩, e504, h⟩ := bnd h
        try dsimp only at h
        refine J.callSW (Y := mL_law) (Z := mL_errands) (pc := 1535) (st := []) (k2 := (3 + 4 * n)) (n2 := (18 + 24 * n)) dL_law_1535 ml_RL_192 mo_L_errands ms_L_errands rfl (tL_errands (d + 63) e504 hN k1 k3) (fun i ν hp => nrm hp.1) rfl rfl (Nat.le_of_ble_eq_true rfl) (by omega) (by omega) (fun v ν hp => ?_)
        obtain ⟨rfl, rfl, hN507, hb508⟩ := QEl hp
        show J _ _ _ _ 1538 _ ([.int r506]) _ _ _ _
        refine J.istore (pc := 1538) ([(5, .int r506), (0, .ref 30000), (1, .ref v1), (2, .ref v2), (3, .ref v3), (4, .int v4)]) dL_law_1538 (Nat.le_of_ble_eq_true rfl) rfl ?_
        refine J.aload_n (pc := 1540) dL_law_1540 rfl 3 rfl ?_
        refine J.aload_n (pc := 1541) dL_law_1541 rfl 1 rfl ?_
        refine J.iload (pc := 1542) dL_law_1542 5 rfl ?_
        refine J.iconst (pc := 1544) dL_law_1544 ic_1 ?_
        refine J.iadd (pc := 1545) dL_law_1545 ?_
        obtain ⟨x509, e510, h⟩ := bnd h
        refine J.scrLd' (pc := 1546) dL_law_1546 e510 ?_
        obtain ⟨⟨r513, μ512⟩, e511, h⟩ := bnd h
        try dsimp only at h
        refine J.callV (Y := mL_law) (Z := mX11_errands) (pc := 1547) (st := []) (k2 := (3 + 4 * n)) (n2 := (18 + 24 * n)) dL_law_1547 ml_RL_194 mo_X11_errands mv_X11_errands rfl (tX11_errands (d + 70) e511 hN507 k2) k2 (okN hN507 k2 (by decide)).1 (okN hN507 k2 (by decide)).2 cq_11 (by decide) rfl rfl (Nat.le_of_ble_eq_true rfl) (by omega) (by omega) (fun v ν hp => ?_) (fun i ν hp => nrm hp.1)
        obtain ⟨rfl, rfl, hN514, hb515⟩ := QEl hp
        show J _ _ _ _ 1550 _ ([.int r513]) _ _ _ _
        refine J.istore (pc := 1550) ([(6, .int r513), (5, .int r506), (0, .ref 30000), (1, .ref v1), (2, .ref v2), (3, .ref v3), (4, .int v4)]) dL_law_1550 (Nat.le_of_ble_eq_true rfl) rfl ?_
        refine J.aload_n (pc := 1552) dL_law_1552 rfl 4 rfl ?_
        refine J.callV (Y := mL_law) (Z := mX11_thrown) (pc := 1553) (st := []) (k2 := (3 + 4 * n)) (n2 := (18 + 24 * n)) dL_law_1553 ml_RL_122 mo_X11_thrown mv_X11_thrown rfl (tX11_thrown (d + 73) v2 μ512 hN514 k2) k2 (okN hN514 k2 (by decide)).1 (okN hN514 k2 (by decide)).2 cq_11 (by decide) rfl rfl (Nat.le_of_ble_eq_true rfl) (by omega) (by omega) (fun v ν hp => ?_) (fun i ν hp => nrm hp.1)
        obtain ⟨rfl, rfl, hN517, hb518⟩ := QEl hp
        show J _ _ _ _ 1556 _ ([.int (fX11_thrown v2 μ512)]) _ _ _ _
        refine J.iload (pc := 1556) dL_law_1556 1 rfl ?_
        rcases ifc h with ⟨hc, h⟩ | ⟨hc, h⟩
        · refine J.ceq (pc := 1558) (tgt := 1563) dL_law_1558 (by decide) (fun _ => ?_) (fun q => absurd hc q)
          refine J.iload (pc := 1563) dL_law_1563 1 rfl ?_
          rcases ifc h with ⟨hc, h⟩ | ⟨hc, h⟩
          · refine J.zne (pc := 1565) (tgt := 1580) dL_law_1565 (by decide) (fun _ => ?_) (fun q => absurd hc q)
            refine J.aload_n (pc := 1568) dL_law_1568 rfl 5 rfl ?_
            refine J.iconst (pc := 1569) dL_law_1569 ic_0 ?_
            obtain ⟨x519, e520, h⟩ := bnd h
            refine J.aL (pc := 1570) dL_law_1570 k3 (okN hN517 k3 (by decide)) e520 ?_
            refine J.iload (pc := 1571) dL_law_1571 0 rfl ?_
            refine J.i2l (pc := 1573) dL_law_1573 ?_
            rcases ifc h with ⟨hc, h⟩ | ⟨hc, h⟩
            · refine J.meq (pc := 1574) (tgt := 1580) dL_law_1574 dL_law_1575 (by decide) (fun _ => ?_) (fun q => absurd hc q)
              refine J.goto (pc := 1580) (tgt := 2366) dL_law_1580 (by decide) ?_
              refine J.pick [2, 3, 4, 5, 6] rfl ?_
              refine J.room (k' := 4 * n) (n' := 24 * n) (by omega) (by omega) ?_
              exact (tL_law_2366 d (fL_law_23 ω n) ih) v0 v1 v2 v3 v4 μ512 h hN517 k1 k2 k3
            · refine J.meq (pc := 1574) (tgt := 1580) dL_law_1574 dL_law_1575 (by decide) (fun q => absurd q hc) (fun _ => ?_)
              refine J.iconst (pc := 1578) dL_law_1578 ic_0 ?_
              cases h
              exact J.zret (pc := 1579) dL_law_1579 rfl (narB (Or.inl rfl)) ⟨rfl, rfl, hN517, (Or.inl rfl)⟩
          · refine J.zne (pc := 1565) (tgt := 1580) dL_law_1565 (by decide) (fun q => absurd q hc) (fun _ => ?_)
            refine J.goto (pc := 1580) (tgt := 2366) dL_law_1580 (by decide) ?_
            refine J.pick [2, 3, 4, 5, 6] rfl ?_
            refine J.room (k' := 4 * n) (n' := 24 * n) (by omega) (by omega) ?_
            exact (tL_law_2366 d (fL_law_23 ω n) ih) v0 v1 v2 v3 v4 μ512 h hN517 k1 k2 k3
        · refine J.ceq (pc := 1558) (tgt := 1563) dL_law_1558 (by decide) (fun q => absurd q hc) (fun _ => ?_)
          refine J.iconst (pc := 1561) dL_law_1561 ic_0 ?_
          cases h
          exact J.zret (pc := 1562) dL_law_1562 rfl (narB (Or.inl rfl)) ⟨rfl, rfl, hN517, (Or.inl rfl)⟩
      rcases ifc h with ⟨hc, h⟩ | ⟨ns24, h⟩
      · refine J.tableIn (pc := 40) (off := 1543) (tgt := 1583) dL_law_40 (by rw [hc]; decide) (by rw [hc]; decide) (by rw [hc]; decide) (by decide) ?_
        refine J.aload_n (pc := 1583) dL_law_1583 rfl 1 rfl ?_
        refine J.aload_n (pc := 1584) dL_law_1584 rfl 0 rfl ?_
        refine J.iload (pc := 1585) dL_law_1585 4 rfl ?_
        refine J.iconst (pc := 1587) dL_law_1587 ic_1 ?_
        refine J.iadd (pc := 1588) dL_law_1588 ?_
        obtain ⟨x521, e522, h⟩ := bnd h
        refine J.scrLd' (pc := 1589) dL_law_1589 e522 ?_
        refine J.aload_n (pc := 1590) dL_law_1590 rfl 3 rfl ?_
        obtain ⟨⟨r525, μ524⟩, e523, h⟩ := bnd h
        try dsimp only at h
        refine J.callSW (Y := mL_law) (Z := mL_errand) (pc := 1591) (st := []) (k2 := (3 + 4 * n)) (n2 := (18 + 24 * n)) dL_law_1591 ml_RL_195 mo_L_errand ms_L_errand rfl (tL_errand (d + 63) e523 hN k1 k3) (fun i ν hp => nrm hp.1) rfl rfl (Nat.le_of_ble_eq_true rfl) (by omega) (by omega) (fun v ν hp => ?_)
        obtain ⟨rfl, rfl, hN526, hb527⟩ := QEl hp
        show J _ _ _ _ 1594 _ ([.int r525]) _ _ _ _
        refine J.istore (pc := 1594) ([(5, .int r525), (0, .ref 30000), (1, .ref v1), (2, .ref v2), (3, .ref v3), (4, .int v4)]) dL_law_1594 (Nat.le_of_ble_eq_true rfl) rfl ?_
        refine J.aload_n (pc := 1596) dL_law_1596 rfl 3 rfl ?_
        refine J.aload_n (pc := 1597) dL_law_1597 rfl 1 rfl ?_
        refine J.iload (pc := 1598) dL_law_1598 5 rfl ?_
        refine J.iconst (pc := 1600) dL_law_1600 ic_1 ?_
        refine J.iadd (pc := 1601) dL_law_1601 ?_
        obtain ⟨x528, e529, h⟩ := bnd h
        refine J.scrLd' (pc := 1602) dL_law_1602 e529 ?_
        obtain ⟨⟨r532, μ531⟩, e530, h⟩ := bnd h
        try dsimp only at h
        refine J.callV (Y := mL_law) (Z := mX11_errand) (pc := 1603) (st := []) (k2 := (3 + 4 * n)) (n2 := (18 + 24 * n)) dL_law_1603 ml_RL_197 mo_X11_errand mv_X11_errand rfl (tX11_errand (d + 70) e530 hN526 k2) k2 (okN hN526 k2 (by decide)).1 (okN hN526 k2 (by decide)).2 cq_11 (by decide) rfl rfl (Nat.le_of_ble_eq_true rfl) (by omega) (by omega) (fun v ν hp => ?_) (fun i ν hp => nrm hp.1)
        obtain ⟨rfl, rfl, hN533, hb534⟩ := QEl hp
        show J _ _ _ _ 1606 _ ([.int r532]) _ _ _ _
        refine J.istore (pc := 1606) ([(6, .int r532), (5, .int r525), (0, .ref 30000), (1, .ref v1), (2, .ref v2), (3, .ref v3), (4, .int v4)]) dL_law_1606 (Nat.le_of_ble_eq_true rfl) rfl ?_
        refine J.aload_n (pc := 1608) dL_law_1608 rfl 4 rfl ?_
        refine J.callV (Y := mL_law) (Z := mX11_thrown) (pc := 1609) (st := []) (k2 := (3 + 4 * n)) (n2 := (18 + 24 * n)) dL_law_1609 ml_RL_122 mo_X11_thrown mv_X11_thrown rfl (tX11_thrown (d + 73) v2 μ531 hN533 k2) k2 (okN hN533 k2 (by decide)).1 (okN hN533 k2 (by decide)).2 cq_11 (by decide) rfl rfl (Nat.le_of_ble_eq_true rfl) (by omega) (by omega) (fun v ν hp => ?_) (fun i ν hp => nrm hp.1)
        obtain ⟨rfl, rfl, hN536, hb537⟩ := QEl hp
        show J _ _ _ _ 1612 _ ([.int (fX11_thrown v2 μ531)]) _ _ _ _
        refine J.iload (pc := 1612) dL_law_1612 1 rfl ?_
        rcases ifc h with ⟨hc, h⟩ | ⟨hc, h⟩
        · refine J.ceq (pc := 1614) (tgt := 1619) dL_law_1614 (by decide) (fun _ => ?_) (fun q => absurd hc q)
          refine J.iload (pc := 1619) dL_law_1619 1 rfl ?_
          rcases ifc h with ⟨hc, h⟩ | ⟨hc, h⟩
          · refine J.zne (pc := 1621) (tgt := 1636) dL_law_1621 (by decide) (fun _ => ?_) (fun q => absurd hc q)
            refine J.aload_n (pc := 1624) dL_law_1624 rfl 5 rfl ?_
            refine J.iconst (pc := 1625) dL_law_1625 ic_0 ?_
            obtain ⟨x538, e539, h⟩ := bnd h
            refine J.aL (pc := 1626) dL_law_1626 k3 (okN hN536 k3 (by decide)) e539 ?_
            refine J.iload (pc := 1627) dL_law_1627 0 rfl ?_
            refine J.i2l (pc := 1629) dL_law_1629 ?_
            rcases ifc h with ⟨hc, h⟩ | ⟨hc, h⟩
            · refine J.meq (pc := 1630) (tgt := 1636) dL_law_1630 dL_law_1631 (by decide) (fun _ => ?_) (fun q => absurd hc q)
              refine J.goto (pc := 1636) (tgt := 2366) dL_law_1636 (by decide) ?_
              refine J.pick [2, 3, 4, 5, 6] rfl ?_
              refine J.room (k' := 4 * n) (n' := 24 * n) (by omega) (by omega) ?_
              exact (tL_law_2366 d (fL_law_23 ω n) ih) v0 v1 v2 v3 v4 μ531 h hN536 k1 k2 k3
            · refine J.meq (pc := 1630) (tgt := 1636) dL_law_1630 dL_law_1631 (by decide) (fun q => absurd q hc) (fun _ => ?_)
              refine J.iconst (pc := 1634) dL_law_1634 ic_0 ?_
              cases h
              exact J.zret (pc := 1635) dL_law_1635 rfl (narB (Or.inl rfl)) ⟨rfl, rfl, hN536, (Or.inl rfl)⟩
          · refine J.zne (pc := 1621) (tgt := 1636) dL_law_1621 (by decide) (fun q => absurd q hc) (fun _ => ?_)
            refine J.goto (pc := 1636) (tgt := 2366) dL_law_1636 (by decide) ?_
            refine J.pick [2, 3, 4, 5, 6] rfl ?_
            refine J.room (k' := 4 * n) (n' := 24 * n) (by omega) (by omega) ?_
            exact (tL_law_2366 d (fL_law_23 ω n) ih) v0 v1 v2 v3 v4 μ531 h hN536 k1 k2 k3
        · refine J.ceq (pc := 1614) (tgt := 1619) dL_law_1614 (by decide) (fun q => absurd q hc) (fun _ => ?_)
          refine J.iconst (pc := 1617) dL_law_1617 ic_0 ?_
          cases h
          exact J.zret (pc := 1618) dL_law_1618 rfl (narB (Or.inl rfl)) ⟨rfl, rfl, hN536, (Or.inl rfl)⟩
      rcases ifc h with ⟨hc, h⟩ | ⟨ns25, h⟩
      · refine J.tableIn (pc := 40) (off := 1599) (tgt := 1639) dL_law_40 (by rw [hc]; decide) (by rw [hc]; decide) (by rw [hc]; decide) (by decide) ?_
        refine J.aload_n (pc := 1639) dL_law_1639 rfl 1 rfl ?_
        refine J.aload_n (pc := 1640) dL_law_1640 rfl 0 rfl ?_
        refine J.iload (pc := 1641) dL_law_1641 4 rfl ?_
        refine J.iconst (pc := 1643) dL_law_1643 ic_1 ?_
        refine J.iadd (pc := 1644) dL_law_1644 ?_
        obtain ⟨x540, e541, h⟩ := bnd h
        refine J.scrLd' (pc := 1645) dL_law_1645 e541 ?_
        refine J.aload_n (pc := 1646) dL_law_1646 rfl 0 rfl ?_
        refine J.iload (pc := 1647) dL_law_1647 4 rfl ?_
        refine J.iconst (pc := 1649) dL_law_1649 ic_2 ?_
        refine J.iadd (pc := 1650) dL_law_1650 ?_
        obtain ⟨x542, e543, h⟩ := bnd h
        refine J.scrLd' (pc := 1651) dL_law_1651 e543 ?_
        refine J.aload_n (pc := 1652) dL_law_1652 rfl 0 rfl ?_
        refine J.iload (pc := 1653) dL_law_1653 4 rfl ?_
        refine J.iconst (pc := 1655) dL_law_1655 ic_3 ?_
        refine J.iadd (pc := 1656) dL_law_1656 ?_
        obtain ⟨x544, e545, h⟩ := bnd h
        refine J.scrLd' (pc := 1657) dL_law_1657 e545 ?_
        refine J.aload_n (pc := 1658) dL_law_1658 rfl 3 rfl ?_
        obtain ⟨⟨r548, μ547⟩, e546, h⟩ := bnd h
        try dsimp only at h
        refine J.callSW (Y := mL_law) (Z := mL_see) (pc := 1659) (st := []) (k2 := (2 + 4 * n)) (n2 := (12 + 24 * n)) dL_law_1659 ml_RL_198 mo_L_see ms_L_see rfl (tL_see (d + 63) e546 hN k1 k3) (fun i ν hp => nrm hp.1) rfl rfl (Nat.le_of_ble_eq_true rfl) (by omega) (by omega) (fun v ν hp => ?_)
        obtain ⟨rfl, rfl, hN549, hb550⟩ := QEl hp
        show J _ _ _ _ 1662 _ ([.int r548]) _ _ _ _
        refine J.istore (pc := 1662) ([(5, .int r548), (0, .ref 30000), (1, .ref v1), (2, .ref v2), (3, .ref v3), (4, .int v4)]) dL_law_1662 (Nat.le_of_ble_eq_true rfl) rfl ?_
        refine J.aload_n (pc := 1664) dL_law_1664 rfl 3 rfl ?_
        refine J.aload_n (pc := 1665) dL_law_1665 rfl 1 rfl ?_
        refine J.iload (pc := 1666) dL_law_1666 5 rfl ?_
        refine J.iconst (pc := 1668) dL_law_1668 ic_1 ?_
        refine J.iadd (pc := 1669) dL_law_1669 ?_
        obtain ⟨x551, e552, h⟩ := bnd h
        refine J.scrLd' (pc := 1670) dL_law_1670 e552 ?_
        refine J.aload_n (pc := 1671) dL_law_1671 rfl 1 rfl ?_
        refine J.iload (pc := 1672) dL_law_1672 5 rfl ?_
        refine J.iconst (pc := 1674) dL_law_1674 ic_2 ?_
        refine J.iadd (pc := 1675) dL_law_1675 ?_
        obtain ⟨x553, e554, h⟩ := bnd h
        refine J.scrLd' (pc := 1676) dL_law_1676 e554 ?_
        refine J.aload_n (pc := 1677) dL_law_1677 rfl 1 rfl ?_
        refine J.iload (pc := 1678) dL_law_1678 5 rfl ?_
        refine J.iconst (pc := 1680) dL_law_1680 ic_3 ?_
        refine J.iadd (pc := 1681) dL_law_1681 ?_
        obtain ⟨x555, e556, h⟩ := bnd h
        refine J.scrLd' (pc := 1682) dL_law_1682 e556 ?_
        obtain ⟨⟨r559, μ558⟩, e557, h⟩ := bnd h
        try dsimp only at h
        refine J.callV (Y := mL_law) (Z := mX11_see) (pc := 1683) (st := []) (k2 := (2 + 4 * n)) (n2 := (12 + 24 * n)) dL_law_1683 ml_RL_200 mo_X11_see mv_X11_see rfl (tX11_see (d + 71) e557 hN549 k2) k2 (okN hN549 k2 (by decide)).1 (okN hN549 k2 (by decide)).2 cq_11 (by decide) rfl rfl (Nat.le_of_ble_eq_true rfl) (by omega) (by omega) (fun v ν hp => ?_) (fun i ν hp => nrm hp.1)
        obtain ⟨rfl, rfl, hN560, hb561⟩ := QEl hp
        show J _ _ _ _ 1686 _ ([.int r559]) _ _ _ _
        refine J.istore (pc := 1686) ([(6, .int r559), (5, .int r548), (0, .ref 30000), (1, .ref v1), (2, .ref v2), (3, .ref v3), (4, .int v4)]) dL_law_1686 (Nat.le_of_ble_eq_true rfl) rfl ?_
        refine J.aload_n (pc := 1688) dL_law_1688 rfl 4 rfl ?_
        refine J.callV (Y := mL_law) (Z := mX11_thrown) (pc := 1689) (st := []) (k2 := (2 + 4 * n)) (n2 := (12 + 24 * n)) dL_law_1689 ml_RL_122 mo_X11_thrown mv_X11_thrown rfl (tX11_thrown (d + 73) v2 μ558 hN560 k2) k2 (okN hN560 k2 (by decide)).1 (okN hN560 k2 (by decide)).2 cq_11 (by decide) rfl rfl (Nat.le_of_ble_eq_true rfl) (by omega) (by omega) (fun v ν hp => ?_) (fun i ν hp => nrm hp.1)
        obtain ⟨rfl, rfl, hN563, hb564⟩ := QEl hp
        show J _ _ _ _ 1692 _ ([.int (fX11_thrown v2 μ558)]) _ _ _ _
        refine J.iload (pc := 1692) dL_law_1692 1 rfl ?_
        rcases ifc h with ⟨hc, h⟩ | ⟨hc, h⟩
        · refine J.ceq (pc := 1694) (tgt := 1699) dL_law_1694 (by decide) (fun _ => ?_) (fun q => absurd hc q)
          refine J.iload (pc := 1699) dL_law_1699 1 rfl ?_
          rcases ifc h with ⟨hc, h⟩ | ⟨hc, h⟩
          · refine J.zne (pc := 1701) (tgt := 1716) dL_law_1701 (by decide) (fun _ => ?_) (fun q => absurd hc q)
            refine J.aload_n (pc := 1704) dL_law_1704 rfl 5 rfl ?_
            refine J.iconst (pc := 1705) dL_law_1705 ic_0 ?_
            obtain ⟨x565, e566, h⟩ := bnd h
            refine J.aL (pc := 1706) dL_law_1706 k3 (okN hN563 k3 (by decide)) e566 ?_
            refine J.iload (pc := 1707) dL_law_1707 0 rfl ?_
            refine J.i2l (pc := 1709) dL_law_1709 ?_
            rcases ifc h with ⟨hc, h⟩ | ⟨hc, h⟩
            · refine J.meq (pc := 1710) (tgt := 1716) dL_law_1710 dL_law_1711 (by decide) (fun _ => ?_) (fun q => absurd hc q)
              refine J.goto (pc := 1716) (tgt := 2366) dL_law_1716 (by decide) ?_
              refine J.pick [2, 3, 4, 5, 6] rfl ?_
              refine J.room (k' := 4 * n) (n' := 24 * n) (by omega) (by omega) ?_
              exact (tL_law_2366 d (fL_law_23 ω n) ih) v0 v1 v2 v3 v4 μ558 h hN563 k1 k2 k3
            · refine J.meq (pc := 1710) (tgt := 1716) dL_law_1710 dL_law_1711 (by decide) (fun q => absurd q hc) (fun _ => ?_)
              refine J.iconst (pc := 1714) dL_law_1714 ic_0 ?_
              cases h
              exact J.zret (pc := 1715) dL_law_1715 rfl (narB (Or.inl rfl)) ⟨rfl, rfl, hN563, (Or.inl rfl)⟩
          · refine J.zne (pc := 1701) (tgt := 1716) dL_law_1701 (by decide) (fun q => absurd q hc) (fun _ => ?_)
            refine J.goto (pc := 1716) (tgt := 2366) dL_law_1716 (by decide) ?_
            refine J.pick [2, 3, 4, 5, 6] rfl ?_
            refine J.room (k' := 4 * n) (n' := 24 * n) (by omega) (by omega) ?_
            exact (tL_law_2366 d (fL_law_23 ω n) ih) v0 v1 v2 v3 v4 μ558 h hN563 k1 k2 k3
        · refine J.ceq (pc := 1694) (tgt := 1699) dL_law_1694 (by decide) (fun q => absurd q hc) (fun _ => ?_)
          refine J.iconst (pc := 1697) dL_law_1697 ic_0 ?_
          cases h
          exact J.zret (pc := 1698) dL_law_1698 rfl (narB (Or.inl rfl)) ⟨rfl, rfl, hN563, (Or.inl rfl)⟩
      rcases ifc h with ⟨hc, h⟩ | ⟨ns26, h⟩
      · refine J.tableIn (pc := 40) (off := 1679) (tgt := 1719) dL_law_40 (by rw [hc]; decide) (by rw [hc]; decide) (by rw [hc]; decide) (by decide) ?_
        refine J.aload_n (pc := 1719) dL_law_1719 rfl 1 rfl ?_
        obtain ⟨μ568, e567, h⟩ := bnd h
        refine J.callV (Y := mL_law) (Z := mX10_forget) (pc := 1720) (st := []) (k2 := (4 + 4 * n)) (n2 := (24 + 24 * n)) dL_law_1720 ml_RL_201 mo_X10_forget mv_X10_forget rfl (tX10_forget (d + 72) e567 hN k1) k1 (okN hN k1 (by decide)).1 (okN hN k1 (by decide)).2 cq_10 (by decide) rfl rfl (Nat.le_of_ble_eq_true rfl) (by omega) (by omega) (fun v ν hp => ?_) (fun i ν hp => nrm hp.1)
        obtain ⟨rfl, rfl, hN569, hb570⟩ := QEl hp
        show J _ _ _ _ 1723 _ ([]) _ _ _ _
        refine J.aload_n (pc := 1723) dL_law_1723 rfl 2 rfl ?_
        obtain ⟨μ572, e571, h⟩ := bnd h
        refine J.callV (Y := mL_law) (Z := mX11_forget) (pc := 1724) (st := []) (k2 := (4 + 4 * n)) (n2 := (24 + 24 * n)) dL_law_1724 ml_RL_204 mo_X11_forget mv_X11_forget rfl (tX11_forget (d + 73) e571 hN569 k2) k2 (okN hN569 k2 (by decide)).1 (okN hN569 k2 (by decide)).2 cq_11 (by decide) rfl rfl (Nat.le_of_ble_eq_true rfl) (by omega) (by omega) (fun v ν hp => ?_) (fun i ν hp => nrm hp.1)
        obtain ⟨rfl, rfl, hN573, hb574⟩ := QEl hp
        show J _ _ _ _ 1727 _ ([]) _ _ _ _
        refine J.goto (pc := 1727) (tgt := 2366) dL_law_1727 (by decide) ?_
        refine J.room (k' := 4 * n) (n' := 24 * n) (by omega) (by omega) ?_
        exact (tL_law_2366 d (fL_law_23 ω n) ih) v0 v1 v2 v3 v4 μ572 h hN573 k1 k2 k3
      rcases ifc h with ⟨hc, h⟩ | ⟨ns27, h⟩
      · refine J.tableIn (pc := 40) (off := 1690) (tgt := 1730) dL_law_40 (by rw [hc]; decide) (by rw [hc]; decide) (by rw [hc]; decide) (by decide) ?_
        refine J.aload_n (pc := 1730) dL_law_1730 rfl 1 rfl ?_
        refine J.aload_n (pc := 1731) dL_law_1731 rfl 0 rfl ?_
        refine J.iload (pc := 1732) dL_law_1732 4 rfl ?_
        refine J.iconst (pc := 1734) dL_law_1734 ic_1 ?_
        refine J.iadd (pc := 1735) dL_law_1735 ?_
        obtain ⟨x575, e576, h⟩ := bnd h
        refine J.scrLd' (pc := 1736) dL_law_1736 e576 ?_
        refine J.aload_n (pc := 1737) dL_law_1737 rfl 3 rfl ?_
        obtain ⟨⟨r579, μ578⟩, e577, h⟩ := bnd h
        try dsimp only at h
        refine J.callSW (Y := mL_law) (Z := mL_quick) (pc := 1738) (st := []) (k2 := (3 + 4 * n)) (n2 := (18 + 24 * n)) dL_law_1738 ml_RL_205 mo_L_quick ms_L_quick rfl (tL_quick (d + 63) e577 hN k1 k3) (fun i ν hp => nrm hp.1) rfl rfl (Nat.le_of_ble_eq_true rfl) (by omega) (by omega) (fun v ν hp => ?_)
        obtain ⟨rfl, rfl, hN580, hb581⟩ := QEl hp
        show J _ _ _ _ 1741 _ ([.int r579]) _ _ _ _
        refine J.istore (pc := 1741) ([(5, .int r579), (0, .ref 30000), (1, .ref v1), (2, .ref v2), (3, .ref v3), (4, .int v4)]) dL_law_1741 (Nat.le_of_ble_eq_true rfl) rfl ?_
        refine J.aload_n (pc := 1743) dL_law_1743 rfl 3 rfl ?_
        refine J.aload_n (pc := 1744) dL_law_1744 rfl 1 rfl ?_
        refine J.iload (pc := 1745) dL_law_1745 5 rfl ?_
        refine J.iconst (pc := 1747) dL_law_1747 ic_1 ?_
        refine J.iadd (pc := 1748) dL_law_1748 ?_
        obtain ⟨x582, e583, h⟩ := bnd h
        refine J.scrLd' (pc := 1749) dL_law_1749 e583 ?_
        obtain ⟨⟨r586, μ585⟩, e584, h⟩ := bnd h
        try dsimp only at h
        refine J.callV (Y := mL_law) (Z := mX11_quick) (pc := 1750) (st := []) (k2 := (3 + 4 * n)) (n2 := (18 + 24 * n)) dL_law_1750 ml_RL_207 mo_X11_quick mv_X11_quick rfl (tX11_quick (d + 66) e584 hN580 k2) k2 (okN hN580 k2 (by decide)).1 (okN hN580 k2 (by decide)).2 cq_11 (by decide) rfl rfl (Nat.le_of_ble_eq_true rfl) (by omega) (by omega) (fun v ν hp => ?_) (fun i ν hp => nrm hp.1)
        obtain ⟨rfl, rfl, hN587, hb588⟩ := QEl hp
        show J _ _ _ _ 1753 _ ([.int r586]) _ _ _ _
        refine J.istore (pc := 1753) ([(6, .int r586), (5, .int r579), (0, .ref 30000), (1, .ref v1), (2, .ref v2), (3, .ref v3), (4, .int v4)]) dL_law_1753 (Nat.le_of_ble_eq_true rfl) rfl ?_
        refine J.aload_n (pc := 1755) dL_law_1755 rfl 4 rfl ?_
        refine J.callV (Y := mL_law) (Z := mX11_thrown) (pc := 1756) (st := []) (k2 := (3 + 4 * n)) (n2 := (18 + 24 * n)) dL_law_1756 ml_RL_122 mo_X11_thrown mv_X11_thrown rfl (tX11_thrown (d + 73) v2 μ585 hN587 k2) k2 (okN hN587 k2 (by decide)).1 (okN hN587 k2 (by decide)).2 cq_11 (by decide) rfl rfl (Nat.le_of_ble_eq_true rfl) (by omega) (by omega) (fun v ν hp => ?_) (fun i ν hp => nrm hp.1)
        obtain ⟨rfl, rfl, hN590, hb591⟩ := QEl hp
        show J _ _ _ _ 1759 _ ([.int (fX11_thrown v2 μ585)]) _ _ _ _
        refine J.iload (pc := 1759) dL_law_1759 1 rfl ?_
        rcases ifc h with ⟨hc, h⟩ | ⟨hc, h⟩
        · refine J.ceq (pc := 1761) (tgt := 1766) dL_law_1761 (by decide) (fun _ => ?_) (fun q => absurd hc q)
          refine J.iload (pc := 1766) dL_law_1766 1 rfl ?_
          rcases ifc h with ⟨hc, h⟩ | ⟨hc, h⟩
          · refine J.zne (pc := 1768) (tgt := 1783) dL_law_1768 (by decide) (fun _ => ?_) (fun q => absurd hc q)
            refine J.aload_n (pc := 1771) dL_law_1771 rfl 5 rfl ?_
            refine J.iconst (pc := 1772) dL_law_1772 ic_0 ?_
            obtain ⟨x592, e593, h⟩ := bnd h
            refine J.aL (pc := 1773) dL_law_1773 k3 (okN hN590 k3 (by decide)) e593 ?_
            refine J.iload (pc := 1774) dL_law_1774 0 rfl ?_
            refine J.i2l (pc := 1776) dL_law_1776 ?_
            rcases ifc h with ⟨hc, h⟩ | ⟨hc, h⟩
            · refine J.meq (pc := 1777) (tgt := 1783) dL_law_1777 dL_law_1778 (by decide) (fun _ => ?_) (fun q => absurd hc q)
              refine J.goto (pc := 1783) (tgt := 2366) dL_law_1783 (by decide) ?_
              refine J.pick [2, 3, 4, 5, 6] rfl ?_
              refine J.room (k' := 4 * n) (n' := 24 * n) (by omega) (by omega) ?_
              exact (tL_law_2366 d (fL_law_23 ω n) ih) v0 v1 v2 v3 v4 μ585 h hN590 k1 k2 k3
            · refine J.meq (pc := 1777) (tgt := 1783) dL_law_1777 dL_law_1778 (by decide) (fun q => absurd q hc) (fun _ => ?_)
              refine J.iconst (pc := 1781) dL_law_1781 ic_0 ?_
              cases h
              exact J.zret (pc := 1782) dL_law_1782 rfl (narB (Or.inl rfl)) ⟨rfl, rfl, hN590, (Or.inl rfl)⟩
          · refine J.zne (pc := 1768) (tgt := 1783) dL_law_1768 (by decide) (fun q => absurd q hc) (fun _ => ?_)
            refine J.goto (pc := 1783) (tgt := 2366) dL_law_1783 (by decide) ?_
            refine J.pick [2, 3, 4, 5, 6] rfl ?_
            refine J.room (k' := 4 * n) (n' := 24 * n) (by omega) (by omega) ?_
            exact (tL_law_2366 d (fL_law_23 ω n) ih) v0 v1 v2 v3 v4 μ585 h hN590 k1 k2 k3
        · refine J.ceq (pc := 1761) (tgt := 1766) dL_law_1761 (by decide) (fun q => absurd q hc) (fun _ => ?_)
          refine J.iconst (pc := 1764) dL_law_1764 ic_0 ?_
          cases h
          exact J.zret (pc := 1765) dL_law_1765 rfl (narB (Or.inl rfl)) ⟨rfl, rfl, hN590, (Or.inl rfl)⟩
      rcases ifc h with ⟨hc, h⟩ | ⟨ns28, h⟩
      · refine J.tableIn (pc := 40) (off := 1746) (tgt := 1786) dL_law_40 (by rw [hc]; decide) (by rw [hc]; decide) (by rw [hc]; decide) (by decide) ?_
        refine J.aload_n (pc := 1786) dL_law_1786 rfl 1 rfl ?_
        refine J.aload_n (pc := 1787) dL_law_1787 rfl 0 rfl ?_
        refine J.iload (pc := 1788) dL_law_1788 4 rfl ?_
        refine J.iconst (pc := 1790) dL_law_1790 ic_1 ?_
        refine J.iadd (pc := 1791) dL_law_1791 ?_
        obtain ⟨x594, e595, h⟩ := bnd h
        refine J.scrLd' (pc := 1792) dL_law_1792 e595 ?_
        refine J.aload_n (pc := 1793) dL_law_1793 rfl 3 rfl ?_
        obtain ⟨⟨r598, μ597⟩, e596, h⟩ := bnd h
        try dsimp only at h
        refine J.callSW (Y := mL_law) (Z := mL_look) (pc := 1794) (st := []) (k2 := (3 + 4 * n)) (n2 := (18 + 24 * n)) dL_law_1794 ml_RL_208 mo_L_look ms_L_look rfl (tL_look (d + 63) e596 hN k1 k3) (fun i ν hp => nrm hp.1) rfl rfl (Nat.le_of_ble_eq_true rfl) (by omega) (by omega) (fun v ν hp => ?_)
        obtain ⟨rfl, rfl, hN599, hb600⟩ := QEl hp
        show J _ _ _ _ 1797 _ ([.int r598]) _ _ _ _
        refine J.istore (pc := 1797) ([(5, .int r598), (0, .ref 30000), (1, .ref v1), (2, .ref v2), (3, .ref v3), (4, .int v4)]) dL_law_1797 (Nat.le_of_ble_eq_true rfl) rfl ?_
        refine J.aload_n (pc := 1799) dL_law_1799 rfl 3 rfl ?_
        refine J.aload_n (pc := 1800) dL_law_1800 rfl 1 rfl ?_
        refine J.iload (pc := 1801) dL_law_1801 5 rfl ?_
        refine J.iconst (pc := 1803) dL_law_1803 ic_1 ?_
        refine J.iadd (pc := 1804) dL_law_1804 ?_
        obtain ⟨x601, e602, h⟩ := bnd h
        refine J.scrLd' (pc := 1805) dL_law_1805 e602 ?_
        obtain ⟨⟨r605, μ604⟩, e603, h⟩ := bnd h
        try dsimp only at h
        refine J.callV (Y := mL_law) (Z := mX11_look) (pc := 1806) (st := []) (k2 := (3 + 4 * n)) (n2 := (18 + 24 * n)) dL_law_1806 ml_RL_210 mo_X11_look mv_X11_look rfl (tX11_look (d + 66) e603 hN599 k2) k2 (okN hN599 k2 (by decide)).1 (okN hN599 k2 (by decide)).2 cq_11 (by decide) rfl rfl (Nat.le_of_ble_eq_true rfl) (by omega) (by omega) (fun v ν hp => ?_) (fun i ν hp => nrm hp.1)
        obtain ⟨rfl, rfl, hN606, hb607⟩ := QEl hp
        show J _ _ _ _ 1809 _ ([.int r605]) _ _ _ _
        refine J.istore (pc := 1809) ([(6, .int r605), (5, .int r598), (0, .ref 30000), (1, .ref v1), (2, .ref v2), (3, .ref v3), (4, .int v4)]) dL_law_1809 (Nat.le_of_ble_eq_true rfl) rfl ?_
        refine J.aload_n (pc := 1811) dL_law_1811 rfl 4 rfl ?_
        refine J.callV (Y := mL_law) (Z := mX11_thrown) (pc := 1812) (st := []) (k2 := (3 + 4 * n)) (n2 := (18 + 24 * n)) dL_law_1812 ml_RL_122 mo_X11_thrown mv_X11_thrown rfl (tX11_thrown (d + 73) v2 μ604 hN606 k2) k2 (okN hN606 k2 (by decide)).1 (okN hN606 k2 (by decide)).2 cq_11 (by decide) rfl rfl (Nat.le_of_ble_eq_true rfl) (by omega) (by omega) (fun v ν hp => ?_) (fun i ν hp => nrm hp.1)
        obtain ⟨rfl, rfl, hN609, hb610⟩ := QEl hp
        show J _ _ _ _ 1815 _ ([.int (fX11_thrown v2 μ604)]) _ _ _ _
        refine J.iload (pc := 1815) dL_law_1815 1 rfl ?_
        rcases ifc h with ⟨hc, h⟩ | ⟨hc, h⟩
        · refine J.ceq (pc := 1817) (tgt := 1822) dL_law_1817 (by decide) (fun _ => ?_) (fun q => absurd hc q)
          refine J.iload (pc := 1822) dL_law_1822 1 rfl ?_
          rcases ifc h with ⟨hc, h⟩ | ⟨hc, h⟩
          · refine J.zne (pc := 1824) (tgt := 1839) dL_law_1824 (by decide) (fun _ => ?_) (fun q => absurd hc q)
            refine J.aload_n (pc := 1827) dL_law_1827 rfl 5 rfl ?_
            refine J.iconst (pc := 1828) dL_law_1828 ic_0 ?_
            obtain ⟨x611, e612, h⟩ := bnd h
            refine J.aL (pc := 1829) dL_law_1829 k3 (okN hN609 k3 (by decide)) e612 ?_
            refine J.iload (pc := 1830) dL_law_1830 0 rfl ?_
            refine J.i2l (pc := 1832) dL_law_1832 ?_
            rcases ifc h with ⟨hc, h⟩ | ⟨hc, h⟩
            · refine J.meq (pc := 1833) (tgt := 1839) dL_law_1833 dL_law_1834 (by decide) (fun _ => ?_) (fun q => absurd hc q)
              refine J.goto (pc := 1839) (tgt := 2366) dL_law_1839 (by decide) ?_
              refine J.pick [2, 3, 4, 5, 6] rfl ?_
              refine J.room (k' := 4 * n) (n' := 24 * n) (by omega) (by omega) ?_
              exact (tL_law_2366 d (fL_law_23 ω n) ih) v0 v1 v2 v3 v4 μ604 h hN609 k1 k2 k3
            · refine J.meq (pc := 1833) (tgt := 1839) dL_law_1833 dL_law_1834 (by decide) (fun q => absurd q hc) (fun _ => ?_)
              refine J.iconst (pc := 1837) dL_law_1837 ic_0 ?_
              cases h
              exact J.zret (pc := 1838) dL_law_1838 rfl (narB (Or.inl rfl)) ⟨rfl, rfl, hN609, (Or.inl rfl)⟩
          · refine J.zne (pc := 1824) (tgt := 1839) dL_law_1824 (by decide) (fun q => absurd q hc) (fun _ => ?_)
            refine J.goto (pc := 1839) (tgt := 2366) dL_law_1839 (by decide) ?_
            refine J.pick [2, 3, 4, 5, 6] rfl ?_
            refine J.room (k' := 4 * n) (n' := 24 * n) (by omega) (by omega) ?_
            exact (tL_law_2366 d (fL_law_23 ω n) ih) v0 v1 v2 v3 v4 μ604 h hN609 k1 k2 k3
        · refine J.ceq (pc := 1817) (tgt := 1822) dL_law_1817 (by decide) (fun q => absurd q hc) (fun _ => ?_)
          refine J.iconst (pc := 1820) dL_law_1820 ic_0 ?_
          cases h
          exact J.zret (pc := 1821) dL_law_1821 rfl (narB (Or.inl rfl)) ⟨rfl, rfl, hN609, (Or.inl rfl)⟩
      rcases ifc h with ⟨hc, h⟩ | ⟨ns29, h⟩
      · refine J.tableIn (pc := 40) (off := 1802) (tgt := 1842) dL_law_40 (by rw [hc]; decide) (by rw [hc]; decide) (by rw [hc]; decide) (by decide) ?_
        refine J.aload_n (pc := 1842) dL_law_1842 rfl 1 rfl ?_
        refine J.aload_n (pc := 1843) dL_law_1843 rfl 0 rfl ?_
        refine J.iload (pc := 1844) dL_law_1844 4 rfl ?_
        refine J.iconst (pc := 1846) dL_law_1846 ic_1 ?_
        refine J.iadd (pc := 1847) dL_law_1847 ?_
        obtain ⟨x613, e614, h⟩ := bnd h
        refine J.scrLd' (pc := 1848) dL_law_1848 e614 ?_
        refine J.aload_n (pc := 1849) dL_law_1849 rfl 0 rfl ?_
        refine J.iload (pc := 1850) dL_law_1850 4 rfl ?_
        refine J.iconst (pc := 1852) dL_law_1852 ic_2 ?_
        refine J.iadd (pc := 1853) dL_law_1853 ?_
        obtain ⟨x615, e616, h⟩ := bnd h
        refine J.scrLd' (pc := 1854) dL_law_1854 e616 ?_
        refine J.aload_n (pc := 1855) dL_law_1855 rfl 0 rfl ?_
        refine J.iload (pc := 1856) dL_law_1856 4 rfl ?_
        refine J.iconst (pc := 1858) dL_law_1858 ic_3 ?_
        refine J.iadd (pc := 1859) dL_law_1859 ?_
        obtain ⟨x617, e618, h⟩ := bnd h
        refine J.scrLd' (pc := 1860) dL_law_1860 e618 ?_
        refine J.aload_n (pc := 1861) dL_law_1861 rfl 3 rfl ?_
        obtain ⟨⟨r621, μ620⟩, e619, h⟩ := bnd h
        try dsimp only at h
        refine J.callSW (Y := mL_law) (Z := mL_candles) (pc := 1862) (st := []) (k2 := (1 + 4 * n)) (n2 := (6 + 24 * n)) dL_law_1862 ml_RL_211 mo_L_candles ms_L_candles rfl (tL_candles (d + 63) e619 hN k1 k3) (fun i ν hp => nrm hp.1) rfl rfl (Nat.le_of_ble_eq_true rfl) (by omega) (by omega) (fun v ν hp => ?_)
        obtain ⟨rfl, rfl, hN622, hb623⟩ := QEl hp
        show J _ _ _ _ 1865 _ ([.int r621]) _ _ _ _
        refine J.istore (pc := 1865) ([(5, .int r621), (0, .ref 30000), (1, .ref v1), (2, .ref v2), (3, .ref v3), (4, .int v4)]) dL_law_1865 (Nat.le_of_ble_eq_true rfl) rfl ?_
        refine J.aload_n (pc := 1867) dL_law_1867 rfl 3 rfl ?_
        refine J.aload_n (pc := 1868) dL_law_1868 rfl 1 rfl ?_
        refine J.iload (pc := 1869) dL_law_1869 5 rfl ?_
        refine J.iconst (pc := 1871) dL_law_1871 ic_1 ?_
        refine J.iadd (pc := 1872) dL_law_1872 ?_
        obtain ⟨x624, e625, h⟩ := bnd h
        refine J.scrLd' (pc := 1873) dL_law_1873 e625 ?_
        refine J.aload_n (pc := 1874) dL_law_1874 rfl 1 rfl ?_
        refine J.iload (pc := 1875) dL_law_1875 5 rfl ?_
        refine J.iconst (pc := 1877) dL_law_1877 ic_2 ?_
        refine J.iadd (pc := 1878) dL_law_1878 ?_
        obtain ⟨x626, e627, h⟩ := bnd h
        refine J.scrLd' (pc := 1879) dL_law_1879 e627 ?_
        refine J.aload_n (pc := 1880) dL_law_1880 rfl 1 rfl ?_
        refine J.iload (pc := 1881) dL_law_1881 5 rfl ?_
        refine J.iconst (pc := 1883) dL_law_1883 ic_3 ?_
        refine J.iadd (pc := 1884) dL_law_1884 ?_
        obtain ⟨x628, e629, h⟩ := bnd h
        refine J.scrLd' (pc := 1885) dL_law_1885 e629 ?_
        obtain ⟨⟨r632, μ631⟩, e630, h⟩ := bnd h
        try dsimp only at h
        refine J.callV (Y := mL_law) (Z := mX11_candles) (pc := 1886) (st := []) (k2 := (1 + 4 * n)) (n2 := (6 + 24 * n)) dL_law_1886 ml_RL_213 mo_X11_candles mv_X11_candles rfl (tX11_candles (d + 68) e630 hN622 k2) k2 (okN hN622 k2 (by decide)).1 (okN hN622 k2 (by decide)).2 cq_11 (by decide) rfl rfl (Nat.le_of_ble_eq_true rfl) (by omega) (by omega) (fun v ν hp => ?_) (fun i ν hp => nrm hp.1)
        obtain ⟨rfl, rfl, hN633, hb634⟩ := QEl hp
        show J _ _ _ _ 1889 _ ([.int r632]) _ _ _ _
        refine J.istore (pc := 1889) ([(6, .int r632), (5, .int r621), (0, .ref 30000), (1, .ref v1), (2, .ref v2), (3, .ref v3), (4, .int v4)]) dL_law_1889 (Nat.le_of_ble_eq_true rfl) rfl ?_
        refine J.aload_n (pc := 1891) dL_law_1891 rfl 4 rfl ?_
        refine J.callV (Y := mL_law) (Z := mX11_thrown) (pc := 1892) (st := []) (k2 := (1 + 4 * n)) (n2 := (6 + 24 * n)) dL_law_1892 ml_RL_122 mo_X11_thrown mv_X11_thrown rfl (tX11_thrown (d + 73) v2 μ631 hN633 k2) k2 (okN hN633 k2 (by decide)).1 (okN hN633 k2 (by decide)).2 cq_11 (by decide) rfl rfl (Nat.le_of_ble_eq_true rfl) (by omega) (by omega) (fun v ν hp => ?_) (fun i ν hp => nrm hp.1)
        obtain ⟨rfl, rfl, hN636, hb637⟩ := QEl hp
        show J _ _ _ _ 1895 _ ([.int (fX11_thrown v2 μ631)]) _ _ _ _
        refine J.iload (pc := 1895) dL_law_1895 1 rfl ?_
        rcases ifc h with ⟨hc, h⟩ | ⟨hc, h⟩
        · refine J.ceq (pc := 1897) (tgt := 1902) dL_law_1897 (by decide) (fun _ => ?_) (fun q => absurd hc q)
          refine J.iload (pc := 1902) dL_law_1902 1 rfl ?_
          rcases ifc h with ⟨hc, h⟩ | ⟨hc, h⟩
          · refine J.zne (pc := 1904) (tgt := 1919) dL_law_1904 (by decide) (fun _ => ?_) (fun q => absurd hc q)
            refine J.aload_n (pc := 1907) dL_law_1907 rfl 5 rfl ?_
            refine J.iconst (pc := 1908) dL_law_1908 ic_0 ?_
            obtain ⟨x638, e639, h⟩ := bnd h
            refine J.aL (pc := 1909) dL_law_1909 k3 (okN hN636 k3 (by decide)) e639 ?_
            refine J.iload (pc := 1910) dL_law_1910 0 rfl ?_
            refine J.i2l (pc := 1912) dL_law_1912 ?_
            rcases ifc h with ⟨hc, h⟩ | ⟨hc, h⟩
            · refine J.meq (pc := 1913) (tgt := 1919) dL_law_1913 dL_law_1914 (by decide) (fun _ => ?_) (fun q => absurd hc q)
              refine J.goto (pc := 1919) (tgt := 2366) dL_law_1919 (by decide) ?_
              refine J.pick [2, 3, 4, 5, 6] rfl ?_
              refine J.room (k' := 4 * n) (n' := 24 * n) (by omega) (by omega) ?_
              exact (tL_law_2366 d (fL_law_23 ω n) ih) v0 v1 v2 v3 v4 μ631 h hN636 k1 k2 k3
            · refine J.meq (pc := 1913) (tgt := 1919) dL_law_1913 dL_law_1914 (by decide) (fun q => absurd q hc) (fun _ => ?_)
              refine J.iconst (pc := 1917) dL_law_1917 ic_0 ?_
              cases h
              exact J.zret (pc := 1918) dL_law_1918 rfl (narB (Or.inl rfl)) ⟨rfl, rfl, hN636, (Or.inl rfl)⟩
          · refine J.zne (pc := 1904) (tgt := 1919) dL_law_1904 (by decide) (fun q => absurd q hc) (fun _ => ?_)
            refine J.goto (pc := 1919) (tgt := 2366) dL_law_1919 (by decide) ?_
            refine J.pick [2, 3, 4, 5, 6] rfl ?_
            refine J.room (k' := 4 * n) (n' := 24 * n) (by omega) (by omega) ?_
            exact (tL_law_2366 d (fL_law_23 ω n) ih) v0 v1 v2 v3 v4 μ631 h hN636 k1 k2 k3
        · refine J.ceq (pc := 1897) (tgt := 1902) dL_law_1897 (by decide) (fun q => absurd q hc) (fun _ => ?_)
          refine J.iconst (pc := 1900) dL_law_1900 ic_0 ?_
          cases h
          exact J.zret (pc := 1901) dL_law_1901 rfl (narB (Or.inl rfl)) ⟨rfl, rfl, hN636, (Or.inl rfl)⟩
      rcases ifc h with ⟨hc, h⟩ | ⟨ns30, h⟩
      · refine J.tableIn (pc := 40) (off := 1882) (tgt := 1922) dL_law_40 (by rw [hc]; decide) (by rw [hc]; decide) (by rw [hc]; decide) (by decide) ?_
        refine J.aload_n (pc := 1922) dL_law_1922 rfl 1 rfl ?_
        refine J.aload_n (pc := 1923) dL_law_1923 rfl 0 rfl ?_
        refine J.iload (pc := 1924) dL_law_1924 4 rfl ?_
        refine J.iconst (pc := 1926) dL_law_1926 ic_1 ?_
        refine J.iadd (pc := 1927) dL_law_1927 ?_
        obtain ⟨x640, e641, h⟩ := bnd h
        refine J.scrLd' (pc := 1928) dL_law_1928 e641 ?_
        refine J.aload_n (pc := 1929) dL_law_1929 rfl 0 rfl ?_
        refine J.iload (pc := 1930) dL_law_1930 4 rfl ?_
        refine J.iconst (pc := 1932) dL_law_1932 ic_2 ?_
        refine J.iadd (pc := 1933) dL_law_1933 ?_
        obtain ⟨x642, e643, h⟩ := bnd h
        refine J.scrLd' (pc := 1934) dL_law_1934 e643 ?_
        refine J.aload_n (pc := 1935) dL_law_1935 rfl 0 rfl ?_
        refine J.iload (pc := 1936) dL_law_1936 4 rfl ?_
        refine J.iconst (pc := 1938) dL_law_1938 ic_3 ?_
        refine J.iadd (pc := 1939) dL_law_1939 ?_
        obtain ⟨x644, e645, h⟩ := bnd h
        refine J.scrLd' (pc := 1940) dL_law_1940 e645 ?_
        refine J.aload_n (pc := 1941) dL_law_1941 rfl 3 rfl ?_
        obtain ⟨⟨r648, μ647⟩, e646, h⟩ := bnd h
        try dsimp only at h
        refine J.callSW (Y := mL_law) (Z := mL_game) (pc := 1942) (st := []) (k2 := 4 * n) (n2 := 24 * n) dL_law_1942 ml_RL_214 mo_L_game ms_L_game rfl (tL_game (d + 63) e646 hN k1 k3) (fun i ν hp => nrm hp.1) rfl rfl (Nat.le_of_ble_eq_true rfl) (by omega) (by omega) (fun v ν hp => ?_)
        obtain ⟨rfl, rfl, hN649, hb650⟩ := QEl hp
        show J _ _ _ _ 1945 _ ([.int r648]) _ _ _ _
        refine J.istore (pc := 1945) ([(5, .int r648), (0, .ref 30000), (1, .ref v1), (2, .ref v2), (3, .ref v3), (4, .int v4)]) dL_law_1945 (Nat.le_of_ble_eq_true rfl) rfl ?_
        refine J.aload_n (pc := 1947) dL_law_1947 rfl 3 rfl ?_
        refine J.aload_n (pc := 1948) dL_law_1948 rfl 1 rfl ?_
        refine J.iload (pc := 1949) dL_law_1949 5 rfl ?_
        refine J.iconst (pc := 1951) dL_law_1951 ic_1 ?_
        refine J.iadd (pc := 1952) dL_law_1952 ?_
        obtain ⟨x651, e652, h⟩ := bnd h
        refine J.scrLd' (pc := 1953) dL_law_1953 e652 ?_
        refine J.aload_n (pc := 1954) dL_law_1954 rfl 1 rfl ?_
        refine J.iload (pc := 1955) dL_law_1955 5 rfl ?_
        refine J.iconst (pc := 1957) dL_law_1957 ic_2 ?_
        refine J.iadd (pc := 1958) dL_law_1958 ?_
        obtain ⟨x653, e654, h⟩ := bnd h
        refine J.scrLd' (pc := 1959) dL_law_1959 e654 ?_
        refine J.aload_n (pc := 1960) dL_law_1960 rfl 1 rfl ?_
        refine J.iload (pc := 1961) dL_law_1961 5 rfl ?_
        refine J.iconst (pc := 1963) dL_law_1963 ic_3 ?_
        refine J.iadd (pc := 1964) dL_law_1964 ?_
        obtain ⟨x655, e656, h⟩ := bnd h
        refine J.scrLd' (pc := 1965) dL_law_1965 e656 ?_
        obtain ⟨⟨r659, μ658⟩, e657, h⟩ := bnd h
        try dsimp only at h
        refine J.callV (Y := mL_law) (Z := mX11_game) (pc := 1966) (st := []) (k2 := 4 * n) (n2 := 24 * n) dL_law_1966 ml_RL_216 mo_X11_game mv_X11_game rfl (tX11_game (d + 67) e657 hN649 k2) k2 (okN hN649 k2 (by decide)).1 (okN hN649 k2 (by decide)).2 cq_11 (by decide) rfl rfl (Nat.le_of_ble_eq_true rfl) (by omega) (by omega) (fun v ν hp => ?_) (fun i ν hp => nrm hp.1)
        obtain ⟨rfl, rfl, hN660, hb661⟩ := QEl hp
        show J _ _ _ _ 1969 _ ([.int r659]) _ _ _ _
        refine J.istore (pc := 1969) ([(6, .int r659), (5, .int r648), (0, .ref 30000), (1, .ref v1), (2, .ref v2), (3, .ref v3), (4, .int v4)]) dL_law_1969 (Nat.le_of_ble_eq_true rfl) rfl ?_
        refine J.aload_n (pc := 1971) dL_law_1971 rfl 4 rfl ?_
        refine J.callV (Y := mL_law) (Z := mX11_thrown) (pc := 1972) (st := []) (k2 := 4 * n) (n2 := 24 * n) dL_law_1972 ml_RL_122 mo_X11_thrown mv_X11_thrown rfl (tX11_thrown (d + 73) v2 μ658 hN660 k2) k2 (okN hN660 k2 (by decide)).1 (okN hN660 k2 (by decide)).2 cq_11 (by decide) rfl rfl (Nat.le_of_ble_eq_true rfl) (by omega) (by omega) (fun v ν hp => ?_) (fun i ν hp => nrm hp.1)
        obtain ⟨rfl, rfl, hN663, hb664⟩ := QEl hp
        show J _ _ _ _ 1975 _ ([.int (fX11_thrown v2 μ658)]) _ _ _ _
        refine J.iload (pc := 1975) dL_law_1975 1 rfl ?_
        rcases ifc h with ⟨hc, h⟩ | ⟨hc, h⟩
        · refine J.ceq (pc := 1977) (tgt := 1982) dL_law_1977 (by decide) (fun _ => ?_) (fun q => absurd hc q)
          refine J.iload (pc := 1982) dL_law_1982 1 rfl ?_
          rcases ifc h with ⟨hc, h⟩ | ⟨hc, h⟩
          · refine J.zne (pc := 1984) (tgt := 1999) dL_law_1984 (by decide) (fun _ => ?_) (fun q => absurd hc q)
            refine J.aload_n (pc := 1987) dL_law_1987 rfl 5 rfl ?_
            refine J.iconst (pc := 1988) dL_law_1988 ic_0 ?_
            obtain ⟨x665, e666, h⟩ := bnd h
            refine J.aL (pc := 1989) dL_law_1989 k3 (okN hN663 k3 (by decide)) e666 ?_
            refine J.iload (pc := 1990) dL_law_1990 0 rfl ?_
            refine J.i2l (pc := 1992) dL_law_1992 ?_
            rcases ifc h with ⟨hc, h⟩ | ⟨hc, h⟩
            · refine J.meq (pc := 1993) (tgt := 1999) dL_law_1993 dL_law_1994 (by decide) (fun _ => ?_) (fun q => absurd hc q)
              refine J.goto (pc := 1999) (tgt := 2366) dL_law_1999 (by decide) ?_
              refine J.pick [2, 3, 4, 5, 6] rfl ?_
              exact (tL_law_2366 d (fL_law_23 ω n) ih) v0 v1 v2 v3 v4 μ658 h hN663 k1 k2 k3
            · refine J.meq (pc := 1993) (tgt := 1999) dL_law_1993 dL_law_1994 (by decide) (fun q => absurd q hc) (fun _ => ?_)
              refine J.iconst (pc := 1997) dL_law_1997 ic_0 ?_
              cases h
              exact J.zret (pc := 1998) dL_law_1998 rfl (narB (Or.inl rfl)) ⟨rfl, rfl, hN663, (Or.inl rfl)⟩
          · refine J.zne (pc := 1984) (tgt := 1999) dL_law_1984 (by decide) (fun q => absurd q hc) (fun _ => ?_)
            refine J.goto (pc := 1999) (tgt := 2366) dL_law_1999 (by decide) ?_
            refine J.pick [2, 3, 4, 5, 6] rfl ?_
            exact (tL_law_2366 d (fL_law_23 ω n) ih) v0 v1 v2 v3 v4 μ658 h hN663 k1 k2 k3
        · refine J.ceq (pc := 1977) (tgt := 1982) dL_law_1977 (by decide) (fun q => absurd q hc) (fun _ => ?_)
          refine J.iconst (pc := 1980) dL_law_1980 ic_0 ?_
          cases h
          exact J.zret (pc := 1981) dL_law_1981 rfl (narB (Or.inl rfl)) ⟨rfl, rfl, hN663, (Or.inl rfl)⟩
      rcases ifc h with ⟨hc, h⟩ | ⟨ns31, h⟩
      · refine J.tableIn (pc := 40) (off := 1962) (tgt := 2002) dL_law_40 (by rw [hc]; decide) (by rw [hc]; decide) (by rw [hc]; decide) (by decide) ?_
        refine J.aload_n (pc := 2002) dL_law_2002 rfl 1 rfl ?_
        refine J.aload_n (pc := 2003) dL_law_2003 rfl 0 rfl ?_
        refine J.iload (pc := 2004) dL_law_2004 4 rfl ?_
        refine J.iconst (pc := 2006) dL_law_2006 ic_1 ?_
        refine J.iadd (pc := 2007) dL_law_2007 ?_
        obtain ⟨x667, e668, h⟩ := bnd h
        refine J.scrLd' (pc := 2008) dL_law_2008 e668 ?_
        refine J.aload_n (pc := 2009) dL_law_2009 rfl 0 rfl ?_
        refine J.iload (pc := 2010) dL_law_2010 4 rfl ?_
        refine J.iconst (pc := 2012) dL_law_2012 ic_2 ?_
        refine J.iadd (pc := 2013) dL_law_2013 ?_
        obtain ⟨x669, e670, h⟩ := bnd h
        refine J.scrLd' (pc := 2014) dL_law_2014 e670 ?_
        refine J.aload_n (pc := 2015) dL_law_2015 rfl 0 rfl ?_
        refine J.iload (pc := 2016) dL_law_2016 4 rfl ?_
        refine J.iconst (pc := 2018) dL_law_2018 ic_3 ?_
        refine J.iadd (pc := 2019) dL_law_2019 ?_
        obtain ⟨x671, e672, h⟩ := bnd h
        refine J.scrLd' (pc := 2020) dL_law_2020 e672 ?_
        refine J.aload_n (pc := 2021) dL_law_2021 rfl 3 rfl ?_
        obtain ⟨⟨r675, μ674⟩, e673, h⟩ := bnd h
        try dsimp only at h
        refine J.callSW (Y := mL_law) (Z := mL_years) (pc := 2022) (st := []) (k2 := (2 + 4 * n)) (n2 := (12 + 24 * n)) dL_law_2022 ml_RL_217 mo_L_years ms_L_years rfl (tL_years (d + 63) e673 hN k1 k3) (fun i ν hp => nrm hp.1) rfl rfl (Nat.le_of_ble_eq_true rfl) (by omega) (by omega) (fun v ν hp => ?_)
        obtain ⟨rfl, rfl, hN676, hb677⟩ := QEl hp
        show J _ _ _ _ 2025 _ ([.int r675]) _ _ _ _
        refine J.istore (pc := 2025) ([(5, .int r675), (0, .ref 30000), (1, .ref v1), (2, .ref v2), (3, .ref v3), (4, .int v4)]) dL_law_2025 (Nat.le_of_ble_eq_true rfl) rfl ?_
        refine J.aload_n (pc := 2027) dL_law_2027 rfl 3 rfl ?_
        refine J.aload_n (pc := 2028) dL_law_2028 rfl 1 rfl ?_
        refine J.iload (pc := 2029) dL_law_2029 5 rfl ?_
        refine J.iconst (pc := 2031) dL_law_2031 ic_1 ?_
        refine J.iadd (pc := 2032) dL_law_2032 ?_
        obtain ⟨x678, e679, h⟩ := bnd h
        refine J.scrLd' (pc := 2033) dL_law_2033 e679 ?_
        refine J.aload_n (pc := 2034) dL_law_2034 rfl 1 rfl ?_
        refine J.iload (pc := 2035) dL_law_2035 5 rfl ?_
        refine J.iconst (pc := 2037) dL_law_2037 ic_2 ?_
        refine J.iadd (pc := 2038) dL_law_2038 ?_
        obtain ⟨x680, e681, h⟩ := bnd h
        refine J.scrLd' (pc := 2039) dL_law_2039 e681 ?_
        refine J.aload_n (pc := 2040) dL_law_2040 rfl 1 rfl ?_
        refine J.iload (pc := 2041) dL_law_2041 5 rfl ?_
        refine J.iconst (pc := 2043) dL_law_2043 ic_3 ?_
        refine J.iadd (pc := 2044) dL_law_2044 ?_
        obtain ⟨x682, e683, h⟩ := bnd h
        refine J.scrLd' (pc := 2045) dL_law_2045 e683 ?_
        obtain ⟨⟨r686, μ685⟩, e684, h⟩ := bnd h
        try dsimp only at h
        refine J.callV (Y := mL_law) (Z := mX11_years) (pc := 2046) (st := []) (k2 := (2 + 4 * n)) (n2 := (12 + 24 * n)) dL_law_2046 ml_RL_219 mo_X11_years mv_X11_years rfl (tX11_years (d + 68) e684 hN676 k2) k2 (okN hN676 k2 (by decide)).1 (okN hN676 k2 (by decide)).2 cq_11 (by decide) rfl rfl (Nat.le_of_ble_eq_true rfl) (by omega) (by omega) (fun v ν hp => ?_) (fun i ν hp => nrm hp.1)
        obtain ⟨rfl, rfl, hN687, hb688⟩ := QEl hp
        show J _ _ _ _ 2049 _ ([.int r686]) _ _ _ _
        refine J.istore (pc := 2049) ([(6, .int r686), (5, .int r675), (0, .ref 30000), (1, .ref v1), (2, .ref v2), (3, .ref v3), (4, .int v4)]) dL_law_2049 (Nat.le_of_ble_eq_true rfl) rfl ?_
        refine J.aload_n (pc := 2051) dL_law_2051 rfl 4 rfl ?_
        refine J.callV (Y := mL_law) (Z := mX11_thrown) (pc := 2052) (st := []) (k2 := (2 + 4 * n)) (n2 := (12 + 24 * n)) dL_law_2052 ml_RL_122 mo_X11_thrown mv_X11_thrown rfl (tX11_thrown (d + 73) v2 μ685 hN687 k2) k2 (okN hN687 k2 (by decide)).1 (okN hN687 k2 (by decide)).2 cq_11 (by decide) rfl rfl (Nat.le_of_ble_eq_true rfl) (by omega) (by omega) (fun v ν hp => ?_) (fun i ν hp => nrm hp.1)
        obtain ⟨rfl, rfl, hN690, hb691⟩ := QEl hp
        show J _ _ _ _ 2055 _ ([.int (fX11_thrown v2 μ685)]) _ _ _ _
        refine J.iload (pc := 2055) dL_law_2055 1 rfl ?_
        rcases ifc h with ⟨hc, h⟩ | ⟨hc, h⟩
        · refine J.ceq (pc := 2057) (tgt := 2062) dL_law_2057 (by decide) (fun _ => ?_) (fun q => absurd hc q)
          refine J.iload (pc := 2062) dL_law_2062 1 rfl ?_
          rcases ifc h with ⟨hc, h⟩ | ⟨hc, h⟩
          · refine J.zne (pc := 2064) (tgt := 2079) dL_law_2064 (by decide) (fun _ => ?_) (fun q => absurd hc q)
            refine J.aload_n (pc := 2067) dL_law_2067 rfl 5 rfl ?_
            refine J.iconst (pc := 2068) dL_law_2068 ic_0 ?_
            obtain ⟨x692, e693, h⟩ := bnd h
            refine J.aL (pc := 2069) dL_law_2069 k3 (okN hN690 k3 (by decide)) e693 ?_
            refine J.iload (pc := 2070) dL_law_2070 0 rfl ?_
            refine J.i2l (pc := 2072) dL_law_2072 ?_
            rcases ifc h with ⟨hc, h⟩ | ⟨hc, h⟩
            · refine J.meq (pc := 2073) (tgt := 2079) dL_law_2073 dL_law_2074 (by decide) (fun _ => ?_) (fun q => absurd hc q)
              refine J.goto (pc := 2079) (tgt := 2366) dL_law_2079 (by decide) ?_
              refine J.pick [2, 3, 4, 5, 6] rfl ?_
              refine J.room (k' := 4 * n) (n' := 24 * n) (by omega) (by omega) ?_
              exact (tL_law_2366 d (fL_law_23 ω n) ih) v0 v1 v2 v3 v4 μ685 h hN690 k1 k2 k3
            · refine J.meq (pc := 2073) (tgt := 2079) dL_law_2073 dL_law_2074 (by decide) (fun q => absurd q hc) (fun _ => ?_)
              refine J.iconst (pc := 2077) dL_law_2077 ic_0 ?_
              cases h
              exact J.zret (pc := 2078) dL_law_2078 rfl (narB (Or.inl rfl)) ⟨rfl, rfl, hN690, (Or.inl rfl)⟩
          · refine J.zne (pc := 2064) (tgt := 2079) dL_law_2064 (by decide) (fun q => absurd q hc) (fun _ => ?_)
            refine J.goto (pc := 2079) (tgt := 2366) dL_law_2079 (by decide) ?_
            refine J.pick [2, 3, 4, 5, 6] rfl ?_
            refine J.room (k' := 4 * n) (n' := 24 * n) (by omega) (by omega) ?_
            exact (tL_law_2366 d (fL_law_23 ω n) ih) v0 v1 v2 v3 v4 μ685 h hN690 k1 k2 k3
        · refine J.ceq (pc := 2057) (tgt := 2062) dL_law_2057 (by decide) (fun q => absurd q hc) (fun _ => ?_)
          refine J.iconst (pc := 2060) dL_law_2060 ic_0 ?_
          cases h
          exact J.zret (pc := 2061) dL_law_2061 rfl (narB (Or.inl rfl)) ⟨rfl, rfl, hN690, (Or.inl rfl)⟩
      rcases ifc h with ⟨hc, h⟩ | ⟨ns32, h⟩
      · refine J.tableIn (pc := 40) (off := 2042) (tgt := 2082) dL_law_40 (by rw [hc]; decide) (by rw [hc]; decide) (by rw [hc]; decide) (by decide) ?_
        refine J.aload_n (pc := 2082) dL_law_2082 rfl 1 rfl ?_
        refine J.aload_n (pc := 2083) dL_law_2083 rfl 0 rfl ?_
        refine J.iload (pc := 2084) dL_law_2084 4 rfl ?_
        refine J.iconst (pc := 2086) dL_law_2086 ic_1 ?_
        refine J.iadd (pc := 2087) dL_law_2087 ?_
        obtain ⟨x694, e695, h⟩ := bnd h
        refine J.scrLd' (pc := 2088) dL_law_2088 e695 ?_
        refine J.aload_n (pc := 2089) dL_law_2089 rfl 0 rfl ?_
        refine J.iload (pc := 2090) dL_law_2090 4 rfl ?_
        refine J.iconst (pc := 2092) dL_law_2092 ic_2 ?_
        refine J.iadd (pc := 2093) dL_law_2093 ?_
        obtain ⟨x696, e697, h⟩ := bnd h
        refine J.scrLd' (pc := 2094) dL_law_2094 e697 ?_
        refine J.aload_n (pc := 2095) dL_law_2095 rfl 3 rfl ?_
        obtain ⟨⟨r700, μ699⟩, e698, h⟩ := bnd h
        try dsimp only at h
        refine J.callSW (Y := mL_law) (Z := mL_ahead) (pc := 2096) (st := []) (k2 := (2 + 4 * n)) (n2 := (12 + 24 * n)) dL_law_2096 ml_RL_220 mo_L_ahead ms_L_ahead rfl (tL_ahead (d + 63) e698 hN k1 k3) (fun i ν hp => nrm hp.1) rfl rfl (Nat.le_of_ble_eq_true rfl) (by omega) (by omega) (fun v ν hp => ?_)
        obtain ⟨rfl, rfl, hN701, hb702⟩ := QEl hp
        show J _ _ _ _ 2099 _ ([.int r700]) _ _ _ _
        refine J.istore (pc := 2099) ([(5, .int r700), (0, .ref 30000), (1, .ref v1), (2, .ref v2), (3, .ref v3), (4, .int v4)]) dL_law_2099 (Nat.le_of_ble_eq_true rfl) rfl ?_
        refine J.aload_n (pc := 2101) dL_law_2101 rfl 3 rfl ?_
        refine J.aload_n (pc := 2102) dL_law_2102 rfl 1 rfl ?_
        refine J.iload (pc := 2103) dL_law_2103 5 rfl ?_
        refine J.iconst (pc := 2105) dL_law_2105 ic_1 ?_
        refine J.iadd (pc := 2106) dL_law_2106 ?_
        obtain ⟨x703, e704, h⟩ := bnd h
        refine J.scrLd' (pc := 2107) dL_law_2107 e704 ?_
        refine J.aload_n (pc := 2108) dL_law_2108 rfl 1 rfl ?_
        refine J.iload (pc := 2109) dL_law_2109 5 rfl ?_
        refine J.iconst (pc := 2111) dL_law_2111 ic_2 ?_
        refine J.iadd (pc := 2112) dL_law_2112 ?_
        obtain ⟨x705, e706, h⟩ := bnd h
        refine J.scrLd' (pc := 2113) dL_law_2113 e706 ?_
        obtain ⟨⟨r709, μ708⟩, e707, h⟩ := bnd h
        try dsimp only at h
        refine J.callV (Y := mL_law) (Z := mX11_ahead) (pc := 2114) (st := []) (k2 := (2 + 4 * n)) (n2 := (12 + 24 * n)) dL_law_2114 ml_RL_222 mo_X11_ahead mv_X11_ahead rfl (tX11_ahead (d + 68) e707 hN701 k2) k2 (okN hN701 k2 (by decide)).1 (okN hN701 k2 (by decide)).2 cq_11 (by decide) rfl rfl (Nat.le_of_ble_eq_true rfl) (by omega) (by omega) (fun v ν hp => ?_) (fun i ν hp => nrm hp.1)
        obtain ⟨rfl, rfl, hN710, hb711⟩ := QEl hp
        show J _ _ _ _ 2117 _ ([.int r709]) _ _ _ _
        refine J.istore (pc := 2117) ([(6, .int r709), (5, .int r700), (0, .ref 30000), (1, .ref v1), (2, .ref v2), (3, .ref v3), (4, .int v4)]) dL_law_2117 (Nat.le_of_ble_eq_true rfl) rfl ?_
        refine J.aload_n (pc := 2119) dL_law_2119 rfl 4 rfl ?_
        refine J.callV (Y := mL_law) (Z := mX11_thrown) (pc := 2120) (st := []) (k2 := (2 + 4 * n)) (n2 := (12 + 24 * n)) dL_law_2120 ml_RL_122 mo_X11_thrown mv_X11_thrown rfl (tX11_thrown (d + 73) v2 μ708 hN710 k2) k2 (okN hN710 k2 (by decide)).1 (okN hN710 k2 (by decide)).2 cq_11 (by decide) rfl rfl (Nat.le_of_ble_eq_true rfl) (by omega) (by omega) (fun v ν hp => ?_) (fun i ν hp => nrm hp.1)
        obtain ⟨rfl, rfl, hN713, hb714⟩ := QEl hp
        show J _ _ _ _ 2123 _ ([.int (fX11_thrown v2 μ708)]) _ _ _ _
        refine J.iload (pc := 2123) dL_law_2123 1 rfl ?_
        rcases ifc h with ⟨hc, h⟩ | ⟨hc, h⟩
        · refine J.ceq (pc := 2125) (tgt := 2130) dL_law_2125 (by decide) (fun _ => ?_) (fun q => absurd hc q)
          refine J.iload (pc := 2130) dL_law_2130 1 rfl ?_
          rcases ifc h with ⟨hc, h⟩ | ⟨hc, h⟩
          · refine J.zne (pc := 2132) (tgt := 2147) dL_law_2132 (by decide) (fun _ => ?_) (fun q => absurd hc q)
            refine J.aload_n (pc := 2135) dL_law_2135 rfl 5 rfl ?_
            refine J.iconst (pc := 2136) dL_law_2136 ic_0 ?_
            obtain ⟨x715, e716, h⟩ := bnd h
            refine J.aL (pc := 2137) dL_law_2137 k3 (okN hN713 k3 (by decide)) e716 ?_
            refine J.iload (pc := 2138) dL_law_2138 0 rfl ?_
            refine J.i2l (pc := 2140) dL_law_2140 ?_
            rcases ifc h with ⟨hc, h⟩ | ⟨hc, h⟩
            · refine J.meq (pc := 2141) (tgt := 2147) dL_law_2141 dL_law_2142 (by decide) (fun _ => ?_) (fun q => absurd hc q)
              refine J.goto (pc := 2147) (tgt := 2366) dL_law_2147 (by decide) ?_
              refine J.pick [2, 3, 4, 5, 6] rfl ?_
              refine J.room (k' := 4 * n) (n' := 24 * n) (by omega) (by omega) ?_
              exact (tL_law_2366 d (fL_law_23 ω n) ih) v0 v1 v2 v3 v4 μ708 h hN713 k1 k2 k3
            · refine J.meq (pc := 2141) (tgt := 2147) dL_law_2141 dL_law_2142 (by decide) (fun q => absurd q hc) (fun _ => ?_)
              refine J.iconst (pc := 2145) dL_law_2145 ic_0 ?_
              cases h
              exact J.zret (pc := 2146) dL_law_2146 rfl (narB (Or.inl rfl)) ⟨rfl, rfl, hN713, (Or.inl rfl)⟩
          · refine J.zne (pc := 2132) (tgt := 2147) dL_law_2132 (by decide) (fun q => absurd q hc) (fun _ => ?_)
            refine J.goto (pc := 2147) (tgt := 2366) dL_law_2147 (by decide) ?_
            refine J.pick [2, 3, 4, 5, 6] rfl ?_
            refine J.room (k' := 4 * n) (n' := 24 * n) (by omega) (by omega) ?_
            exact (tL_law_2366 d (fL_law_23 ω n) ih) v0 v1 v2 v3 v4 μ708 h hN713 k1 k2 k3
        · refine J.ceq (pc := 2125) (tgt := 2130) dL_law_2125 (by decide) (fun q => absurd q hc) (fun _ => ?_)
          refine J.iconst (pc := 2128) dL_law_2128 ic_0 ?_
          cases h
          exact J.zret (pc := 2129) dL_law_2129 rfl (narB (Or.inl rfl)) ⟨rfl, rfl, hN713, (Or.inl rfl)⟩
      rcases ifc h with ⟨hc, h⟩ | ⟨ns33, h⟩
      · refine J.tableIn (pc := 40) (off := 2110) (tgt := 2150) dL_law_40 (by rw [hc]; decide) (by rw [hc]; decide) (by rw [hc]; decide) (by decide) ?_
        refine J.aload_n (pc := 2150) dL_law_2150 rfl 1 rfl ?_
        refine J.aload_n (pc := 2151) dL_law_2151 rfl 0 rfl ?_
        refine J.iload (pc := 2152) dL_law_2152 4 rfl ?_
        refine J.iconst (pc := 2154) dL_law_2154 ic_1 ?_
        refine J.iadd (pc := 2155) dL_law_2155 ?_
        obtain ⟨x717, e718, h⟩ := bnd h
        refine J.scrLd' (pc := 2156) dL_law_2156 e718 ?_
        refine J.aload_n (pc := 2157) dL_law_2157 rfl 0 rfl ?_
        refine J.iload (pc := 2158) dL_law_2158 4 rfl ?_
        refine J.iconst (pc := 2160) dL_law_2160 ic_2 ?_
        refine J.iadd (pc := 2161) dL_law_2161 ?_
        obtain ⟨x719, e720, h⟩ := bnd h
        refine J.scrLd' (pc := 2162) dL_law_2162 e720 ?_
        refine J.aload_n (pc := 2163) dL_law_2163 rfl 3 rfl ?_
        obtain ⟨⟨r723, μ722⟩, e721, h⟩ := bnd h
        try dsimp only at h
        refine J.callSW (Y := mL_law) (Z := mL_ways) (pc := 2164) (st := []) (k2 := (2 + 4 * n)) (n2 := (12 + 24 * n)) dL_law_2164 ml_RL_223 mo_L_ways ms_L_ways rfl (tL_ways (d + 63) e721 hN k1 k3) (fun i ν hp => nrm hp.1) rfl rfl (Nat.le_of_ble_eq_true rfl) (by omega) (by omega) (fun v ν hp => ?_)
        obtain ⟨rfl, rfl, hN724, hb725⟩ := QEl hp
        show J _ _ _ _ 2167 _ ([.int r723]) _ _ _ _
        refine J.istore (pc := 2167) ([(5, .int r723), (0, .ref 30000), (1, .ref v1), (2, .ref v2), (3, .ref v3), (4, .int v4)]) dL_law_2167 (Nat.le_of_ble_eq_true rfl) rfl ?_
        refine J.aload_n (pc := 2169) dL_law_2169 rfl 3 rfl ?_
        refine J.aload_n (pc := 2170) dL_law_2170 rfl 1 rfl ?_
        refine J.iload (pc := 2171) dL_law_2171 5 rfl ?_
        refine J.iconst (pc := 2173) dL_law_2173 ic_1 ?_
        refine J.iadd (pc := 2174) dL_law_2174 ?_
        obtain ⟨x726, e727, h⟩ := bnd h
        refine J.scrLd' (pc := 2175) dL_law_2175 e727 ?_
        refine J.aload_n (pc := 2176) dL_law_2176 rfl 1 rfl ?_
        refine J.iload (pc := 2177) dL_law_2177 5 rfl ?_
        refine J.iconst (pc := 2179) dL_law_2179 ic_2 ?_
        refine J.iadd (pc := 2180) dL_law_2180 ?_
        obtain ⟨x728, e729, h⟩ := bnd h
        refine J.scrLd' (pc := 2181) dL_law_2181 e729 ?_
        obtain ⟨⟨r732, μ731⟩, e730, h⟩ := bnd h
        try dsimp only at h
        refine J.callV (Y := mL_law) (Z := mX11_ways) (pc := 2182) (st := []) (k2 := (2 + 4 * n)) (n2 := (12 + 24 * n)) dL_law_2182 ml_RL_225 mo_X11_ways mv_X11_ways rfl (tX11_ways (d + 70) e730 hN724 k2) k2 (okN hN724 k2 (by decide)).1 (okN hN724 k2 (by decide)).2 cq_11 (by decide) rfl rfl (Nat.le_of_ble_eq_true rfl) (by omega) (by omega) (fun v ν hp => ?_) (fun i ν hp => nrm hp.1)
        obtain ⟨rfl, rfl, hN733, hb734⟩ := QEl hp
        show J _ _ _ _ 2185 _ ([.int r732]) _ _ _ _
        refine J.istore (pc := 2185) ([(6, .int r732), (5, .int r723), (0, .ref 30000), (1, .ref v1), (2, .ref v2), (3, .ref v3), (4, .int v4)]) dL_law_2185 (Nat.le_of_ble_eq_true rfl) rfl ?_
        refine J.aload_n (pc := 2187) dL_law_2187 rfl 4 rfl ?_
        refine J.callV (Y := mL_law) (Z := mX11_thrown) (pc := 2188) (st := []) (k2 := (2 + 4 * n)) (n2 := (12 + 24 * n)) dL_law_2188 ml_RL_122 mo_X11_thrown mv_X11_thrown rfl (tX11_thrown (d + 73) v2 μ731 hN733 k2) k2 (okN hN733 k2 (by decide)).1 (okN hN733 k2 (by decide)).2 cq_11 (by decide) rfl rfl (Nat.le_of_ble_eq_true rfl) (by omega) (by omega) (fun v ν hp => ?_) (fun i ν hp => nrm hp.1)
        obtain ⟨rfl, rfl, hN736, hb737⟩ := QEl hp
        show J _ _ _ _ 2191 _ ([.int (fX11_thrown v2 μ731)]) _ _ _ _
        refine J.iload (pc := 2191) dL_law_2191 1 rfl ?_
        rcases ifc h with ⟨hc, h⟩ | ⟨hc, h⟩
        · refine J.ceq (pc := 2193) (tgt := 2198) dL_law_2193 (by decide) (fun _ => ?_) (fun q => absurd hc q)
          refine J.iload (pc := 2198) dL_law_2198 1 rfl ?_
          rcases ifc h with ⟨hc, h⟩ | ⟨hc, h⟩
          · refine J.zne (pc := 2200) (tgt := 2215) dL_law_2200 (by decide) (fun _ => ?_) (fun q => absurd hc q)
            refine J.aload_n (pc := 2203) dL_law_2203 rfl 5 rfl ?_
            refine J.iconst (pc := 2204) dL_law_2204 ic_0 ?_
            obtain ⟨x738, e739, h⟩ := bnd h
            refine J.aL (pc := 2205) dL_law_2205 k3 (okN hN736 k3 (by decide)) e739 ?_
            refine J.iload (pc := 2206) dL_law_2206 0 rfl ?_
            refine J.i2l (pc := 2208) dL_law_2208 ?_
            rcases ifc h with ⟨hc, h⟩ | ⟨hc, h⟩
            · refine J.meq (pc := 2209) (tgt := 2215) dL_law_2209 dL_law_2210 (by decide) (fun _ => ?_) (fun q => absurd hc q)
              refine J.goto (pc := 2215) (tgt := 2366) dL_law_2215 (by decide) ?_
              refine J.pick [2, 3, 4, 5, 6] rfl ?_
              refine J.room (k' := 4 * n) (n' := 24 * n) (by omega) (by omega) ?_
              exact (tL_law_2366 d (fL_law_23 ω n) ih) v0 v1 v2 v3 v4 μ731 h hN736 k1 k2 k3
            · refine J.meq (pc := 2209) (tgt := 2215) dL_law_2209 dL_law_2210 (by decide) (fun q => absurd q hc) (fun _ => ?_)
              refine J.iconst (pc := 2213) dL_law_2213 ic_0 ?_
              cases h
              exact J.zret (pc := 2214) dL_law_2214 rfl (narB (Or.inl rfl)) ⟨rfl, rfl, hN736, (Or.inl rfl)⟩
          · refine J.zne (pc := 2200) (tgt := 2215) dL_law_2200 (by decide) (fun q => absurd q hc) (fun _ => ?_)
            refine J.goto (pc := 2215) (tgt := 2366) dL_law_2215 (by decide) ?_
            refine J.pick [2, 3, 4, 5, 6] rfl ?_
            refine J.room (k' := 4 * n) (n' := 24 * n) (by omega) (by omega) ?_
            exact (tL_law_2366 d (fL_law_23 ω n) ih) v0 v1 v2 v3 v4 μ731 h hN736 k1 k2 k3
        · refine J.ceq (pc := 2193) (tgt := 2198) dL_law_2193 (by decide) (fun q => absurd q hc) (fun _ => ?_)
          refine J.iconst (pc := 2196) dL_law_2196 ic_0 ?_
          cases h
          exact J.zret (pc := 2197) dL_law_2197 rfl (narB (Or.inl rfl)) ⟨rfl, rfl, hN736, (Or.inl rfl)⟩
      rcases ifc h with ⟨hc, h⟩ | ⟨ns34, h⟩
      · refine J.tableIn (pc := 40) (off := 2178) (tgt := 2218) dL_law_40 (by rw [hc]; decide) (by rw [hc]; decide) (by rw [hc]; decide) (by decide) ?_
        refine J.aload_n (pc := 2218) dL_law_2218 rfl 1 rfl ?_
        refine J.aload_n (pc := 2219) dL_law_2219 rfl 0 rfl ?_
        refine J.iload (pc := 2220) dL_law_2220 4 rfl ?_
        refine J.iconst (pc := 2222) dL_law_2222 ic_1 ?_
        refine J.iadd (pc := 2223) dL_law_2223 ?_
        obtain ⟨x740, e741, h⟩ := bnd h
        refine J.scrLd' (pc := 2224) dL_law_2224 e741 ?_
        refine J.aload_n (pc := 2225) dL_law_2225 rfl 3 rfl ?_
        obtain ⟨⟨r744, μ743⟩, e742, h⟩ := bnd h
        try dsimp only at h
        refine J.callSW (Y := mL_law) (Z := mL_near) (pc := 2226) (st := []) (k2 := (3 + 4 * n)) (n2 := (18 + 24 * n)) dL_law_2226 ml_RL_226 mo_L_near ms_L_near rfl (tL_near (d + 63) e742 hN k1 k3) (fun i ν hp => nrm hp.1) rfl rfl (Nat.le_of_ble_eq_true rfl) (by omega) (by omega) (fun v ν hp => ?_)
        obtain ⟨rfl, rfl, hN745, hb746⟩ := QEl hp
        show J _ _ _ _ 2229 _ ([.int r744]) _ _ _ _
        refine J.istore (pc := 2229) ([(5, .int r744), (0, .ref 30000), (1, .ref v1), (2, .ref v2), (3, .ref v3), (4, .int v4)]) dL_law_2229 (Nat.le_of_ble_eq_true rfl) rfl ?_
        refine J.aload_n (pc := 2231) dL_law_2231 rfl 3 rfl ?_
        refine J.aload_n (pc := 2232) dL_law_2232 rfl 1 rfl ?_
        refine J.iload (pc := 2233) dL_law_2233 5 rfl ?_
        refine J.iconst (pc := 2235) dL_law_2235 ic_1 ?_
        refine J.iadd (pc := 2236) dL_law_2236 ?_
        obtain ⟨x747, e748, h⟩ := bnd h
        refine J.scrLd' (pc := 2237) dL_law_2237 e748 ?_
        obtain ⟨⟨r751, μ750⟩, e749, h⟩ := bnd h
        try dsimp only at h
        refine J.callV (Y := mL_law) (Z := mX11_near) (pc := 2238) (st := []) (k2 := (3 + 4 * n)) (n2 := (18 + 24 * n)) dL_law_2238 ml_RL_228 mo_X11_near mv_X11_near rfl (tX11_near (d + 70) e749 hN745 k2) k2 (okN hN745 k2 (by decide)).1 (okN hN745 k2 (by decide)).2 cq_11 (by decide) rfl rfl (Nat.le_of_ble_eq_true rfl) (by omega) (by omega) (fun v ν hp => ?_) (fun i ν hp => nrm hp.1)
        obtain ⟨rfl, rfl, hN752, hb753⟩ := QEl hp
        show J _ _ _ _ 2241 _ ([.int r751]) _ _ _ _
        refine J.istore (pc := 2241) ([(6, .int r751), (5, .int r744), (0, .ref 30000), (1, .ref v1), (2, .ref v2), (3, .ref v3), (4, .int v4)]) dL_law_2241 (Nat.le_of_ble_eq_true rfl) rfl ?_
        refine J.aload_n (pc := 2243) dL_law_2243 rfl 4 rfl ?_
        refine J.callV (Y := mL_law) (Z := mX11_thrown) (pc := 2244) (st := []) (k2 := (3 + 4 * n)) (n2 := (18 + 24 * n)) dL_law_2244 ml_RL_122 mo_X11_thrown mv_X11_thrown rfl (tX11_thrown (d + 73) v2 μ750 hN752 k2) k2 (okN hN752 k2 (by decide)).1 (okN hN752 k2 (by decide)).2 cq_11 (by decide) rfl rfl (Nat.le_of_ble_eq_true rfl) (by omega) (by omega) (fun v ν hp => ?_) (fun i ν hp => nrm hp.1)
        obtain ⟨rfl, rfl, hN755, hb756⟩ := QEl hp
        show J _ _ _ _ 2247 _ ([.int (fX11_thrown v2 μ750)]) _ _ _ _
        refine J.iload (pc := 2247) dL_law_2247 1 rfl ?_
        rcases ifc h with ⟨hc, h⟩ | ⟨hc, h⟩
        · refine J.ceq (pc := 2249) (tgt := 2254) dL_law_2249 (by decide) (fun _ => ?_) (fun q => absurd hc q)
          refine J.iload (pc := 2254) dL_law_2254 1 rfl ?_
          rcases ifc h with ⟨hc, h⟩ | ⟨hc, h⟩
          · refine J.zne (pc := 2256) (tgt := 2271) dL_law_2256 (by decide) (fun _ => ?_) (fun q => absurd hc q)
            refine J.aload_n (pc := 2259) dL_law_2259 rfl 5 rfl ?_
            refine J.iconst (pc := 2260) dL_law_2260 ic_0 ?_
            obtain ⟨x757, e758, h⟩ := bnd h
            refine J.aL (pc := 2261) dL_law_2261 k3 (okN hN755 k3 (by decide)) e758 ?_
            refine J.iload (pc := 2262) dL_law_2262 0 rfl ?_
            refine J.i2l (pc := 2264) dL_law_2264 ?_
            rcases ifc h with ⟨hc, h⟩ | ⟨hc, h⟩
            · refine J.meq (pc := 2265) (tgt := 2271) dL_law_2265 dL_law_2266 (by decide) (fun _ => ?_) (fun q => absurd hc q)
              refine J.goto (pc := 2271) (tgt := 2366) dL_law_2271 (by decide) ?_
              refine J.pick [2, 3, 4, 5, 6] rfl ?_
              refine J.room (k' := 4 * n) (n' := 24 * n) (by omega) (by omega) ?_
              exact (tL_law_2366 d (fL_law_23 ω n) ih) v0 v1 v2 v3 v4 μ750 h hN755 k1 k2 k3
            · refine J.meq (pc := 2265) (tgt := 2271) dL_law_2265 dL_law_2266 (by decide) (fun q => absurd q hc) (fun _ => ?_)
              refine J.iconst (pc := 2269) dL_law_2269 ic_0 ?_
              cases h
              exact J.zret (pc := 2270) dL_law_2270 rfl (narB (Or.inl rfl)) ⟨rfl, rfl, hN755, (Or.inl rfl)⟩
          · refine J.zne (pc := 2256) (tgt := 2271) dL_law_2256 (by decide) (fun q => absurd q hc) (fun _ => ?_)
            refine J.goto (pc := 2271) (tgt := 2366) dL_law_2271 (by decide) ?_
            refine J.pick [2, 3, 4, 5, 6] rfl ?_
            refine J.room (k' := 4 * n) (n' := 24 * n) (by omega) (by omega) ?_
            exact (tL_law_2366 d (fL_law_23 ω n) ih) v0 v1 v2 v3 v4 μ750 h hN755 k1 k2 k3
        · refine J.ceq (pc := 2249) (tgt := 2254) dL_law_2249 (by decide) (fun q => absurd q hc) (fun _ => ?_)
          refine J.iconst (pc := 2252) dL_law_2252 ic_0 ?_
          cases h
          exact J.zret (pc := 2253) dL_law_2253 rfl (narB (Or.inl rfl)) ⟨rfl, rfl, hN755, (Or.inl rfl)⟩
      rcases ifc h with ⟨hc, h⟩ | ⟨ns35, h⟩
      · refine J.tableIn (pc := 40) (off := 2234) (tgt := 2274) dL_law_40 (by rw [hc]; decide) (by rw [hc]; decide) (by rw [hc]; decide) (by decide) ?_
        refine J.aload_n (pc := 2274) dL_law_2274 rfl 1 rfl ?_
        refine J.aload_n (pc := 2275) dL_law_2275 rfl 0 rfl ?_
        refine J.iload (pc := 2276) dL_law_2276 4 rfl ?_
        refine J.iconst (pc := 2278) dL_law_2278 ic_1 ?_
        refine J.iadd (pc := 2279) dL_law_2279 ?_
        obtain ⟨x759, e760, h⟩ := bnd h
        refine J.scrLd' (pc := 2280) dL_law_2280 e760 ?_
        refine J.aload_n (pc := 2281) dL_law_2281 rfl 0 rfl ?_
        refine J.iload (pc := 2282) dL_law_2282 4 rfl ?_
        refine J.iconst (pc := 2284) dL_law_2284 ic_2 ?_
        refine J.iadd (pc := 2285) dL_law_2285 ?_
        obtain ⟨x761, e762, h⟩ := bnd h
        refine J.scrLd' (pc := 2286) dL_law_2286 e762 ?_
        refine J.aload_n (pc := 2287) dL_law_2287 rfl 3 rfl ?_
        obtain ⟨⟨r765, μ764⟩, e763, h⟩ := bnd h
        try dsimp only at h
        refine J.callSW (Y := mL_law) (Z := mL_gone) (pc := 2288) (st := []) (k2 := (2 + 4 * n)) (n2 := (12 + 24 * n)) dL_law_2288 ml_RL_229 mo_L_gone ms_L_gone rfl (tL_gone (d + 63) e763 hN k1 k3) (fun i ν hp => nrm hp.1) rfl rfl (Nat.le_of_ble_eq_true rfl) (by omega) (by omega) (fun v ν hp => ?_)
        obtain ⟨rfl, rfl, hN766, hb767⟩ := QEl hp
        show J _ _ _ _ 2291 _ ([.int r765]) _ _ _ _
        refine J.istore (pc := 2291) ([(5, .int r765), (0, .ref 30000), (1, .ref v1), (2, .ref v2), (3, .ref v3), (4, .int v4)]) dL_law_2291 (Nat.le_of_ble_eq_true rfl) rfl ?_
        refine J.aload_n (pc := 2293) dL_law_2293 rfl 3 rfl ?_
        refine J.aload_n (pc := 2294) dL_law_2294 rfl 1 rfl ?_
        refine J.iload (pc := 2295) dL_law_2295 5 rfl ?_
        refine J.iconst (pc := 2297) dL_law_2297 ic_1 ?_
        refine J.iadd (pc := 2298) dL_law_2298 ?_
        obtain ⟨x768, e769, h⟩ := bnd h
        refine J.scrLd' (pc := 2299) dL_law_2299 e769 ?_
        refine J.aload_n (pc := 2300) dL_law_2300 rfl 1 rfl ?_
        refine J.iload (pc := 2301) dL_law_2301 5 rfl ?_
        refine J.iconst (pc := 2303) dL_law_2303 ic_2 ?_
        refine J.iadd (pc := 2304) dL_law_2304 ?_
        obtain ⟨x770, e771, h⟩ := bnd h
        refine J.scrLd' (pc := 2305) dL_law_2305 e771 ?_
        obtain ⟨⟨r774, μ773⟩, e772, h⟩ := bnd h
        try dsimp only at h
        refine J.callV (Y := mL_law) (Z := mX11_gone) (pc := 2306) (st := []) (k2 := (2 + 4 * n)) (n2 := (12 + 24 * n)) dL_law_2306 ml_RL_231 mo_X11_gone mv_X11_gone rfl (tX11_gone (d + 68) e772 hN766 k2) k2 (okN hN766 k2 (by decide)).1 (okN hN766 k2 (by decide)).2 cq_11 (by decide) rfl rfl (Nat.le_of_ble_eq_true rfl) (by omega) (by omega) (fun v ν hp => ?_) (fun i ν hp => nrm hp.1)
        obtain ⟨rfl, rfl, hN775, hb776⟩ := QEl hp
        show J _ _ _ _ 2309 _ ([.int r774]) _ _ _ _
        refine J.istore (pc := 2309) ([(6, .int r774), (5, .int r765), (0, .ref 30000), (1, .ref v1), (2, .ref v2), (3, .ref v3), (4, .int v4)]) dL_law_2309 (Nat.le_of_ble_eq_true rfl) rfl ?_
        refine J.aload_n (pc := 2311) dL_law_2311 rfl 4 rfl ?_
        refine J.callV (Y := mL_law) (Z := mX11_thrown) (pc := 2312) (st := []) (k2 := (2 + 4 * n)) (n2 := (12 + 24 * n)) dL_law_2312 ml_RL_122 mo_X11_thrown mv_X11_thrown rfl (tX11_thrown (d + 73) v2 μ773 hN775 k2) k2 (okN hN775 k2 (by decide)).1 (okN hN775 k2 (by decide)).2 cq_11 (by decide) rfl rfl (Nat.le_of_ble_eq_true rfl) (by omega) (by omega) (fun v ν hp => ?_) (fun i ν hp => nrm hp.1)
        obtain ⟨rfl, rfl, hN778, hb779⟩ := QEl hp
        show J _ _ _ _ 2315 _ ([.int (fX11_thrown v2 μ773)]) _ _ _ _
        refine J.iload (pc := 2315) dL_law_2315 1 rfl ?_
        rcases ifc h with ⟨hc, h⟩ | ⟨hc, h⟩
        · refine J.ceq (pc := 2317) (tgt := 2322) dL_law_2317 (by decide) (fun _ => ?_) (fun q => absurd hc q)
          refine J.iload (pc := 2322) dL_law_2322 1 rfl ?_
          rcases ifc h with ⟨hc, h⟩ | ⟨hc, h⟩
          · refine J.zne (pc := 2324) (tgt := 2339) dL_law_2324 (by decide) (fun _ => ?_) (fun q => absurd hc q)
            refine J.aload_n (pc := 2327) dL_law_2327 rfl 5 rfl ?_
            refine J.iconst (pc := 2328) dL_law_2328 ic_0 ?_
            obtain ⟨x780, e781, h⟩ := bnd h
            refine J.aL (pc := 2329) dL_law_2329 k3 (okN hN778 k3 (by decide)) e781 ?_
            refine J.iload (pc := 2330) dL_law_2330 0 rfl ?_
            refine J.i2l (pc := 2332) dL_law_2332 ?_
            rcases ifc h with ⟨hc, h⟩ | ⟨hc, h⟩
            · refine J.meq (pc := 2333) (tgt := 2339) dL_law_2333 dL_law_2334 (by decide) (fun _ => ?_) (fun q => absurd hc q)
              refine J.goto (pc := 2339) (tgt := 2366) dL_law_2339 (by decide) ?_
              refine J.pick [2, 3, 4, 5, 6] rfl ?_
              refine J.room (k' := 4 * n) (n' := 24 * n) (by omega) (by omega) ?_
              exact (tL_law_2366 d (fL_law_23 ω n) ih) v0 v1 v2 v3 v4 μ773 h hN778 k1 k2 k3
            · refine J.meq (pc := 2333) (tgt := 2339) dL_law_2333 dL_law_2334 (by decide) (fun q => absurd q hc) (fun _ => ?_)
              refine J.iconst (pc := 2337) dL_law_2337 ic_0 ?_
              cases h
              exact J.zret (pc := 2338) dL_law_2338 rfl (narB (Or.inl rfl)) ⟨rfl, rfl, hN778, (Or.inl rfl)⟩
          · refine J.zne (pc := 2324) (tgt := 2339) dL_law_2324 (by decide) (fun q => absurd q hc) (fun _ => ?_)
            refine J.goto (pc := 2339) (tgt := 2366) dL_law_2339 (by decide) ?_
            refine J.pick [2, 3, 4, 5, 6] rfl ?_
            refine J.room (k' := 4 * n) (n' := 24 * n) (by omega) (by omega) ?_
            exact (tL_law_2366 d (fL_law_23 ω n) ih) v0 v1 v2 v3 v4 μ773 h hN778 k1 k2 k3
        · refine J.ceq (pc := 2317) (tgt := 2322) dL_law_2317 (by decide) (fun q => absurd q hc) (fun _ => ?_)
          refine J.iconst (pc := 2320) dL_law_2320 ic_0 ?_
          cases h
          exact J.zret (pc := 2321) dL_law_2321 rfl (narB (Or.inl rfl)) ⟨rfl, rfl, hN778, (Or.inl rfl)⟩
      rcases ifc h with ⟨hc, h⟩ | ⟨ns36, h⟩
      · refine J.tableIn (pc := 40) (off := 2302) (tgt := 2342) dL_law_40 (by rw [hc]; decide) (by rw [hc]; decide) (by rw [hc]; decide) (by decide) ?_
        refine J.aload_n (pc := 2342) dL_law_2342 rfl 1 rfl ?_
        obtain ⟨μ783, e782, h⟩ := bnd h
        refine J.callV (Y := mL_law) (Z := mX10_image) (pc := 2343) (st := []) (k2 := (4 + 4 * n)) (n2 := (24 + 24 * n)) dL_law_2343 ml_RL_232 mo_X10_image mv_X10_image rfl (tX10_image (d + 70) e782 hN k1) k1 (okN hN k1 (by decide)).1 (okN hN k1 (by decide)).2 cq_10 (by decide) rfl rfl (Nat.le_of_ble_eq_true rfl) (by omega) (by omega) (fun v ν hp => ?_) (fun i ν hp => nrm hp.1)
        obtain ⟨rfl, rfl, hN784, hb785⟩ := QEl hp
        show J _ _ _ _ 2346 _ ([]) _ _ _ _
        refine J.aload_n (pc := 2346) dL_law_2346 rfl 2 rfl ?_
        obtain ⟨μ787, e786, h⟩ := bnd h
        refine J.callV (Y := mL_law) (Z := mX11_image) (pc := 2347) (st := []) (k2 := (4 + 4 * n)) (n2 := (24 + 24 * n)) dL_law_2347 ml_RL_235 mo_X11_image mv_X11_image rfl (tX11_image (d + 72) e786 hN784 k2) k2 (okN hN784 k2 (by decide)).1 (okN hN784 k2 (by decide)).2 cq_11 (by decide) rfl rfl (Nat.le_of_ble_eq_true rfl) (by omega) (by omega) (fun v ν hp => ?_) (fun i ν hp => nrm hp.1)
        obtain ⟨rfl, rfl, hN788, hb789⟩ := QEl hp
        show J _ _ _ _ 2350 _ ([]) _ _ _ _
        refine J.goto (pc := 2350) (tgt := 2366) dL_law_2350 (by decide) ?_
        refine J.room (k' := 4 * n) (n' := 24 * n) (by omega) (by omega) ?_
        exact (tL_law_2366 d (fL_law_23 ω n) ih) v0 v1 v2 v3 v4 μ787 h hN788 k1 k2 k3
      rcases ifc h with ⟨hc, h⟩ | ⟨ns37, h⟩
      · refine J.tableIn (pc := 40) (off := 2313) (tgt := 2353) dL_law_40 (by rw [hc]; decide) (by rw [hc]; decide) (by rw [hc]; decide) (by decide) ?_
        refine J.aload_n (pc := 2353) dL_law_2353 rfl 1 rfl ?_
        obtain ⟨⟨r792, μ791⟩, e790, h⟩ := bnd h
        try dsimp only at h
        refine J.callV (Y := mL_law) (Z := mX10_restore) (pc := 2354) (st := []) (k2 := (4 + 4 * n)) (n2 := (24 + 24 * n)) dL_law_2354 ml_RL_236 mo_X10_restore mv_X10_restore rfl (tX10_restore (d + 70) e790 hN k1) k1 (okN hN k1 (by decide)).1 (okN hN k1 (by decide)).2 cq_10 (by decide) rfl rfl (Nat.le_of_ble_eq_true rfl) (by omega) (by omega) (fun v ν hp => ?_) (fun i ν hp => nrm hp.1)
        obtain ⟨rfl, rfl, hN793, hb794⟩ := QEl hp
        show J _ _ _ _ 2357 _ ([.int r792]) _ _ _ _
        refine J.aload_n (pc := 2357) dL_law_2357 rfl 2 rfl ?_
        obtain ⟨⟨r797, μ796⟩, e795, h⟩ := bnd h
        try dsimp only at h
        refine J.callV (Y := mL_law) (Z := mX11_restore) (pc := 2358) (st := [.int r792]) (k2 := (4 + 4 * n)) (n2 := (24 + 24 * n)) dL_law_2358 ml_RL_240 mo_X11_restore mv_X11_restore rfl (tX11_restore (d + 72) e795 hN793 k2) k2 (okN hN793 k2 (by decide)).1 (okN hN793 k2 (by decide)).2 cq_11 (by decide) rfl rfl (Nat.le_of_ble_eq_true rfl) (by omega) (by omega) (fun v ν hp => ?_) (fun i ν hp => nrm hp.1)
        obtain ⟨rfl, rfl, hN798, hb799⟩ := QEl hp
        show J _ _ _ _ 2361 _ ([.int r797, .int r792]) _ _ _ _
        rcases ifc h with ⟨hc, h⟩ | ⟨hc, h⟩
        · refine J.ceq (pc := 2361) (tgt := 2366) dL_law_2361 (by decide) (fun _ => ?_) (fun q => absurd hc q)
          refine J.room (k' := 4 * n) (n' := 24 * n) (by omega) (by omega) ?_
          exact (tL_law_2366 d (fL_law_23 ω n) ih) v0 v1 v2 v3 v4 μ796 h hN798 k1 k2 k3
        · refine J.ceq (pc := 2361) (tgt := 2366) dL_law_2361 (by decide) (fun q => absurd q hc) (fun _ => ?_)
          refine J.iconst (pc := 2364) dL_law_2364 ic_0 ?_
          cases h
          exact J.zret (pc := 2365) dL_law_2365 rfl (narB (Or.inl rfl)) ⟨rfl, rfl, hN798, (Or.inl rfl)⟩
      refine J.tableOut (pc := 40) (tgt := 2366) dL_law_40 (sw_out (vs := [(0 : Int32), (1 : Int32), (2 : Int32), (3 : Int32), (4 : Int32), (5 : Int32), (6 : Int32), (7 : Int32), (8 : Int32), (9 : Int32), (10 : Int32), (11 : Int32), (12 : Int32), (13 : Int32), (14 : Int32), (15 : Int32), (16 : Int32), (17 : Int32), (18 : Int32), (19 : Int32), (20 : Int32), (21 : Int32), (22 : Int32), (23 : Int32), (24 : Int32), (25 : Int32), (26 : Int32), (27 : Int32), (28 : Int32), (29 : Int32), (30 : Int32), (31 : Int32), (32 : Int32), (33 : Int32), (34 : Int32), (35 : Int32), (36 : Int32)]) (List.forall_mem_cons.mpr ⟨ns1, (List.forall_mem_cons.mpr ⟨ns2, (List.forall_mem_cons.mpr ⟨ns3, (List.forall_mem_cons.mpr ⟨ns4, (List.forall_mem_cons.mpr ⟨ns5, (List.forall_mem_cons.mpr ⟨ns6, (List.forall_mem_cons.mpr ⟨ns7, (List.forall_mem_cons.mpr ⟨ns8, (List.forall_mem_cons.mpr ⟨ns9, (List.forall_mem_cons.mpr ⟨ns10, (List.forall_mem_cons.mpr ⟨ns11, (List.forall_mem_cons.mpr ⟨ns12, (List.forall_mem_cons.mpr ⟨ns13, (List.forall_mem_cons.mpr ⟨ns14, (List.forall_mem_cons.mpr ⟨ns15, (List.forall_mem_cons.mpr ⟨ns16, (List.forall_mem_cons.mpr ⟨ns17, (List.forall_mem_cons.mpr ⟨ns18, (List.forall_mem_cons.mpr ⟨ns19, (List.forall_mem_cons.mpr ⟨ns20, (List.forall_mem_cons.mpr ⟨ns21, (List.forall_mem_cons.mpr ⟨ns22, (List.forall_mem_cons.mpr ⟨ns23, (List.forall_mem_cons.mpr ⟨ns24, (List.forall_mem_cons.mpr ⟨ns25, (List.forall_mem_cons.mpr ⟨ns26, (List.forall_mem_cons.mpr ⟨ns27, (List.forall_mem_cons.mpr ⟨ns28, (List.forall_mem_cons.mpr ⟨ns29, (List.forall_mem_cons.mpr ⟨ns30, (List.forall_mem_cons.mpr ⟨ns31, (List.forall_mem_cons.mpr ⟨ns32, (List.forall_mem_cons.mpr ⟨ns33, (List.forall_mem_cons.mpr ⟨ns34, (List.forall_mem_cons.mpr ⟨ns35, (List.forall_mem_cons.mpr ⟨ns36, (List.forall_mem_cons.mpr ⟨ns37, (fun _ q => nomatch q)⟩)⟩)⟩)⟩)⟩)⟩)⟩)⟩)⟩)⟩)⟩)⟩)⟩)⟩)⟩)⟩)⟩)⟩)⟩)⟩)⟩)⟩)⟩)⟩)⟩)⟩)⟩)⟩)⟩)⟩)⟩)⟩)⟩)⟩)⟩)⟩)⟩) (sw_hv (by decide))) (by decide) ?_
      refine J.room (k' := 4 * n) (n' := 24 * n) (by omega) (by omega) ?_
      exact (tL_law_2366 d (fL_law_23 ω n) ih) v0 v1 v2 v3 v4 μ h hN k1 k2 k3
