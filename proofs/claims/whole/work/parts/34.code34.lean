def f_X12_isSignByte (x0 : Int32) : Option Int32 :=
  (if x0 = (nI 58) then
    some (nI 1)
  else
    (if x0 = (nI 59) then
      some (nI 1)
    else
      (if x0 = (nI 60) then
        some (nI 1)
      else
        (if x0 = (nI 62) then
          some (nI 1)
        else
          (if x0 = (nI 61) then
            some (nI 1)
          else
            some (nI 0))))))
theorem c_X12_isSignByte {G : pG} {d : Nat} {N : pN} {I : pI} {L : pL} {P : pR} {x0 : Int32} {qq : Int32} (hd : 0 ≤ d) (hW : WT N P) (hf : f_X12_isSignByte x0 = some qq) : MT G mX12_isSignByte d 0 0 [.int x0] N I L P (p_R (some (.int qq)) N I L P) := by
  refine MT.of rfl (Nat.le_of_ble_eq_true rfl) ?_
  show SW G mX12_isSignByte (p_rm d 0 0) 0 0 0 0 (p_R (some (.int qq)) N I L P) 0 [(0, .int x0)] [] N I L P
  unfold f_X12_isSignByte at hf
  refine s_iload_n (pc := 0) dX12_isSignByte_0 0 rfl rfl ?_
  refine s_bipush (pc := 1) dX12_isSignByte_1 (v := nI 58) rfl ?_
  refine s_icmp_eq (pc := 3) (tgt := 30) dX12_isSignByte_3 rfl (fun hc => ?_) (fun hc => ?_)
  · replace hf := p_ps hf hc
    refine s_iconst (pc := 30) dX12_isSignByte_30 (v := nI 1) rfl ?_
    refine s_goto (pc := 31) (tgt := 35) dX12_isSignByte_31 rfl ?_
    cases hf
    exact s_ireturn (pc := 35) dX12_isSignByte_35 rfl rfl ⟨rfl, rfl, rfl, rfl, rfl⟩
  · replace hf := p_ng hf hc
    refine s_iload_n (pc := 6) dX12_isSignByte_6 0 rfl rfl ?_
    refine s_bipush (pc := 7) dX12_isSignByte_7 (v := nI 59) rfl ?_
    refine s_icmp_eq (pc := 9) (tgt := 30) dX12_isSignByte_9 rfl (fun hc => ?_) (fun hc => ?_)
    · replace hf := p_ps hf hc
      refine s_iconst (pc := 30) dX12_isSignByte_30 (v := nI 1) rfl ?_
      refine s_goto (pc := 31) (tgt := 35) dX12_isSignByte_31 rfl ?_
      cases hf
      exact s_ireturn (pc := 35) dX12_isSignByte_35 rfl rfl ⟨rfl, rfl, rfl, rfl, rfl⟩
    · replace hf := p_ng hf hc
      refine s_iload_n (pc := 12) dX12_isSignByte_12 0 rfl rfl ?_
      refine s_bipush (pc := 13) dX12_isSignByte_13 (v := nI 60) rfl ?_
      refine s_icmp_eq (pc := 15) (tgt := 30) dX12_isSignByte_15 rfl (fun hc => ?_) (fun hc => ?_)
      · replace hf := p_ps hf hc
        refine s_iconst (pc := 30) dX12_isSignByte_30 (v := nI 1) rfl ?_
        refine s_goto (pc := 31) (tgt := 35) dX12_isSignByte_31 rfl ?_
        cases hf
        exact s_ireturn (pc := 35) dX12_isSignByte_35 rfl rfl ⟨rfl, rfl, rfl, rfl, rfl⟩
      · replace hf := p_ng hf hc
        refine s_iload_n (pc := 18) dX12_isSignByte_18 0 rfl rfl ?_
        refine s_bipush (pc := 19) dX12_isSignByte_19 (v := nI 62) rfl ?_
        refine s_icmp_eq (pc := 21) (tgt := 30) dX12_isSignByte_21 rfl (fun hc => ?_) (fun hc => ?_)
        · replace hf := p_ps hf hc
          refine s_iconst (pc := 30) dX12_isSignByte_30 (v := nI 1) rfl ?_
          refine s_goto (pc := 31) (tgt := 35) dX12_isSignByte_31 rfl ?_
          cases hf
          exact s_ireturn (pc := 35) dX12_isSignByte_35 rfl rfl ⟨rfl, rfl, rfl, rfl, rfl⟩
        · replace hf := p_ng hf hc
          refine s_iload_n (pc := 24) dX12_isSignByte_24 0 rfl rfl ?_
          refine s_bipush (pc := 25) dX12_isSignByte_25 (v := nI 61) rfl ?_
          refine s_icmp_ne (pc := 27) (tgt := 34) dX12_isSignByte_27 rfl (fun hc => ?_) (fun hc => ?_)
          · replace hf := p_ng hf hc
            refine s_iconst (pc := 34) dX12_isSignByte_34 (v := nI 0) rfl ?_
            cases hf
            exact s_ireturn (pc := 35) dX12_isSignByte_35 rfl rfl ⟨rfl, rfl, rfl, rfl, rfl⟩
          · replace hf := p_ps hf hc
            refine s_iconst (pc := 30) dX12_isSignByte_30 (v := nI 1) rfl ?_
            refine s_goto (pc := 31) (tgt := 35) dX12_isSignByte_31 rfl ?_
            cases hf
            exact s_ireturn (pc := 35) dX12_isSignByte_35 rfl rfl ⟨rfl, rfl, rfl, rfl, rfl⟩
def B_X12_advance_0 (N : pN) (P : pR) (a0 : Nat) (rec0 : pI → Option pI) (s0 : pI) : Option pI :=
  Option.bind (f_X12_byteAt N s0 P a0 (s0 a0 29)) fun q3 =>
  (if q3 = (nI 10) then
    p_let (p_u s0 a0 29 ((s0 a0 29) + (nI 1))) fun I5 =>
    rec0 I5
  else
    Option.bind (f_X12_byteAt N s0 P a0 (s0 a0 29)) fun q7 =>
    (if q7 = (nI 32) then
      p_let (p_u s0 a0 29 ((s0 a0 29) + (nI 1))) fun I9 =>
      rec0 I9
    else
      some s0))
def B_X12_advance_198 (N : pN) (P : pR) (a0 : Nat) (rec0 : pI → Option pI) (s0 : pI) : Option pI :=
  Option.bind (f_X12_byteAt N s0 P a0 (s0 a0 29)) fun q42 =>
  Option.bind (f_X12_isDigit q42) fun q44 =>
  (if q44 = 0 then
    some s0
  else
    Option.bind (α := pI) ((if (nI 4) ≤ ((s0 a0 29) - (s0 a0 30)) then
      some s0
    else
      Option.bind (f_X12_byteAt N s0 P a0 (s0 a0 29)) fun q48 =>
      p_let (p_u s0 a0 32 ((((nI 10) * (s0 a0 32)) + q48) - (nI 48))) fun I50 =>
      some I50)) fun t46 =>
    p_let (p_u t46 a0 29 ((t46 a0 29) + (nI 1))) fun I52 =>
    rec0 I52)
def B_X12_advance_77 (N : pN) (P : pR) (a0 : Nat) (rec0 : (Int64 × pI) → Option (Int64 × pI)) (s0 : Int64 × pI) : Option (Int64 × pI) :=
  Option.bind (f_X12_byteAt N s0.2 P a0 (s0.2 a0 29)) fun q73 =>
  Option.bind (f_X12_isLetter q73) fun q75 =>
  (if q75 = 0 then
    some (s0.1, s0.2)
  else
    Option.bind (α := Int64) ((if (nI 7) ≤ ((s0.2 a0 29) - (s0.2 a0 30)) then
      some s0.1
    else
      Option.bind (f_X12_byteAt N s0.2 P a0 (s0.2 a0 29)) fun q79 =>
      p_let (((32 * s0.1) + (Int32.toInt64 q79)) - 96) fun v81 =>
      some v81)) fun t77 =>
    p_let (p_u s0.2 a0 29 ((s0.2 a0 29) + (nI 1))) fun I83 =>
    rec0 (t77, I83))
def f_X12_advance (n : Nat) (N : pN) (I : pI) (P : pR) (a0 : Nat) : Option pI :=
  Option.bind (p_it (B_X12_advance_0 N P a0) n I) fun t1 =>
  p_let (p_u t1 a0 30 (t1 a0 29)) fun I20 =>
  Option.bind (f_X12_byteAt N I20 P a0 (I20 a0 29)) fun q22 =>
  (if 0 ≤ q22 then
    Option.bind (f_X12_isLetter q22) fun q24 =>
    (if q24 = 0 then
      Option.bind (f_X12_isDigit q22) fun q26 =>
      (if q26 = 0 then
        p_let (p_u I20 a0 29 ((I20 a0 29) + (nI 1))) fun I28 =>
        p_let (p_u I28 a0 33 q22) fun I30 =>
        Option.bind (f_X12_isSignByte q22) fun q32 =>
        (if q32 = 0 then
          p_let (p_u I30 a0 31 (nI 4)) fun I34 =>
          some I34
        else
          p_let (p_u I30 a0 31 (nI 2)) fun I36 =>
          some I36)
      else
        p_let (p_u I20 a0 32 (nI 0)) fun I38 =>
        Option.bind (p_it (B_X12_advance_198 N P a0) n I38) fun t40 =>
        p_let (α := Int32) ((if ((t40 a0 29) - (t40 a0 30)) ≤ (nI 4) then
          nI 1
        else
          nI 4)) fun t67 =>
        p_let (p_u t40 a0 31 t67) fun I69 =>
        some I69)
    else
      Option.bind (p_it (B_X12_advance_77 N P a0) n (0, I20)) fun t71 =>
      Option.bind (α := Int32) ((if ((t71.2 a0 29) - (t71.2 a0 30)) ≤ (nI 6) then
        Option.bind (f_X12_wordOf t71.1) fun q100 =>
        some q100
      else
        some (nI 99))) fun t98 =>
      p_let (p_u t71.2 a0 34 t98) fun I102 =>
      p_let (α := Int32) ((if (I102 a0 34) = (nI 99) then
        nI 4
      else
        nI 3)) fun t104 =>
      p_let (p_u I102 a0 31 t104) fun I106 =>
      some I106)
  else
    p_let (p_u I20 a0 31 (nI 0)) fun I108 =>
    some I108)
theorem c_X12_advance {G : pG} {d : Nat} {n : Nat} {N : pN} {I : pI} {L : pL} {P : pR} {a0 : Nat} {qq : pI} (hd : 3 ≤ d) (hW : WT N P) (ha0 : p_tp N a0 15) (hf : f_X12_advance n N I P a0 = some qq) : MT G mX12_advance d 0 0 [.ref a0] N I L P (p_R none N qq L P) := by
  refine MT.of rfl (Nat.le_of_ble_eq_true rfl) ?_
  show SW G mX12_advance (p_rm d 0 0) 0 0 0 0 (p_R none N qq L P) 0 [(0, .ref a0)] [] N I L P
  unfold f_X12_advance at hf
  obtain ⟨t1, hg, hf⟩ := p_bd hf
  have k2 : SW G mX12_advance (p_rm d 0 0) 0 0 0 0 (p_R none N qq L P) 39 [(0, .ref a0)] [] N t1 L P := by
    refine s_aload_n (pc := 39) dX12_advance_39 0 rfl rfl ?_
    refine s_aload_n (pc := 40) dX12_advance_40 0 rfl rfl ?_
    refine x_getI (pc := 41) dX12_advance_41 fl_X12_320 rfl ha0 ?_
    refine x_putI (pc := 44) dX12_advance_44 fl_X12_327 (Or.inl rfl) rfl ha0 ?_
    refine s_nmI (fun I20 e21 => ?_)
    replace hf := p_lx hf e21
    refine s_aload_n (pc := 47) dX12_advance_47 0 rfl rfl ?_
    refine s_aload_n (pc := 48) dX12_advance_48 0 rfl rfl ?_
    refine x_getI (pc := 49) dX12_advance_49 fl_X12_320 rfl ha0 ?_
    obtain ⟨q22, h23, hf⟩ := p_bd hf
    refine y_callV1 (pc := 52) dX12_advance_52 (c_X12_byteAt (p_dd hd (by decide)) hW ha0 h23) mk_X12_byteAt mv_X12_byteAt ml_X12_323 rfl rfl (Nat.le_of_ble_eq_true rfl) ha0 rfl (p_d1 hd (by decide)) (Nat.le_of_ble_eq_true rfl) ?_
    refine s_istore_n (pc := 55) (lo' := [(1, .int q22), (0, .ref a0)]) dX12_advance_55 rfl (Nat.le_of_ble_eq_true rfl) rfl ?_
    refine s_iload_n (pc := 56) dX12_advance_56 0 rfl rfl ?_
    refine s_if_ge (pc := 57) (tgt := 68) dX12_advance_57 rfl (fun hc => ?_) (fun hc => ?_)
    · replace hf := p_ps hf hc
      refine s_iload_n (pc := 68) dX12_advance_68 0 rfl rfl ?_
      obtain ⟨q24, h25, hf⟩ := p_bd hf
      refine y_callS1 (pc := 69) dX12_advance_69 (c_X12_isLetter (p_dd hd (by decide)) hW  h25) mk_X12_isLetter mz_X12_isLetter ml_X12_333 rfl rfl (Nat.le_of_ble_eq_true rfl) (p_d1 hd (by decide)) (Nat.le_of_ble_eq_true rfl) ?_
      refine s_if_eq (pc := 72) (tgt := 186) dX12_advance_72 rfl (fun hc => ?_) (fun hc => ?_)
      · replace hf := p_ps hf hc
        refine s_iload_n (pc := 186) dX12_advance_186 0 rfl rfl ?_
        obtain ⟨q26, h27, hf⟩ := p_bd hf
        refine y_callS1 (pc := 187) dX12_advance_187 (c_X12_isDigit (p_dd hd (by decide)) hW  h27) mk_X12_isDigit mz_X12_isDigit ml_X12_342 rfl rfl (Nat.le_of_ble_eq_true rfl) (p_d1 hd (by decide)) (Nat.le_of_ble_eq_true rfl) ?_
        refine s_if_eq (pc := 190) (tgt := 286) dX12_advance_190 rfl (fun hc => ?_) (fun hc => ?_)
        · replace hf := p_ps hf hc
          refine s_aload_n (pc := 286) dX12_advance_286 1 rfl rfl ?_
          refine s_dup (pc := 287) dX12_advance_287 rfl ?_
          refine x_getI (pc := 288) dX12_advance_288 fl_X12_320 rfl ha0 ?_
          refine s_iconst (pc := 291) dX12_advance_291 (v := nI 1) rfl ?_
          refine s_iadd (pc := 292) dX12_advance_292 ?_
          refine x_putI (pc := 293) dX12_advance_293 fl_X12_320 (Or.inl rfl) rfl ha0 ?_
          refine s_nmI (fun I28 e29 => ?_)
          replace hf := p_lx hf e29
          refine s_aload_n (pc := 296) dX12_advance_296 1 rfl rfl ?_
          refine s_iload_n (pc := 297) dX12_advance_297 0 rfl rfl ?_
          refine x_putI (pc := 298) dX12_advance_298 fl_X12_348 (Or.inl rfl) rfl ha0 ?_
          refine s_nmI (fun I30 e31 => ?_)
          replace hf := p_lx hf e31
          refine s_aload_n (pc := 301) dX12_advance_301 1 rfl rfl ?_
          refine s_iload_n (pc := 302) dX12_advance_302 0 rfl rfl ?_
          obtain ⟨q32, h33, hf⟩ := p_bd hf
          refine y_callS1 (pc := 303) dX12_advance_303 (c_X12_isSignByte (p_dd hd (by decide)) hW  h33) mk_X12_isSignByte mz_X12_isSignByte ml_X12_351 rfl rfl (Nat.le_of_ble_eq_true rfl) (p_d1 hd (by decide)) (Nat.le_of_ble_eq_true rfl) ?_
          refine s_if_eq (pc := 306) (tgt := 313) dX12_advance_306 rfl (fun hc => ?_) (fun hc => ?_)
          · replace hf := p_ps hf hc
            refine s_iconst (pc := 313) dX12_advance_313 (v := nI 4) rfl ?_
            refine x_putI (pc := 314) dX12_advance_314 fl_X12_330 (Or.inl rfl) rfl ha0 ?_
            refine s_nmI (fun I34 e35 => ?_)
            replace hf := p_lx hf e35
            cases hf
            exact s_return (pc := 317) dX12_advance_317 rfl ⟨rfl, rfl, rfl, rfl, rfl⟩
          · replace hf := p_ng hf hc
            refine s_iconst (pc := 309) dX12_advance_309 (v := nI 2) rfl ?_
            refine s_goto (pc := 310) (tgt := 314) dX12_advance_310 rfl ?_
            refine x_putI (pc := 314) dX12_advance_314 fl_X12_330 (Or.inl rfl) rfl ha0 ?_
            refine s_nmI (fun I36 e37 => ?_)
            replace hf := p_lx hf e37
            cases hf
            exact s_return (pc := 317) dX12_advance_317 rfl ⟨rfl, rfl, rfl, rfl, rfl⟩
        · replace hf := p_ng hf hc
          refine s_aload_n (pc := 193) dX12_advance_193 1 rfl rfl ?_
          refine s_iconst (pc := 194) dX12_advance_194 (v := nI 0) rfl ?_
          refine x_putI (pc := 195) dX12_advance_195 fl_X12_345 (Or.inl rfl) rfl ha0 ?_
          refine s_nmI (fun I38 e39 => ?_)
          replace hf := p_lx hf e39
          obtain ⟨t40, hg, hf⟩ := p_bd hf
          have k41 : SW G mX12_advance (p_rm d 0 0) 0 0 0 0 (p_R none N qq L P) 261 [(0, .ref a0)] [] N t40 L P := by
            refine s_aload_n (pc := 261) dX12_advance_261 0 rfl rfl ?_
            refine s_aload_n (pc := 262) dX12_advance_262 0 rfl rfl ?_
            refine x_getI (pc := 263) dX12_advance_263 fl_X12_320 rfl ha0 ?_
            refine s_aload_n (pc := 266) dX12_advance_266 0 rfl rfl ?_
            refine x_getI (pc := 267) dX12_advance_267 fl_X12_327 rfl ha0 ?_
            refine s_isub (pc := 270) dX12_advance_270 ?_
            refine s_iconst (pc := 271) dX12_advance_271 (v := nI 4) rfl ?_
            obtain ⟨t67, hg, hf⟩ := p_lx2 hf
            have k68 : SW G mX12_advance (p_rm d 0 0) 0 0 0 0 (p_R none N qq L P) 280 [] [.int t67, .ref a0] N t40 L P := by
              refine x_putI (pc := 280) dX12_advance_280 fl_X12_330 (Or.inl rfl) rfl ha0 ?_
              refine s_nmI (fun I69 e70 => ?_)
              replace hf := p_lx hf e70
              refine s_goto (pc := 283) (tgt := 317) dX12_advance_283 rfl ?_
              cases hf
              exact s_return (pc := 317) dX12_advance_317 rfl ⟨rfl, rfl, rfl, rfl, rfl⟩
            replace hf := hg.symm
            refine s_icmp_le (pc := 272) (tgt := 279) dX12_advance_272 rfl (fun hc => ?_) (fun hc => ?_)
            · replace hf := p_ps hf hc
              refine s_iconst (pc := 279) dX12_advance_279 (v := nI 1) rfl ?_
              cases hf
              exact s_lo [] rfl (k68)
            · replace hf := p_ng hf hc
              refine s_iconst (pc := 275) dX12_advance_275 (v := nI 4) rfl ?_
              refine s_goto (pc := 276) (tgt := 280) dX12_advance_276 rfl ?_
              cases hf
              exact s_lo [] rfl (k68)
          replace hf := hg
          have k54 : ∀ (k : Nat) (s0 : pI), p_it (B_X12_advance_198 N P a0) k s0 = some t40 → (SW G mX12_advance (p_rm d 0 0) 0 0 0 0 (p_R none N qq L P) 198 [(0, .ref a0)] [] N s0 L P) := p_it_ind (C := fun (s0 : pI) => SW G mX12_advance (p_rm d 0 0) 0 0 0 0 (p_R none N qq L P) 198 [(0, .ref a0)] [] N s0 L P) (by
            intro rec0 hrec0 s0 hf
            unfold B_X12_advance_198 at hf
            refine s_aload_n (pc := 198) dX12_advance_198 0 rfl rfl ?_
            refine s_aload_n (pc := 199) dX12_advance_199 0 rfl rfl ?_
            refine x_getI (pc := 200) dX12_advance_200 fl_X12_320 rfl ha0 ?_
            obtain ⟨q55, h56, hf⟩ := p_bd hf
            refine y_callV1 (pc := 203) dX12_advance_203 (c_X12_byteAt (p_dd hd (by decide)) hW ha0 h56) mk_X12_byteAt mv_X12_byteAt ml_X12_323 rfl rfl (Nat.le_of_ble_eq_true rfl) ha0 rfl (p_d1 hd (by decide)) (Nat.le_of_ble_eq_true rfl) ?_
            obtain ⟨q57, h58, hf⟩ := p_bd hf
            refine y_callS1 (pc := 206) dX12_advance_206 (c_X12_isDigit (p_dd hd (by decide)) hW  h58) mk_X12_isDigit mz_X12_isDigit ml_X12_342 rfl rfl (Nat.le_of_ble_eq_true rfl) (p_d1 hd (by decide)) (Nat.le_of_ble_eq_true rfl) ?_
            refine s_if_eq (pc := 209) (tgt := 261) dX12_advance_209 rfl (fun hc => ?_) (fun hc => ?_)
            · replace hf := p_ps hf hc
              cases hf
              exact s_lo [0] rfl (k41)
            · replace hf := p_ng hf hc
              refine s_aload_n (pc := 212) dX12_advance_212 0 rfl rfl ?_
              refine x_getI (pc := 213) dX12_advance_213 fl_X12_320 rfl ha0 ?_
              refine s_aload_n (pc := 216) dX12_advance_216 0 rfl rfl ?_
              refine x_getI (pc := 217) dX12_advance_217 fl_X12_327 rfl ha0 ?_
              refine s_isub (pc := 220) dX12_advance_220 ?_
              refine s_iconst (pc := 221) dX12_advance_221 (v := nI 4) rfl ?_
              obtain ⟨t59, hg, hf⟩ := p_bd hf
              have k60 : SW G mX12_advance (p_rm d 0 0) 0 0 0 0 (p_R none N qq L P) 248 [(0, .ref a0)] [] N t59 L P := by
                refine s_aload_n (pc := 248) dX12_advance_248 0 rfl rfl ?_
                refine s_dup (pc := 249) dX12_advance_249 rfl ?_
                refine x_getI (pc := 250) dX12_advance_250 fl_X12_320 rfl ha0 ?_
                refine s_iconst (pc := 253) dX12_advance_253 (v := nI 1) rfl ?_
                refine s_iadd (pc := 254) dX12_advance_254 ?_
                refine x_putI (pc := 255) dX12_advance_255 fl_X12_320 (Or.inl rfl) rfl ha0 ?_
                refine s_nmI (fun I65 e66 => ?_)
                replace hf := p_lx hf e66
                refine s_goto (pc := 258) (tgt := 198) dX12_advance_258 rfl ?_
                exact s_lo [0] rfl (hrec0 I65 hf)
              replace hf := hg
              refine s_icmp_ge (pc := 222) (tgt := 248) dX12_advance_222 rfl (fun hc => ?_) (fun hc => ?_)
              · replace hf := p_ps hf hc
                cases hf
                exact s_lo [0] rfl (k60)
              · replace hf := p_ng hf hc
                refine s_aload_n (pc := 225) dX12_advance_225 0 rfl rfl ?_
                refine s_bipush (pc := 226) dX12_advance_226 (v := nI 10) rfl ?_
                refine s_aload_n (pc := 228) dX12_advance_228 0 rfl rfl ?_
                refine x_getI (pc := 229) dX12_advance_229 fl_X12_345 rfl ha0 ?_
                refine s_imul (pc := 232) dX12_advance_232 ?_
                refine s_aload_n (pc := 233) dX12_advance_233 0 rfl rfl ?_
                refine s_aload_n (pc := 234) dX12_advance_234 0 rfl rfl ?_
                refine x_getI (pc := 235) dX12_advance_235 fl_X12_320 rfl ha0 ?_
                obtain ⟨q61, h62, hf⟩ := p_bd hf
                refine y_callV1 (pc := 238) dX12_advance_238 (c_X12_byteAt (p_dd hd (by decide)) hW ha0 h62) mk_X12_byteAt mv_X12_byteAt ml_X12_323 rfl rfl (Nat.le_of_ble_eq_true rfl) ha0 rfl (p_d1 hd (by decide)) (Nat.le_of_ble_eq_true rfl) ?_
                refine s_iadd (pc := 241) dX12_advance_241 ?_
                refine s_bipush (pc := 242) dX12_advance_242 (v := nI 48) rfl ?_
                refine s_isub (pc := 244) dX12_advance_244 ?_
                refine x_putI (pc := 245) dX12_advance_245 fl_X12_345 (Or.inl rfl) rfl ha0 ?_
                refine s_nmI (fun I63 e64 => ?_)
                replace hf := p_lx hf e64
                cases hf
                exact s_lo [0] rfl (k60))
          exact s_lo [1] rfl (k54 n I38 hf)
      · replace hf := p_ng hf hc
        refine s_lconst (pc := 75) dX12_advance_75 (v := 0) rfl ?_
        refine s_lstore_n (pc := 76) (lo' := [(2, .long 0), (1, .int q22), (0, .ref a0)]) dX12_advance_76 rfl (Nat.le_of_ble_eq_true rfl) rfl ?_
        obtain ⟨t71, hg, hf⟩ := p_bd hf
        have k72 : SW G mX12_advance (p_rm d 0 0) 0 0 0 0 (p_R none N qq L P) 138 [(0, .ref a0), (2, .long t71.1)] [] N t71.2 L P := by
          refine s_aload_n (pc := 138) dX12_advance_138 0 rfl rfl ?_
          refine s_aload_n (pc := 139) dX12_advance_139 0 rfl rfl ?_
          refine x_getI (pc := 140) dX12_advance_140 fl_X12_320 rfl ha0 ?_
          refine s_aload_n (pc := 143) dX12_advance_143 0 rfl rfl ?_
          refine x_getI (pc := 144) dX12_advance_144 fl_X12_327 rfl ha0 ?_
          refine s_isub (pc := 147) dX12_advance_147 ?_
          refine s_bipush (pc := 148) dX12_advance_148 (v := nI 6) rfl ?_
          obtain ⟨t98, hg, hf⟩ := p_bd hf
          have k99 : SW G mX12_advance (p_rm d 0 0) 0 0 0 0 (p_R none N qq L P) 162 [(0, .ref a0)] [.int t98, .ref a0] N t71.2 L P := by
            refine x_putI (pc := 162) dX12_advance_162 fl_X12_339 (Or.inl rfl) rfl ha0 ?_
            refine s_nmI (fun I102 e103 => ?_)
            replace hf := p_lx hf e103
            refine s_aload_n (pc := 165) dX12_advance_165 0 rfl rfl ?_
            refine s_aload_n (pc := 166) dX12_advance_166 0 rfl rfl ?_
            refine x_getI (pc := 167) dX12_advance_167 fl_X12_339 rfl ha0 ?_
            refine s_bipush (pc := 170) dX12_advance_170 (v := nI 99) rfl ?_
            obtain ⟨t104, hg, hf⟩ := p_lx2 hf
            have k105 : SW G mX12_advance (p_rm d 0 0) 0 0 0 0 (p_R none N qq L P) 180 [] [.int t104, .ref a0] N I102 L P := by
              refine x_putI (pc := 180) dX12_advance_180 fl_X12_330 (Or.inl rfl) rfl ha0 ?_
              refine s_nmI (fun I106 e107 => ?_)
              replace hf := p_lx hf e107
              refine s_goto (pc := 183) (tgt := 317) dX12_advance_183 rfl ?_
              cases hf
              exact s_return (pc := 317) dX12_advance_317 rfl ⟨rfl, rfl, rfl, rfl, rfl⟩
            replace hf := hg.symm
            refine s_icmp_ne (pc := 172) (tgt := 179) dX12_advance_172 rfl (fun hc => ?_) (fun hc => ?_)
            · replace hf := p_ng hf hc
              refine s_iconst (pc := 179) dX12_advance_179 (v := nI 3) rfl ?_
              cases hf
              exact s_lo [] rfl (k105)
            · replace hf := p_ps hf hc
              refine s_iconst (pc := 175) dX12_advance_175 (v := nI 4) rfl ?_
              refine s_goto (pc := 176) (tgt := 180) dX12_advance_176 rfl ?_
              cases hf
              exact s_lo [] rfl (k105)
          replace hf := hg
          refine s_icmp_le (pc := 150) (tgt := 158) dX12_advance_150 rfl (fun hc => ?_) (fun hc => ?_)
          · replace hf := p_ps hf hc
            refine s_lload_n (pc := 158) dX12_advance_158 1 rfl rfl ?_
            obtain ⟨q100, h101, hf⟩ := p_bd hf
            refine y_callS1 (pc := 159) dX12_advance_159 (c_X12_wordOf (p_dd hd (by decide)) hW  h101) mk_X12_wordOf mz_X12_wordOf ml_X12_336 rfl rfl (Nat.le_of_ble_eq_true rfl) (p_d1 hd (by decide)) (Nat.le_of_ble_eq_true rfl) ?_
            cases hf
            exact s_lo [0] rfl (k99)
          · replace hf := p_ng hf hc
            refine s_bipush (pc := 153) dX12_advance_153 (v := nI 99) rfl ?_
            refine s_goto (pc := 155) (tgt := 162) dX12_advance_155 rfl ?_
            cases hf
            exact s_lo [0] rfl (k99)
        replace hf := hg
        have k85 : ∀ (k : Nat) (s0 : Int64 × pI), p_it (B_X12_advance_77 N P a0) k s0 = some t71 → (SW G mX12_advance (p_rm d 0 0) 0 0 0 0 (p_R none N qq L P) 77 [(0, .ref a0), (2, .long s0.1)] [] N s0.2 L P) := p_it_ind (C := fun (s0 : Int64 × pI) => SW G mX12_advance (p_rm d 0 0) 0 0 0 0 (p_R none N qq L P) 77 [(0, .ref a0), (2, .long s0.1)] [] N s0.2 L P) (by
          intro rec0 hrec0 s0 hf
          unfold B_X12_advance_77 at hf
          refine s_aload_n (pc := 77) dX12_advance_77 0 rfl rfl ?_
          refine s_aload_n (pc := 78) dX12_advance_78 0 rfl rfl ?_
          refine x_getI (pc := 79) dX12_advance_79 fl_X12_320 rfl ha0 ?_
          obtain ⟨q86, h87, hf⟩ := p_bd hf
          refine y_callV1 (pc := 82) dX12_advance_82 (c_X12_byteAt (p_dd hd (by decide)) hW ha0 h87) mk_X12_byteAt mv_X12_byteAt ml_X12_323 rfl rfl (Nat.le_of_ble_eq_true rfl) ha0 rfl (p_d1 hd (by decide)) (Nat.le_of_ble_eq_true rfl) ?_
          obtain ⟨q88, h89, hf⟩ := p_bd hf
          refine y_callS1 (pc := 85) dX12_advance_85 (c_X12_isLetter (p_dd hd (by decide)) hW  h89) mk_X12_isLetter mz_X12_isLetter ml_X12_333 rfl rfl (Nat.le_of_ble_eq_true rfl) (p_d1 hd (by decide)) (Nat.le_of_ble_eq_true rfl) ?_
          refine s_if_eq (pc := 88) (tgt := 138) dX12_advance_88 rfl (fun hc => ?_) (fun hc => ?_)
          · replace hf := p_ps hf hc
            cases hf
            exact s_lo [0, 1] rfl (k72)
          · replace hf := p_ng hf hc
            refine s_aload_n (pc := 91) dX12_advance_91 0 rfl rfl ?_
            refine x_getI (pc := 92) dX12_advance_92 fl_X12_320 rfl ha0 ?_
            refine s_aload_n (pc := 95) dX12_advance_95 0 rfl rfl ?_
            refine x_getI (pc := 96) dX12_advance_96 fl_X12_327 rfl ha0 ?_
            refine s_isub (pc := 99) dX12_advance_99 ?_
            refine s_bipush (pc := 100) dX12_advance_100 (v := nI 7) rfl ?_
            obtain ⟨t90, hg, hf⟩ := p_bd hf
            have k91 : SW G mX12_advance (p_rm d 0 0) 0 0 0 0 (p_R none N qq L P) 125 [(0, .ref a0), (2, .long t90)] [] N s0.2 L P := by
              refine s_aload_n (pc := 125) dX12_advance_125 0 rfl rfl ?_
              refine s_dup (pc := 126) dX12_advance_126 rfl ?_
              refine x_getI (pc := 127) dX12_advance_127 fl_X12_320 rfl ha0 ?_
              refine s_iconst (pc := 130) dX12_advance_130 (v := nI 1) rfl ?_
              refine s_iadd (pc := 131) dX12_advance_131 ?_
              refine x_putI (pc := 132) dX12_advance_132 fl_X12_320 (Or.inl rfl) rfl ha0 ?_
              refine s_nmI (fun I96 e97 => ?_)
              replace hf := p_lx hf e97
              refine s_goto (pc := 135) (tgt := 77) dX12_advance_135 rfl ?_
              exact s_lo [0, 1] rfl (hrec0 (t90, I96) hf)
            replace hf := hg
            refine s_icmp_ge (pc := 102) (tgt := 125) dX12_advance_102 rfl (fun hc => ?_) (fun hc => ?_)
            · replace hf := p_ps hf hc
              cases hf
              exact s_lo [0, 1] rfl (k91)
            · replace hf := p_ng hf hc
              refine s_ldc2 (pc := 105) kl_X12_296 dX12_advance_105 ?_
              refine s_lload_n (pc := 108) dX12_advance_108 1 rfl rfl ?_
              refine s_lmul (pc := 109) dX12_advance_109 ?_
              refine s_aload_n (pc := 110) dX12_advance_110 0 rfl rfl ?_
              refine s_aload_n (pc := 111) dX12_advance_111 0 rfl rfl ?_
              refine x_getI (pc := 112) dX12_advance_112 fl_X12_320 rfl ha0 ?_
              obtain ⟨q92, h93, hf⟩ := p_bd hf
              refine y_callV1 (pc := 115) dX12_advance_115 (c_X12_byteAt (p_dd hd (by decide)) hW ha0 h93) mk_X12_byteAt mv_X12_byteAt ml_X12_323 rfl rfl (Nat.le_of_ble_eq_true rfl) ha0 rfl (p_d1 hd (by decide)) (Nat.le_of_ble_eq_true rfl) ?_
              refine s_i2l (pc := 118) dX12_advance_118 ?_
              refine s_ladd (pc := 119) dX12_advance_119 ?_
              refine s_ldc2 (pc := 120) kl_X12_298 dX12_advance_120 ?_
              refine s_lsub (pc := 123) dX12_advance_123 ?_
              refine s_topl (fun v94 e95 => ?_)
              replace hf := p_lx hf e95
              refine s_lstore_n (pc := 124) (lo' := [(2, .long v94), (0, .ref a0)]) dX12_advance_124 rfl (Nat.le_of_ble_eq_true rfl) rfl ?_
              cases hf
              exact s_lo [1, 0] rfl (k91))
        exact s_lo [2, 0] rfl (k85 n (0, I20) hf)
    · replace hf := p_ng hf hc
      refine s_aload_n (pc := 60) dX12_advance_60 1 rfl rfl ?_
      refine s_iconst (pc := 61) dX12_advance_61 (v := nI 0) rfl ?_
      refine x_putI (pc := 62) dX12_advance_62 fl_X12_330 (Or.inl rfl) rfl ha0 ?_
      refine s_nmI (fun I108 e109 => ?_)
      replace hf := p_lx hf e109
      refine s_goto (pc := 65) (tgt := 317) dX12_advance_65 rfl ?_
      cases hf
      exact s_return (pc := 317) dX12_advance_317 rfl ⟨rfl, rfl, rfl, rfl, rfl⟩
  replace hf := hg
  have k11 : ∀ (k : Nat) (s0 : pI), p_it (B_X12_advance_0 N P a0) k s0 = some t1 → (SW G mX12_advance (p_rm d 0 0) 0 0 0 0 (p_R none N qq L P) 0 [(0, .ref a0)] [] N s0 L P) := p_it_ind (C := fun (s0 : pI) => SW G mX12_advance (p_rm d 0 0) 0 0 0 0 (p_R none N qq L P) 0 [(0, .ref a0)] [] N s0 L P) (by
    intro rec0 hrec0 s0 hf
    unfold B_X12_advance_0 at hf
    refine s_aload_n (pc := 0) dX12_advance_0 0 rfl rfl ?_
    refine s_aload_n (pc := 1) dX12_advance_1 0 rfl rfl ?_
    refine x_getI (pc := 2) dX12_advance_2 fl_X12_320 rfl ha0 ?_
    obtain ⟨q12, h13, hf⟩ := p_bd hf
    refine y_callV1 (pc := 5) dX12_advance_5 (c_X12_byteAt (p_dd hd (by decide)) hW ha0 h13) mk_X12_byteAt mv_X12_byteAt ml_X12_323 rfl rfl (Nat.le_of_ble_eq_true rfl) ha0 rfl (p_d1 hd (by decide)) (Nat.le_of_ble_eq_true rfl) ?_
    refine s_bipush (pc := 8) dX12_advance_8 (v := nI 10) rfl ?_
    refine s_icmp_eq (pc := 10) (tgt := 26) dX12_advance_10 rfl (fun hc => ?_) (fun hc => ?_)
    · replace hf := p_ps hf hc
      refine s_aload_n (pc := 26) dX12_advance_26 0 rfl rfl ?_
      refine s_dup (pc := 27) dX12_advance_27 rfl ?_
      refine x_getI (pc := 28) dX12_advance_28 fl_X12_320 rfl ha0 ?_
      refine s_iconst (pc := 31) dX12_advance_31 (v := nI 1) rfl ?_
      refine s_iadd (pc := 32) dX12_advance_32 ?_
      refine x_putI (pc := 33) dX12_advance_33 fl_X12_320 (Or.inl rfl) rfl ha0 ?_
      refine s_nmI (fun I14 e15 => ?_)
      replace hf := p_lx hf e15
      refine s_goto (pc := 36) (tgt := 0) dX12_advance_36 rfl ?_
      exact s_lo [0] rfl (hrec0 I14 hf)
    · replace hf := p_ng hf hc
      refine s_aload_n (pc := 13) dX12_advance_13 0 rfl rfl ?_
      refine s_aload_n (pc := 14) dX12_advance_14 0 rfl rfl ?_
      refine x_getI (pc := 15) dX12_advance_15 fl_X12_320 rfl ha0 ?_
      obtain ⟨q16, h17, hf⟩ := p_bd hf
      refine y_callV1 (pc := 18) dX12_advance_18 (c_X12_byteAt (p_dd hd (by decide)) hW ha0 h17) mk_X12_byteAt mv_X12_byteAt ml_X12_323 rfl rfl (Nat.le_of_ble_eq_true rfl) ha0 rfl (p_d1 hd (by decide)) (Nat.le_of_ble_eq_true rfl) ?_
      refine s_bipush (pc := 21) dX12_advance_21 (v := nI 32) rfl ?_
      refine s_icmp_ne (pc := 23) (tgt := 39) dX12_advance_23 rfl (fun hc => ?_) (fun hc => ?_)
      · replace hf := p_ng hf hc
        cases hf
        exact s_lo [0] rfl (k2)
      · replace hf := p_ps hf hc
        refine s_aload_n (pc := 26) dX12_advance_26 0 rfl rfl ?_
        refine s_dup (pc := 27) dX12_advance_27 rfl ?_
        refine x_getI (pc := 28) dX12_advance_28 fl_X12_320 rfl ha0 ?_
        refine s_iconst (pc := 31) dX12_advance_31 (v := nI 1) rfl ?_
        refine s_iadd (pc := 32) dX12_advance_32 ?_
        refine x_putI (pc := 33) dX12_advance_33 fl_X12_320 (Or.inl rfl) rfl ha0 ?_
        refine s_nmI (fun I18 e19 => ?_)
        replace hf := p_lx hf e19
        refine s_goto (pc := 36) (tgt := 0) dX12_advance_36 rfl ?_
        exact s_lo [0] rfl (hrec0 I18 hf))
  exact s_lo [0] rfl (k11 n I hf)
def f_X12_stops (N : pN) (I : pI) (P : pR) (a0 : Nat) : Option pI :=
  (if (I a0 35) = 0 then
    p_let (p_u I a0 35 (nI 1)) fun I1 =>
    Option.bind (P a0 0) fun q3 =>
    p_ck (p_ib N q3 (nI 9)) <|
    p_let (p_u I1 q3 (Int32.toNatClampNeg (nI 9)) (nI 1)) fun I7 =>
    Option.bind (P a0 0) fun q9 =>
    p_ck (p_ib N q9 (nI 10)) <|
    p_let (p_u I7 q9 (Int32.toNatClampNeg (nI 10)) (I7 a0 30)) fun I13 =>
    some I13
  else
    some I)
theorem c_X12_stops {G : pG} {d : Nat} {N : pN} {I : pI} {L : pL} {P : pR} {a0 : Nat} {qq : pI} (hd : 0 ≤ d) (hW : WT N P) (ha0 : p_tp N a0 15) (hf : f_X12_stops N I P a0 = some qq) : MT G mX12_stops d 0 0 [.ref a0] N I L P (p_R none N qq L P) := by
  refine MT.of rfl (Nat.le_of_ble_eq_true rfl) ?_
  show SW G mX12_stops (p_rm d 0 0) 0 0 0 0 (p_R none N qq L P) 0 [(0, .ref a0)] [] N I L P
  unfold f_X12_stops at hf
  refine s_aload_n (pc := 0) dX12_stops_0 0 rfl rfl ?_
  refine x_getI (pc := 1) dX12_stops_1 fl_X12_354 rfl ha0 ?_
  refine s_if_eq (pc := 4) (tgt := 8) dX12_stops_4 rfl (fun hc => ?_) (fun hc => ?_)
  · replace hf := p_ps hf hc
    refine s_aload_n (pc := 8) dX12_stops_8 0 rfl rfl ?_
    refine s_iconst (pc := 9) dX12_stops_9 (v := nI 1) rfl ?_
    refine x_putZ (pc := 10) dX12_stops_10 fl_X12_354 (Or.inl rfl) rfl (by decide) ha0 ?_
    refine s_nmI (fun I1 e2 => ?_)
    replace hf := p_lx hf e2
    refine s_aload_n (pc := 13) dX12_stops_13 0 rfl rfl ?_
    obtain ⟨q3, h4, hf⟩ := p_bd hf
    have t5 : p_tp N q3 0 := WT.get hW ha0 h4
    refine x_getR (pc := 14) dX12_stops_14 fl_X12_7 rfl ha0 h4 ?_
    refine s_bipush (pc := 17) dX12_stops_17 (v := nI 9) rfl ?_
    refine s_iconst (pc := 19) dX12_stops_19 (v := nI 1) rfl ?_
    obtain ⟨c6, hf⟩ := p_ckx hf
    refine x_iast (pc := 20) dX12_stops_20 t5 c6 ?_
    refine s_nmI (fun I7 e8 => ?_)
    replace hf := p_lx hf e8
    refine s_aload_n (pc := 21) dX12_stops_21 0 rfl rfl ?_
    obtain ⟨q9, h10, hf⟩ := p_bd hf
    have t11 : p_tp N q9 0 := WT.get hW ha0 h10
    refine x_getR (pc := 22) dX12_stops_22 fl_X12_7 rfl ha0 h10 ?_
    refine s_bipush (pc := 25) dX12_stops_25 (v := nI 10) rfl ?_
    refine s_aload_n (pc := 27) dX12_stops_27 0 rfl rfl ?_
    refine x_getI (pc := 28) dX12_stops_28 fl_X12_327 rfl ha0 ?_
    obtain ⟨c12, hf⟩ := p_ckx hf
    refine x_iast (pc := 31) dX12_stops_31 t11 c12 ?_
    refine s_nmI (fun I13 e14 => ?_)
    replace hf := p_lx hf e14
    cases hf
    exact s_return (pc := 32) dX12_stops_32 rfl ⟨rfl, rfl, rfl, rfl, rfl⟩
  · replace hf := p_ng hf hc
    cases hf
    exact s_return (pc := 7) dX12_stops_7 rfl ⟨rfl, rfl, rfl, rfl, rfl⟩
def f_X12_also (N : pN) (I : pI) (P : pR) (a0 : Nat) (x1 : Int32) (x2 : Int32) : Option pI :=
  (if (I a0 35) = 0 then
    Option.bind (P a0 0) fun q1 =>
    p_ck (p_ib N q1 (nI 9)) <|
    (if (I q1 (Int32.toNatClampNeg (nI 9))) = 0 then
      Option.bind (P a0 0) fun q5 =>
      p_ck (p_ib N q5 (nI 9)) <|
      p_let (p_u I q5 (Int32.toNatClampNeg (nI 9)) x1) fun I9 =>
      Option.bind (P a0 0) fun q11 =>
      p_ck (p_ib N q11 (nI 10)) <|
      p_let (p_u I9 q11 (Int32.toNatClampNeg (nI 10)) x2) fun I15 =>
      some I15
    else
      Option.bind (P a0 0) fun q17 =>
      p_ck (p_ib N q17 (nI 10)) <|
      (if (I q17 (Int32.toNatClampNeg (nI 10))) < x2 then
        some I
      else
        Option.bind (P a0 0) fun q21 =>
        p_ck (p_ib N q21 (nI 10)) <|
        (if (I q21 (Int32.toNatClampNeg (nI 10))) = x2 then
          Option.bind (P a0 0) fun q37 =>
          p_ck (p_ib N q37 (nI 9)) <|
          (if x1 < (I q37 (Int32.toNatClampNeg (nI 9))) then
            Option.bind (P a0 0) fun q41 =>
            p_ck (p_ib N q41 (nI 9)) <|
            p_let (p_u I q41 (Int32.toNatClampNeg (nI 9)) x1) fun I45 =>
            Option.bind (P a0 0) fun q47 =>
            p_ck (p_ib N q47 (nI 10)) <|
            p_let (p_u I45 q47 (Int32.toNatClampNeg (nI 10)) x2) fun I51 =>
            some I51
          else
            some I)
        else
          Option.bind (P a0 0) fun q25 =>
          p_ck (p_ib N q25 (nI 9)) <|
          p_let (p_u I q25 (Int32.toNatClampNeg (nI 9)) x1) fun I29 =>
          Option.bind (P a0 0) fun q31 =>
          p_ck (p_ib N q31 (nI 10)) <|
          p_let (p_u I29 q31 (Int32.toNatClampNeg (nI 10)) x2) fun I35 =>
          some I35)))
  else
    some I)
theorem c_X12_also {G : pG} {d : Nat} {N : pN} {I : pI} {L : pL} {P : pR} {a0 : Nat} {x1 : Int32} {x2 : Int32} {qq : pI} (hd : 0 ≤ d) (hW : WT N P) (ha0 : p_tp N a0 15) (hf : f_X12_also N I P a0 x1 x2 = some qq) : MT G mX12_also d 0 0 [.ref a0, .int x1, .int x2] N I L P (p_R none N qq L P) := by
  refine MT.of rfl (Nat.le_of_ble_eq_true rfl) ?_
  show SW G mX12_also (p_rm d 0 0) 0 0 0 0 (p_R none N qq L P) 0 [(0, .ref a0), (1, .int x1), (2, .int x2)] [] N I L P
  unfold f_X12_also at hf
  refine s_aload_n (pc := 0) dX12_also_0 0 rfl rfl ?_
  refine x_getI (pc := 1) dX12_also_1 fl_X12_354 rfl ha0 ?_
  refine s_if_ne (pc := 4) (tgt := 50) dX12_also_4 rfl (fun hc => ?_) (fun hc => ?_)
  · replace hf := p_ng hf hc
    cases hf
    exact s_return (pc := 50) dX12_also_50 rfl ⟨rfl, rfl, rfl, rfl, rfl⟩
  · replace hf := p_ps hf hc
    refine s_aload_n (pc := 7) dX12_also_7 0 rfl rfl ?_
    obtain ⟨q1, h2, hf⟩ := p_bd hf
    have t3 : p_tp N q1 0 := WT.get hW ha0 h2
    refine x_getR (pc := 8) dX12_also_8 fl_X12_7 rfl ha0 h2 ?_
    refine s_bipush (pc := 11) dX12_also_11 (v := nI 9) rfl ?_
    obtain ⟨c4, hf⟩ := p_ckx hf
    refine x_iald (pc := 13) dX12_also_13 t3 c4 ?_
    refine s_if_eq (pc := 14) (tgt := 51) dX12_also_14 rfl (fun hc => ?_) (fun hc => ?_)
    · replace hf := p_ps hf hc
      refine s_aload_n (pc := 51) dX12_also_51 0 rfl rfl ?_
      obtain ⟨q5, h6, hf⟩ := p_bd hf
      have t7 : p_tp N q5 0 := WT.get hW ha0 h6
      refine x_getR (pc := 52) dX12_also_52 fl_X12_7 rfl ha0 h6 ?_
      refine s_bipush (pc := 55) dX12_also_55 (v := nI 9) rfl ?_
      refine s_iload_n (pc := 57) dX12_also_57 1 rfl rfl ?_
      obtain ⟨c8, hf⟩ := p_ckx hf
      refine x_iast (pc := 58) dX12_also_58 t7 c8 ?_
      refine s_nmI (fun I9 e10 => ?_)
      replace hf := p_lx hf e10
      refine s_aload_n (pc := 59) dX12_also_59 0 rfl rfl ?_
      obtain ⟨q11, h12, hf⟩ := p_bd hf
      have t13 : p_tp N q11 0 := WT.get hW ha0 h12
      refine x_getR (pc := 60) dX12_also_60 fl_X12_7 rfl ha0 h12 ?_
      refine s_bipush (pc := 63) dX12_also_63 (v := nI 10) rfl ?_
      refine s_iload_n (pc := 65) dX12_also_65 2 rfl rfl ?_
      obtain ⟨c14, hf⟩ := p_ckx hf
      refine x_iast (pc := 66) dX12_also_66 t13 c14 ?_
      refine s_nmI (fun I15 e16 => ?_)
      replace hf := p_lx hf e16
      cases hf
      exact s_return (pc := 67) dX12_also_67 rfl ⟨rfl, rfl, rfl, rfl, rfl⟩
    · replace hf := p_ng hf hc
      refine s_aload_n (pc := 17) dX12_also_17 0 rfl rfl ?_
      obtain ⟨q17, h18, hf⟩ := p_bd hf
      have t19 : p_tp N q17 0 := WT.get hW ha0 h18
      refine x_getR (pc := 18) dX12_also_18 fl_X12_7 rfl ha0 h18 ?_
      refine s_bipush (pc := 21) dX12_also_21 (v := nI 10) rfl ?_
      obtain ⟨c20, hf⟩ := p_ckx hf
      refine x_iald (pc := 23) dX12_also_23 t19 c20 ?_
      refine s_iload_n (pc := 24) dX12_also_24 2 rfl rfl ?_
      refine s_icmp_lt (pc := 25) (tgt := 50) dX12_also_25 rfl (fun hc => ?_) (fun hc => ?_)
      · replace hf := p_ps hf hc
        cases hf
        exact s_return (pc := 50) dX12_also_50 rfl ⟨rfl, rfl, rfl, rfl, rfl⟩
      · replace hf := p_ng hf hc
        refine s_aload_n (pc := 28) dX12_also_28 0 rfl rfl ?_
        obtain ⟨q21, h22, hf⟩ := p_bd hf
        have t23 : p_tp N q21 0 := WT.get hW ha0 h22
        refine x_getR (pc := 29) dX12_also_29 fl_X12_7 rfl ha0 h22 ?_
        refine s_bipush (pc := 32) dX12_also_32 (v := nI 10) rfl ?_
        obtain ⟨c24, hf⟩ := p_ckx hf
        refine x_iald (pc := 34) dX12_also_34 t23 c24 ?_
        refine s_iload_n (pc := 35) dX12_also_35 2 rfl rfl ?_
        refine s_icmp_ne (pc := 36) (tgt := 51) dX12_also_36 rfl (fun hc => ?_) (fun hc => ?_)
        · replace hf := p_ng hf hc
          refine s_aload_n (pc := 51) dX12_also_51 0 rfl rfl ?_
          obtain ⟨q25, h26, hf⟩ := p_bd hf
          have t27 : p_tp N q25 0 := WT.get hW ha0 h26
          refine x_getR (pc := 52) dX12_also_52 fl_X12_7 rfl ha0 h26 ?_
          refine s_bipush (pc := 55) dX12_also_55 (v := nI 9) rfl ?_
          refine s_iload_n (pc := 57) dX12_also_57 1 rfl rfl ?_
          obtain ⟨c28, hf⟩ := p_ckx hf
          refine x_iast (pc := 58) dX12_also_58 t27 c28 ?_
          refine s_nmI (fun I29 e30 => ?_)
          replace hf := p_lx hf e30
          refine s_aload_n (pc := 59) dX12_also_59 0 rfl rfl ?_
          obtain ⟨q31, h32, hf⟩ := p_bd hf
          have t33 : p_tp N q31 0 := WT.get hW ha0 h32
          refine x_getR (pc := 60) dX12_also_60 fl_X12_7 rfl ha0 h32 ?_
          refine s_bipush (pc := 63) dX12_also_63 (v := nI 10) rfl ?_
          refine s_iload_n (pc := 65) dX12_also_65 2 rfl rfl ?_
          obtain ⟨c34, hf⟩ := p_ckx hf
          refine x_iast (pc := 66) dX12_also_66 t33 c34 ?_
          refine s_nmI (fun I35 e36 => ?_)
          replace hf := p_lx hf e36
          cases hf
          exact s_return (pc := 67) dX12_also_67 rfl ⟨rfl, rfl, rfl, rfl, rfl⟩
        · replace hf := p_ps hf hc
          refine s_aload_n (pc := 39) dX12_also_39 0 rfl rfl ?_
          obtain ⟨q37, h38, hf⟩ := p_bd hf
          have t39 : p_tp N q37 0 := WT.get hW ha0 h38
          refine x_getR (pc := 40) dX12_also_40 fl_X12_7 rfl ha0 h38 ?_
          refine s_bipush (pc := 43) dX12_also_43 (v := nI 9) rfl ?_
          obtain ⟨c40, hf⟩ := p_ckx hf
          refine x_iald (pc := 45) dX12_also_45 t39 c40 ?_
          refine s_iload_n (pc := 46) dX12_also_46 1 rfl rfl ?_
          refine s_icmp_gt (pc := 47) (tgt := 51) dX12_also_47 rfl (fun hc => ?_) (fun hc => ?_)
          · replace hf := p_ps hf hc
            refine s_aload_n (pc := 51) dX12_also_51 0 rfl rfl ?_
            obtain ⟨q41, h42, hf⟩ := p_bd hf
            have t43 : p_tp N q41 0 := WT.get hW ha0 h42
            refine x_getR (pc := 52) dX12_also_52 fl_X12_7 rfl ha0 h42 ?_
            refine s_bipush (pc := 55) dX12_also_55 (v := nI 9) rfl ?_
            refine s_iload_n (pc := 57) dX12_also_57 1 rfl rfl ?_
            obtain ⟨c44, hf⟩ := p_ckx hf
            refine x_iast (pc := 58) dX12_also_58 t43 c44 ?_
            refine s_nmI (fun I45 e46 => ?_)
            replace hf := p_lx hf e46
            refine s_aload_n (pc := 59) dX12_also_59 0 rfl rfl ?_
            obtain ⟨q47, h48, hf⟩ := p_bd hf
            have t49 : p_tp N q47 0 := WT.get hW ha0 h48
            refine x_getR (pc := 60) dX12_also_60 fl_X12_7 rfl ha0 h48 ?_
            refine s_bipush (pc := 63) dX12_also_63 (v := nI 10) rfl ?_
            refine s_iload_n (pc := 65) dX12_also_65 2 rfl rfl ?_
            obtain ⟨c50, hf⟩ := p_ckx hf
            refine x_iast (pc := 66) dX12_also_66 t49 c50 ?_
            refine s_nmI (fun I51 e52 => ?_)
            replace hf := p_lx hf e52
            cases hf
            exact s_return (pc := 67) dX12_also_67 rfl ⟨rfl, rfl, rfl, rfl, rfl⟩
          · replace hf := p_ng hf hc
            cases hf
            exact s_return (pc := 50) dX12_also_50 rfl ⟨rfl, rfl, rfl, rfl, rfl⟩
def f_X12_takes (n : Nat) (N : pN) (I : pI) (P : pR) (a0 : Nat) (x1 : Int32) : Option (Int32 × pI) :=
  (if (I a0 35) = 0 then
    (if (I a0 31) = (nI 3) then
      (if (I a0 34) = x1 then
        Option.bind (f_X12_advance n N I P a0) fun q1 =>
        some (nI 1, q1)
      else
        some (nI 0, I))
    else
      some (nI 0, I))
  else
    some (nI 0, I))
theorem c_X12_takes {G : pG} {d : Nat} {n : Nat} {N : pN} {I : pI} {L : pL} {P : pR} {a0 : Nat} {x1 : Int32} {qq : Int32 × pI} (hd : 4 ≤ d) (hW : WT N P) (ha0 : p_tp N a0 15) (hf : f_X12_takes n N I P a0 x1 = some qq) : MT G mX12_takes d 0 0 [.ref a0, .int x1] N I L P (p_R (some (.int qq.1)) N qq.2 L P) := by
  refine MT.of rfl (Nat.le_of_ble_eq_true rfl) ?_
  show SW G mX12_takes (p_rm d 0 0) 0 0 0 0 (p_R (some (.int qq.1)) N qq.2 L P) 0 [(0, .ref a0), (1, .int x1)] [] N I L P
  unfold f_X12_takes at hf
  refine s_aload_n (pc := 0) dX12_takes_0 0 rfl rfl ?_
  refine x_getI (pc := 1) dX12_takes_1 fl_X12_354 rfl ha0 ?_
  refine s_if_ne (pc := 4) (tgt := 23) dX12_takes_4 rfl (fun hc => ?_) (fun hc => ?_)
  · replace hf := p_ng hf hc
    refine s_iconst (pc := 23) dX12_takes_23 (v := nI 0) rfl ?_
    cases hf
    exact s_ireturn (pc := 24) dX12_takes_24 rfl rfl ⟨rfl, rfl, rfl, rfl, rfl⟩
  · replace hf := p_ps hf hc
    refine s_aload_n (pc := 7) dX12_takes_7 0 rfl rfl ?_
    refine x_getI (pc := 8) dX12_takes_8 fl_X12_330 rfl ha0 ?_
    refine s_iconst (pc := 11) dX12_takes_11 (v := nI 3) rfl ?_
    refine s_icmp_ne (pc := 12) (tgt := 23) dX12_takes_12 rfl (fun hc => ?_) (fun hc => ?_)
    · replace hf := p_ng hf hc
      refine s_iconst (pc := 23) dX12_takes_23 (v := nI 0) rfl ?_
      cases hf
      exact s_ireturn (pc := 24) dX12_takes_24 rfl rfl ⟨rfl, rfl, rfl, rfl, rfl⟩
    · replace hf := p_ps hf hc
      refine s_aload_n (pc := 15) dX12_takes_15 0 rfl rfl ?_
      refine x_getI (pc := 16) dX12_takes_16 fl_X12_339 rfl ha0 ?_
      refine s_iload_n (pc := 19) dX12_takes_19 1 rfl rfl ?_
      refine s_icmp_eq (pc := 20) (tgt := 25) dX12_takes_20 rfl (fun hc => ?_) (fun hc => ?_)
      · replace hf := p_ps hf hc
        refine s_aload_n (pc := 25) dX12_takes_25 0 rfl rfl ?_
        obtain ⟨q1, h2, hf⟩ := p_bd hf
        refine y_callV0 (pc := 26) dX12_takes_26 (c_X12_advance (p_dd hd (by decide)) hW ha0 h2) mk_X12_advance mv_X12_advance ml_X12_357 rfl rfl (Nat.le_of_ble_eq_true rfl) ha0 rfl (p_d1 hd (by decide)) (Nat.le_of_ble_eq_true rfl) ?_
        refine s_iconst (pc := 29) dX12_takes_29 (v := nI 1) rfl ?_
        cases hf
        exact s_ireturn (pc := 30) dX12_takes_30 rfl rfl ⟨rfl, rfl, rfl, rfl, rfl⟩
      · replace hf := p_ng hf hc
        refine s_iconst (pc := 23) dX12_takes_23 (v := nI 0) rfl ?_
        cases hf
        exact s_ireturn (pc := 24) dX12_takes_24 rfl rfl ⟨rfl, rfl, rfl, rfl, rfl⟩
def f_X12_must (n : Nat) (N : pN) (I : pI) (P : pR) (a0 : Nat) (x1 : Int32) : Option pI :=
  (if (I a0 35) = 0 then
    (if (I a0 31) = (nI 2) then
      (if (I a0 33) = x1 then
        Option.bind (f_X12_advance n N I P a0) fun q7 =>
        some q7
      else
        Option.bind (f_X12_stops N I P a0) fun q5 =>
        some q5)
    else
      Option.bind (f_X12_stops N I P a0) fun q3 =>
      some q3)
  else
    Option.bind (f_X12_stops N I P a0) fun q1 =>
    some q1)
theorem c_X12_must {G : pG} {d : Nat} {n : Nat} {N : pN} {I : pI} {L : pL} {P : pR} {a0 : Nat} {x1 : Int32} {qq : pI} (hd : 4 ≤ d) (hW : WT N P) (ha0 : p_tp N a0 15) (hf : f_X12_must n N I P a0 x1 = some qq) : MT G mX12_must d 0 0 [.ref a0, .int x1] N I L P (p_R none N qq L P) := by
  refine MT.of rfl (Nat.le_of_ble_eq_true rfl) ?_
  show SW G mX12_must (p_rm d 0 0) 0 0 0 0 (p_R none N qq L P) 0 [(0, .ref a0), (1, .int x1)] [] N I L P
  unfold f_X12_must at hf
  refine s_aload_n (pc := 0) dX12_must_0 0 rfl rfl ?_
  refine x_getI (pc := 1) dX12_must_1 fl_X12_354 rfl ha0 ?_
  refine s_if_ne (pc := 4) (tgt := 30) dX12_must_4 rfl (fun hc => ?_) (fun hc => ?_)
  · replace hf := p_ng hf hc
    refine s_aload_n (pc := 30) dX12_must_30 0 rfl rfl ?_
    obtain ⟨q1, h2, hf⟩ := p_bd hf
    refine y_callV0 (pc := 31) dX12_must_31 (c_X12_stops (p_dd hd (by decide)) hW ha0 h2) mk_X12_stops mv_X12_stops ml_X12_360 rfl rfl (Nat.le_of_ble_eq_true rfl) ha0 rfl (p_d1 hd (by decide)) (Nat.le_of_ble_eq_true rfl) ?_
    cases hf
    exact s_return (pc := 34) dX12_must_34 rfl ⟨rfl, rfl, rfl, rfl, rfl⟩
  · replace hf := p_ps hf hc
    refine s_aload_n (pc := 7) dX12_must_7 0 rfl rfl ?_
    refine x_getI (pc := 8) dX12_must_8 fl_X12_330 rfl ha0 ?_
    refine s_iconst (pc := 11) dX12_must_11 (v := nI 2) rfl ?_
    refine s_icmp_ne (pc := 12) (tgt := 30) dX12_must_12 rfl (fun hc => ?_) (fun hc => ?_)
    · replace hf := p_ng hf hc
      refine s_aload_n (pc := 30) dX12_must_30 0 rfl rfl ?_
      obtain ⟨q3, h4, hf⟩ := p_bd hf
      refine y_callV0 (pc := 31) dX12_must_31 (c_X12_stops (p_dd hd (by decide)) hW ha0 h4) mk_X12_stops mv_X12_stops ml_X12_360 rfl rfl (Nat.le_of_ble_eq_true rfl) ha0 rfl (p_d1 hd (by decide)) (Nat.le_of_ble_eq_true rfl) ?_
      cases hf
      exact s_return (pc := 34) dX12_must_34 rfl ⟨rfl, rfl, rfl, rfl, rfl⟩
    · replace hf := p_ps hf hc
      refine s_aload_n (pc := 15) dX12_must_15 0 rfl rfl ?_
      refine x_getI (pc := 16) dX12_must_16 fl_X12_348 rfl ha0 ?_
      refine s_iload_n (pc := 19) dX12_must_19 1 rfl rfl ?_
      refine s_icmp_ne (pc := 20) (tgt := 30) dX12_must_20 rfl (fun hc => ?_) (fun hc => ?_)
      · replace hf := p_ng hf hc
        refine s_aload_n (pc := 30) dX12_must_30 0 rfl rfl ?_
        obtain ⟨q5, h6, hf⟩ := p_bd hf
        refine y_callV0 (pc := 31) dX12_must_31 (c_X12_stops (p_dd hd (by decide)) hW ha0 h6) mk_X12_stops mv_X12_stops ml_X12_360 rfl rfl (Nat.le_of_ble_eq_true rfl) ha0 rfl (p_d1 hd (by decide)) (Nat.le_of_ble_eq_true rfl) ?_
        cases hf
        exact s_return (pc := 34) dX12_must_34 rfl ⟨rfl, rfl, rfl, rfl, rfl⟩
      · replace hf := p_ps hf hc
        refine s_aload_n (pc := 23) dX12_must_23 0 rfl rfl ?_
        obtain ⟨q7, h8, hf⟩ := p_bd hf
        refine y_callV0 (pc := 24) dX12_must_24 (c_X12_advance (p_dd hd (by decide)) hW ha0 h8) mk_X12_advance mv_X12_advance ml_X12_357 rfl rfl (Nat.le_of_ble_eq_true rfl) ha0 rfl (p_d1 hd (by decide)) (Nat.le_of_ble_eq_true rfl) ?_
        refine s_goto (pc := 27) (tgt := 34) dX12_must_27 rfl ?_
        cases hf
        exact s_return (pc := 34) dX12_must_34 rfl ⟨rfl, rfl, rfl, rfl, rfl⟩
def f_X12_numbered (n : Nat) (N : pN) (I : pI) (P : pR) (a0 : Nat) : Option (Int32 × pI) :=
  (if (I a0 35) = 0 then
    (if (I a0 31) = (nI 1) then
      Option.bind (f_X12_advance n N I P a0) fun q5 =>
      some (I a0 32, q5)
    else
      Option.bind (f_X12_stops N I P a0) fun q3 =>
      some (I a0 32, q3))
  else
    Option.bind (f_X12_stops N I P a0) fun q1 =>
    some (I a0 32, q1))
theorem c_X12_numbered {G : pG} {d : Nat} {n : Nat} {N : pN} {I : pI} {L : pL} {P : pR} {a0 : Nat} {qq : Int32 × pI} (hd : 4 ≤ d) (hW : WT N P) (ha0 : p_tp N a0 15) (hf : f_X12_numbered n N I P a0 = some qq) : MT G mX12_numbered d 0 0 [.ref a0] N I L P (p_R (some (.int qq.1)) N qq.2 L P) := by
  refine MT.of rfl (Nat.le_of_ble_eq_true rfl) ?_
  show SW G mX12_numbered (p_rm d 0 0) 0 0 0 0 (p_R (some (.int qq.1)) N qq.2 L P) 0 [(0, .ref a0)] [] N I L P
  unfold f_X12_numbered at hf
  refine s_aload_n (pc := 0) dX12_numbered_0 0 rfl rfl ?_
  refine x_getI (pc := 1) dX12_numbered_1 fl_X12_345 rfl ha0 ?_
  refine s_istore_n (pc := 4) (lo' := [(1, .int (I a0 32)), (0, .ref a0)]) dX12_numbered_4 rfl (Nat.le_of_ble_eq_true rfl) rfl ?_
  refine s_aload_n (pc := 5) dX12_numbered_5 1 rfl rfl ?_
  refine x_getI (pc := 6) dX12_numbered_6 fl_X12_354 rfl ha0 ?_
  refine s_if_ne (pc := 9) (tgt := 27) dX12_numbered_9 rfl (fun hc => ?_) (fun hc => ?_)
  · replace hf := p_ng hf hc
    refine s_aload_n (pc := 27) dX12_numbered_27 1 rfl rfl ?_
    obtain ⟨q1, h2, hf⟩ := p_bd hf
    refine y_callV0 (pc := 28) dX12_numbered_28 (c_X12_stops (p_dd hd (by decide)) hW ha0 h2) mk_X12_stops mv_X12_stops ml_X12_360 rfl rfl (Nat.le_of_ble_eq_true rfl) ha0 rfl (p_d1 hd (by decide)) (Nat.le_of_ble_eq_true rfl) ?_
    refine s_iload_n (pc := 31) dX12_numbered_31 0 rfl rfl ?_
    cases hf
    exact s_ireturn (pc := 32) dX12_numbered_32 rfl rfl ⟨rfl, rfl, rfl, rfl, rfl⟩
  · replace hf := p_ps hf hc
    refine s_aload_n (pc := 12) dX12_numbered_12 1 rfl rfl ?_
    refine x_getI (pc := 13) dX12_numbered_13 fl_X12_330 rfl ha0 ?_
    refine s_iconst (pc := 16) dX12_numbered_16 (v := nI 1) rfl ?_
    refine s_icmp_ne (pc := 17) (tgt := 27) dX12_numbered_17 rfl (fun hc => ?_) (fun hc => ?_)
    · replace hf := p_ng hf hc
      refine s_aload_n (pc := 27) dX12_numbered_27 1 rfl rfl ?_
      obtain ⟨q3, h4, hf⟩ := p_bd hf
      refine y_callV0 (pc := 28) dX12_numbered_28 (c_X12_stops (p_dd hd (by decide)) hW ha0 h4) mk_X12_stops mv_X12_stops ml_X12_360 rfl rfl (Nat.le_of_ble_eq_true rfl) ha0 rfl (p_d1 hd (by decide)) (Nat.le_of_ble_eq_true rfl) ?_
      refine s_iload_n (pc := 31) dX12_numbered_31 0 rfl rfl ?_
      cases hf
      exact s_ireturn (pc := 32) dX12_numbered_32 rfl rfl ⟨rfl, rfl, rfl, rfl, rfl⟩
    · replace hf := p_ps hf hc
      refine s_aload_n (pc := 20) dX12_numbered_20 1 rfl rfl ?_
      obtain ⟨q5, h6, hf⟩ := p_bd hf
      refine y_callV0 (pc := 21) dX12_numbered_21 (c_X12_advance (p_dd hd (by decide)) hW ha0 h6) mk_X12_advance mv_X12_advance ml_X12_357 rfl rfl (Nat.le_of_ble_eq_true rfl) ha0 rfl (p_d1 hd (by decide)) (Nat.le_of_ble_eq_true rfl) ?_
      refine s_goto (pc := 24) (tgt := 31) dX12_numbered_24 rfl ?_
      refine s_iload_n (pc := 31) dX12_numbered_31 0 rfl rfl ?_
      cases hf
      exact s_ireturn (pc := 32) dX12_numbered_32 rfl rfl ⟨rfl, rfl, rfl, rfl, rfl⟩
def f_X12_reads (n : Nat) (N : pN) (I : pI) (P : pR) (a0 : Nat) : Option pI :=
  Option.bind (P a0 0) fun q1 =>
  p_ck (p_ib N q1 (nI 8)) <|
  p_let (p_u I a0 28 (I q1 (Int32.toNatClampNeg (nI 8)))) fun I5 =>
  Option.bind (P a0 0) fun q7 =>
  p_ck (p_ib N q7 (nI 8)) <|
  p_let (p_u I5 q7 (Int32.toNatClampNeg (nI 8)) (nI 0)) fun I11 =>
  Option.bind (P a0 0) fun q13 =>
  p_ck (p_ib N q13 (nI 9)) <|
  p_let (p_u I11 q13 (Int32.toNatClampNeg (nI 9)) (nI 0)) fun I17 =>
  Option.bind (P a0 0) fun q19 =>
  p_ck (p_ib N q19 (nI 10)) <|
  p_let (p_u I17 q19 (Int32.toNatClampNeg (nI 10)) (-1)) fun I23 =>
  p_let (p_u I23 a0 29 (nI 0)) fun I25 =>
  p_let (p_u I25 a0 35 (nI 0)) fun I27 =>
  p_let (p_u I27 a0 38 (nI 0)) fun I29 =>
  Option.bind (f_X12_advance n N I29 P a0) fun q31 =>
  some q31
theorem c_X12_reads {G : pG} {d : Nat} {n : Nat} {N : pN} {I : pI} {L : pL} {P : pR} {a0 : Nat} {qq : pI} (hd : 4 ≤ d) (hW : WT N P) (ha0 : p_tp N a0 15) (hf : f_X12_reads n N I P a0 = some qq) : MT G mX12_reads d 0 0 [.ref a0] N I L P (p_R none N qq L P) := by
  refine MT.of rfl (Nat.le_of_ble_eq_true rfl) ?_
  show SW G mX12_reads (p_rm d 0 0) 0 0 0 0 (p_R none N qq L P) 0 [(0, .ref a0)] [] N I L P
  unfold f_X12_reads at hf
  refine s_aload_n (pc := 0) dX12_reads_0 0 rfl rfl ?_
  refine s_aload_n (pc := 1) dX12_reads_1 0 rfl rfl ?_
  obtain ⟨q1, h2, hf⟩ := p_bd hf
  have t3 : p_tp N q1 0 := WT.get hW ha0 h2
  refine x_getR (pc := 2) dX12_reads_2 fl_X12_7 rfl ha0 h2 ?_
  refine s_bipush (pc := 5) dX12_reads_5 (v := nI 8) rfl ?_
  obtain ⟨c4, hf⟩ := p_ckx hf
  refine x_iald (pc := 7) dX12_reads_7 t3 c4 ?_
  refine x_putI (pc := 8) dX12_reads_8 fl_X12_293 (Or.inl rfl) rfl ha0 ?_
  refine s_nmI (fun I5 e6 => ?_)
  replace hf := p_lx hf e6
  refine s_aload_n (pc := 11) dX12_reads_11 0 rfl rfl ?_
  obtain ⟨q7, h8, hf⟩ := p_bd hf
  have t9 : p_tp N q7 0 := WT.get hW ha0 h8
  refine x_getR (pc := 12) dX12_reads_12 fl_X12_7 rfl ha0 h8 ?_
  refine s_bipush (pc := 15) dX12_reads_15 (v := nI 8) rfl ?_
  refine s_iconst (pc := 17) dX12_reads_17 (v := nI 0) rfl ?_
  obtain ⟨c10, hf⟩ := p_ckx hf
  refine x_iast (pc := 18) dX12_reads_18 t9 c10 ?_
  refine s_nmI (fun I11 e12 => ?_)
  replace hf := p_lx hf e12
  refine s_aload_n (pc := 19) dX12_reads_19 0 rfl rfl ?_
  obtain ⟨q13, h14, hf⟩ := p_bd hf
  have t15 : p_tp N q13 0 := WT.get hW ha0 h14
  refine x_getR (pc := 20) dX12_reads_20 fl_X12_7 rfl ha0 h14 ?_
  refine s_bipush (pc := 23) dX12_reads_23 (v := nI 9) rfl ?_
  refine s_iconst (pc := 25) dX12_reads_25 (v := nI 0) rfl ?_
  obtain ⟨c16, hf⟩ := p_ckx hf
  refine x_iast (pc := 26) dX12_reads_26 t15 c16 ?_
  refine s_nmI (fun I17 e18 => ?_)
  replace hf := p_lx hf e18
  refine s_aload_n (pc := 27) dX12_reads_27 0 rfl rfl ?_
  obtain ⟨q19, h20, hf⟩ := p_bd hf
  have t21 : p_tp N q19 0 := WT.get hW ha0 h20
  refine x_getR (pc := 28) dX12_reads_28 fl_X12_7 rfl ha0 h20 ?_
  refine s_bipush (pc := 31) dX12_reads_31 (v := nI 10) rfl ?_
  refine s_iconst (pc := 33) dX12_reads_33 (v := (-1)) rfl ?_
  obtain ⟨c22, hf⟩ := p_ckx hf
  refine x_iast (pc := 34) dX12_reads_34 t21 c22 ?_
  refine s_nmI (fun I23 e24 => ?_)
  replace hf := p_lx hf e24
  refine s_aload_n (pc := 35) dX12_reads_35 0 rfl rfl ?_
  refine s_iconst (pc := 36) dX12_reads_36 (v := nI 0) rfl ?_
  refine x_putI (pc := 37) dX12_reads_37 fl_X12_320 (Or.inl rfl) rfl ha0 ?_
  refine s_nmI (fun I25 e26 => ?_)
  replace hf := p_lx hf e26
  refine s_aload_n (pc := 40) dX12_reads_40 0 rfl rfl ?_
  refine s_iconst (pc := 41) dX12_reads_41 (v := nI 0) rfl ?_
  refine x_putZ (pc := 42) dX12_reads_42 fl_X12_354 (Or.inl rfl) rfl (by decide) ha0 ?_
  refine s_nmI (fun I27 e28 => ?_)
  replace hf := p_lx hf e28
  refine s_aload_n (pc := 45) dX12_reads_45 0 rfl rfl ?_
  refine s_iconst (pc := 46) dX12_reads_46 (v := nI 0) rfl ?_
  refine x_putI (pc := 47) dX12_reads_47 fl_X12_363 (Or.inl rfl) rfl ha0 ?_
  refine s_nmI (fun I29 e30 => ?_)
  replace hf := p_lx hf e30
  refine s_aload_n (pc := 50) dX12_reads_50 0 rfl rfl ?_
  obtain ⟨q31, h32, hf⟩ := p_bd hf
  refine y_callV0 (pc := 51) dX12_reads_51 (c_X12_advance (p_dd hd (by decide)) hW ha0 h32) mk_X12_advance mv_X12_advance ml_X12_357 rfl rfl (Nat.le_of_ble_eq_true rfl) ha0 rfl (p_d1 hd (by decide)) (Nat.le_of_ble_eq_true rfl) ?_
  cases hf
  exact s_return (pc := 54) dX12_reads_54 rfl ⟨rfl, rfl, rfl, rfl, rfl⟩
def f_X12_numbersOf (x0 : Int32) : Option Int32 :=
  (if x0 = (nI 1) then
    some (nI 5)
  else
    (if x0 = (nI 3) then
      some (nI 2)
    else
      some (nI 4)))
theorem c_X12_numbersOf {G : pG} {d : Nat} {N : pN} {I : pI} {L : pL} {P : pR} {x0 : Int32} {qq : Int32} (hd : 0 ≤ d) (hW : WT N P) (hf : f_X12_numbersOf x0 = some qq) : MT G mX12_numbersOf d 0 0 [.int x0] N I L P (p_R (some (.int qq)) N I L P) := by
  refine MT.of rfl (Nat.le_of_ble_eq_true rfl) ?_
  show SW G mX12_numbersOf (p_rm d 0 0) 0 0 0 0 (p_R (some (.int qq)) N I L P) 0 [(0, .int x0)] [] N I L P
  unfold f_X12_numbersOf at hf
  refine s_iload_n (pc := 0) dX12_numbersOf_0 0 rfl rfl ?_
  refine s_iconst (pc := 1) dX12_numbersOf_1 (v := nI 1) rfl ?_
  refine s_icmp_ne (pc := 2) (tgt := 9) dX12_numbersOf_2 rfl (fun hc => ?_) (fun hc => ?_)
  · replace hf := p_ng hf hc
    refine s_iload_n (pc := 9) dX12_numbersOf_9 0 rfl rfl ?_
    refine s_iconst (pc := 10) dX12_numbersOf_10 (v := nI 3) rfl ?_
    refine s_icmp_ne (pc := 11) (tgt := 18) dX12_numbersOf_11 rfl (fun hc => ?_) (fun hc => ?_)
    · replace hf := p_ng hf hc
      refine s_iconst (pc := 18) dX12_numbersOf_18 (v := nI 4) rfl ?_
      cases hf
      exact s_ireturn (pc := 19) dX12_numbersOf_19 rfl rfl ⟨rfl, rfl, rfl, rfl, rfl⟩
    · replace hf := p_ps hf hc
      refine s_iconst (pc := 14) dX12_numbersOf_14 (v := nI 2) rfl ?_
      refine s_goto (pc := 15) (tgt := 19) dX12_numbersOf_15 rfl ?_
      cases hf
      exact s_ireturn (pc := 19) dX12_numbersOf_19 rfl rfl ⟨rfl, rfl, rfl, rfl, rfl⟩
  · replace hf := p_ps hf hc
    refine s_iconst (pc := 5) dX12_numbersOf_5 (v := nI 5) rfl ?_
    refine s_goto (pc := 6) (tgt := 19) dX12_numbersOf_6 rfl ?_
    cases hf
    exact s_ireturn (pc := 19) dX12_numbersOf_19 rfl rfl ⟨rfl, rfl, rfl, rfl, rfl⟩
def J_X12_mayBe_64 (x0 : Int32) (x1 : Int32) (x2 : Int32) : Option Int32 :=
  (if x2 < (nI 1) then
    some (nI 0)
  else
    (if x1 = (nI 2) then
      some (nI 1)
    else
      (if x0 = (nI 2) then
        some (nI 1)
      else
        (if (nI 999) < x2 then
          some (nI 0)
        else
          some (nI 1)))))
def J_X12_mayBe_27 (x0 : Int32) (x1 : Int32) (x2 : Int32) : Option Int32 :=
  (if x0 = (nI 1) then
    (if (nI 4) < x2 then
      some (nI 0)
    else
      some (nI 1))
  else
    (if x0 = (nI 2) then
      (if x1 = (nI 2) then
        (if (nI 5) < x2 then
          some (nI 0)
        else
          some (nI 1))
      else
        J_X12_mayBe_64 x0 x1 x2)
    else
      J_X12_mayBe_64 x0 x1 x2))
def f_X12_mayBe (x0 : Int32) (x1 : Int32) (x2 : Int32) : Option Int32 :=
  (if x1 < (nI 2) then
    (if (nI 20) < x2 then
      some (nI 0)
    else
      some (nI 1))
  else
    (if x0 = (nI 1) then
      (if (nI 4) ≤ x1 then
        J_X12_mayBe_27 x0 x1 x2
      else
        (if (nI 20) < x2 then
          some (nI 0)
        else
          some (nI 1)))
    else
      J_X12_mayBe_27 x0 x1 x2))
theorem c_X12_mayBe {G : pG} {d : Nat} {N : pN} {I : pI} {L : pL} {P : pR} {x0 : Int32} {x1 : Int32} {x2 : Int32} {qq : Int32} (hd : 0 ≤ d) (hW : WT N P) (hf : f_X12_mayBe x0 x1 x2 = some qq) : MT G mX12_mayBe d 0 0 [.int x0, .int x1, .int x2] N I L P (p_R (some (.int qq)) N I L P) := by
  refine MT.of rfl (Nat.le_of_ble_eq_true rfl) ?_
  show SW G mX12_mayBe (p_rm d 0 0) 0 0 0 0 (p_R (some (.int qq)) N I L P) 0 [(0, .int x0), (1, .int x1), (2, .int x2)] [] N I L P
  unfold f_X12_mayBe at hf
  refine s_iload_n (pc := 0) dX12_mayBe_0 1 rfl rfl ?_
  refine s_iconst (pc := 1) dX12_mayBe_1 (v := nI 2) rfl ?_
  refine s_icmp_lt (pc := 2) (tgt := 15) dX12_mayBe_2 rfl (fun hc => ?_) (fun hc => ?_)
  · replace hf := p_ps hf hc
    refine s_iload_n (pc := 15) dX12_mayBe_15 2 rfl rfl ?_
    refine s_bipush (pc := 16) dX12_mayBe_16 (v := nI 20) rfl ?_
    refine s_icmp_gt (pc := 18) (tgt := 25) dX12_mayBe_18 rfl (fun hc => ?_) (fun hc => ?_)
    · replace hf := p_ps hf hc
      refine s_iconst (pc := 25) dX12_mayBe_25 (v := nI 0) rfl ?_
      cases hf
      exact s_ireturn (pc := 26) dX12_mayBe_26 rfl rfl ⟨rfl, rfl, rfl, rfl, rfl⟩
    · replace hf := p_ng hf hc
      refine s_iconst (pc := 21) dX12_mayBe_21 (v := nI 1) rfl ?_
      refine s_goto (pc := 22) (tgt := 26) dX12_mayBe_22 rfl ?_
      cases hf
      exact s_ireturn (pc := 26) dX12_mayBe_26 rfl rfl ⟨rfl, rfl, rfl, rfl, rfl⟩
  · replace hf := p_ng hf hc
    refine s_iload_n (pc := 5) dX12_mayBe_5 0 rfl rfl ?_
    refine s_iconst (pc := 6) dX12_mayBe_6 (v := nI 1) rfl ?_
    have k2 : J_X12_mayBe_27 x0 x1 x2 = some qq → SW G mX12_mayBe (p_rm d 0 0) 0 0 0 0 (p_R (some (.int qq)) N I L P) 27 [(0, .int x0), (1, .int x1), (2, .int x2)] [] N I L P := by
      intro hf
      unfold J_X12_mayBe_27 at hf
      refine s_iload_n (pc := 27) dX12_mayBe_27 0 rfl rfl ?_
      refine s_iconst (pc := 28) dX12_mayBe_28 (v := nI 1) rfl ?_
      refine s_icmp_ne (pc := 29) (tgt := 43) dX12_mayBe_29 rfl (fun hc => ?_) (fun hc => ?_)
      · replace hf := p_ng hf hc
        refine s_iload_n (pc := 43) dX12_mayBe_43 0 rfl rfl ?_
        refine s_iconst (pc := 44) dX12_mayBe_44 (v := nI 2) rfl ?_
        have k3 : J_X12_mayBe_64 x0 x1 x2 = some qq → SW G mX12_mayBe (p_rm d 0 0) 0 0 0 0 (p_R (some (.int qq)) N I L P) 64 [(0, .int x0), (1, .int x1), (2, .int x2)] [] N I L P := by
          intro hf
          unfold J_X12_mayBe_64 at hf
          refine s_iload_n (pc := 64) dX12_mayBe_64 2 rfl rfl ?_
          refine s_iconst (pc := 65) dX12_mayBe_65 (v := nI 1) rfl ?_
          refine s_icmp_lt (pc := 66) (tgt := 90) dX12_mayBe_66 rfl (fun hc => ?_) (fun hc => ?_)
          · replace hf := p_ps hf hc
            refine s_iconst (pc := 90) dX12_mayBe_90 (v := nI 0) rfl ?_
            cases hf
            exact s_ireturn (pc := 91) dX12_mayBe_91 rfl rfl ⟨rfl, rfl, rfl, rfl, rfl⟩
          · replace hf := p_ng hf hc
            refine s_iload_n (pc := 69) dX12_mayBe_69 1 rfl rfl ?_
            refine s_iconst (pc := 70) dX12_mayBe_70 (v := nI 2) rfl ?_
            refine s_icmp_eq (pc := 71) (tgt := 86) dX12_mayBe_71 rfl (fun hc => ?_) (fun hc => ?_)
            · replace hf := p_ps hf hc
              refine s_iconst (pc := 86) dX12_mayBe_86 (v := nI 1) rfl ?_
              refine s_goto (pc := 87) (tgt := 91) dX12_mayBe_87 rfl ?_
              cases hf
              exact s_ireturn (pc := 91) dX12_mayBe_91 rfl rfl ⟨rfl, rfl, rfl, rfl, rfl⟩
            · replace hf := p_ng hf hc
              refine s_iload_n (pc := 74) dX12_mayBe_74 0 rfl rfl ?_
              refine s_iconst (pc := 75) dX12_mayBe_75 (v := nI 2) rfl ?_
              refine s_icmp_eq (pc := 76) (tgt := 86) dX12_mayBe_76 rfl (fun hc => ?_) (fun hc => ?_)
              · replace hf := p_ps hf hc
                refine s_iconst (pc := 86) dX12_mayBe_86 (v := nI 1) rfl ?_
                refine s_goto (pc := 87) (tgt := 91) dX12_mayBe_87 rfl ?_
                cases hf
                exact s_ireturn (pc := 91) dX12_mayBe_91 rfl rfl ⟨rfl, rfl, rfl, rfl, rfl⟩
              · replace hf := p_ng hf hc
                refine s_iload_n (pc := 79) dX12_mayBe_79 2 rfl rfl ?_
                refine s_sipush (pc := 80) dX12_mayBe_80 (v := nI 999) rfl ?_
                refine s_icmp_gt (pc := 83) (tgt := 90) dX12_mayBe_83 rfl (fun hc => ?_) (fun hc => ?_)
                · replace hf := p_ps hf hc
                  refine s_iconst (pc := 90) dX12_mayBe_90 (v := nI 0) rfl ?_
                  cases hf
                  exact s_ireturn (pc := 91) dX12_mayBe_91 rfl rfl ⟨rfl, rfl, rfl, rfl, rfl⟩
                · replace hf := p_ng hf hc
                  refine s_iconst (pc := 86) dX12_mayBe_86 (v := nI 1) rfl ?_
                  refine s_goto (pc := 87) (tgt := 91) dX12_mayBe_87 rfl ?_
                  cases hf
                  exact s_ireturn (pc := 91) dX12_mayBe_91 rfl rfl ⟨rfl, rfl, rfl, rfl, rfl⟩
        refine s_icmp_ne (pc := 45) (tgt := 64) dX12_mayBe_45 rfl (fun hc => ?_) (fun hc => ?_)
        · replace hf := p_ng hf hc
          exact s_lo [0, 1, 2] rfl (k3 hf)
        · replace hf := p_ps hf hc
          refine s_iload_n (pc := 48) dX12_mayBe_48 1 rfl rfl ?_
          refine s_iconst (pc := 49) dX12_mayBe_49 (v := nI 2) rfl ?_
          refine s_icmp_ne (pc := 50) (tgt := 64) dX12_mayBe_50 rfl (fun hc => ?_) (fun hc => ?_)
          · replace hf := p_ng hf hc
            exact s_lo [0, 1, 2] rfl (k3 hf)
          · replace hf := p_ps hf hc
            refine s_iload_n (pc := 53) dX12_mayBe_53 2 rfl rfl ?_
            refine s_iconst (pc := 54) dX12_mayBe_54 (v := nI 5) rfl ?_
            refine s_icmp_gt (pc := 55) (tgt := 62) dX12_mayBe_55 rfl (fun hc => ?_) (fun hc => ?_)
            · replace hf := p_ps hf hc
              refine s_iconst (pc := 62) dX12_mayBe_62 (v := nI 0) rfl ?_
              cases hf
              exact s_ireturn (pc := 63) dX12_mayBe_63 rfl rfl ⟨rfl, rfl, rfl, rfl, rfl⟩
            · replace hf := p_ng hf hc
              refine s_iconst (pc := 58) dX12_mayBe_58 (v := nI 1) rfl ?_
              refine s_goto (pc := 59) (tgt := 63) dX12_mayBe_59 rfl ?_
              cases hf
              exact s_ireturn (pc := 63) dX12_mayBe_63 rfl rfl ⟨rfl, rfl, rfl, rfl, rfl⟩
      · replace hf := p_ps hf hc
        refine s_iload_n (pc := 32) dX12_mayBe_32 2 rfl rfl ?_
        refine s_iconst (pc := 33) dX12_mayBe_33 (v := nI 4) rfl ?_
        refine s_icmp_gt (pc := 34) (tgt := 41) dX12_mayBe_34 rfl (fun hc => ?_) (fun hc => ?_)
        · replace hf := p_ps hf hc
          refine s_iconst (pc := 41) dX12_mayBe_41 (v := nI 0) rfl ?_
          cases hf
          exact s_ireturn (pc := 42) dX12_mayBe_42 rfl rfl ⟨rfl, rfl, rfl, rfl, rfl⟩
        · replace hf := p_ng hf hc
          refine s_iconst (pc := 37) dX12_mayBe_37 (v := nI 1) rfl ?_
          refine s_goto (pc := 38) (tgt := 42) dX12_mayBe_38 rfl ?_
          cases hf
          exact s_ireturn (pc := 42) dX12_mayBe_42 rfl rfl ⟨rfl, rfl, rfl, rfl, rfl⟩
    refine s_icmp_ne (pc := 7) (tgt := 27) dX12_mayBe_7 rfl (fun hc => ?_) (fun hc => ?_)
    · replace hf := p_ng hf hc
      exact s_lo [0, 1, 2] rfl (k2 hf)
    · replace hf := p_ps hf hc
      refine s_iload_n (pc := 10) dX12_mayBe_10 1 rfl rfl ?_
      refine s_iconst (pc := 11) dX12_mayBe_11 (v := nI 4) rfl ?_
      refine s_icmp_ge (pc := 12) (tgt := 27) dX12_mayBe_12 rfl (fun hc => ?_) (fun hc => ?_)
      · replace hf := p_ps hf hc
        exact s_lo [0, 1, 2] rfl (k2 hf)
      · replace hf := p_ng hf hc
        refine s_iload_n (pc := 15) dX12_mayBe_15 2 rfl rfl ?_
        refine s_bipush (pc := 16) dX12_mayBe_16 (v := nI 20) rfl ?_
        refine s_icmp_gt (pc := 18) (tgt := 25) dX12_mayBe_18 rfl (fun hc => ?_) (fun hc => ?_)
        · replace hf := p_ps hf hc
          refine s_iconst (pc := 25) dX12_mayBe_25 (v := nI 0) rfl ?_
          cases hf
          exact s_ireturn (pc := 26) dX12_mayBe_26 rfl rfl ⟨rfl, rfl, rfl, rfl, rfl⟩
        · replace hf := p_ng hf hc
          refine s_iconst (pc := 21) dX12_mayBe_21 (v := nI 1) rfl ?_
          refine s_goto (pc := 22) (tgt := 26) dX12_mayBe_22 rfl ?_
          cases hf
          exact s_ireturn (pc := 26) dX12_mayBe_26 rfl rfl ⟨rfl, rfl, rfl, rfl, rfl⟩
def f_X12_mostOf (x0 : Int32) : Option Int32 :=
  (if x0 = (nI 1) then
    some (nI 12)
  else
    (if x0 = (nI 2) then
      some (nI 6)
    else
      some (nI 8)))
theorem c_X12_mostOf {G : pG} {d : Nat} {N : pN} {I : pI} {L : pL} {P : pR} {x0 : Int32} {qq : Int32} (hd : 0 ≤ d) (hW : WT N P) (hf : f_X12_mostOf x0 = some qq) : MT G mX12_mostOf d 0 0 [.int x0] N I L P (p_R (some (.int qq)) N I L P) := by
  refine MT.of rfl (Nat.le_of_ble_eq_true rfl) ?_
  show SW G mX12_mostOf (p_rm d 0 0) 0 0 0 0 (p_R (some (.int qq)) N I L P) 0 [(0, .int x0)] [] N I L P
  unfold f_X12_mostOf at hf
  refine s_iload_n (pc := 0) dX12_mostOf_0 0 rfl rfl ?_
  refine s_iconst (pc := 1) dX12_mostOf_1 (v := nI 1) rfl ?_
  refine s_icmp_ne (pc := 2) (tgt := 10) dX12_mostOf_2 rfl (fun hc => ?_) (fun hc => ?_)
  · replace hf := p_ng hf hc
    refine s_iload_n (pc := 10) dX12_mostOf_10 0 rfl rfl ?_
    refine s_iconst (pc := 11) dX12_mostOf_11 (v := nI 2) rfl ?_
    refine s_icmp_ne (pc := 12) (tgt := 20) dX12_mostOf_12 rfl (fun hc => ?_) (fun hc => ?_)
    · replace hf := p_ng hf hc
      refine s_bipush (pc := 20) dX12_mostOf_20 (v := nI 8) rfl ?_
      cases hf
      exact s_ireturn (pc := 22) dX12_mostOf_22 rfl rfl ⟨rfl, rfl, rfl, rfl, rfl⟩
    · replace hf := p_ps hf hc
      refine s_bipush (pc := 15) dX12_mostOf_15 (v := nI 6) rfl ?_
      refine s_goto (pc := 17) (tgt := 22) dX12_mostOf_17 rfl ?_
      cases hf
      exact s_ireturn (pc := 22) dX12_mostOf_22 rfl rfl ⟨rfl, rfl, rfl, rfl, rfl⟩
  · replace hf := p_ps hf hc
    refine s_bipush (pc := 5) dX12_mostOf_5 (v := nI 12) rfl ?_
    refine s_goto (pc := 7) (tgt := 22) dX12_mostOf_7 rfl ?_
    cases hf
    exact s_ireturn (pc := 22) dX12_mostOf_22 rfl rfl ⟨rfl, rfl, rfl, rfl, rfl⟩
def B_X12_aTownLine_64 (n : Nat) (N : pN) (P : pR) (x3 : Int32) (x2 : Int32) (a0 : Nat) (rec0 : (Int32 × pI) → Option pI) (s0 : Int32 × pI) : Option pI :=
  Option.bind (f_X12_numbersOf x2) fun q17 =>
  (if q17 ≤ s0.1 then
    some s0.2
  else
    (if (s0.2 a0 35) = 0 then
      Option.bind (P a0 36) fun q19 =>
      Option.bind (f_X12_numbered n N s0.2 P a0) fun q22 =>
      p_ck (p_ib N q19 ((x3 + (nI 1)) + s0.1)) <|
      p_let (p_u q22.2 q19 (Int32.toNatClampNeg ((x3 + (nI 1)) + s0.1)) q22.1) fun I25 =>
      Option.bind (P a0 36) fun q27 =>
      p_ck (p_ib N q27 ((x3 + (nI 1)) + s0.1)) <|
      Option.bind (f_X12_mayBe x2 s0.1 (I25 q27 (Int32.toNatClampNeg ((x3 + (nI 1)) + s0.1)))) fun q31 =>
      Option.bind (α := pI) ((if q31 = 0 then
        Option.bind (f_X12_also N I25 P a0 (nI 2) (s0.2 a0 30)) fun q35 =>
        some q35
      else
        some I25)) fun t33 =>
      rec0 (s0.1 + nI 1, t33)
    else
      some s0.2))
def f_X12_aTownLine (n : Nat) (N : pN) (I : pI) (P : pR) (a0 : Nat) : Option pI :=
  (if (I a0 35) = 0 then
    (if (I a0 31) = (nI 3) then
      Option.bind (f_X12_isIn (I a0 34) (nI 1) (nI 4)) fun q5 =>
      (if q5 = 0 then
        Option.bind (f_X12_stops N I P a0) fun q103 =>
        some q103
      else
        Option.bind (f_X12_advance n N I P a0) fun q7 =>
        Option.bind (P a0 36) fun q9 =>
        p_ck (p_ib N q9 ((nI 6) * (I a0 38))) <|
        p_let (p_u q7 q9 (Int32.toNatClampNeg ((nI 6) * (I a0 38))) (I a0 34)) fun I13 =>
        Option.bind (p_it (B_X12_aTownLine_64 n N P ((nI 6) * (I a0 38)) (I a0 34) a0) n (nI 0, I13)) fun t15 =>
        Option.bind (f_X12_must n N t15 P a0 (nI 59)) fun q58 =>
        Option.bind (P a0 36) fun q60 =>
        p_ck (p_ib N q60 (((nI 6) * (I a0 38)) + (nI 1))) <|
        Option.bind (P a0 36) fun q64 =>
        p_ck (p_ib N q64 (((nI 6) * (I a0 38)) + (nI 3))) <|
        p_let (α := Int32) ((if (q58 q60 (Int32.toNatClampNeg (((nI 6) * (I a0 38)) + (nI 1)))) = (q58 q64 (Int32.toNatClampNeg (((nI 6) * (I a0 38)) + (nI 3)))) then
          nI 1
        else
          nI 0)) fun t68 =>
        Option.bind (P a0 36) fun q70 =>
        p_ck (p_ib N q70 (((nI 6) * (I a0 38)) + (nI 2))) <|
        Option.bind (P a0 36) fun q74 =>
        p_ck (p_ib N q74 (((nI 6) * (I a0 38)) + (nI 4))) <|
        p_let (α := Int32) ((if (q58 q70 (Int32.toNatClampNeg (((nI 6) * (I a0 38)) + (nI 2)))) = (q58 q74 (Int32.toNatClampNeg (((nI 6) * (I a0 38)) + (nI 4)))) then
          nI 1
        else
          nI 0)) fun t78 =>
        Option.bind (α := pI) ((if (I a0 34) = (nI 1) then
          (if t68 = t78 then
            Option.bind (f_X12_also N q58 P a0 (nI 3) (I a0 30)) fun q82 =>
            some q82
          else
            some q58)
        else
          some q58)) fun t80 =>
        Option.bind (P a0 37) fun q84 =>
        p_ck (p_ib N q84 (I a0 34)) <|
        p_ck (p_ib N q84 (I a0 34)) <|
        p_let (p_u t80 q84 (Int32.toNatClampNeg (I a0 34)) ((t80 q84 (Int32.toNatClampNeg (I a0 34))) + (nI 1))) fun I89 =>
        Option.bind (P a0 37) fun q91 =>
        p_ck (p_ib N q91 (I a0 34)) <|
        Option.bind (f_X12_mostOf (I a0 34)) fun q95 =>
        Option.bind (α := pI) ((if (I89 q91 (Int32.toNatClampNeg (I a0 34))) ≤ q95 then
          some I89
        else
          Option.bind (f_X12_also N I89 P a0 (nI 4) (I a0 30)) fun q99 =>
          some q99)) fun t97 =>
        p_let (p_u t97 a0 38 ((t97 a0 38) + (nI 1))) fun I101 =>
        some I101)
    else
      Option.bind (f_X12_stops N I P a0) fun q3 =>
      some q3)
  else
    Option.bind (f_X12_stops N I P a0) fun q1 =>
    some q1)
theorem c_X12_aTownLine {G : pG} {d : Nat} {n : Nat} {N : pN} {I : pI} {L : pL} {P : pR} {a0 : Nat} {qq : pI} (hd : 5 ≤ d) (hW : WT N P) (ha0 : p_tp N a0 15) (hf : f_X12_aTownLine n N I P a0 = some qq) : MT G mX12_aTownLine d 0 0 [.ref a0] N I L P (p_R none N qq L P) := by
  refine MT.of rfl (Nat.le_of_ble_eq_true rfl) ?_
  show SW G mX12_aTownLine (p_rm d 0 0) 0 0 0 0 (p_R none N qq L P) 0 [(0, .ref a0)] [] N I L P
  unfold f_X12_aTownLine at hf
  refine s_aload_n (pc := 0) dX12_aTownLine_0 0 rfl rfl ?_
  refine x_getI (pc := 1) dX12_aTownLine_1 fl_X12_327 rfl ha0 ?_
  refine s_istore_n (pc := 4) (lo' := [(1, .int (I a0 30)), (0, .ref a0)]) dX12_aTownLine_4 rfl (Nat.le_of_ble_eq_true rfl) rfl ?_
  refine s_aload_n (pc := 5) dX12_aTownLine_5 1 rfl rfl ?_
  refine x_getI (pc := 6) dX12_aTownLine_6 fl_X12_354 rfl ha0 ?_
  refine s_if_ne (pc := 9) (tgt := 32) dX12_aTownLine_9 rfl (fun hc => ?_) (fun hc => ?_)
  · replace hf := p_ng hf hc
    refine s_aload_n (pc := 32) dX12_aTownLine_32 1 rfl rfl ?_
    obtain ⟨q1, h2, hf⟩ := p_bd hf
    refine y_callV0 (pc := 33) dX12_aTownLine_33 (c_X12_stops (p_dd hd (by decide)) hW ha0 h2) mk_X12_stops mv_X12_stops ml_X12_360 rfl rfl (Nat.le_of_ble_eq_true rfl) ha0 rfl (p_d1 hd (by decide)) (Nat.le_of_ble_eq_true rfl) ?_
    cases hf
    exact s_return (pc := 36) dX12_aTownLine_36 rfl ⟨rfl, rfl, rfl, rfl, rfl⟩
  · replace hf := p_ps hf hc
    refine s_aload_n (pc := 12) dX12_aTownLine_12 1 rfl rfl ?_
    refine x_getI (pc := 13) dX12_aTownLine_13 fl_X12_330 rfl ha0 ?_
    refine s_iconst (pc := 16) dX12_aTownLine_16 (v := nI 3) rfl ?_
    refine s_icmp_ne (pc := 17) (tgt := 32) dX12_aTownLine_17 rfl (fun hc => ?_) (fun hc => ?_)
    · replace hf := p_ng hf hc
      refine s_aload_n (pc := 32) dX12_aTownLine_32 1 rfl rfl ?_
      obtain ⟨q3, h4, hf⟩ := p_bd hf
      refine y_callV0 (pc := 33) dX12_aTownLine_33 (c_X12_stops (p_dd hd (by decide)) hW ha0 h4) mk_X12_stops mv_X12_stops ml_X12_360 rfl rfl (Nat.le_of_ble_eq_true rfl) ha0 rfl (p_d1 hd (by decide)) (Nat.le_of_ble_eq_true rfl) ?_
      cases hf
      exact s_return (pc := 36) dX12_aTownLine_36 rfl ⟨rfl, rfl, rfl, rfl, rfl⟩
    · replace hf := p_ps hf hc
      refine s_aload_n (pc := 20) dX12_aTownLine_20 1 rfl rfl ?_
      refine x_getI (pc := 21) dX12_aTownLine_21 fl_X12_339 rfl ha0 ?_
      refine s_iconst (pc := 24) dX12_aTownLine_24 (v := nI 1) rfl ?_
      refine s_iconst (pc := 25) dX12_aTownLine_25 (v := nI 4) rfl ?_
      obtain ⟨q5, h6, hf⟩ := p_bd hf
      refine y_callS1 (pc := 26) dX12_aTownLine_26 (c_X12_isIn (p_dd hd (by decide)) hW  h6) mk_X12_isIn mz_X12_isIn ml_X12_68 rfl rfl (Nat.le_of_ble_eq_true rfl) (p_d1 hd (by decide)) (Nat.le_of_ble_eq_true rfl) ?_
      refine s_if_ne (pc := 29) (tgt := 37) dX12_aTownLine_29 rfl (fun hc => ?_) (fun hc => ?_)
      · replace hf := p_ng hf hc
        refine s_aload_n (pc := 37) dX12_aTownLine_37 1 rfl rfl ?_
        refine x_getI (pc := 38) dX12_aTownLine_38 fl_X12_339 rfl ha0 ?_
        refine s_istore_n (pc := 41) (lo' := [(2, .int (I a0 34)), (1, .int (I a0 30)), (0, .ref a0)]) dX12_aTownLine_41 rfl (Nat.le_of_ble_eq_true rfl) rfl ?_
        refine s_bipush (pc := 42) dX12_aTownLine_42 (v := nI 6) rfl ?_
        refine s_aload_n (pc := 44) dX12_aTownLine_44 2 rfl rfl ?_
        refine x_getI (pc := 45) dX12_aTownLine_45 fl_X12_363 rfl ha0 ?_
        refine s_imul (pc := 48) dX12_aTownLine_48 ?_
        refine s_istore_n (pc := 49) (lo' := [(3, .int ((nI 6) * (I a0 38))), (2, .int (I a0 34)), (1, .int (I a0 30)), (0, .ref a0)]) dX12_aTownLine_49 rfl (Nat.le_of_ble_eq_true rfl) rfl ?_
        refine s_aload_n (pc := 50) dX12_aTownLine_50 3 rfl rfl ?_
        obtain ⟨q7, h8, hf⟩ := p_bd hf
        refine y_callV0 (pc := 51) dX12_aTownLine_51 (c_X12_advance (p_dd hd (by decide)) hW ha0 h8) mk_X12_advance mv_X12_advance ml_X12_357 rfl rfl (Nat.le_of_ble_eq_true rfl) ha0 rfl (p_d1 hd (by decide)) (Nat.le_of_ble_eq_true rfl) ?_
        refine s_aload_n (pc := 54) dX12_aTownLine_54 3 rfl rfl ?_
        obtain ⟨q9, h10, hf⟩ := p_bd hf
        have t11 : p_tp N q9 0 := WT.get hW ha0 h10
        refine x_getR (pc := 55) dX12_aTownLine_55 fl_X12_53 rfl ha0 h10 ?_
        refine s_iload_n (pc := 58) dX12_aTownLine_58 0 rfl rfl ?_
        refine s_iload_n (pc := 59) dX12_aTownLine_59 1 rfl rfl ?_
        obtain ⟨c12, hf⟩ := p_ckx hf
        refine x_iast (pc := 60) dX12_aTownLine_60 t11 c12 ?_
        refine s_nmI (fun I13 e14 => ?_)
        replace hf := p_lx hf e14
        refine s_iconst (pc := 61) dX12_aTownLine_61 (v := nI 0) rfl ?_
        refine s_istore (pc := 62) (lo' := [(4, .int (nI 0)), (3, .int ((nI 6) * (I a0 38))), (2, .int (I a0 34)), (1, .int (I a0 30)), (0, .ref a0)]) dX12_aTownLine_62 (Nat.le_of_ble_eq_true rfl) rfl ?_
        obtain ⟨t15, hg, hf⟩ := p_bd hf
        have k16 : SW G mX12_aTownLine (p_rm d 0 0) 0 0 0 0 (p_R none N qq L P) 134 [(3, .int ((nI 6) * (I a0 38))), (2, .int (I a0 34)), (1, .int (I a0 30)), (0, .ref a0)] [] N t15 L P := by
          refine s_aload_n (pc := 134) dX12_aTownLine_134 3 rfl rfl ?_
          refine s_bipush (pc := 135) dX12_aTownLine_135 (v := nI 59) rfl ?_
          obtain ⟨q58, h59, hf⟩ := p_bd hf
          refine y_callV0 (pc := 137) dX12_aTownLine_137 (c_X12_must (p_dd hd (by decide)) hW ha0 h59) mk_X12_must mv_X12_must ml_X12_378 rfl rfl (Nat.le_of_ble_eq_true rfl) ha0 rfl (p_d1 hd (by decide)) (Nat.le_of_ble_eq_true rfl) ?_
          refine s_aload_n (pc := 140) dX12_aTownLine_140 3 rfl rfl ?_
          obtain ⟨q60, h61, hf⟩ := p_bd hf
          have t62 : p_tp N q60 0 := WT.get hW ha0 h61
          refine x_getR (pc := 141) dX12_aTownLine_141 fl_X12_53 rfl ha0 h61 ?_
          refine s_iload_n (pc := 144) dX12_aTownLine_144 0 rfl rfl ?_
          refine s_iconst (pc := 145) dX12_aTownLine_145 (v := nI 1) rfl ?_
          refine s_iadd (pc := 146) dX12_aTownLine_146 ?_
          obtain ⟨c63, hf⟩ := p_ckx hf
          refine x_iald (pc := 147) dX12_aTownLine_147 t62 c63 ?_
          refine s_aload_n (pc := 148) dX12_aTownLine_148 3 rfl rfl ?_
          obtain ⟨q64, h65, hf⟩ := p_bd hf
          have t66 : p_tp N q64 0 := WT.get hW ha0 h65
          refine x_getR (pc := 149) dX12_aTownLine_149 fl_X12_53 rfl ha0 h65 ?_
          refine s_iload_n (pc := 152) dX12_aTownLine_152 0 rfl rfl ?_
          refine s_iconst (pc := 153) dX12_aTownLine_153 (v := nI 3) rfl ?_
          refine s_iadd (pc := 154) dX12_aTownLine_154 ?_
          obtain ⟨c67, hf⟩ := p_ckx hf
          refine x_iald (pc := 155) dX12_aTownLine_155 t66 c67 ?_
          obtain ⟨t68, hg, hf⟩ := p_lx2 hf
          have k69 : SW G mX12_aTownLine (p_rm d 0 0) 0 0 0 0 (p_R none N qq L P) 164 [(3, .int ((nI 6) * (I a0 38))), (2, .int (I a0 34)), (1, .int (I a0 30)), (0, .ref a0)] [.int t68] N q58 L P := by
            refine s_istore (pc := 164) (lo' := [(4, .int t68), (3, .int ((nI 6) * (I a0 38))), (2, .int (I a0 34)), (1, .int (I a0 30)), (0, .ref a0)]) dX12_aTownLine_164 (Nat.le_of_ble_eq_true rfl) rfl ?_
            refine s_aload_n (pc := 166) dX12_aTownLine_166 4 rfl rfl ?_
            obtain ⟨q70, h71, hf⟩ := p_bd hf
            have t72 : p_tp N q70 0 := WT.get hW ha0 h71
            refine x_getR (pc := 167) dX12_aTownLine_167 fl_X12_53 rfl ha0 h71 ?_
            refine s_iload_n (pc := 170) dX12_aTownLine_170 1 rfl rfl ?_
            refine s_iconst (pc := 171) dX12_aTownLine_171 (v := nI 2) rfl ?_
            refine s_iadd (pc := 172) dX12_aTownLine_172 ?_
            obtain ⟨c73, hf⟩ := p_ckx hf
            refine x_iald (pc := 173) dX12_aTownLine_173 t72 c73 ?_
            refine s_aload_n (pc := 174) dX12_aTownLine_174 4 rfl rfl ?_
            obtain ⟨q74, h75, hf⟩ := p_bd hf
            have t76 : p_tp N q74 0 := WT.get hW ha0 h75
            refine x_getR (pc := 175) dX12_aTownLine_175 fl_X12_53 rfl ha0 h75 ?_
            refine s_iload_n (pc := 178) dX12_aTownLine_178 1 rfl rfl ?_
            refine s_iconst (pc := 179) dX12_aTownLine_179 (v := nI 4) rfl ?_
            refine s_iadd (pc := 180) dX12_aTownLine_180 ?_
            obtain ⟨c77, hf⟩ := p_ckx hf
            refine x_iald (pc := 181) dX12_aTownLine_181 t76 c77 ?_
            obtain ⟨t78, hg, hf⟩ := p_lx2 hf
            have k79 : SW G mX12_aTownLine (p_rm d 0 0) 0 0 0 0 (p_R none N qq L P) 190 [(4, .int t68), (2, .int (I a0 34)), (1, .int (I a0 30)), (0, .ref a0)] [.int t78] N q58 L P := by
              refine s_istore (pc := 190) (lo' := [(5, .int t78), (4, .int t68), (2, .int (I a0 34)), (1, .int (I a0 30)), (0, .ref a0)]) dX12_aTownLine_190 (Nat.le_of_ble_eq_true rfl) rfl ?_
              refine s_iload_n (pc := 192) dX12_aTownLine_192 2 rfl rfl ?_
              refine s_iconst (pc := 193) dX12_aTownLine_193 (v := nI 1) rfl ?_
              obtain ⟨t80, hg, hf⟩ := p_bd hf
              have k81 : SW G mX12_aTownLine (p_rm d 0 0) 0 0 0 0 (p_R none N qq L P) 210 [(2, .int (I a0 34)), (1, .int (I a0 30)), (0, .ref a0)] [] N t80 L P := by
                refine s_aload_n (pc := 210) dX12_aTownLine_210 2 rfl rfl ?_
                obtain ⟨q84, h85, hf⟩ := p_bd hf
                have t86 : p_tp N q84 0 := WT.get hW ha0 h85
                refine x_getR (pc := 211) dX12_aTownLine_211 fl_X12_56 rfl ha0 h85 ?_
                refine s_iload_n (pc := 214) dX12_aTownLine_214 0 rfl rfl ?_
                refine s_dup2_11 (pc := 215) dX12_aTownLine_215 rfl rfl ?_
                obtain ⟨c87, hf⟩ := p_ckx hf
                refine x_iald (pc := 216) dX12_aTownLine_216 t86 c87 ?_
                refine s_iconst (pc := 217) dX12_aTownLine_217 (v := nI 1) rfl ?_
                refine s_iadd (pc := 218) dX12_aTownLine_218 ?_
                obtain ⟨c88, hf⟩ := p_ckx hf
                refine x_iast (pc := 219) dX12_aTownLine_219 t86 c88 ?_
                refine s_nmI (fun I89 e90 => ?_)
                replace hf := p_lx hf e90
                refine s_aload_n (pc := 220) dX12_aTownLine_220 2 rfl rfl ?_
                obtain ⟨q91, h92, hf⟩ := p_bd hf
                have t93 : p_tp N q91 0 := WT.get hW ha0 h92
                refine x_getR (pc := 221) dX12_aTownLine_221 fl_X12_56 rfl ha0 h92 ?_
                refine s_iload_n (pc := 224) dX12_aTownLine_224 0 rfl rfl ?_
                obtain ⟨c94, hf⟩ := p_ckx hf
                refine x_iald (pc := 225) dX12_aTownLine_225 t93 c94 ?_
                refine s_iload_n (pc := 226) dX12_aTownLine_226 0 rfl rfl ?_
                obtain ⟨q95, h96, hf⟩ := p_bd hf
                refine y_callS1 (pc := 227) dX12_aTownLine_227 (c_X12_mostOf (p_dd hd (by decide)) hW  h96) mk_X12_mostOf mz_X12_mostOf ml_X12_381 rfl rfl (Nat.le_of_ble_eq_true rfl) (p_d1 hd (by decide)) (Nat.le_of_ble_eq_true rfl) ?_
                obtain ⟨t97, hg, hf⟩ := p_bd hf
                have k98 : SW G mX12_aTownLine (p_rm d 0 0) 0 0 0 0 (p_R none N qq L P) 239 [(0, .ref a0)] [] N t97 L P := by
                  refine s_aload_n (pc := 239) dX12_aTownLine_239 0 rfl rfl ?_
                  refine s_dup (pc := 240) dX12_aTownLine_240 rfl ?_
                  refine x_getI (pc := 241) dX12_aTownLine_241 fl_X12_363 rfl ha0 ?_
                  refine s_iconst (pc := 244) dX12_aTownLine_244 (v := nI 1) rfl ?_
                  refine s_iadd (pc := 245) dX12_aTownLine_245 ?_
                  refine x_putI (pc := 246) dX12_aTownLine_246 fl_X12_363 (Or.inl rfl) rfl ha0 ?_
                  refine s_nmI (fun I101 e102 => ?_)
                  replace hf := p_lx hf e102
                  cases hf
                  exact s_return (pc := 249) dX12_aTownLine_249 rfl ⟨rfl, rfl, rfl, rfl, rfl⟩
                replace hf := hg
                refine s_icmp_le (pc := 230) (tgt := 239) dX12_aTownLine_230 rfl (fun hc => ?_) (fun hc => ?_)
                · replace hf := p_ps hf hc
                  cases hf
                  exact s_lo [2] rfl (k98)
                · replace hf := p_ng hf hc
                  refine s_aload_n (pc := 233) dX12_aTownLine_233 2 rfl rfl ?_
                  refine s_iconst (pc := 234) dX12_aTownLine_234 (v := nI 4) rfl ?_
                  refine s_iload_n (pc := 235) dX12_aTownLine_235 1 rfl rfl ?_
                  obtain ⟨q99, h100, hf⟩ := p_bd hf
                  refine y_callV0 (pc := 236) dX12_aTownLine_236 (c_X12_also (p_dd hd (by decide)) hW ha0 h100) mk_X12_also mv_X12_also ml_X12_375 rfl rfl (Nat.le_of_ble_eq_true rfl) ha0 rfl (p_d1 hd (by decide)) (Nat.le_of_ble_eq_true rfl) ?_
                  cases hf
                  exact s_lo [2] rfl (k98)
              replace hf := hg
              refine s_icmp_ne (pc := 194) (tgt := 210) dX12_aTownLine_194 rfl (fun hc => ?_) (fun hc => ?_)
              · replace hf := p_ng hf hc
                cases hf
                exact s_lo [2, 3, 4] rfl (k81)
              · replace hf := p_ps hf hc
                refine s_iload (pc := 197) dX12_aTownLine_197 1 rfl ?_
                refine s_iload (pc := 199) dX12_aTownLine_199 0 rfl ?_
                refine s_icmp_ne (pc := 201) (tgt := 210) dX12_aTownLine_201 rfl (fun hc => ?_) (fun hc => ?_)
                · replace hf := p_ng hf hc
                  cases hf
                  exact s_lo [2, 3, 4] rfl (k81)
                · replace hf := p_ps hf hc
                  refine s_aload_n (pc := 204) dX12_aTownLine_204 4 rfl rfl ?_
                  refine s_iconst (pc := 205) dX12_aTownLine_205 (v := nI 3) rfl ?_
                  refine s_iload_n (pc := 206) dX12_aTownLine_206 3 rfl rfl ?_
                  obtain ⟨q82, h83, hf⟩ := p_bd hf
                  refine y_callV0 (pc := 207) dX12_aTownLine_207 (c_X12_also (p_dd hd (by decide)) hW ha0 h83) mk_X12_also mv_X12_also ml_X12_375 rfl rfl (Nat.le_of_ble_eq_true rfl) ha0 rfl (p_d1 hd (by decide)) (Nat.le_of_ble_eq_true rfl) ?_
                  cases hf
                  exact s_lo [2, 3, 4] rfl (k81)
            replace hf := hg.symm
            refine s_icmp_ne (pc := 182) (tgt := 189) dX12_aTownLine_182 rfl (fun hc => ?_) (fun hc => ?_)
            · replace hf := p_ng hf hc
              refine s_iconst (pc := 189) dX12_aTownLine_189 (v := nI 0) rfl ?_
              cases hf
              exact s_lo [0, 2, 3, 4] rfl (k79)
            · replace hf := p_ps hf hc
              refine s_iconst (pc := 185) dX12_aTownLine_185 (v := nI 1) rfl ?_
              refine s_goto (pc := 186) (tgt := 190) dX12_aTownLine_186 rfl ?_
              cases hf
              exact s_lo [0, 2, 3, 4] rfl (k79)
          replace hf := hg.symm
          refine s_icmp_ne (pc := 156) (tgt := 163) dX12_aTownLine_156 rfl (fun hc => ?_) (fun hc => ?_)
          · replace hf := p_ng hf hc
            refine s_iconst (pc := 163) dX12_aTownLine_163 (v := nI 0) rfl ?_
            cases hf
            exact s_lo [0, 1, 2, 3] rfl (k69)
          · replace hf := p_ps hf hc
            refine s_iconst (pc := 159) dX12_aTownLine_159 (v := nI 1) rfl ?_
            refine s_goto (pc := 160) (tgt := 164) dX12_aTownLine_160 rfl ?_
            cases hf
            exact s_lo [0, 1, 2, 3] rfl (k69)
        replace hf := hg
        have k37 : ∀ (k : Nat) (s0 : Int32 × pI), p_it (B_X12_aTownLine_64 n N P ((nI 6) * (I a0 38)) (I a0 34) a0) k s0 = some t15 → (SW G mX12_aTownLine (p_rm d 0 0) 0 0 0 0 (p_R none N qq L P) 64 [(3, .int ((nI 6) * (I a0 38))), (2, .int (I a0 34)), (1, .int (I a0 30)), (0, .ref a0), (4, .int s0.1)] [] N s0.2 L P) := p_it_ind (C := fun (s0 : Int32 × pI) => SW G mX12_aTownLine (p_rm d 0 0) 0 0 0 0 (p_R none N qq L P) 64 [(3, .int ((nI 6) * (I a0 38))), (2, .int (I a0 34)), (1, .int (I a0 30)), (0, .ref a0), (4, .int s0.1)] [] N s0.2 L P) (by
          intro rec0 hrec0 s0 hf
          unfold B_X12_aTownLine_64 at hf
          refine s_iload (pc := 64) dX12_aTownLine_64 4 rfl ?_
          refine s_iload_n (pc := 66) dX12_aTownLine_66 1 rfl rfl ?_
          obtain ⟨q38, h39, hf⟩ := p_bd hf
          refine y_callS1 (pc := 67) dX12_aTownLine_67 (c_X12_numbersOf (p_dd hd (by decide)) hW  h39) mk_X12_numbersOf mz_X12_numbersOf ml_X12_366 rfl rfl (Nat.le_of_ble_eq_true rfl) (p_d1 hd (by decide)) (Nat.le_of_ble_eq_true rfl) ?_
          refine s_icmp_ge (pc := 70) (tgt := 134) dX12_aTownLine_70 rfl (fun hc => ?_) (fun hc => ?_)
          · replace hf := p_ps hf hc
            cases hf
            exact s_lo [0, 1, 2, 3] rfl (k16)
          · replace hf := p_ng hf hc
            refine s_aload_n (pc := 73) dX12_aTownLine_73 3 rfl rfl ?_
            refine x_getI (pc := 74) dX12_aTownLine_74 fl_X12_354 rfl ha0 ?_
            refine s_if_ne (pc := 77) (tgt := 134) dX12_aTownLine_77 rfl (fun hc => ?_) (fun hc => ?_)
            · replace hf := p_ng hf hc
              cases hf
              exact s_lo [0, 1, 2, 3] rfl (k16)
            · replace hf := p_ps hf hc
              refine s_aload_n (pc := 80) dX12_aTownLine_80 3 rfl rfl ?_
              refine x_getI (pc := 81) dX12_aTownLine_81 fl_X12_327 rfl ha0 ?_
              refine s_istore (pc := 84) (lo' := [(5, .int (s0.2 a0 30)), (3, .int ((nI 6) * (I a0 38))), (2, .int (I a0 34)), (1, .int (I a0 30)), (0, .ref a0), (4, .int s0.1)]) dX12_aTownLine_84 (Nat.le_of_ble_eq_true rfl) rfl ?_
              refine s_aload_n (pc := 86) dX12_aTownLine_86 4 rfl rfl ?_
              obtain ⟨q40, h41, hf⟩ := p_bd hf
              have t42 : p_tp N q40 0 := WT.get hW ha0 h41
              refine x_getR (pc := 87) dX12_aTownLine_87 fl_X12_53 rfl ha0 h41 ?_
              refine s_iload_n (pc := 90) dX12_aTownLine_90 1 rfl rfl ?_
              refine s_iconst (pc := 91) dX12_aTownLine_91 (v := nI 1) rfl ?_
              refine s_iadd (pc := 92) dX12_aTownLine_92 ?_
              refine s_iload (pc := 93) dX12_aTownLine_93 5 rfl ?_
              refine s_iadd (pc := 95) dX12_aTownLine_95 ?_
              refine s_aload_n (pc := 96) dX12_aTownLine_96 4 rfl rfl ?_
              obtain ⟨q43, h44, hf⟩ := p_bd hf
              refine y_callV1 (pc := 97) dX12_aTownLine_97 (c_X12_numbered (p_dd hd (by decide)) hW ha0 h44) mk_X12_numbered mv_X12_numbered ml_X12_369 rfl rfl (Nat.le_of_ble_eq_true rfl) ha0 rfl (p_d1 hd (by decide)) (Nat.le_of_ble_eq_true rfl) ?_
              obtain ⟨c45, hf⟩ := p_ckx hf
              refine x_iast (pc := 100) dX12_aTownLine_100 t42 c45 ?_
              refine s_nmI (fun I46 e47 => ?_)
              replace hf := p_lx hf e47
              refine s_iload_n (pc := 101) dX12_aTownLine_101 2 rfl rfl ?_
              refine s_iload (pc := 102) dX12_aTownLine_102 5 rfl ?_
              refine s_aload_n (pc := 104) dX12_aTownLine_104 4 rfl rfl ?_
              obtain ⟨q48, h49, hf⟩ := p_bd hf
              have t50 : p_tp N q48 0 := WT.get hW ha0 h49
              refine x_getR (pc := 105) dX12_aTownLine_105 fl_X12_53 rfl ha0 h49 ?_
              refine s_iload_n (pc := 108) dX12_aTownLine_108 1 rfl rfl ?_
              refine s_iconst (pc := 109) dX12_aTownLine_109 (v := nI 1) rfl ?_
              refine s_iadd (pc := 110) dX12_aTownLine_110 ?_
              refine s_iload (pc := 111) dX12_aTownLine_111 5 rfl ?_
              refine s_iadd (pc := 113) dX12_aTownLine_113 ?_
              obtain ⟨c51, hf⟩ := p_ckx hf
              refine x_iald (pc := 114) dX12_aTownLine_114 t50 c51 ?_
              obtain ⟨q52, h53, hf⟩ := p_bd hf
              refine y_callS1 (pc := 115) dX12_aTownLine_115 (c_X12_mayBe (p_dd hd (by decide)) hW  h53) mk_X12_mayBe mz_X12_mayBe ml_X12_372 rfl rfl (Nat.le_of_ble_eq_true rfl) (p_d1 hd (by decide)) (Nat.le_of_ble_eq_true rfl) ?_
              obtain ⟨t54, hg, hf⟩ := p_bd hf
              have k55 : SW G mX12_aTownLine (p_rm d 0 0) 0 0 0 0 (p_R none N qq L P) 128 [(3, .int ((nI 6) * (I a0 38))), (2, .int (I a0 34)), (1, .int (I a0 30)), (0, .ref a0), (4, .int s0.1)] [] N t54 L P := by
                refine s_iinc (pc := 128) (lo' := [(4, .int (s0.1 + nI 1)), (3, .int ((nI 6) * (I a0 38))), (2, .int (I a0 34)), (1, .int (I a0 30)), (0, .ref a0)]) dX12_aTownLine_128 4 rfl (v := s0.1 + nI 1) rfl (Nat.le_of_ble_eq_true rfl) rfl ?_
                refine s_goto (pc := 131) (tgt := 64) dX12_aTownLine_131 rfl ?_
                exact s_lo [1, 2, 3, 4, 0] rfl (hrec0 (s0.1 + nI 1, t54) hf)
              replace hf := hg
              refine s_if_ne (pc := 118) (tgt := 128) dX12_aTownLine_118 rfl (fun hc => ?_) (fun hc => ?_)
              · replace hf := p_ng hf hc
                cases hf
                exact s_lo [1, 2, 3, 4, 5] rfl (k55)
              · replace hf := p_ps hf hc
                refine s_aload_n (pc := 121) dX12_aTownLine_121 4 rfl rfl ?_
                refine s_iconst (pc := 122) dX12_aTownLine_122 (v := nI 2) rfl ?_
                refine s_iload (pc := 123) dX12_aTownLine_123 0 rfl ?_
                obtain ⟨q56, h57, hf⟩ := p_bd hf
                refine y_callV0 (pc := 125) dX12_aTownLine_125 (c_X12_also (p_dd hd (by decide)) hW ha0 h57) mk_X12_also mv_X12_also ml_X12_375 rfl rfl (Nat.le_of_ble_eq_true rfl) ha0 rfl (p_d1 hd (by decide)) (Nat.le_of_ble_eq_true rfl) ?_
                cases hf
                exact s_lo [1, 2, 3, 4, 5] rfl (k55))
        exact s_lo [1, 2, 3, 4, 0] rfl (k37 n (nI 0, I13) hf)
      · replace hf := p_ps hf hc
        refine s_aload_n (pc := 32) dX12_aTownLine_32 1 rfl rfl ?_
        obtain ⟨q103, h104, hf⟩ := p_bd hf
        refine y_callV0 (pc := 33) dX12_aTownLine_33 (c_X12_stops (p_dd hd (by decide)) hW ha0 h104) mk_X12_stops mv_X12_stops ml_X12_360 rfl rfl (Nat.le_of_ble_eq_true rfl) ha0 rfl (p_d1 hd (by decide)) (Nat.le_of_ble_eq_true rfl) ?_
        cases hf
        exact s_return (pc := 36) dX12_aTownLine_36 rfl ⟨rfl, rfl, rfl, rfl, rfl⟩
