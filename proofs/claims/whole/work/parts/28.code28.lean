def f_X11_cover (n : Nat) (N : pN) (I : pI) (L : pL) (P : pR) (a0 : Nat) (x1 : Int32) : Option (Int32 × pI × pL) :=
  Option.bind (P a0 4) fun q1 =>
  Option.bind (f_X5_chooseSites n N I L P q1) fun q4 =>
  (if x1 = nI 0 then
    Option.bind (P a0 4) fun q12 =>
    some (q4.1 q12 5, q4.1, q4.2)
  else
    (if x1 = nI 1 then
      Option.bind (P a0 4) fun q9 =>
      some (q4.1 q9 6, q4.1, q4.2)
    else
      (if x1 = nI 2 then
        Option.bind (P a0 4) fun q6 =>
        some (q4.1 q6 7, q4.1, q4.2)
      else
        some ((-1), q4.1, q4.2))))
theorem c_X11_cover {G : pG} {d : Nat} {n : Nat} {N : pN} {I : pI} {L : pL} {P : pR} {a0 : Nat} {x1 : Int32} {qq : Int32 × pI × pL} (hd : 7 ≤ d) (hW : WT N P) (ha0 : p_tp N a0 14) (hf : f_X11_cover n N I L P a0 x1 = some qq) : MT G mX11_cover d 0 0 [.ref a0, .int x1] N I L P (p_R (some (.int qq.1)) N qq.2.1 qq.2.2 P) := by
  refine MT.of rfl (Nat.le_of_ble_eq_true rfl) ?_
  show SW G mX11_cover (p_rm d 0 0) 0 0 0 0 (p_R (some (.int qq.1)) N qq.2.1 qq.2.2 P) 0 [(0, .ref a0), (1, .int x1)] [] N I L P
  unfold f_X11_cover at hf
  refine s_aload_n (pc := 0) dX11_cover_0 0 rfl rfl ?_
  obtain ⟨q1, h2, hf⟩ := p_bd hf
  have t3 : p_tp N q1 8 := WT.get hW ha0 h2
  refine x_getR (pc := 1) dX11_cover_1 fl_X11_41 rfl ha0 h2 ?_
  obtain ⟨q4, h5, hf⟩ := p_bd hf
  refine y_callV0 (pc := 4) dX11_cover_4 (c_X5_chooseSites (p_dd hd (by decide)) hW t3 h5) mk_X5_chooseSites mv_X5_chooseSites ml_X11_201 rfl rfl (Nat.le_of_ble_eq_true rfl) t3 rfl (p_d1 hd (by decide)) (Nat.le_of_ble_eq_true rfl) ?_
  refine s_iload_n (pc := 7) dX11_cover_7 1 rfl rfl ?_
  by_cases hc0 : x1 = nI 0
  · replace hf := p_ps hf hc0
    refine s_tableIn (pc := 8) (tgt := 36) (off := 28) dX11_cover_8 (by rw [hc0]; decide) (by rw [hc0]; decide) (by rw [hc0]; rfl) rfl ?_
    refine s_aload_n (pc := 36) dX11_cover_36 0 rfl rfl ?_
    obtain ⟨q12, h13, hf⟩ := p_bd hf
    have t14 : p_tp N q12 8 := WT.get hW ha0 h13
    refine x_getR (pc := 37) dX11_cover_37 fl_X11_41 rfl ha0 h13 ?_
    refine x_getI (pc := 40) dX11_cover_40 fl_X11_204 rfl t14 ?_
    cases hf
    exact s_ireturn (pc := 43) dX11_cover_43 rfl rfl ⟨rfl, rfl, rfl, rfl, rfl⟩
  · replace hf := p_ng hf hc0
    by_cases hc1 : x1 = nI 1
    · replace hf := p_ps hf hc1
      refine s_tableIn (pc := 8) (tgt := 44) (off := 36) dX11_cover_8 (by rw [hc1]; decide) (by rw [hc1]; decide) (by rw [hc1]; rfl) rfl ?_
      refine s_aload_n (pc := 44) dX11_cover_44 0 rfl rfl ?_
      obtain ⟨q9, h10, hf⟩ := p_bd hf
      have t11 : p_tp N q9 8 := WT.get hW ha0 h10
      refine x_getR (pc := 45) dX11_cover_45 fl_X11_41 rfl ha0 h10 ?_
      refine x_getI (pc := 48) dX11_cover_48 fl_X11_207 rfl t11 ?_
      cases hf
      exact s_ireturn (pc := 51) dX11_cover_51 rfl rfl ⟨rfl, rfl, rfl, rfl, rfl⟩
    · replace hf := p_ng hf hc1
      by_cases hc2 : x1 = nI 2
      · replace hf := p_ps hf hc2
        refine s_tableIn (pc := 8) (tgt := 52) (off := 44) dX11_cover_8 (by rw [hc2]; decide) (by rw [hc2]; decide) (by rw [hc2]; rfl) rfl ?_
        refine s_aload_n (pc := 52) dX11_cover_52 0 rfl rfl ?_
        obtain ⟨q6, h7, hf⟩ := p_bd hf
        have t8 : p_tp N q6 8 := WT.get hW ha0 h7
        refine x_getR (pc := 53) dX11_cover_53 fl_X11_41 rfl ha0 h7 ?_
        refine x_getI (pc := 56) dX11_cover_56 fl_X11_210 rfl t8 ?_
        cases hf
        exact s_ireturn (pc := 59) dX11_cover_59 rfl rfl ⟨rfl, rfl, rfl, rfl, rfl⟩
      · replace hf := p_ng hf hc2
        have hout : x1.toInt < 0 ∨ 2 < x1.toInt := p_out (fun i h1 h2 => by
          have hh : i = 0 ∨ i = 1 ∨ i = 2 := by omega
          rcases hh with rfl | rfl | rfl
          · exact p_ne hc0 rfl
          · exact p_ne hc1 rfl
          · exact p_ne hc2 rfl)
        refine s_tableOut (pc := 8) (tgt := 60) dX11_cover_8 hout rfl ?_
        refine s_iconst (pc := 60) dX11_cover_60 (v := (-1)) rfl ?_
        cases hf
        exact s_ireturn (pc := 61) dX11_cover_61 rfl rfl ⟨rfl, rfl, rfl, rfl, rfl⟩
def f_X11_serves (n : Nat) (N : pN) (I : pI) (L : pL) (P : pR) (a0 : Nat) (x1 : Int32) (x2 : Int32) : Option (Int32 × pI × pL) :=
  Option.bind (P a0 3) fun q1 =>
  Option.bind (f_X3_siteSignal n N I L P q1 x1 x2) fun q4 =>
  some (q4.1, q4.2.1, q4.2.2)
theorem c_X11_serves {G : pG} {d : Nat} {n : Nat} {N : pN} {I : pI} {L : pL} {P : pR} {a0 : Nat} {x1 : Int32} {x2 : Int32} {qq : Int32 × pI × pL} (hd : 5 ≤ d) (hW : WT N P) (ha0 : p_tp N a0 14) (hf : f_X11_serves n N I L P a0 x1 x2 = some qq) : MT G mX11_serves d 0 0 [.ref a0, .int x1, .int x2] N I L P (p_R (some (.int qq.1)) N qq.2.1 qq.2.2 P) := by
  refine MT.of rfl (Nat.le_of_ble_eq_true rfl) ?_
  show SW G mX11_serves (p_rm d 0 0) 0 0 0 0 (p_R (some (.int qq.1)) N qq.2.1 qq.2.2 P) 0 [(0, .ref a0), (1, .int x1), (2, .int x2)] [] N I L P
  unfold f_X11_serves at hf
  refine s_aload_n (pc := 0) dX11_serves_0 0 rfl rfl ?_
  obtain ⟨q1, h2, hf⟩ := p_bd hf
  have t3 : p_tp N q1 6 := WT.get hW ha0 h2
  refine x_getR (pc := 1) dX11_serves_1 fl_X11_32 rfl ha0 h2 ?_
  refine s_iload_n (pc := 4) dX11_serves_4 1 rfl rfl ?_
  refine s_iload_n (pc := 5) dX11_serves_5 2 rfl rfl ?_
  obtain ⟨q4, h5, hf⟩ := p_bd hf
  refine y_callV1 (pc := 6) dX11_serves_6 (c_X3_siteSignal (p_dd hd (by decide)) hW t3 h5) mk_X3_siteSignal mv_X3_siteSignal ml_X11_213 rfl rfl (Nat.le_of_ble_eq_true rfl) t3 rfl (p_d1 hd (by decide)) (Nat.le_of_ble_eq_true rfl) ?_
  cases hf
  exact s_ireturn (pc := 9) dX11_serves_9 rfl rfl ⟨rfl, rfl, rfl, rfl, rfl⟩
def f_X11_clash (n : Nat) (N : pN) (I : pI) (L : pL) (P : pR) (a0 : Nat) (x1 : Int32) (x2 : Int32) : Option (Int32 × pI × pL) :=
  (if x1 = x2 then
    some (nI 0, I, L)
  else
    Option.bind (P a0 0) fun q1 =>
    Option.bind (f_X7_senderStands N I P q1 x1) fun q4 =>
    (if q4 = 0 then
      some (nI 0, I, L)
    else
      Option.bind (P a0 0) fun q6 =>
      Option.bind (f_X7_senderStands N I P q6 x2) fun q9 =>
      (if q9 = 0 then
        some (nI 0, I, L)
      else
        Option.bind (P a0 4) fun q11 =>
        Option.bind (f_X5_findReaches n N I L P q11) fun q14 =>
        Option.bind (P a0 4) fun q16 =>
        Option.bind (f_X5_clashing N q14.1 P q16 x1 x2) fun q19 =>
        p_ck (decide (q19 = 0 ∨ q19 = 1)) <|
        some (q19, q14.1, q14.2))))
theorem c_X11_clash {G : pG} {d : Nat} {n : Nat} {N : pN} {I : pI} {L : pL} {P : pR} {a0 : Nat} {x1 : Int32} {x2 : Int32} {qq : Int32 × pI × pL} (hd : 6 ≤ d) (hW : WT N P) (ha0 : p_tp N a0 14) (hf : f_X11_clash n N I L P a0 x1 x2 = some qq) : MT G mX11_clash d 0 0 [.ref a0, .int x1, .int x2] N I L P (p_R (some (.int qq.1)) N qq.2.1 qq.2.2 P) := by
  refine MT.of rfl (Nat.le_of_ble_eq_true rfl) ?_
  show SW G mX11_clash (p_rm d 0 0) 0 0 0 0 (p_R (some (.int qq.1)) N qq.2.1 qq.2.2 P) 0 [(0, .ref a0), (1, .int x1), (2, .int x2)] [] N I L P
  unfold f_X11_clash at hf
  refine s_iload_n (pc := 0) dX11_clash_0 1 rfl rfl ?_
  refine s_iload_n (pc := 1) dX11_clash_1 2 rfl rfl ?_
  refine s_icmp_eq (pc := 2) (tgt := 27) dX11_clash_2 rfl (fun hc => ?_) (fun hc => ?_)
  · replace hf := p_ps hf hc
    refine s_iconst (pc := 27) dX11_clash_27 (v := nI 0) rfl ?_
    cases hf
    exact s_ireturn (pc := 28) dX11_clash_28 rfl rfl ⟨rfl, rfl, rfl, rfl, rfl⟩
  · replace hf := p_ng hf hc
    refine s_aload_n (pc := 5) dX11_clash_5 0 rfl rfl ?_
    obtain ⟨q1, h2, hf⟩ := p_bd hf
    have t3 : p_tp N q1 10 := WT.get hW ha0 h2
    refine x_getR (pc := 6) dX11_clash_6 fl_X11_10 rfl ha0 h2 ?_
    refine s_iload_n (pc := 9) dX11_clash_9 1 rfl rfl ?_
    obtain ⟨q4, h5, hf⟩ := p_bd hf
    refine y_callV1 (pc := 10) dX11_clash_10 (c_X7_senderStands (p_dd hd (by decide)) hW t3 h5) mk_X7_senderStands mv_X7_senderStands ml_X11_216 rfl rfl (Nat.le_of_ble_eq_true rfl) t3 rfl (p_d1 hd (by decide)) (Nat.le_of_ble_eq_true rfl) ?_
    refine s_if_eq (pc := 13) (tgt := 27) dX11_clash_13 rfl (fun hc => ?_) (fun hc => ?_)
    · replace hf := p_ps hf hc
      refine s_iconst (pc := 27) dX11_clash_27 (v := nI 0) rfl ?_
      cases hf
      exact s_ireturn (pc := 28) dX11_clash_28 rfl rfl ⟨rfl, rfl, rfl, rfl, rfl⟩
    · replace hf := p_ng hf hc
      refine s_aload_n (pc := 16) dX11_clash_16 0 rfl rfl ?_
      obtain ⟨q6, h7, hf⟩ := p_bd hf
      have t8 : p_tp N q6 10 := WT.get hW ha0 h7
      refine x_getR (pc := 17) dX11_clash_17 fl_X11_10 rfl ha0 h7 ?_
      refine s_iload_n (pc := 20) dX11_clash_20 2 rfl rfl ?_
      obtain ⟨q9, h10, hf⟩ := p_bd hf
      refine y_callV1 (pc := 21) dX11_clash_21 (c_X7_senderStands (p_dd hd (by decide)) hW t8 h10) mk_X7_senderStands mv_X7_senderStands ml_X11_216 rfl rfl (Nat.le_of_ble_eq_true rfl) t8 rfl (p_d1 hd (by decide)) (Nat.le_of_ble_eq_true rfl) ?_
      refine s_if_ne (pc := 24) (tgt := 29) dX11_clash_24 rfl (fun hc => ?_) (fun hc => ?_)
      · replace hf := p_ng hf hc
        refine s_aload_n (pc := 29) dX11_clash_29 0 rfl rfl ?_
        obtain ⟨q11, h12, hf⟩ := p_bd hf
        have t13 : p_tp N q11 8 := WT.get hW ha0 h12
        refine x_getR (pc := 30) dX11_clash_30 fl_X11_41 rfl ha0 h12 ?_
        obtain ⟨q14, h15, hf⟩ := p_bd hf
        refine y_callV0 (pc := 33) dX11_clash_33 (c_X5_findReaches (p_dd hd (by decide)) hW t13 h15) mk_X5_findReaches mv_X5_findReaches ml_X11_219 rfl rfl (Nat.le_of_ble_eq_true rfl) t13 rfl (p_d1 hd (by decide)) (Nat.le_of_ble_eq_true rfl) ?_
        refine s_aload_n (pc := 36) dX11_clash_36 0 rfl rfl ?_
        obtain ⟨q16, h17, hf⟩ := p_bd hf
        have t18 : p_tp N q16 8 := WT.get hW ha0 h17
        refine x_getR (pc := 37) dX11_clash_37 fl_X11_41 rfl ha0 h17 ?_
        refine s_iload_n (pc := 40) dX11_clash_40 1 rfl rfl ?_
        refine s_iload_n (pc := 41) dX11_clash_41 2 rfl rfl ?_
        obtain ⟨q19, h20, hf⟩ := p_bd hf
        refine y_callV1 (pc := 42) dX11_clash_42 (c_X5_clashing (p_dd hd (by decide)) hW t18 h20) mk_X5_clashing mv_X5_clashing ml_X11_222 rfl rfl (Nat.le_of_ble_eq_true rfl) t18 rfl (p_d1 hd (by decide)) (Nat.le_of_ble_eq_true rfl) ?_
        obtain ⟨c21, hf⟩ := p_ckx hf
        cases hf
        exact s_ireturn (pc := 45) dX11_clash_45 rfl (p_nr (of_decide_eq_true c21)) ⟨rfl, rfl, rfl, rfl, rfl⟩
      · replace hf := p_ps hf hc
        refine s_iconst (pc := 27) dX11_clash_27 (v := nI 0) rfl ?_
        cases hf
        exact s_ireturn (pc := 28) dX11_clash_28 rfl rfl ⟨rfl, rfl, rfl, rfl, rfl⟩
def f_X11_colour (n : Nat) (N : pN) (I : pI) (L : pL) (P : pR) (a0 : Nat) (x1 : Int32) : Option (Int32 × pI × pL) :=
  Option.bind (P a0 0) fun q1 =>
  Option.bind (f_X7_senderStands N I P q1 x1) fun q4 =>
  (if q4 = 0 then
    some ((-1), I, L)
  else
    Option.bind (P a0 4) fun q6 =>
    Option.bind (f_X5_paintSenders n N I L P q6) fun q9 =>
    Option.bind (P a0 4) fun q11 =>
    Option.bind (f_X5_paintOf N q9.1 P q11 x1) fun q14 =>
    some (q14, q9.1, q9.2))
theorem c_X11_colour {G : pG} {d : Nat} {n : Nat} {N : pN} {I : pI} {L : pL} {P : pR} {a0 : Nat} {x1 : Int32} {qq : Int32 × pI × pL} (hd : 13 ≤ d) (hW : WT N P) (ha0 : p_tp N a0 14) (hf : f_X11_colour n N I L P a0 x1 = some qq) : MT G mX11_colour d 0 0 [.ref a0, .int x1] N I L P (p_R (some (.int qq.1)) N qq.2.1 qq.2.2 P) := by
  refine MT.of rfl (Nat.le_of_ble_eq_true rfl) ?_
  show SW G mX11_colour (p_rm d 0 0) 0 0 0 0 (p_R (some (.int qq.1)) N qq.2.1 qq.2.2 P) 0 [(0, .ref a0), (1, .int x1)] [] N I L P
  unfold f_X11_colour at hf
  refine s_aload_n (pc := 0) dX11_colour_0 0 rfl rfl ?_
  obtain ⟨q1, h2, hf⟩ := p_bd hf
  have t3 : p_tp N q1 10 := WT.get hW ha0 h2
  refine x_getR (pc := 1) dX11_colour_1 fl_X11_10 rfl ha0 h2 ?_
  refine s_iload_n (pc := 4) dX11_colour_4 1 rfl rfl ?_
  obtain ⟨q4, h5, hf⟩ := p_bd hf
  refine y_callV1 (pc := 5) dX11_colour_5 (c_X7_senderStands (p_dd hd (by decide)) hW t3 h5) mk_X7_senderStands mv_X7_senderStands ml_X11_216 rfl rfl (Nat.le_of_ble_eq_true rfl) t3 rfl (p_d1 hd (by decide)) (Nat.le_of_ble_eq_true rfl) ?_
  refine s_if_ne (pc := 8) (tgt := 13) dX11_colour_8 rfl (fun hc => ?_) (fun hc => ?_)
  · replace hf := p_ng hf hc
    refine s_aload_n (pc := 13) dX11_colour_13 0 rfl rfl ?_
    obtain ⟨q6, h7, hf⟩ := p_bd hf
    have t8 : p_tp N q6 8 := WT.get hW ha0 h7
    refine x_getR (pc := 14) dX11_colour_14 fl_X11_41 rfl ha0 h7 ?_
    obtain ⟨q9, h10, hf⟩ := p_bd hf
    refine y_callV0 (pc := 17) dX11_colour_17 (c_X5_paintSenders (p_dd hd (by decide)) hW t8 h10) mk_X5_paintSenders mv_X5_paintSenders ml_X11_225 rfl rfl (Nat.le_of_ble_eq_true rfl) t8 rfl (p_d1 hd (by decide)) (Nat.le_of_ble_eq_true rfl) ?_
    refine s_aload_n (pc := 20) dX11_colour_20 0 rfl rfl ?_
    obtain ⟨q11, h12, hf⟩ := p_bd hf
    have t13 : p_tp N q11 8 := WT.get hW ha0 h12
    refine x_getR (pc := 21) dX11_colour_21 fl_X11_41 rfl ha0 h12 ?_
    refine s_iload_n (pc := 24) dX11_colour_24 1 rfl rfl ?_
    obtain ⟨q14, h15, hf⟩ := p_bd hf
    refine y_callV1 (pc := 25) dX11_colour_25 (c_X5_paintOf (p_dd hd (by decide)) hW t13 h15) mk_X5_paintOf mv_X5_paintOf ml_X11_228 rfl rfl (Nat.le_of_ble_eq_true rfl) t13 rfl (p_d1 hd (by decide)) (Nat.le_of_ble_eq_true rfl) ?_
    cases hf
    exact s_ireturn (pc := 28) dX11_colour_28 rfl rfl ⟨rfl, rfl, rfl, rfl, rfl⟩
  · replace hf := p_ps hf hc
    refine s_iconst (pc := 11) dX11_colour_11 (v := (-1)) rfl ?_
    cases hf
    exact s_ireturn (pc := 12) dX11_colour_12 rfl rfl ⟨rfl, rfl, rfl, rfl, rfl⟩
def J_X11_span_38 (N : pN) (I : pI) (P : pR) (a0 : Nat) (x1 : Int32) (x2 : Int32) (x3 : Int32) : Option (Int32 × pI) :=
  Option.bind (P a0 0) fun q9 =>
  Option.bind (P q9 2) fun q12 =>
  Option.bind (f_X8_put N I P q12 x1 (nI 6) x2) fun q15 =>
  Option.bind (P a0 0) fun q17 =>
  Option.bind (P q17 2) fun q20 =>
  Option.bind (f_X8_put N q15 P q20 x1 (nI 7) x3) fun q23 =>
  some (nI 1, q23)
def f_X11_span (N : pN) (I : pI) (P : pR) (a0 : Nat) (x1 : Int32) (x2 : Int32) (x3 : Int32) : Option (Int32 × pI) :=
  Option.bind (P a0 0) fun q1 =>
  Option.bind (P q1 2) fun q4 =>
  Option.bind (f_X8_has I q4 x1) fun q7 =>
  (if q7 = 0 then
    some (nI 0, I)
  else
    (if x2 = (-1) then
      J_X11_span_38 N I P a0 x1 x2 x3
    else
      (if x2 < 0 then
        some (nI 0, I)
      else
        (if x3 < x2 then
          some (nI 0, I)
        else
          (if x3 ≤ (nI 1000000000) then
            J_X11_span_38 N I P a0 x1 x2 x3
          else
            some (nI 0, I))))))
theorem c_X11_span {G : pG} {d : Nat} {N : pN} {I : pI} {L : pL} {P : pR} {a0 : Nat} {x1 : Int32} {x2 : Int32} {x3 : Int32} {qq : Int32 × pI} (hd : 1 ≤ d) (hW : WT N P) (ha0 : p_tp N a0 14) (hf : f_X11_span N I P a0 x1 x2 x3 = some qq) : MT G mX11_span d 0 0 [.ref a0, .int x1, .int x2, .int x3] N I L P (p_R (some (.int qq.1)) N qq.2 L P) := by
  refine MT.of rfl (Nat.le_of_ble_eq_true rfl) ?_
  show SW G mX11_span (p_rm d 0 0) 0 0 0 0 (p_R (some (.int qq.1)) N qq.2 L P) 0 [(0, .ref a0), (1, .int x1), (2, .int x2), (3, .int x3)] [] N I L P
  unfold f_X11_span at hf
  refine s_aload_n (pc := 0) dX11_span_0 0 rfl rfl ?_
  obtain ⟨q1, h2, hf⟩ := p_bd hf
  have t3 : p_tp N q1 10 := WT.get hW ha0 h2
  refine x_getR (pc := 1) dX11_span_1 fl_X11_10 rfl ha0 h2 ?_
  obtain ⟨q4, h5, hf⟩ := p_bd hf
  have t6 : p_tp N q4 11 := WT.get hW t3 h5
  refine x_getR (pc := 4) dX11_span_4 fl_X11_115 rfl t3 h5 ?_
  refine s_iload_n (pc := 7) dX11_span_7 1 rfl rfl ?_
  obtain ⟨q7, h8, hf⟩ := p_bd hf
  refine y_callV1 (pc := 8) dX11_span_8 (c_X8_has (p_dd hd (by decide)) hW t6 h8) mk_X8_has mv_X8_has ml_X11_118 rfl rfl (Nat.le_of_ble_eq_true rfl) t6 rfl (p_d1 hd (by decide)) (Nat.le_of_ble_eq_true rfl) ?_
  refine s_if_ne (pc := 11) (tgt := 16) dX11_span_11 rfl (fun hc => ?_) (fun hc => ?_)
  · replace hf := p_ng hf hc
    refine s_iload_n (pc := 16) dX11_span_16 2 rfl rfl ?_
    refine s_iconst (pc := 17) dX11_span_17 (v := (-1)) rfl ?_
    have k25 : J_X11_span_38 N I P a0 x1 x2 x3 = some qq → SW G mX11_span (p_rm d 0 0) 0 0 0 0 (p_R (some (.int qq.1)) N qq.2 L P) 38 [(0, .ref a0), (1, .int x1), (2, .int x2), (3, .int x3)] [] N I L P := by
      intro hf
      unfold J_X11_span_38 at hf
      refine s_aload_n (pc := 38) dX11_span_38 0 rfl rfl ?_
      obtain ⟨q26, h27, hf⟩ := p_bd hf
      have t28 : p_tp N q26 10 := WT.get hW ha0 h27
      refine x_getR (pc := 39) dX11_span_39 fl_X11_10 rfl ha0 h27 ?_
      obtain ⟨q29, h30, hf⟩ := p_bd hf
      have t31 : p_tp N q29 11 := WT.get hW t28 h30
      refine x_getR (pc := 42) dX11_span_42 fl_X11_115 rfl t28 h30 ?_
      refine s_iload_n (pc := 45) dX11_span_45 1 rfl rfl ?_
      refine s_bipush (pc := 46) dX11_span_46 (v := nI 6) rfl ?_
      refine s_iload_n (pc := 48) dX11_span_48 2 rfl rfl ?_
      obtain ⟨q32, h33, hf⟩ := p_bd hf
      refine y_callV0 (pc := 49) dX11_span_49 (c_X8_put (p_dd hd (by decide)) hW t31 h33) mk_X8_put mv_X8_put ml_X11_84 rfl rfl (Nat.le_of_ble_eq_true rfl) t31 rfl (p_d1 hd (by decide)) (Nat.le_of_ble_eq_true rfl) ?_
      refine s_aload_n (pc := 52) dX11_span_52 0 rfl rfl ?_
      obtain ⟨q34, h35, hf⟩ := p_bd hf
      have t36 : p_tp N q34 10 := WT.get hW ha0 h35
      refine x_getR (pc := 53) dX11_span_53 fl_X11_10 rfl ha0 h35 ?_
      obtain ⟨q37, h38, hf⟩ := p_bd hf
      have t39 : p_tp N q37 11 := WT.get hW t36 h38
      refine x_getR (pc := 56) dX11_span_56 fl_X11_115 rfl t36 h38 ?_
      refine s_iload_n (pc := 59) dX11_span_59 1 rfl rfl ?_
      refine s_bipush (pc := 60) dX11_span_60 (v := nI 7) rfl ?_
      refine s_iload_n (pc := 62) dX11_span_62 3 rfl rfl ?_
      obtain ⟨q40, h41, hf⟩ := p_bd hf
      refine y_callV0 (pc := 63) dX11_span_63 (c_X8_put (p_dd hd (by decide)) hW t39 h41) mk_X8_put mv_X8_put ml_X11_84 rfl rfl (Nat.le_of_ble_eq_true rfl) t39 rfl (p_d1 hd (by decide)) (Nat.le_of_ble_eq_true rfl) ?_
      refine s_iconst (pc := 66) dX11_span_66 (v := nI 1) rfl ?_
      cases hf
      exact s_ireturn (pc := 67) dX11_span_67 rfl rfl ⟨rfl, rfl, rfl, rfl, rfl⟩
    refine s_icmp_eq (pc := 18) (tgt := 38) dX11_span_18 rfl (fun hc => ?_) (fun hc => ?_)
    · replace hf := p_ps hf hc
      exact s_lo [0, 1, 2, 3] rfl (k25 hf)
    · replace hf := p_ng hf hc
      refine s_iload_n (pc := 21) dX11_span_21 2 rfl rfl ?_
      refine s_if_lt (pc := 22) (tgt := 36) dX11_span_22 rfl (fun hc => ?_) (fun hc => ?_)
      · replace hf := p_ps hf hc
        refine s_iconst (pc := 36) dX11_span_36 (v := nI 0) rfl ?_
        cases hf
        exact s_ireturn (pc := 37) dX11_span_37 rfl rfl ⟨rfl, rfl, rfl, rfl, rfl⟩
      · replace hf := p_ng hf hc
        refine s_iload_n (pc := 25) dX11_span_25 2 rfl rfl ?_
        refine s_iload_n (pc := 26) dX11_span_26 3 rfl rfl ?_
        refine s_icmp_gt (pc := 27) (tgt := 36) dX11_span_27 rfl (fun hc => ?_) (fun hc => ?_)
        · replace hf := p_ps hf hc
          refine s_iconst (pc := 36) dX11_span_36 (v := nI 0) rfl ?_
          cases hf
          exact s_ireturn (pc := 37) dX11_span_37 rfl rfl ⟨rfl, rfl, rfl, rfl, rfl⟩
        · replace hf := p_ng hf hc
          refine s_iload_n (pc := 30) dX11_span_30 3 rfl rfl ?_
          refine s_ldc (pc := 31) (v := nI 1000000000) kc_X11_231 dX11_span_31 ?_
          refine s_icmp_le (pc := 33) (tgt := 38) dX11_span_33 rfl (fun hc => ?_) (fun hc => ?_)
          · replace hf := p_ps hf hc
            exact s_lo [0, 1, 2, 3] rfl (k25 hf)
          · replace hf := p_ng hf hc
            refine s_iconst (pc := 36) dX11_span_36 (v := nI 0) rfl ?_
            cases hf
            exact s_ireturn (pc := 37) dX11_span_37 rfl rfl ⟨rfl, rfl, rfl, rfl, rfl⟩
  · replace hf := p_ps hf hc
    refine s_iconst (pc := 14) dX11_span_14 (v := nI 0) rfl ?_
    cases hf
    exact s_ireturn (pc := 15) dX11_span_15 rfl rfl ⟨rfl, rfl, rfl, rfl, rfl⟩
def B_X11_places_4 (n : Nat) (N : pN) (P : pR) (a0 : Nat) (rec0 : (Int32 × Int32 × pI × pL) → Option (Int32 × pI × pL)) (s0 : Int32 × Int32 × pI × pL) : Option (Int32 × pI × pL) :=
  (if (nI 441) ≤ s0.2.1 then
    some (s0.1, s0.2.2.1, s0.2.2.2)
  else
    Option.bind (P a0 3) fun q3 =>
    Option.bind (f_X3_fits n N s0.2.2.1 s0.2.2.2 P q3 (s0.2.1 - s0.2.1 / (nI 21) * (nI 21)) (s0.2.1 / (nI 21))) fun q6 =>
    p_let (α := Int32) ((if q6.1 = 0 then
      s0.1
    else
      s0.1 + nI 1)) fun t8 =>
    rec0 (t8, s0.2.1 + nI 1, q6.2.1, q6.2.2))
def f_X11_places (n : Nat) (N : pN) (I : pI) (L : pL) (P : pR) (a0 : Nat) : Option (Int32 × pI × pL) :=
  Option.bind (p_it (B_X11_places_4 n N P a0) n (nI 0, nI 0, I, L)) fun t1 =>
  some (t1.1, t1.2.1, t1.2.2)
theorem c_X11_places {G : pG} {d : Nat} {n : Nat} {N : pN} {I : pI} {L : pL} {P : pR} {a0 : Nat} {qq : Int32 × pI × pL} (hd : 6 ≤ d) (hW : WT N P) (ha0 : p_tp N a0 14) (hf : f_X11_places n N I L P a0 = some qq) : MT G mX11_places d 0 0 [.ref a0] N I L P (p_R (some (.int qq.1)) N qq.2.1 qq.2.2 P) := by
  refine MT.of rfl (Nat.le_of_ble_eq_true rfl) ?_
  show SW G mX11_places (p_rm d 0 0) 0 0 0 0 (p_R (some (.int qq.1)) N qq.2.1 qq.2.2 P) 0 [(0, .ref a0)] [] N I L P
  unfold f_X11_places at hf
  refine s_iconst (pc := 0) dX11_places_0 (v := nI 0) rfl ?_
  refine s_istore_n (pc := 1) (lo' := [(1, .int (nI 0)), (0, .ref a0)]) dX11_places_1 rfl (Nat.le_of_ble_eq_true rfl) rfl ?_
  refine s_iconst (pc := 2) dX11_places_2 (v := nI 0) rfl ?_
  refine s_istore_n (pc := 3) (lo' := [(2, .int (nI 0)), (1, .int (nI 0)), (0, .ref a0)]) dX11_places_3 rfl (Nat.le_of_ble_eq_true rfl) rfl ?_
  obtain ⟨t1, hg, hf⟩ := p_bd hf
  have k2 : SW G mX11_places (p_rm d 0 0) 0 0 0 0 (p_R (some (.int qq.1)) N qq.2.1 qq.2.2 P) 38 [(1, .int t1.1)] [] N t1.2.1 t1.2.2 P := by
    refine s_iload_n (pc := 38) dX11_places_38 0 rfl rfl ?_
    cases hf
    exact s_ireturn (pc := 39) dX11_places_39 rfl rfl ⟨rfl, rfl, rfl, rfl, rfl⟩
  replace hf := hg
  have k10 : ∀ (k : Nat) (s0 : Int32 × Int32 × pI × pL), p_it (B_X11_places_4 n N P a0) k s0 = some t1 → (SW G mX11_places (p_rm d 0 0) 0 0 0 0 (p_R (some (.int qq.1)) N qq.2.1 qq.2.2 P) 4 [(0, .ref a0), (1, .int s0.1), (2, .int s0.2.1)] [] N s0.2.2.1 s0.2.2.2 P) := p_it_ind (C := fun (s0 : Int32 × Int32 × pI × pL) => SW G mX11_places (p_rm d 0 0) 0 0 0 0 (p_R (some (.int qq.1)) N qq.2.1 qq.2.2 P) 4 [(0, .ref a0), (1, .int s0.1), (2, .int s0.2.1)] [] N s0.2.2.1 s0.2.2.2 P) (by
    intro rec0 hrec0 s0 hf
    unfold B_X11_places_4 at hf
    refine s_iload_n (pc := 4) dX11_places_4 2 rfl rfl ?_
    refine s_sipush (pc := 5) dX11_places_5 (v := nI 441) rfl ?_
    refine s_icmp_ge (pc := 8) (tgt := 38) dX11_places_8 rfl (fun hc => ?_) (fun hc => ?_)
    · replace hf := p_ps hf hc
      cases hf
      exact s_lo [1] rfl (k2)
    · replace hf := p_ng hf hc
      refine s_aload_n (pc := 11) dX11_places_11 0 rfl rfl ?_
      obtain ⟨q11, h12, hf⟩ := p_bd hf
      have t13 : p_tp N q11 6 := WT.get hW ha0 h12
      refine x_getR (pc := 12) dX11_places_12 fl_X11_32 rfl ha0 h12 ?_
      refine s_iload_n (pc := 15) dX11_places_15 2 rfl rfl ?_
      refine s_bipush (pc := 16) dX11_places_16 (v := nI 21) rfl ?_
      refine s_irem (pc := 18) dX11_places_18 (by decide) ?_
      refine s_iload_n (pc := 19) dX11_places_19 2 rfl rfl ?_
      refine s_bipush (pc := 20) dX11_places_20 (v := nI 21) rfl ?_
      refine s_idiv (pc := 22) dX11_places_22 (by decide) ?_
      obtain ⟨q14, h15, hf⟩ := p_bd hf
      refine y_callV1 (pc := 23) dX11_places_23 (c_X3_fits (p_dd hd (by decide)) hW t13 h15) mk_X3_fits mv_X3_fits ml_X11_232 rfl rfl (Nat.le_of_ble_eq_true rfl) t13 rfl (p_d1 hd (by decide)) (Nat.le_of_ble_eq_true rfl) ?_
      obtain ⟨t16, hg, hf⟩ := p_lx2 hf
      have k17 : SW G mX11_places (p_rm d 0 0) 0 0 0 0 (p_R (some (.int qq.1)) N qq.2.1 qq.2.2 P) 32 [(0, .ref a0), (2, .int s0.2.1), (1, .int t16)] [] N q14.2.1 q14.2.2 P := by
        refine s_iinc (pc := 32) (lo' := [(2, .int (s0.2.1 + nI 1)), (0, .ref a0), (1, .int t16)]) dX11_places_32 1 rfl (v := s0.2.1 + nI 1) rfl (Nat.le_of_ble_eq_true rfl) rfl ?_
        refine s_goto (pc := 35) (tgt := 4) dX11_places_35 rfl ?_
        exact s_lo [1, 2, 0] rfl (hrec0 (t16, s0.2.1 + nI 1, q14.2.1, q14.2.2) hf)
      replace hf := hg.symm
      refine s_if_eq (pc := 26) (tgt := 32) dX11_places_26 rfl (fun hc => ?_) (fun hc => ?_)
      · replace hf := p_ps hf hc
        cases hf
        exact s_lo [0, 2, 1] rfl (k17)
      · replace hf := p_ng hf hc
        refine s_iinc (pc := 29) (lo' := [(1, .int (s0.1 + nI 1)), (0, .ref a0), (2, .int s0.2.1)]) dX11_places_29 1 rfl (v := s0.1 + nI 1) rfl (Nat.le_of_ble_eq_true rfl) rfl ?_
        cases hf
        exact s_lo [1, 2, 0] rfl (k17))
  exact s_lo [2, 1, 0] rfl (k10 n (nI 0, nI 0, I, L) hf)
def B_X11_place_4 (n : Nat) (N : pN) (P : pR) (a0 : Nat) (x1 : Int32) (rec0 : (Int32 × Int32 × pI × pL) → Option (Int32 × pI × pL)) (s0 : Int32 × Int32 × pI × pL) : Option (Int32 × pI × pL) :=
  (if (nI 441) ≤ s0.2.1 then
    some ((-1), s0.2.2.1, s0.2.2.2)
  else
    (if x1 < 0 then
      some ((-1), s0.2.2.1, s0.2.2.2)
    else
      Option.bind (P a0 3) fun q1 =>
      Option.bind (f_X3_fits n N s0.2.2.1 s0.2.2.2 P q1 (s0.2.1 - s0.2.1 / (nI 21) * (nI 21)) (s0.2.1 / (nI 21))) fun q4 =>
      (if q4.1 = 0 then
        rec0 (s0.1, s0.2.1 + nI 1, q4.2.1, q4.2.2)
      else
        (if s0.1 = x1 then
          some (((s0.2.1 / (nI 21)) * (nI 100)) + (s0.2.1 - s0.2.1 / (nI 21) * (nI 21)), q4.2.1, q4.2.2)
        else
          rec0 (s0.1 + nI 1, s0.2.1 + nI 1, q4.2.1, q4.2.2)))))
def f_X11_place (n : Nat) (N : pN) (I : pI) (L : pL) (P : pR) (a0 : Nat) (x1 : Int32) : Option (Int32 × pI × pL) :=
  p_it (B_X11_place_4 n N P a0 x1) n (nI 0, nI 0, I, L)
theorem c_X11_place {G : pG} {d : Nat} {n : Nat} {N : pN} {I : pI} {L : pL} {P : pR} {a0 : Nat} {x1 : Int32} {qq : Int32 × pI × pL} (hd : 6 ≤ d) (hW : WT N P) (ha0 : p_tp N a0 14) (hf : f_X11_place n N I L P a0 x1 = some qq) : MT G mX11_place d 0 0 [.ref a0, .int x1] N I L P (p_R (some (.int qq.1)) N qq.2.1 qq.2.2 P) := by
  refine MT.of rfl (Nat.le_of_ble_eq_true rfl) ?_
  show SW G mX11_place (p_rm d 0 0) 0 0 0 0 (p_R (some (.int qq.1)) N qq.2.1 qq.2.2 P) 0 [(0, .ref a0), (1, .int x1)] [] N I L P
  unfold f_X11_place at hf
  refine s_iconst (pc := 0) dX11_place_0 (v := nI 0) rfl ?_
  refine s_istore_n (pc := 1) (lo' := [(2, .int (nI 0)), (0, .ref a0), (1, .int x1)]) dX11_place_1 rfl (Nat.le_of_ble_eq_true rfl) rfl ?_
  refine s_iconst (pc := 2) dX11_place_2 (v := nI 0) rfl ?_
  refine s_istore_n (pc := 3) (lo' := [(3, .int (nI 0)), (2, .int (nI 0)), (0, .ref a0), (1, .int x1)]) dX11_place_3 rfl (Nat.le_of_ble_eq_true rfl) rfl ?_
  have k6 : ∀ (k : Nat) (s0 : Int32 × Int32 × pI × pL), p_it (B_X11_place_4 n N P a0 x1) k s0 = some qq → (SW G mX11_place (p_rm d 0 0) 0 0 0 0 (p_R (some (.int qq.1)) N qq.2.1 qq.2.2 P) 4 [(0, .ref a0), (1, .int x1), (2, .int s0.1), (3, .int s0.2.1)] [] N s0.2.2.1 s0.2.2.2 P) := p_it_ind (C := fun (s0 : Int32 × Int32 × pI × pL) => SW G mX11_place (p_rm d 0 0) 0 0 0 0 (p_R (some (.int qq.1)) N qq.2.1 qq.2.2 P) 4 [(0, .ref a0), (1, .int x1), (2, .int s0.1), (3, .int s0.2.1)] [] N s0.2.2.1 s0.2.2.2 P) (by
    intro rec0 hrec0 s0 hf
    unfold B_X11_place_4 at hf
    refine s_iload_n (pc := 4) dX11_place_4 3 rfl rfl ?_
    refine s_sipush (pc := 5) dX11_place_5 (v := nI 441) rfl ?_
    refine s_icmp_ge (pc := 8) (tgt := 60) dX11_place_8 rfl (fun hc => ?_) (fun hc => ?_)
    · replace hf := p_ps hf hc
      refine s_iconst (pc := 60) dX11_place_60 (v := (-1)) rfl ?_
      cases hf
      exact s_ireturn (pc := 61) dX11_place_61 rfl rfl ⟨rfl, rfl, rfl, rfl, rfl⟩
    · replace hf := p_ng hf hc
      refine s_iload_n (pc := 11) dX11_place_11 1 rfl rfl ?_
      refine s_if_lt (pc := 12) (tgt := 60) dX11_place_12 rfl (fun hc => ?_) (fun hc => ?_)
      · replace hf := p_ps hf hc
        refine s_iconst (pc := 60) dX11_place_60 (v := (-1)) rfl ?_
        cases hf
        exact s_ireturn (pc := 61) dX11_place_61 rfl rfl ⟨rfl, rfl, rfl, rfl, rfl⟩
      · replace hf := p_ng hf hc
        refine s_aload_n (pc := 15) dX11_place_15 0 rfl rfl ?_
        obtain ⟨q7, h8, hf⟩ := p_bd hf
        have t9 : p_tp N q7 6 := WT.get hW ha0 h8
        refine x_getR (pc := 16) dX11_place_16 fl_X11_32 rfl ha0 h8 ?_
        refine s_iload_n (pc := 19) dX11_place_19 3 rfl rfl ?_
        refine s_bipush (pc := 20) dX11_place_20 (v := nI 21) rfl ?_
        refine s_irem (pc := 22) dX11_place_22 (by decide) ?_
        refine s_iload_n (pc := 23) dX11_place_23 3 rfl rfl ?_
        refine s_bipush (pc := 24) dX11_place_24 (v := nI 21) rfl ?_
        refine s_idiv (pc := 26) dX11_place_26 (by decide) ?_
        obtain ⟨q10, h11, hf⟩ := p_bd hf
        refine y_callV1 (pc := 27) dX11_place_27 (c_X3_fits (p_dd hd (by decide)) hW t9 h11) mk_X3_fits mv_X3_fits ml_X11_232 rfl rfl (Nat.le_of_ble_eq_true rfl) t9 rfl (p_d1 hd (by decide)) (Nat.le_of_ble_eq_true rfl) ?_
        refine s_if_eq (pc := 30) (tgt := 54) dX11_place_30 rfl (fun hc => ?_) (fun hc => ?_)
        · replace hf := p_ps hf hc
          refine s_iinc (pc := 54) (lo' := [(3, .int (s0.2.1 + nI 1)), (0, .ref a0), (1, .int x1), (2, .int s0.1)]) dX11_place_54 3 rfl (v := s0.2.1 + nI 1) rfl (Nat.le_of_ble_eq_true rfl) rfl ?_
          refine s_goto (pc := 57) (tgt := 4) dX11_place_57 rfl ?_
          exact s_lo [1, 2, 3, 0] rfl (hrec0 (s0.1, s0.2.1 + nI 1, q10.2.1, q10.2.2) hf)
        · replace hf := p_ng hf hc
          refine s_iload_n (pc := 33) dX11_place_33 2 rfl rfl ?_
          refine s_iload_n (pc := 34) dX11_place_34 1 rfl rfl ?_
          refine s_icmp_ne (pc := 35) (tgt := 51) dX11_place_35 rfl (fun hc => ?_) (fun hc => ?_)
          · replace hf := p_ng hf hc
            refine s_iinc (pc := 51) (lo' := [(2, .int (s0.1 + nI 1)), (0, .ref a0), (1, .int x1), (3, .int s0.2.1)]) dX11_place_51 2 rfl (v := s0.1 + nI 1) rfl (Nat.le_of_ble_eq_true rfl) rfl ?_
            refine s_iinc (pc := 54) (lo' := [(3, .int (s0.2.1 + nI 1)), (2, .int (s0.1 + nI 1)), (0, .ref a0), (1, .int x1)]) dX11_place_54 3 rfl (v := s0.2.1 + nI 1) rfl (Nat.le_of_ble_eq_true rfl) rfl ?_
            refine s_goto (pc := 57) (tgt := 4) dX11_place_57 rfl ?_
            exact s_lo [2, 3, 1, 0] rfl (hrec0 (s0.1 + nI 1, s0.2.1 + nI 1, q10.2.1, q10.2.2) hf)
          · replace hf := p_ps hf hc
            refine s_iload_n (pc := 38) dX11_place_38 3 rfl rfl ?_
            refine s_bipush (pc := 39) dX11_place_39 (v := nI 21) rfl ?_
            refine s_idiv (pc := 41) dX11_place_41 (by decide) ?_
            refine s_bipush (pc := 42) dX11_place_42 (v := nI 100) rfl ?_
            refine s_imul (pc := 44) dX11_place_44 ?_
            refine s_iload_n (pc := 45) dX11_place_45 3 rfl rfl ?_
            refine s_bipush (pc := 46) dX11_place_46 (v := nI 21) rfl ?_
            refine s_irem (pc := 48) dX11_place_48 (by decide) ?_
            refine s_iadd (pc := 49) dX11_place_49 ?_
            cases hf
            exact s_ireturn (pc := 50) dX11_place_50 rfl rfl ⟨rfl, rfl, rfl, rfl, rfl⟩)
  exact s_lo [2, 3, 1, 0] rfl (k6 n (nI 0, nI 0, I, L) hf)
def f_X11_echoesAt (x0 : Int32) (x1 : Int32) (x2 : Int32) (x3 : Int32) (x4 : Int32) : Option Int32 :=
  (if ((x1 - x0) * (x2 - x0)) ≤ 0 then
    some (nI 0)
  else
    (if (((((x1 - x0) + x2) - x0) * (((x1 - x0) + x2) - x0)) + (x3 * x3)) = x4 then
      some (nI 1)
    else
      some (nI 0)))
theorem c_X11_echoesAt {G : pG} {d : Nat} {N : pN} {I : pI} {L : pL} {P : pR} {x0 : Int32} {x1 : Int32} {x2 : Int32} {x3 : Int32} {x4 : Int32} {qq : Int32} (hd : 0 ≤ d) (hW : WT N P) (hf : f_X11_echoesAt x0 x1 x2 x3 x4 = some qq) : MT G mX11_echoesAt d 0 0 [.int x0, .int x1, .int x2, .int x3, .int x4] N I L P (p_R (some (.int qq)) N I L P) := by
  refine MT.of rfl (Nat.le_of_ble_eq_true rfl) ?_
  show SW G mX11_echoesAt (p_rm d 0 0) 0 0 0 0 (p_R (some (.int qq)) N I L P) 0 [(0, .int x0), (1, .int x1), (2, .int x2), (3, .int x3), (4, .int x4)] [] N I L P
  unfold f_X11_echoesAt at hf
  refine s_iload_n (pc := 0) dX11_echoesAt_0 1 rfl rfl ?_
  refine s_iload_n (pc := 1) dX11_echoesAt_1 0 rfl rfl ?_
  refine s_isub (pc := 2) dX11_echoesAt_2 ?_
  refine s_iload_n (pc := 3) dX11_echoesAt_3 2 rfl rfl ?_
  refine s_iadd (pc := 4) dX11_echoesAt_4 ?_
  refine s_iload_n (pc := 5) dX11_echoesAt_5 0 rfl rfl ?_
  refine s_isub (pc := 6) dX11_echoesAt_6 ?_
  refine s_istore (pc := 7) (lo' := [(5, .int (((x1 - x0) + x2) - x0)), (0, .int x0), (1, .int x1), (2, .int x2), (3, .int x3), (4, .int x4)]) dX11_echoesAt_7 (Nat.le_of_ble_eq_true rfl) rfl ?_
  refine s_iload_n (pc := 9) dX11_echoesAt_9 2 rfl rfl ?_
  refine s_iload_n (pc := 10) dX11_echoesAt_10 1 rfl rfl ?_
  refine s_isub (pc := 11) dX11_echoesAt_11 ?_
  refine s_iload_n (pc := 12) dX11_echoesAt_12 3 rfl rfl ?_
  refine s_iload_n (pc := 13) dX11_echoesAt_13 1 rfl rfl ?_
  refine s_isub (pc := 14) dX11_echoesAt_14 ?_
  refine s_imul (pc := 15) dX11_echoesAt_15 ?_
  refine s_if_le (pc := 16) (tgt := 37) dX11_echoesAt_16 rfl (fun hc => ?_) (fun hc => ?_)
  · replace hf := p_ps hf hc
    refine s_iconst (pc := 37) dX11_echoesAt_37 (v := nI 0) rfl ?_
    cases hf
    exact s_ireturn (pc := 38) dX11_echoesAt_38 rfl rfl ⟨rfl, rfl, rfl, rfl, rfl⟩
  · replace hf := p_ng hf hc
    refine s_iload (pc := 19) dX11_echoesAt_19 0 rfl ?_
    refine s_iload (pc := 21) dX11_echoesAt_21 0 rfl ?_
    refine s_imul (pc := 23) dX11_echoesAt_23 ?_
    refine s_iload_n (pc := 24) dX11_echoesAt_24 4 rfl rfl ?_
    refine s_iload_n (pc := 25) dX11_echoesAt_25 4 rfl rfl ?_
    refine s_imul (pc := 26) dX11_echoesAt_26 ?_
    refine s_iadd (pc := 27) dX11_echoesAt_27 ?_
    refine s_iload (pc := 28) dX11_echoesAt_28 5 rfl ?_
    refine s_icmp_ne (pc := 30) (tgt := 37) dX11_echoesAt_30 rfl (fun hc => ?_) (fun hc => ?_)
    · replace hf := p_ng hf hc
      refine s_iconst (pc := 37) dX11_echoesAt_37 (v := nI 0) rfl ?_
      cases hf
      exact s_ireturn (pc := 38) dX11_echoesAt_38 rfl rfl ⟨rfl, rfl, rfl, rfl, rfl⟩
    · replace hf := p_ps hf hc
      refine s_iconst (pc := 33) dX11_echoesAt_33 (v := nI 1) rfl ?_
      refine s_goto (pc := 34) (tgt := 38) dX11_echoesAt_34 rfl ?_
      cases hf
      exact s_ireturn (pc := 38) dX11_echoesAt_38 rfl rfl ⟨rfl, rfl, rfl, rfl, rfl⟩
def B_X11_echo_60 (x7 : Int32) (x6 : Int32) (x2 : Int32) (x3 : Int32) (x4 : Int32) (x5 : Int32) (rec0 : (Int32 × Int32) → Option Int32) (s0 : Int32 × Int32) : Option Int32 :=
  (if (nI 42) ≤ s0.2 then
    some (-1)
  else
    p_let (α := Int32) ((if (nI 21) ≤ s0.2 then
      nI 0
    else
      nI 1)) fun t24 =>
    p_let (s0.2 - s0.2 / (nI 21) * (nI 21)) fun v26 =>
    Option.bind (α := Int32) ((if t24 = 0 then
      Option.bind (f_X11_echoesAt v26 x7 x3 (x6 - x2) x4) fun q30 =>
      some q30
    else
      Option.bind (f_X11_echoesAt v26 x6 x2 (x7 - x3) x4) fun q32 =>
      some q32)) fun t28 =>
    (if t28 = 0 then
      p_let (α := Int32) ((if t28 = 0 then
        nI 0
      else
        nI 1)) fun t34 =>
      rec0 (s0.1 + t34, s0.2 + nI 1)
    else
      (if s0.1 = x5 then
        (if t24 = 0 then
          some ((nI 100) + v26)
        else
          some v26)
      else
        p_let (α := Int32) ((if t28 = 0 then
          nI 0
        else
          nI 1)) fun t36 =>
        rec0 (s0.1 + t36, s0.2 + nI 1))))
def f_X11_echo (n : Nat) (N : pN) (I : pI) (P : pR) (a0 : Nat) (x1 : Int32) (x2 : Int32) (x3 : Int32) (x4 : Int32) (x5 : Int32) : Option Int32 :=
  Option.bind (P a0 0) fun q1 =>
  Option.bind (f_X7_senderStands N I P q1 x1) fun q4 =>
  (if q4 = 0 then
    some (-1)
  else
    Option.bind (f_X11_isPoint x2 x3) fun q6 =>
    (if q6 = 0 then
      some (-1)
    else
      (if 0 ≤ x5 then
        Option.bind (P a0 0) fun q8 =>
        Option.bind (P q8 2) fun q11 =>
        Option.bind (f_X8_get N I P q11 x1 (nI 0)) fun q14 =>
        Option.bind (P a0 0) fun q16 =>
        Option.bind (P q16 2) fun q19 =>
        Option.bind (f_X8_get N I P q19 x1 (nI 1)) fun q22 =>
        p_it (B_X11_echo_60 q22 q14 x2 x3 x4 x5) n (nI 0, nI 0)
      else
        some (-1))))
theorem c_X11_echo {G : pG} {d : Nat} {n : Nat} {N : pN} {I : pI} {L : pL} {P : pR} {a0 : Nat} {x1 : Int32} {x2 : Int32} {x3 : Int32} {x4 : Int32} {x5 : Int32} {qq : Int32} (hd : 2 ≤ d) (hW : WT N P) (ha0 : p_tp N a0 14) (hf : f_X11_echo n N I P a0 x1 x2 x3 x4 x5 = some qq) : MT G mX11_echo d 0 0 [.ref a0, .int x1, .int x2, .int x3, .int x4, .int x5] N I L P (p_R (some (.int qq)) N I L P) := by
  refine MT.of rfl (Nat.le_of_ble_eq_true rfl) ?_
  show SW G mX11_echo (p_rm d 0 0) 0 0 0 0 (p_R (some (.int qq)) N I L P) 0 [(0, .ref a0), (1, .int x1), (2, .int x2), (3, .int x3), (4, .int x4), (5, .int x5)] [] N I L P
  unfold f_X11_echo at hf
  refine s_aload_n (pc := 0) dX11_echo_0 0 rfl rfl ?_
  obtain ⟨q1, h2, hf⟩ := p_bd hf
  have t3 : p_tp N q1 10 := WT.get hW ha0 h2
  refine x_getR (pc := 1) dX11_echo_1 fl_X11_10 rfl ha0 h2 ?_
  refine s_iload_n (pc := 4) dX11_echo_4 1 rfl rfl ?_
  obtain ⟨q4, h5, hf⟩ := p_bd hf
  refine y_callV1 (pc := 5) dX11_echo_5 (c_X7_senderStands (p_dd hd (by decide)) hW t3 h5) mk_X7_senderStands mv_X7_senderStands ml_X11_216 rfl rfl (Nat.le_of_ble_eq_true rfl) t3 rfl (p_d1 hd (by decide)) (Nat.le_of_ble_eq_true rfl) ?_
  refine s_if_eq (pc := 8) (tgt := 24) dX11_echo_8 rfl (fun hc => ?_) (fun hc => ?_)
  · replace hf := p_ps hf hc
    refine s_iconst (pc := 24) dX11_echo_24 (v := (-1)) rfl ?_
    cases hf
    exact s_ireturn (pc := 25) dX11_echo_25 rfl rfl ⟨rfl, rfl, rfl, rfl, rfl⟩
  · replace hf := p_ng hf hc
    refine s_iload_n (pc := 11) dX11_echo_11 2 rfl rfl ?_
    refine s_iload_n (pc := 12) dX11_echo_12 3 rfl rfl ?_
    obtain ⟨q6, h7, hf⟩ := p_bd hf
    refine y_callS1 (pc := 13) dX11_echo_13 (c_X11_isPoint (p_dd hd (by decide)) hW  h7) mk_X11_isPoint mz_X11_isPoint ml_X11_172 rfl rfl (Nat.le_of_ble_eq_true rfl) (p_d1 hd (by decide)) (Nat.le_of_ble_eq_true rfl) ?_
    refine s_if_eq (pc := 16) (tgt := 24) dX11_echo_16 rfl (fun hc => ?_) (fun hc => ?_)
    · replace hf := p_ps hf hc
      refine s_iconst (pc := 24) dX11_echo_24 (v := (-1)) rfl ?_
      cases hf
      exact s_ireturn (pc := 25) dX11_echo_25 rfl rfl ⟨rfl, rfl, rfl, rfl, rfl⟩
    · replace hf := p_ng hf hc
      refine s_iload (pc := 19) dX11_echo_19 5 rfl ?_
      refine s_if_ge (pc := 21) (tgt := 26) dX11_echo_21 rfl (fun hc => ?_) (fun hc => ?_)
      · replace hf := p_ps hf hc
        refine s_aload_n (pc := 26) dX11_echo_26 0 rfl rfl ?_
        obtain ⟨q8, h9, hf⟩ := p_bd hf
        have t10 : p_tp N q8 10 := WT.get hW ha0 h9
        refine x_getR (pc := 27) dX11_echo_27 fl_X11_10 rfl ha0 h9 ?_
        obtain ⟨q11, h12, hf⟩ := p_bd hf
        have t13 : p_tp N q11 11 := WT.get hW t10 h12
        refine x_getR (pc := 30) dX11_echo_30 fl_X11_115 rfl t10 h12 ?_
        refine s_iload_n (pc := 33) dX11_echo_33 1 rfl rfl ?_
        refine s_iconst (pc := 34) dX11_echo_34 (v := nI 0) rfl ?_
        obtain ⟨q14, h15, hf⟩ := p_bd hf
        refine y_callV1 (pc := 35) dX11_echo_35 (c_X8_get (p_dd hd (by decide)) hW t13 h15) mk_X8_get mv_X8_get ml_X11_122 rfl rfl (Nat.le_of_ble_eq_true rfl) t13 rfl (p_d1 hd (by decide)) (Nat.le_of_ble_eq_true rfl) ?_
        refine s_istore (pc := 38) (lo' := [(6, .int q14), (0, .ref a0), (1, .int x1), (2, .int x2), (3, .int x3), (4, .int x4), (5, .int x5)]) dX11_echo_38 (Nat.le_of_ble_eq_true rfl) rfl ?_
        refine s_aload_n (pc := 40) dX11_echo_40 1 rfl rfl ?_
        obtain ⟨q16, h17, hf⟩ := p_bd hf
        have t18 : p_tp N q16 10 := WT.get hW ha0 h17
        refine x_getR (pc := 41) dX11_echo_41 fl_X11_10 rfl ha0 h17 ?_
        obtain ⟨q19, h20, hf⟩ := p_bd hf
        have t21 : p_tp N q19 11 := WT.get hW t18 h20
        refine x_getR (pc := 44) dX11_echo_44 fl_X11_115 rfl t18 h20 ?_
        refine s_iload_n (pc := 47) dX11_echo_47 2 rfl rfl ?_
        refine s_iconst (pc := 48) dX11_echo_48 (v := nI 1) rfl ?_
        obtain ⟨q22, h23, hf⟩ := p_bd hf
        refine y_callV1 (pc := 49) dX11_echo_49 (c_X8_get (p_dd hd (by decide)) hW t21 h23) mk_X8_get mv_X8_get ml_X11_122 rfl rfl (Nat.le_of_ble_eq_true rfl) t21 rfl (p_d1 hd (by decide)) (Nat.le_of_ble_eq_true rfl) ?_
        refine s_istore (pc := 52) (lo' := [(7, .int q22), (6, .int q14), (0, .ref a0), (1, .int x1), (2, .int x2), (3, .int x3), (4, .int x4), (5, .int x5)]) dX11_echo_52 (Nat.le_of_ble_eq_true rfl) rfl ?_
        refine s_iconst (pc := 54) dX11_echo_54 (v := nI 0) rfl ?_
        refine s_istore (pc := 55) (lo' := [(8, .int (nI 0)), (7, .int q22), (6, .int q14), (0, .ref a0), (1, .int x1), (2, .int x2), (3, .int x3), (4, .int x4), (5, .int x5)]) dX11_echo_55 (Nat.le_of_ble_eq_true rfl) rfl ?_
        refine s_iconst (pc := 57) dX11_echo_57 (v := nI 0) rfl ?_
        refine s_istore (pc := 58) (lo' := [(9, .int (nI 0)), (8, .int (nI 0)), (7, .int q22), (6, .int q14), (0, .ref a0), (1, .int x1), (2, .int x2), (3, .int x3), (4, .int x4), (5, .int x5)]) dX11_echo_58 (Nat.le_of_ble_eq_true rfl) rfl ?_
        have k38 : ∀ (k : Nat) (s0 : Int32 × Int32), p_it (B_X11_echo_60 q22 q14 x2 x3 x4 x5) k s0 = some qq → (SW G mX11_echo (p_rm d 0 0) 0 0 0 0 (p_R (some (.int qq)) N I L P) 60 [(7, .int q22), (6, .int q14), (2, .int x2), (3, .int x3), (4, .int x4), (5, .int x5), (8, .int s0.1), (9, .int s0.2)] [] N I L P) := p_it_ind (C := fun (s0 : Int32 × Int32) => SW G mX11_echo (p_rm d 0 0) 0 0 0 0 (p_R (some (.int qq)) N I L P) 60 [(7, .int q22), (6, .int q14), (2, .int x2), (3, .int x3), (4, .int x4), (5, .int x5), (8, .int s0.1), (9, .int s0.2)] [] N I L P) (by
          intro rec0 hrec0 s0 hf
          unfold B_X11_echo_60 at hf
          refine s_iload (pc := 60) dX11_echo_60 7 rfl ?_
          refine s_bipush (pc := 62) dX11_echo_62 (v := nI 42) rfl ?_
          refine s_icmp_ge (pc := 64) (tgt := 175) dX11_echo_64 rfl (fun hc => ?_) (fun hc => ?_)
          · replace hf := p_ps hf hc
            refine s_iconst (pc := 175) dX11_echo_175 (v := (-1)) rfl ?_
            cases hf
            exact s_ireturn (pc := 176) dX11_echo_176 rfl rfl ⟨rfl, rfl, rfl, rfl, rfl⟩
          · replace hf := p_ng hf hc
            refine s_iload (pc := 67) dX11_echo_67 7 rfl ?_
            refine s_bipush (pc := 69) dX11_echo_69 (v := nI 21) rfl ?_
            obtain ⟨t39, hg, hf⟩ := p_lx2 hf
            have k40 : SW G mX11_echo (p_rm d 0 0) 0 0 0 0 (p_R (some (.int qq)) N I L P) 79 [(7, .int q22), (6, .int q14), (2, .int x2), (3, .int x3), (4, .int x4), (5, .int x5), (8, .int s0.1), (9, .int s0.2)] [.int t39] N I L P := by
              refine s_istore (pc := 79) (lo' := [(10, .int t39), (7, .int q22), (6, .int q14), (2, .int x2), (3, .int x3), (4, .int x4), (5, .int x5), (8, .int s0.1), (9, .int s0.2)]) dX11_echo_79 (Nat.le_of_ble_eq_true rfl) rfl ?_
              refine s_iload (pc := 81) dX11_echo_81 8 rfl ?_
              refine s_bipush (pc := 83) dX11_echo_83 (v := nI 21) rfl ?_
              refine s_irem (pc := 85) dX11_echo_85 (by decide) ?_
              refine s_topi (fun v41 e42 => ?_)
              replace hf := p_lx hf e42
              refine s_istore (pc := 86) (lo' := [(11, .int v41), (10, .int t39), (7, .int q22), (6, .int q14), (2, .int x2), (3, .int x3), (4, .int x4), (5, .int x5), (8, .int s0.1), (9, .int s0.2)]) dX11_echo_86 (Nat.le_of_ble_eq_true rfl) rfl ?_
              refine s_iload (pc := 88) dX11_echo_88 1 rfl ?_
              obtain ⟨t43, hg, hf⟩ := p_bd hf
              have k44 : SW G mX11_echo (p_rm d 0 0) 0 0 0 0 (p_R (some (.int qq)) N I L P) 124 [(11, .int v41), (10, .int t39), (7, .int q22), (6, .int q14), (2, .int x2), (3, .int x3), (4, .int x4), (5, .int x5), (8, .int s0.1), (9, .int s0.2)] [.int t43] N I L P := by
                refine s_istore (pc := 124) (lo' := [(12, .int t43), (11, .int v41), (10, .int t39), (7, .int q22), (6, .int q14), (2, .int x2), (3, .int x3), (4, .int x4), (5, .int x5), (8, .int s0.1), (9, .int s0.2)]) dX11_echo_124 (Nat.le_of_ble_eq_true rfl) rfl ?_
                refine s_iload (pc := 126) dX11_echo_126 0 rfl ?_
                refine s_if_eq (pc := 128) (tgt := 154) dX11_echo_128 rfl (fun hc => ?_) (fun hc => ?_)
                · replace hf := p_ps hf hc
                  refine s_iload (pc := 154) dX11_echo_154 9 rfl ?_
                  refine s_iload (pc := 156) dX11_echo_156 0 rfl ?_
                  obtain ⟨t49, hg, hf⟩ := p_lx2 hf
                  have k50 : SW G mX11_echo (p_rm d 0 0) 0 0 0 0 (p_R (some (.int qq)) N I L P) 166 [(7, .int q22), (6, .int q14), (2, .int x2), (3, .int x3), (4, .int x4), (5, .int x5), (9, .int s0.2)] [.int t49, .int s0.1] N I L P := by
                    refine s_iadd (pc := 166) dX11_echo_166 ?_
                    refine s_istore (pc := 167) (lo' := [(8, .int (s0.1 + t49)), (7, .int q22), (6, .int q14), (2, .int x2), (3, .int x3), (4, .int x4), (5, .int x5), (9, .int s0.2)]) dX11_echo_167 (Nat.le_of_ble_eq_true rfl) rfl ?_
                    refine s_iinc (pc := 169) (lo' := [(9, .int (s0.2 + nI 1)), (8, .int (s0.1 + t49)), (7, .int q22), (6, .int q14), (2, .int x2), (3, .int x3), (4, .int x4), (5, .int x5)]) dX11_echo_169 7 rfl (v := s0.2 + nI 1) rfl (Nat.le_of_ble_eq_true rfl) rfl ?_
                    refine s_goto (pc := 172) (tgt := 60) dX11_echo_172 rfl ?_
                    exact s_lo [2, 3, 4, 5, 6, 7, 1, 0] rfl (hrec0 (s0.1 + t49, s0.2 + nI 1) hf)
                  replace hf := hg.symm
                  refine s_if_eq (pc := 158) (tgt := 165) dX11_echo_158 rfl (fun hc => ?_) (fun hc => ?_)
                  · replace hf := p_ps hf hc
                    refine s_iconst (pc := 165) dX11_echo_165 (v := nI 0) rfl ?_
                    cases hf
                    exact s_lo [3, 4, 5, 6, 7, 8, 10] rfl (k50)
                  · replace hf := p_ng hf hc
                    refine s_iconst (pc := 161) dX11_echo_161 (v := nI 1) rfl ?_
                    refine s_goto (pc := 162) (tgt := 166) dX11_echo_162 rfl ?_
                    cases hf
                    exact s_lo [3, 4, 5, 6, 7, 8, 10] rfl (k50)
                · replace hf := p_ng hf hc
                  refine s_iload (pc := 131) dX11_echo_131 9 rfl ?_
                  refine s_iload (pc := 133) dX11_echo_133 8 rfl ?_
                  refine s_icmp_ne (pc := 135) (tgt := 154) dX11_echo_135 rfl (fun hc => ?_) (fun hc => ?_)
                  · replace hf := p_ng hf hc
                    refine s_iload (pc := 154) dX11_echo_154 9 rfl ?_
                    refine s_iload (pc := 156) dX11_echo_156 0 rfl ?_
                    obtain ⟨t51, hg, hf⟩ := p_lx2 hf
                    have k52 : SW G mX11_echo (p_rm d 0 0) 0 0 0 0 (p_R (some (.int qq)) N I L P) 166 [(7, .int q22), (6, .int q14), (2, .int x2), (3, .int x3), (4, .int x4), (5, .int x5), (9, .int s0.2)] [.int t51, .int s0.1] N I L P := by
                      refine s_iadd (pc := 166) dX11_echo_166 ?_
                      refine s_istore (pc := 167) (lo' := [(8, .int (s0.1 + t51)), (7, .int q22), (6, .int q14), (2, .int x2), (3, .int x3), (4, .int x4), (5, .int x5), (9, .int s0.2)]) dX11_echo_167 (Nat.le_of_ble_eq_true rfl) rfl ?_
                      refine s_iinc (pc := 169) (lo' := [(9, .int (s0.2 + nI 1)), (8, .int (s0.1 + t51)), (7, .int q22), (6, .int q14), (2, .int x2), (3, .int x3), (4, .int x4), (5, .int x5)]) dX11_echo_169 7 rfl (v := s0.2 + nI 1) rfl (Nat.le_of_ble_eq_true rfl) rfl ?_
                      refine s_goto (pc := 172) (tgt := 60) dX11_echo_172 rfl ?_
                      exact s_lo [2, 3, 4, 5, 6, 7, 1, 0] rfl (hrec0 (s0.1 + t51, s0.2 + nI 1) hf)
                    replace hf := hg.symm
                    refine s_if_eq (pc := 158) (tgt := 165) dX11_echo_158 rfl (fun hc => ?_) (fun hc => ?_)
                    · replace hf := p_ps hf hc
                      refine s_iconst (pc := 165) dX11_echo_165 (v := nI 0) rfl ?_
                      cases hf
                      exact s_lo [3, 4, 5, 6, 7, 8, 10] rfl (k52)
                    · replace hf := p_ng hf hc
                      refine s_iconst (pc := 161) dX11_echo_161 (v := nI 1) rfl ?_
                      refine s_goto (pc := 162) (tgt := 166) dX11_echo_162 rfl ?_
                      cases hf
                      exact s_lo [3, 4, 5, 6, 7, 8, 10] rfl (k52)
                  · replace hf := p_ps hf hc
                    refine s_iload (pc := 138) dX11_echo_138 2 rfl ?_
                    refine s_if_eq (pc := 140) (tgt := 148) dX11_echo_140 rfl (fun hc => ?_) (fun hc => ?_)
                    · replace hf := p_ps hf hc
                      refine s_bipush (pc := 148) dX11_echo_148 (v := nI 100) rfl ?_
                      refine s_iload (pc := 150) dX11_echo_150 1 rfl ?_
                      refine s_iadd (pc := 152) dX11_echo_152 ?_
                      cases hf
                      exact s_ireturn (pc := 153) dX11_echo_153 rfl rfl ⟨rfl, rfl, rfl, rfl, rfl⟩
                    · replace hf := p_ng hf hc
                      refine s_iload (pc := 143) dX11_echo_143 1 rfl ?_
                      refine s_goto (pc := 145) (tgt := 153) dX11_echo_145 rfl ?_
                      cases hf
                      exact s_ireturn (pc := 153) dX11_echo_153 rfl rfl ⟨rfl, rfl, rfl, rfl, rfl⟩
              replace hf := hg
              refine s_if_eq (pc := 90) (tgt := 110) dX11_echo_90 rfl (fun hc => ?_) (fun hc => ?_)
              · replace hf := p_ps hf hc
                refine s_iload (pc := 110) dX11_echo_110 0 rfl ?_
                refine s_iload (pc := 112) dX11_echo_112 2 rfl ?_
                refine s_iload_n (pc := 114) dX11_echo_114 5 rfl rfl ?_
                refine s_iload (pc := 115) dX11_echo_115 3 rfl ?_
                refine s_iload_n (pc := 117) dX11_echo_117 4 rfl rfl ?_
                refine s_isub (pc := 118) dX11_echo_118 ?_
                refine s_iload (pc := 119) dX11_echo_119 6 rfl ?_
                obtain ⟨q45, h46, hf⟩ := p_bd hf
                refine y_callS1 (pc := 121) dX11_echo_121 (c_X11_echoesAt (p_dd hd (by decide)) hW  h46) mk_X11_echoesAt mz_X11_echoesAt ml_X11_235 rfl rfl (Nat.le_of_ble_eq_true rfl) (p_d1 hd (by decide)) (Nat.le_of_ble_eq_true rfl) ?_
                cases hf
                exact s_lo [0, 1, 2, 3, 4, 5, 6, 7, 8, 9] rfl (k44)
              · replace hf := p_ng hf hc
                refine s_iload (pc := 93) dX11_echo_93 0 rfl ?_
                refine s_iload (pc := 95) dX11_echo_95 3 rfl ?_
                refine s_iload_n (pc := 97) dX11_echo_97 4 rfl rfl ?_
                refine s_iload (pc := 98) dX11_echo_98 2 rfl ?_
                refine s_iload_n (pc := 100) dX11_echo_100 5 rfl rfl ?_
                refine s_isub (pc := 101) dX11_echo_101 ?_
                refine s_iload (pc := 102) dX11_echo_102 6 rfl ?_
                obtain ⟨q47, h48, hf⟩ := p_bd hf
                refine y_callS1 (pc := 104) dX11_echo_104 (c_X11_echoesAt (p_dd hd (by decide)) hW  h48) mk_X11_echoesAt mz_X11_echoesAt ml_X11_235 rfl rfl (Nat.le_of_ble_eq_true rfl) (p_d1 hd (by decide)) (Nat.le_of_ble_eq_true rfl) ?_
                refine s_goto (pc := 107) (tgt := 124) dX11_echo_107 rfl ?_
                cases hf
                exact s_lo [0, 1, 2, 3, 4, 5, 6, 7, 8, 9] rfl (k44)
            replace hf := hg.symm
            refine s_icmp_ge (pc := 71) (tgt := 78) dX11_echo_71 rfl (fun hc => ?_) (fun hc => ?_)
            · replace hf := p_ps hf hc
              refine s_iconst (pc := 78) dX11_echo_78 (v := nI 0) rfl ?_
              cases hf
              exact s_lo [0, 1, 2, 3, 4, 5, 6, 7] rfl (k40)
            · replace hf := p_ng hf hc
              refine s_iconst (pc := 74) dX11_echo_74 (v := nI 1) rfl ?_
              refine s_goto (pc := 75) (tgt := 79) dX11_echo_75 rfl ?_
              cases hf
              exact s_lo [0, 1, 2, 3, 4, 5, 6, 7] rfl (k40))
        exact s_lo [2, 3, 6, 7, 8, 9, 1, 0] rfl (k38 n (nI 0, nI 0) hf)
      · replace hf := p_ng hf hc
        refine s_iconst (pc := 24) dX11_echo_24 (v := (-1)) rfl ?_
        cases hf
        exact s_ireturn (pc := 25) dX11_echo_25 rfl rfl ⟨rfl, rfl, rfl, rfl, rfl⟩
def f_X11_why (n : Nat) (N : pN) (I : pI) (L : pL) (P : pR) (a0 : Nat) (x1 : Int32) (x2 : Int32) : Option (Int32 × pI × pL) :=
  Option.bind (P a0 0) fun q1 =>
  Option.bind (f_X7_senderStands N I P q1 x1) fun q4 =>
  (if q4 = 0 then
    some ((-1), I, L)
  else
    (if x2 < 0 then
      some ((-1), I, L)
    else
      (if x2 < (nI 24) then
        Option.bind (P a0 5) fun q6 =>
        Option.bind (f_X1_hearSenders n N I L P q6) fun q9 =>
        Option.bind (P a0 5) fun q11 =>
        Option.bind (f_X1_lineFor n N q9.1 P q11 x1 x2) fun q14 =>
        some (q14, q9.1, q9.2)
      else
        some ((-1), I, L))))
theorem c_X11_why {G : pG} {d : Nat} {n : Nat} {N : pN} {I : pI} {L : pL} {P : pR} {a0 : Nat} {x1 : Int32} {x2 : Int32} {qq : Int32 × pI × pL} (hd : 6 ≤ d) (hW : WT N P) (ha0 : p_tp N a0 14) (hf : f_X11_why n N I L P a0 x1 x2 = some qq) : MT G mX11_why d 0 0 [.ref a0, .int x1, .int x2] N I L P (p_R (some (.int qq.1)) N qq.2.1 qq.2.2 P) := by
  refine MT.of rfl (Nat.le_of_ble_eq_true rfl) ?_
  show SW G mX11_why (p_rm d 0 0) 0 0 0 0 (p_R (some (.int qq.1)) N qq.2.1 qq.2.2 P) 0 [(0, .ref a0), (1, .int x1), (2, .int x2)] [] N I L P
  unfold f_X11_why at hf
  refine s_aload_n (pc := 0) dX11_why_0 0 rfl rfl ?_
  obtain ⟨q1, h2, hf⟩ := p_bd hf
  have t3 : p_tp N q1 10 := WT.get hW ha0 h2
  refine x_getR (pc := 1) dX11_why_1 fl_X11_10 rfl ha0 h2 ?_
  refine s_iload_n (pc := 4) dX11_why_4 1 rfl rfl ?_
  obtain ⟨q4, h5, hf⟩ := p_bd hf
  refine y_callV1 (pc := 5) dX11_why_5 (c_X7_senderStands (p_dd hd (by decide)) hW t3 h5) mk_X7_senderStands mv_X7_senderStands ml_X11_216 rfl rfl (Nat.le_of_ble_eq_true rfl) t3 rfl (p_d1 hd (by decide)) (Nat.le_of_ble_eq_true rfl) ?_
  refine s_if_eq (pc := 8) (tgt := 21) dX11_why_8 rfl (fun hc => ?_) (fun hc => ?_)
  · replace hf := p_ps hf hc
    refine s_iconst (pc := 21) dX11_why_21 (v := (-1)) rfl ?_
    cases hf
    exact s_ireturn (pc := 22) dX11_why_22 rfl rfl ⟨rfl, rfl, rfl, rfl, rfl⟩
  · replace hf := p_ng hf hc
    refine s_iload_n (pc := 11) dX11_why_11 2 rfl rfl ?_
    refine s_if_lt (pc := 12) (tgt := 21) dX11_why_12 rfl (fun hc => ?_) (fun hc => ?_)
    · replace hf := p_ps hf hc
      refine s_iconst (pc := 21) dX11_why_21 (v := (-1)) rfl ?_
      cases hf
      exact s_ireturn (pc := 22) dX11_why_22 rfl rfl ⟨rfl, rfl, rfl, rfl, rfl⟩
    · replace hf := p_ng hf hc
      refine s_iload_n (pc := 15) dX11_why_15 2 rfl rfl ?_
      refine s_bipush (pc := 16) dX11_why_16 (v := nI 24) rfl ?_
      refine s_icmp_lt (pc := 18) (tgt := 23) dX11_why_18 rfl (fun hc => ?_) (fun hc => ?_)
      · replace hf := p_ps hf hc
        refine s_aload_n (pc := 23) dX11_why_23 0 rfl rfl ?_
        obtain ⟨q6, h7, hf⟩ := p_bd hf
        have t8 : p_tp N q6 4 := WT.get hW ha0 h7
        refine x_getR (pc := 24) dX11_why_24 fl_X11_48 rfl ha0 h7 ?_
        obtain ⟨q9, h10, hf⟩ := p_bd hf
        refine y_callV0 (pc := 27) dX11_why_27 (c_X1_hearSenders (p_dd hd (by decide)) hW t8 h10) mk_X1_hearSenders mv_X1_hearSenders ml_X11_239 rfl rfl (Nat.le_of_ble_eq_true rfl) t8 rfl (p_d1 hd (by decide)) (Nat.le_of_ble_eq_true rfl) ?_
        refine s_aload_n (pc := 30) dX11_why_30 0 rfl rfl ?_
        obtain ⟨q11, h12, hf⟩ := p_bd hf
        have t13 : p_tp N q11 4 := WT.get hW ha0 h12
        refine x_getR (pc := 31) dX11_why_31 fl_X11_48 rfl ha0 h12 ?_
        refine s_iload_n (pc := 34) dX11_why_34 1 rfl rfl ?_
        refine s_iload_n (pc := 35) dX11_why_35 2 rfl rfl ?_
        obtain ⟨q14, h15, hf⟩ := p_bd hf
        refine y_callV1 (pc := 36) dX11_why_36 (c_X1_lineFor (p_dd hd (by decide)) hW t13 h15) mk_X1_lineFor mv_X1_lineFor ml_X11_242 rfl rfl (Nat.le_of_ble_eq_true rfl) t13 rfl (p_d1 hd (by decide)) (Nat.le_of_ble_eq_true rfl) ?_
        cases hf
        exact s_ireturn (pc := 39) dX11_why_39 rfl rfl ⟨rfl, rfl, rfl, rfl, rfl⟩
      · replace hf := p_ng hf hc
        refine s_iconst (pc := 21) dX11_why_21 (v := (-1)) rfl ?_
        cases hf
        exact s_ireturn (pc := 22) dX11_why_22 rfl rfl ⟨rfl, rfl, rfl, rfl, rfl⟩
def f_X11_breach (n : Nat) (N : pN) (I : pI) (L : pL) (P : pR) (a0 : Nat) (x1 : Int32) : Option (Int32 × pI × pL) :=
  Option.bind (P a0 5) fun q1 =>
  Option.bind (f_X1_findBreach n N I L P q1) fun q4 =>
  (if x1 = nI 0 then
    Option.bind (P a0 5) fun q9 =>
    some (q4.1 q9 3, q4.1, q4.2)
  else
    (if x1 = nI 1 then
      Option.bind (P a0 5) fun q6 =>
      some (q4.1 q6 4, q4.1, q4.2)
    else
      some ((-1), q4.1, q4.2)))
theorem c_X11_breach {G : pG} {d : Nat} {n : Nat} {N : pN} {I : pI} {L : pL} {P : pR} {a0 : Nat} {x1 : Int32} {qq : Int32 × pI × pL} (hd : 7 ≤ d) (hW : WT N P) (ha0 : p_tp N a0 14) (hf : f_X11_breach n N I L P a0 x1 = some qq) : MT G mX11_breach d 0 0 [.ref a0, .int x1] N I L P (p_R (some (.int qq.1)) N qq.2.1 qq.2.2 P) := by
  refine MT.of rfl (Nat.le_of_ble_eq_true rfl) ?_
  show SW G mX11_breach (p_rm d 0 0) 0 0 0 0 (p_R (some (.int qq.1)) N qq.2.1 qq.2.2 P) 0 [(0, .ref a0), (1, .int x1)] [] N I L P
  unfold f_X11_breach at hf
  refine s_aload_n (pc := 0) dX11_breach_0 0 rfl rfl ?_
  obtain ⟨q1, h2, hf⟩ := p_bd hf
  have t3 : p_tp N q1 4 := WT.get hW ha0 h2
  refine x_getR (pc := 1) dX11_breach_1 fl_X11_48 rfl ha0 h2 ?_
  obtain ⟨q4, h5, hf⟩ := p_bd hf
  refine y_callV0 (pc := 4) dX11_breach_4 (c_X1_findBreach (p_dd hd (by decide)) hW t3 h5) mk_X1_findBreach mv_X1_findBreach ml_X11_245 rfl rfl (Nat.le_of_ble_eq_true rfl) t3 rfl (p_d1 hd (by decide)) (Nat.le_of_ble_eq_true rfl) ?_
  refine s_iload_n (pc := 7) dX11_breach_7 1 rfl rfl ?_
  by_cases hc0 : x1 = nI 0
  · replace hf := p_ps hf hc0
    refine s_lookup (pc := 8) (tgt := 36) (off := 28) dX11_breach_8 (by decide) (by rw [hc0]; rfl) rfl ?_
    refine s_aload_n (pc := 36) dX11_breach_36 0 rfl rfl ?_
    obtain ⟨q9, h10, hf⟩ := p_bd hf
    have t11 : p_tp N q9 4 := WT.get hW ha0 h10
    refine x_getR (pc := 37) dX11_breach_37 fl_X11_48 rfl ha0 h10 ?_
    refine x_getI (pc := 40) dX11_breach_40 fl_X11_248 rfl t11 ?_
    cases hf
    exact s_ireturn (pc := 43) dX11_breach_43 rfl rfl ⟨rfl, rfl, rfl, rfl, rfl⟩
  · replace hf := p_ng hf hc0
    by_cases hc1 : x1 = nI 1
    · replace hf := p_ps hf hc1
      refine s_lookup (pc := 8) (tgt := 44) (off := 36) dX11_breach_8 (by decide) (by rw [hc1]; rfl) rfl ?_
      refine s_aload_n (pc := 44) dX11_breach_44 0 rfl rfl ?_
      obtain ⟨q6, h7, hf⟩ := p_bd hf
      have t8 : p_tp N q6 4 := WT.get hW ha0 h7
      refine x_getR (pc := 45) dX11_breach_45 fl_X11_48 rfl ha0 h7 ?_
      refine x_getI (pc := 48) dX11_breach_48 fl_X11_251 rfl t8 ?_
      cases hf
      exact s_ireturn (pc := 51) dX11_breach_51 rfl rfl ⟨rfl, rfl, rfl, rfl, rfl⟩
    · replace hf := p_ng hf hc1
      refine s_lookup (pc := 8) (tgt := 52) (off := 44) dX11_breach_8 (by decide) (by simp [Op.lookupswitch.offset, p_ne hc0 (i := 0) rfl, (p_ne hc0 (i := 0) rfl).symm, p_ne hc1 (i := 1) rfl, (p_ne hc1 (i := 1) rfl).symm]) rfl ?_
      refine s_iconst (pc := 52) dX11_breach_52 (v := (-1)) rfl ?_
      cases hf
      exact s_ireturn (pc := 53) dX11_breach_53 rfl rfl ⟨rfl, rfl, rfl, rfl, rfl⟩
def f_X11_count (n : Nat) (N : pN) (I : pI) (L : pL) (P : pR) (a0 : Nat) (x1 : Int32) : Option (Int32 × pI × pL) :=
  (if x1 = nI 0 then
    Option.bind (P a0 0) fun q60 =>
    Option.bind (f_X7_standingWalls n N I P q60) fun q63 =>
    some (q63, I, L)
  else
    (if x1 = nI 1 then
      Option.bind (P a0 0) fun q55 =>
      Option.bind (f_X7_standingSenders n N I P q55) fun q58 =>
      some (q58, I, L)
    else
      (if x1 = nI 2 then
        Option.bind (P a0 0) fun q47 =>
        Option.bind (P q47 1) fun q50 =>
        Option.bind (f_X8_size I q50) fun q53 =>
        some (q53, I, L)
      else
        (if x1 = nI 3 then
          Option.bind (P a0 0) fun q39 =>
          Option.bind (P q39 2) fun q42 =>
          Option.bind (f_X8_size I q42) fun q45 =>
          some (q45, I, L)
        else
          (if x1 = nI 4 then
            Option.bind (P a0 0) fun q31 =>
            Option.bind (P q31 3) fun q34 =>
            Option.bind (f_X8_size I q34) fun q37 =>
            some (q37, I, L)
          else
            (if x1 = nI 5 then
              Option.bind (P a0 0) fun q23 =>
              Option.bind (P q23 4) fun q26 =>
              Option.bind (f_X8_size I q26) fun q29 =>
              some (q29, I, L)
            else
              (if x1 = nI 6 then
                Option.bind (P a0 0) fun q20 =>
                some (I q20 11, I, L)
              else
                (if x1 = nI 7 then
                  Option.bind (P a0 0) fun q17 =>
                  some (I q17 12, I, L)
                else
                  (if x1 = nI 8 then
                    Option.bind (P a0 0) fun q9 =>
                    Option.bind (P q9 7) fun q12 =>
                    Option.bind (f_X8_size I q12) fun q15 =>
                    some (q15, I, L)
                  else
                    (if x1 = nI 9 then
                      Option.bind (P a0 4) fun q1 =>
                      Option.bind (f_X5_paintSenders n N I L P q1) fun q4 =>
                      Option.bind (P a0 4) fun q6 =>
                      some (q4.1 q6 8, q4.1, q4.2)
                    else
                      some ((-2), I, L)))))))))))
theorem c_X11_count {G : pG} {d : Nat} {n : Nat} {N : pN} {I : pI} {L : pL} {P : pR} {a0 : Nat} {x1 : Int32} {qq : Int32 × pI × pL} (hd : 13 ≤ d) (hW : WT N P) (ha0 : p_tp N a0 14) (hf : f_X11_count n N I L P a0 x1 = some qq) : MT G mX11_count d 0 0 [.ref a0, .int x1] N I L P (p_R (some (.int qq.1)) N qq.2.1 qq.2.2 P) := by
  refine MT.of rfl (Nat.le_of_ble_eq_true rfl) ?_
  show SW G mX11_count (p_rm d 0 0) 0 0 0 0 (p_R (some (.int qq.1)) N qq.2.1 qq.2.2 P) 0 [(0, .ref a0), (1, .int x1)] [] N I L P
  unfold f_X11_count at hf
  refine s_iload_n (pc := 0) dX11_count_0 1 rfl rfl ?_
  by_cases hc0 : x1 = nI 0
  · replace hf := p_ps hf hc0
    refine s_tableIn (pc := 1) (tgt := 56) (off := 55) dX11_count_1 (by rw [hc0]; decide) (by rw [hc0]; decide) (by rw [hc0]; rfl) rfl ?_
    refine s_aload_n (pc := 56) dX11_count_56 0 rfl rfl ?_
    obtain ⟨q60, h61, hf⟩ := p_bd hf
    have t62 : p_tp N q60 10 := WT.get hW ha0 h61
    refine x_getR (pc := 57) dX11_count_57 fl_X11_10 rfl ha0 h61 ?_
    obtain ⟨q63, h64, hf⟩ := p_bd hf
    refine y_callV1 (pc := 60) dX11_count_60 (c_X7_standingWalls (p_dd hd (by decide)) hW t62 h64) mk_X7_standingWalls mv_X7_standingWalls ml_X11_254 rfl rfl (Nat.le_of_ble_eq_true rfl) t62 rfl (p_d1 hd (by decide)) (Nat.le_of_ble_eq_true rfl) ?_
    cases hf
    exact s_ireturn (pc := 63) dX11_count_63 rfl rfl ⟨rfl, rfl, rfl, rfl, rfl⟩
  · replace hf := p_ng hf hc0
    by_cases hc1 : x1 = nI 1
    · replace hf := p_ps hf hc1
      refine s_tableIn (pc := 1) (tgt := 64) (off := 63) dX11_count_1 (by rw [hc1]; decide) (by rw [hc1]; decide) (by rw [hc1]; rfl) rfl ?_
      refine s_aload_n (pc := 64) dX11_count_64 0 rfl rfl ?_
      obtain ⟨q55, h56, hf⟩ := p_bd hf
      have t57 : p_tp N q55 10 := WT.get hW ha0 h56
      refine x_getR (pc := 65) dX11_count_65 fl_X11_10 rfl ha0 h56 ?_
      obtain ⟨q58, h59, hf⟩ := p_bd hf
      refine y_callV1 (pc := 68) dX11_count_68 (c_X7_standingSenders (p_dd hd (by decide)) hW t57 h59) mk_X7_standingSenders mv_X7_standingSenders ml_X11_257 rfl rfl (Nat.le_of_ble_eq_true rfl) t57 rfl (p_d1 hd (by decide)) (Nat.le_of_ble_eq_true rfl) ?_
      cases hf
      exact s_ireturn (pc := 71) dX11_count_71 rfl rfl ⟨rfl, rfl, rfl, rfl, rfl⟩
    · replace hf := p_ng hf hc1
      by_cases hc2 : x1 = nI 2
      · replace hf := p_ps hf hc2
        refine s_tableIn (pc := 1) (tgt := 72) (off := 71) dX11_count_1 (by rw [hc2]; decide) (by rw [hc2]; decide) (by rw [hc2]; rfl) rfl ?_
        refine s_aload_n (pc := 72) dX11_count_72 0 rfl rfl ?_
        obtain ⟨q47, h48, hf⟩ := p_bd hf
        have t49 : p_tp N q47 10 := WT.get hW ha0 h48
        refine x_getR (pc := 73) dX11_count_73 fl_X11_10 rfl ha0 h48 ?_
        obtain ⟨q50, h51, hf⟩ := p_bd hf
        have t52 : p_tp N q50 11 := WT.get hW t49 h51
        refine x_getR (pc := 76) dX11_count_76 fl_X11_112 rfl t49 h51 ?_
        obtain ⟨q53, h54, hf⟩ := p_bd hf
        refine y_callV1 (pc := 79) dX11_count_79 (c_X8_size (p_dd hd (by decide)) hW t52 h54) mk_X8_size mv_X8_size ml_X11_70 rfl rfl (Nat.le_of_ble_eq_true rfl) t52 rfl (p_d1 hd (by decide)) (Nat.le_of_ble_eq_true rfl) ?_
        cases hf
        exact s_ireturn (pc := 82) dX11_count_82 rfl rfl ⟨rfl, rfl, rfl, rfl, rfl⟩
      · replace hf := p_ng hf hc2
        by_cases hc3 : x1 = nI 3
        · replace hf := p_ps hf hc3
          refine s_tableIn (pc := 1) (tgt := 83) (off := 82) dX11_count_1 (by rw [hc3]; decide) (by rw [hc3]; decide) (by rw [hc3]; rfl) rfl ?_
          refine s_aload_n (pc := 83) dX11_count_83 0 rfl rfl ?_
          obtain ⟨q39, h40, hf⟩ := p_bd hf
          have t41 : p_tp N q39 10 := WT.get hW ha0 h40
          refine x_getR (pc := 84) dX11_count_84 fl_X11_10 rfl ha0 h40 ?_
          obtain ⟨q42, h43, hf⟩ := p_bd hf
          have t44 : p_tp N q42 11 := WT.get hW t41 h43
          refine x_getR (pc := 87) dX11_count_87 fl_X11_115 rfl t41 h43 ?_
          obtain ⟨q45, h46, hf⟩ := p_bd hf
          refine y_callV1 (pc := 90) dX11_count_90 (c_X8_size (p_dd hd (by decide)) hW t44 h46) mk_X8_size mv_X8_size ml_X11_70 rfl rfl (Nat.le_of_ble_eq_true rfl) t44 rfl (p_d1 hd (by decide)) (Nat.le_of_ble_eq_true rfl) ?_
          cases hf
          exact s_ireturn (pc := 93) dX11_count_93 rfl rfl ⟨rfl, rfl, rfl, rfl, rfl⟩
        · replace hf := p_ng hf hc3
          by_cases hc4 : x1 = nI 4
          · replace hf := p_ps hf hc4
            refine s_tableIn (pc := 1) (tgt := 94) (off := 93) dX11_count_1 (by rw [hc4]; decide) (by rw [hc4]; decide) (by rw [hc4]; rfl) rfl ?_
            refine s_aload_n (pc := 94) dX11_count_94 0 rfl rfl ?_
            obtain ⟨q31, h32, hf⟩ := p_bd hf
            have t33 : p_tp N q31 10 := WT.get hW ha0 h32
            refine x_getR (pc := 95) dX11_count_95 fl_X11_10 rfl ha0 h32 ?_
            obtain ⟨q34, h35, hf⟩ := p_bd hf
            have t36 : p_tp N q34 11 := WT.get hW t33 h35
            refine x_getR (pc := 98) dX11_count_98 fl_X11_260 rfl t33 h35 ?_
            obtain ⟨q37, h38, hf⟩ := p_bd hf
            refine y_callV1 (pc := 101) dX11_count_101 (c_X8_size (p_dd hd (by decide)) hW t36 h38) mk_X8_size mv_X8_size ml_X11_70 rfl rfl (Nat.le_of_ble_eq_true rfl) t36 rfl (p_d1 hd (by decide)) (Nat.le_of_ble_eq_true rfl) ?_
            cases hf
            exact s_ireturn (pc := 104) dX11_count_104 rfl rfl ⟨rfl, rfl, rfl, rfl, rfl⟩
          · replace hf := p_ng hf hc4
            by_cases hc5 : x1 = nI 5
            · replace hf := p_ps hf hc5
              refine s_tableIn (pc := 1) (tgt := 105) (off := 104) dX11_count_1 (by rw [hc5]; decide) (by rw [hc5]; decide) (by rw [hc5]; rfl) rfl ?_
              refine s_aload_n (pc := 105) dX11_count_105 0 rfl rfl ?_
              obtain ⟨q23, h24, hf⟩ := p_bd hf
              have t25 : p_tp N q23 10 := WT.get hW ha0 h24
              refine x_getR (pc := 106) dX11_count_106 fl_X11_10 rfl ha0 h24 ?_
              obtain ⟨q26, h27, hf⟩ := p_bd hf
              have t28 : p_tp N q26 11 := WT.get hW t25 h27
              refine x_getR (pc := 109) dX11_count_109 fl_X11_263 rfl t25 h27 ?_
              obtain ⟨q29, h30, hf⟩ := p_bd hf
              refine y_callV1 (pc := 112) dX11_count_112 (c_X8_size (p_dd hd (by decide)) hW t28 h30) mk_X8_size mv_X8_size ml_X11_70 rfl rfl (Nat.le_of_ble_eq_true rfl) t28 rfl (p_d1 hd (by decide)) (Nat.le_of_ble_eq_true rfl) ?_
              cases hf
              exact s_ireturn (pc := 115) dX11_count_115 rfl rfl ⟨rfl, rfl, rfl, rfl, rfl⟩
            · replace hf := p_ng hf hc5
              by_cases hc6 : x1 = nI 6
              · replace hf := p_ps hf hc6
                refine s_tableIn (pc := 1) (tgt := 116) (off := 115) dX11_count_1 (by rw [hc6]; decide) (by rw [hc6]; decide) (by rw [hc6]; rfl) rfl ?_
                refine s_aload_n (pc := 116) dX11_count_116 0 rfl rfl ?_
                obtain ⟨q20, h21, hf⟩ := p_bd hf
                have t22 : p_tp N q20 10 := WT.get hW ha0 h21
                refine x_getR (pc := 117) dX11_count_117 fl_X11_10 rfl ha0 h21 ?_
                refine x_getI (pc := 120) dX11_count_120 fl_X11_106 rfl t22 ?_
                cases hf
                exact s_ireturn (pc := 123) dX11_count_123 rfl rfl ⟨rfl, rfl, rfl, rfl, rfl⟩
              · replace hf := p_ng hf hc6
                by_cases hc7 : x1 = nI 7
                · replace hf := p_ps hf hc7
                  refine s_tableIn (pc := 1) (tgt := 124) (off := 123) dX11_count_1 (by rw [hc7]; decide) (by rw [hc7]; decide) (by rw [hc7]; rfl) rfl ?_
                  refine s_aload_n (pc := 124) dX11_count_124 0 rfl rfl ?_
                  obtain ⟨q17, h18, hf⟩ := p_bd hf
                  have t19 : p_tp N q17 10 := WT.get hW ha0 h18
                  refine x_getR (pc := 125) dX11_count_125 fl_X11_10 rfl ha0 h18 ?_
                  refine x_getI (pc := 128) dX11_count_128 fl_X11_109 rfl t19 ?_
                  cases hf
                  exact s_ireturn (pc := 131) dX11_count_131 rfl rfl ⟨rfl, rfl, rfl, rfl, rfl⟩
                · replace hf := p_ng hf hc7
                  by_cases hc8 : x1 = nI 8
                  · replace hf := p_ps hf hc8
                    refine s_tableIn (pc := 1) (tgt := 132) (off := 131) dX11_count_1 (by rw [hc8]; decide) (by rw [hc8]; decide) (by rw [hc8]; rfl) rfl ?_
                    refine s_aload_n (pc := 132) dX11_count_132 0 rfl rfl ?_
                    obtain ⟨q9, h10, hf⟩ := p_bd hf
                    have t11 : p_tp N q9 10 := WT.get hW ha0 h10
                    refine x_getR (pc := 133) dX11_count_133 fl_X11_10 rfl ha0 h10 ?_
                    obtain ⟨q12, h13, hf⟩ := p_bd hf
                    have t14 : p_tp N q12 11 := WT.get hW t11 h13
                    refine x_getR (pc := 136) dX11_count_136 fl_X11_266 rfl t11 h13 ?_
                    obtain ⟨q15, h16, hf⟩ := p_bd hf
                    refine y_callV1 (pc := 139) dX11_count_139 (c_X8_size (p_dd hd (by decide)) hW t14 h16) mk_X8_size mv_X8_size ml_X11_70 rfl rfl (Nat.le_of_ble_eq_true rfl) t14 rfl (p_d1 hd (by decide)) (Nat.le_of_ble_eq_true rfl) ?_
                    cases hf
                    exact s_ireturn (pc := 142) dX11_count_142 rfl rfl ⟨rfl, rfl, rfl, rfl, rfl⟩
                  · replace hf := p_ng hf hc8
                    by_cases hc9 : x1 = nI 9
                    · replace hf := p_ps hf hc9
                      refine s_tableIn (pc := 1) (tgt := 143) (off := 142) dX11_count_1 (by rw [hc9]; decide) (by rw [hc9]; decide) (by rw [hc9]; rfl) rfl ?_
                      refine s_aload_n (pc := 143) dX11_count_143 0 rfl rfl ?_
                      obtain ⟨q1, h2, hf⟩ := p_bd hf
                      have t3 : p_tp N q1 8 := WT.get hW ha0 h2
                      refine x_getR (pc := 144) dX11_count_144 fl_X11_41 rfl ha0 h2 ?_
                      obtain ⟨q4, h5, hf⟩ := p_bd hf
                      refine y_callV0 (pc := 147) dX11_count_147 (c_X5_paintSenders (p_dd hd (by decide)) hW t3 h5) mk_X5_paintSenders mv_X5_paintSenders ml_X11_225 rfl rfl (Nat.le_of_ble_eq_true rfl) t3 rfl (p_d1 hd (by decide)) (Nat.le_of_ble_eq_true rfl) ?_
                      refine s_aload_n (pc := 150) dX11_count_150 0 rfl rfl ?_
                      obtain ⟨q6, h7, hf⟩ := p_bd hf
                      have t8 : p_tp N q6 8 := WT.get hW ha0 h7
                      refine x_getR (pc := 151) dX11_count_151 fl_X11_41 rfl ha0 h7 ?_
                      refine x_getI (pc := 154) dX11_count_154 fl_X11_269 rfl t8 ?_
                      cases hf
                      exact s_ireturn (pc := 157) dX11_count_157 rfl rfl ⟨rfl, rfl, rfl, rfl, rfl⟩
                    · replace hf := p_ng hf hc9
                      have hout : x1.toInt < 0 ∨ 9 < x1.toInt := p_out (fun i h1 h2 => by
                        have hh : i = 0 ∨ i = 1 ∨ i = 2 ∨ i = 3 ∨ i = 4 ∨ i = 5 ∨ i = 6 ∨ i = 7 ∨ i = 8 ∨ i = 9 := by omega
                        rcases hh with rfl | rfl | rfl | rfl | rfl | rfl | rfl | rfl | rfl | rfl
                        · exact p_ne hc0 rfl
                        · exact p_ne hc1 rfl
                        · exact p_ne hc2 rfl
                        · exact p_ne hc3 rfl
                        · exact p_ne hc4 rfl
                        · exact p_ne hc5 rfl
                        · exact p_ne hc6 rfl
                        · exact p_ne hc7 rfl
                        · exact p_ne hc8 rfl
                        · exact p_ne hc9 rfl)
                      refine s_tableOut (pc := 1) (tgt := 158) dX11_count_1 hout rfl ?_
                      refine s_bipush (pc := 158) dX11_count_158 (v := (-2)) rfl ?_
                      cases hf
                      exact s_ireturn (pc := 160) dX11_count_160 rfl rfl ⟨rfl, rfl, rfl, rfl, rfl⟩
def f_X11_again (n : Nat) (N : pN) (I : pI) (P : pR) (a0 : Nat) (x1 : Int32) : Option (Int32 × pI) :=
  Option.bind (α := (Option Nat)) ((if x1 < 0 then
    some none
  else
    Option.bind (P a0 1) fun q4 =>
    (if (nI (N.2 q4).2) ≤ x1 then
      some none
    else
      Option.bind (P a0 1) fun q7 =>
      p_ck (p_ib N q7 x1) <|
      some (P q7 (Int32.toNatClampNeg x1))))) fun t1 =>
  p_cs t1 (some (nI 0, I)) fun q11 =>
  Option.bind (P a0 0) fun q14 =>
  Option.bind (f_X7_copy N I P q14 q11) fun q17 =>
  Option.bind (f_X11_refresh n N q17 P a0) fun q19 =>
  some (nI 1, q19)
theorem c_X11_again {G : pG} {d : Nat} {n : Nat} {N : pN} {I : pI} {L : pL} {P : pR} {a0 : Nat} {x1 : Int32} {qq : Int32 × pI} (hd : 5 ≤ d) (hW : WT N P) (ha0 : p_tp N a0 14) (hf : f_X11_again n N I P a0 x1 = some qq) : MT G mX11_again d 0 0 [.ref a0, .int x1] N I L P (p_R (some (.int qq.1)) N qq.2 L P) := by
  refine MT.of rfl (Nat.le_of_ble_eq_true rfl) ?_
  show SW G mX11_again (p_rm d 0 0) 0 0 0 0 (p_R (some (.int qq.1)) N qq.2 L P) 0 [(0, .ref a0), (1, .int x1)] [] N I L P
  unfold f_X11_again at hf
  refine s_iload_n (pc := 0) dX11_again_0 1 rfl rfl ?_
  obtain ⟨t1, hg, hf⟩ := p_bd hf
  have k3 : (∀ q, t1 = some q → p_tp N q 10) → SW G mX11_again (p_rm d 0 0) 0 0 0 0 (p_R (some (.int qq.1)) N qq.2 L P) 23 [(0, .ref a0)] [va_rf t1] N I L P := by
    intro y2
    refine x_astoreQ_n (pc := 23) (lo' := [(2, va_rf t1), (0, .ref a0)]) dX11_again_23 rfl (Nat.le_of_ble_eq_true rfl) rfl ?_
    refine x_aloadQ_n (pc := 24) dX11_again_24 0 rfl rfl ?_
    refine y_ifnonnull (pc := 25) (tgt := 30) dX11_again_25 rfl (fun q11 h12 => ?_) (fun hc => ?_)
    · have t13 : p_tp N q11 10 := y2 q11 h12
      replace hf := p_cs_s hf h12
      have hz : va_rf t1 = .ref q11 := by rw [h12]; rfl
      rw [hz]
      refine s_aload_n (pc := 30) dX11_again_30 1 rfl rfl ?_
      obtain ⟨q14, h15, hf⟩ := p_bd hf
      have t16 : p_tp N q14 10 := WT.get hW ha0 h15
      refine x_getR (pc := 31) dX11_again_31 fl_X11_10 rfl ha0 h15 ?_
      refine s_aload_n (pc := 34) dX11_again_34 0 rfl rfl ?_
      obtain ⟨q17, h18, hf⟩ := p_bd hf
      refine y_callV0 (pc := 35) dX11_again_35 (c_X7_copy (p_dd hd (by decide)) hW t16 t13 h18) mk_X7_copy mv_X7_copy ml_X11_272 rfl rfl (Nat.le_of_ble_eq_true rfl) t16 rfl (p_d1 hd (by decide)) (Nat.le_of_ble_eq_true rfl) ?_
      refine s_aload_n (pc := 38) dX11_again_38 1 rfl rfl ?_
      obtain ⟨q19, h20, hf⟩ := p_bd hf
      refine y_callV0 (pc := 39) dX11_again_39 (c_X11_refresh (p_dd hd (by decide)) hW ha0 h20) mk_X11_refresh mv_X11_refresh ml_X11_95 rfl rfl (Nat.le_of_ble_eq_true rfl) ha0 rfl (p_d1 hd (by decide)) (Nat.le_of_ble_eq_true rfl) ?_
      refine s_iconst (pc := 42) dX11_again_42 (v := nI 1) rfl ?_
      cases hf
      exact s_ireturn (pc := 43) dX11_again_43 rfl rfl ⟨rfl, rfl, rfl, rfl, rfl⟩
    · replace hf := p_cs_n hf hc
      refine s_iconst (pc := 28) dX11_again_28 (v := nI 0) rfl ?_
      cases hf
      exact s_ireturn (pc := 29) dX11_again_29 rfl rfl ⟨rfl, rfl, rfl, rfl, rfl⟩
  replace hf := hg
  refine s_if_lt (pc := 1) (tgt := 22) dX11_again_1 rfl (fun hc => ?_) (fun hc => ?_)
  · replace hf := p_ps hf hc
    refine s_null (pc := 22) dX11_again_22 ?_
    cases hf
    exact s_lo [0] rfl (k3 (fun q hq => by cases hq))
  · replace hf := p_ng hf hc
    refine s_iload_n (pc := 4) dX11_again_4 1 rfl rfl ?_
    refine s_aload_n (pc := 5) dX11_again_5 0 rfl rfl ?_
    obtain ⟨q4, h5, hf⟩ := p_bd hf
    have t6 : p_tp N q4 2 := WT.get hW ha0 h5
    refine x_getR (pc := 6) dX11_again_6 fl_X11_16 rfl ha0 h5 ?_
    refine x_alen (pc := 9) dX11_again_9 t6 (Nat.le_of_ble_eq_true rfl) ?_
    refine s_icmp_ge (pc := 10) (tgt := 22) dX11_again_10 rfl (fun hc => ?_) (fun hc => ?_)
    · replace hf := p_ps hf hc
      refine s_null (pc := 22) dX11_again_22 ?_
      cases hf
      exact s_lo [0] rfl (k3 (fun q hq => by cases hq))
    · replace hf := p_ng hf hc
      refine s_aload_n (pc := 13) dX11_again_13 0 rfl rfl ?_
      obtain ⟨q7, h8, hf⟩ := p_bd hf
      have t9 : p_tp N q7 2 := WT.get hW ha0 h8
      refine x_getR (pc := 14) dX11_again_14 fl_X11_16 rfl ha0 h8 ?_
      refine s_iload_n (pc := 17) dX11_again_17 1 rfl rfl ?_
      obtain ⟨c10, hf⟩ := p_ckx hf
      refine x_aald (pc := 18) dX11_again_18 t9 c10 ?_
      refine s_goto (pc := 19) (tgt := 23) dX11_again_19 rfl ?_
      cases hf
      exact s_lo [0] rfl (k3 (fun _ hq => WT.elt hW t9 hq))
def f_X12_isIn (x0 : Int32) (x1 : Int32) (x2 : Int32) : Option Int32 :=
  (if x0 < x1 then
    some (nI 0)
  else
    (if x2 < x0 then
      some (nI 0)
    else
      some (nI 1)))
theorem c_X12_isIn {G : pG} {d : Nat} {N : pN} {I : pI} {L : pL} {P : pR} {x0 : Int32} {x1 : Int32} {x2 : Int32} {qq : Int32} (hd : 0 ≤ d) (hW : WT N P) (hf : f_X12_isIn x0 x1 x2 = some qq) : MT G mX12_isIn d 0 0 [.int x0, .int x1, .int x2] N I L P (p_R (some (.int qq)) N I L P) := by
  refine MT.of rfl (Nat.le_of_ble_eq_true rfl) ?_
  show SW G mX12_isIn (p_rm d 0 0) 0 0 0 0 (p_R (some (.int qq)) N I L P) 0 [(0, .int x0), (1, .int x1), (2, .int x2)] [] N I L P
  unfold f_X12_isIn at hf
  refine s_iload_n (pc := 0) dX12_isIn_0 0 rfl rfl ?_
  refine s_iload_n (pc := 1) dX12_isIn_1 1 rfl rfl ?_
  refine s_icmp_lt (pc := 2) (tgt := 14) dX12_isIn_2 rfl (fun hc => ?_) (fun hc => ?_)
  · replace hf := p_ps hf hc
    refine s_iconst (pc := 14) dX12_isIn_14 (v := nI 0) rfl ?_
    cases hf
    exact s_ireturn (pc := 15) dX12_isIn_15 rfl rfl ⟨rfl, rfl, rfl, rfl, rfl⟩
  · replace hf := p_ng hf hc
    refine s_iload_n (pc := 5) dX12_isIn_5 0 rfl rfl ?_
    refine s_iload_n (pc := 6) dX12_isIn_6 2 rfl rfl ?_
    refine s_icmp_gt (pc := 7) (tgt := 14) dX12_isIn_7 rfl (fun hc => ?_) (fun hc => ?_)
    · replace hf := p_ps hf hc
      refine s_iconst (pc := 14) dX12_isIn_14 (v := nI 0) rfl ?_
      cases hf
      exact s_ireturn (pc := 15) dX12_isIn_15 rfl rfl ⟨rfl, rfl, rfl, rfl, rfl⟩
    · replace hf := p_ng hf hc
      refine s_iconst (pc := 10) dX12_isIn_10 (v := nI 1) rfl ?_
      refine s_goto (pc := 11) (tgt := 15) dX12_isIn_11 rfl ?_
      cases hf
      exact s_ireturn (pc := 15) dX12_isIn_15 rfl rfl ⟨rfl, rfl, rfl, rfl, rfl⟩
def f_X12_isOf (N : pN) (I : pI) (P : pR) (a0 : Nat) (x1 : Int32) (x2 : Int32) : Option Int32 :=
  Option.bind (P a0 0) fun q1 =>
  p_ck (p_ib N q1 x2) <|
  Option.bind (f_X12_isIn x1 (nI 0) ((I q1 (Int32.toNatClampNeg x2)) - (nI 1))) fun q5 =>
  p_ck (decide (q5 = 0 ∨ q5 = 1)) <|
  some q5
theorem c_X12_isOf {G : pG} {d : Nat} {N : pN} {I : pI} {L : pL} {P : pR} {a0 : Nat} {x1 : Int32} {x2 : Int32} {qq : Int32} (hd : 1 ≤ d) (hW : WT N P) (ha0 : p_tp N a0 15) (hf : f_X12_isOf N I P a0 x1 x2 = some qq) : MT G mX12_isOf d 0 0 [.ref a0, .int x1, .int x2] N I L P (p_R (some (.int qq)) N I L P) := by
  refine MT.of rfl (Nat.le_of_ble_eq_true rfl) ?_
  show SW G mX12_isOf (p_rm d 0 0) 0 0 0 0 (p_R (some (.int qq)) N I L P) 0 [(0, .ref a0), (1, .int x1), (2, .int x2)] [] N I L P
  unfold f_X12_isOf at hf
  refine s_iload_n (pc := 0) dX12_isOf_0 1 rfl rfl ?_
  refine s_iconst (pc := 1) dX12_isOf_1 (v := nI 0) rfl ?_
  refine s_aload_n (pc := 2) dX12_isOf_2 0 rfl rfl ?_
  obtain ⟨q1, h2, hf⟩ := p_bd hf
  have t3 : p_tp N q1 0 := WT.get hW ha0 h2
  refine x_getR (pc := 3) dX12_isOf_3 fl_X12_7 rfl ha0 h2 ?_
  refine s_iload_n (pc := 6) dX12_isOf_6 2 rfl rfl ?_
  obtain ⟨c4, hf⟩ := p_ckx hf
  refine x_iald (pc := 7) dX12_isOf_7 t3 c4 ?_
  refine s_iconst (pc := 8) dX12_isOf_8 (v := nI 1) rfl ?_
  refine s_isub (pc := 9) dX12_isOf_9 ?_
  obtain ⟨q5, h6, hf⟩ := p_bd hf
  refine y_callS1 (pc := 10) dX12_isOf_10 (c_X12_isIn (p_dd hd (by decide)) hW  h6) mk_X12_isIn mz_X12_isIn ml_X12_68 rfl rfl (Nat.le_of_ble_eq_true rfl) (p_d1 hd (by decide)) (Nat.le_of_ble_eq_true rfl) ?_
  obtain ⟨c7, hf⟩ := p_ckx hf
  cases hf
  exact s_ireturn (pc := 13) dX12_isOf_13 rfl (p_nr (of_decide_eq_true c7)) ⟨rfl, rfl, rfl, rfl, rfl⟩
def f_X12_isPoint (x0 : Int32) (x1 : Int32) : Option Int32 :=
  Option.bind (f_X12_isIn x0 (nI 0) (nI 20)) fun q1 =>
  (if q1 = 0 then
    some (nI 0)
  else
    Option.bind (f_X12_isIn x1 (nI 0) (nI 20)) fun q3 =>
    (if q3 = 0 then
      some (nI 0)
    else
      some (nI 1)))
theorem c_X12_isPoint {G : pG} {d : Nat} {N : pN} {I : pI} {L : pL} {P : pR} {x0 : Int32} {x1 : Int32} {qq : Int32} (hd : 1 ≤ d) (hW : WT N P) (hf : f_X12_isPoint x0 x1 = some qq) : MT G mX12_isPoint d 0 0 [.int x0, .int x1] N I L P (p_R (some (.int qq)) N I L P) := by
  refine MT.of rfl (Nat.le_of_ble_eq_true rfl) ?_
  show SW G mX12_isPoint (p_rm d 0 0) 0 0 0 0 (p_R (some (.int qq)) N I L P) 0 [(0, .int x0), (1, .int x1)] [] N I L P
  unfold f_X12_isPoint at hf
  refine s_iload_n (pc := 0) dX12_isPoint_0 0 rfl rfl ?_
  refine s_iconst (pc := 1) dX12_isPoint_1 (v := nI 0) rfl ?_
  refine s_bipush (pc := 2) dX12_isPoint_2 (v := nI 20) rfl ?_
  obtain ⟨q1, h2, hf⟩ := p_bd hf
  refine y_callS1 (pc := 4) dX12_isPoint_4 (c_X12_isIn (p_dd hd (by decide)) hW  h2) mk_X12_isIn mz_X12_isIn ml_X12_68 rfl rfl (Nat.le_of_ble_eq_true rfl) (p_d1 hd (by decide)) (Nat.le_of_ble_eq_true rfl) ?_
  refine s_if_eq (pc := 7) (tgt := 24) dX12_isPoint_7 rfl (fun hc => ?_) (fun hc => ?_)
  · replace hf := p_ps hf hc
    refine s_iconst (pc := 24) dX12_isPoint_24 (v := nI 0) rfl ?_
    cases hf
    exact s_ireturn (pc := 25) dX12_isPoint_25 rfl rfl ⟨rfl, rfl, rfl, rfl, rfl⟩
  · replace hf := p_ng hf hc
    refine s_iload_n (pc := 10) dX12_isPoint_10 1 rfl rfl ?_
    refine s_iconst (pc := 11) dX12_isPoint_11 (v := nI 0) rfl ?_
    refine s_bipush (pc := 12) dX12_isPoint_12 (v := nI 20) rfl ?_
    obtain ⟨q3, h4, hf⟩ := p_bd hf
    refine y_callS1 (pc := 14) dX12_isPoint_14 (c_X12_isIn (p_dd hd (by decide)) hW  h4) mk_X12_isIn mz_X12_isIn ml_X12_68 rfl rfl (Nat.le_of_ble_eq_true rfl) (p_d1 hd (by decide)) (Nat.le_of_ble_eq_true rfl) ?_
    refine s_if_eq (pc := 17) (tgt := 24) dX12_isPoint_17 rfl (fun hc => ?_) (fun hc => ?_)
    · replace hf := p_ps hf hc
      refine s_iconst (pc := 24) dX12_isPoint_24 (v := nI 0) rfl ?_
      cases hf
      exact s_ireturn (pc := 25) dX12_isPoint_25 rfl rfl ⟨rfl, rfl, rfl, rfl, rfl⟩
    · replace hf := p_ng hf hc
      refine s_iconst (pc := 20) dX12_isPoint_20 (v := nI 1) rfl ?_
      refine s_goto (pc := 21) (tgt := 25) dX12_isPoint_21 rfl ?_
      cases hf
      exact s_ireturn (pc := 25) dX12_isPoint_25 rfl rfl ⟨rfl, rfl, rfl, rfl, rfl⟩
def f_X12_wallOf (N : pN) (I : pI) (P : pR) (a0 : Nat) (x1 : Int32) (x2 : Int32) : Option Int32 :=
  Option.bind (P a0 0) fun q1 =>
  p_ck (p_ib N q1 (((nI 30) + ((nI 7) * x1)) + x2)) <|
  some (I q1 (Int32.toNatClampNeg (((nI 30) + ((nI 7) * x1)) + x2)))
theorem c_X12_wallOf {G : pG} {d : Nat} {N : pN} {I : pI} {L : pL} {P : pR} {a0 : Nat} {x1 : Int32} {x2 : Int32} {qq : Int32} (hd : 0 ≤ d) (hW : WT N P) (ha0 : p_tp N a0 15) (hf : f_X12_wallOf N I P a0 x1 x2 = some qq) : MT G mX12_wallOf d 0 0 [.ref a0, .int x1, .int x2] N I L P (p_R (some (.int qq)) N I L P) := by
  refine MT.of rfl (Nat.le_of_ble_eq_true rfl) ?_
  show SW G mX12_wallOf (p_rm d 0 0) 0 0 0 0 (p_R (some (.int qq)) N I L P) 0 [(0, .ref a0), (1, .int x1), (2, .int x2)] [] N I L P
  unfold f_X12_wallOf at hf
  refine s_aload_n (pc := 0) dX12_wallOf_0 0 rfl rfl ?_
  obtain ⟨q1, h2, hf⟩ := p_bd hf
  have t3 : p_tp N q1 0 := WT.get hW ha0 h2
  refine x_getR (pc := 1) dX12_wallOf_1 fl_X12_7 rfl ha0 h2 ?_
  refine s_bipush (pc := 4) dX12_wallOf_4 (v := nI 30) rfl ?_
  refine s_bipush (pc := 6) dX12_wallOf_6 (v := nI 7) rfl ?_
  refine s_iload_n (pc := 8) dX12_wallOf_8 1 rfl rfl ?_
  refine s_imul (pc := 9) dX12_wallOf_9 ?_
  refine s_iadd (pc := 10) dX12_wallOf_10 ?_
  refine s_iload_n (pc := 11) dX12_wallOf_11 2 rfl rfl ?_
  refine s_iadd (pc := 12) dX12_wallOf_12 ?_
  obtain ⟨c4, hf⟩ := p_ckx hf
  refine x_iald (pc := 13) dX12_wallOf_13 t3 c4 ?_
  cases hf
  exact s_ireturn (pc := 14) dX12_wallOf_14 rfl rfl ⟨rfl, rfl, rfl, rfl, rfl⟩
def f_X12_senderOf (N : pN) (I : pI) (P : pR) (a0 : Nat) (x1 : Int32) (x2 : Int32) : Option Int32 :=
  Option.bind (P a0 0) fun q1 =>
  p_ck (p_ib N q1 (((nI 120) + ((nI 8) * x1)) + x2)) <|
  some (I q1 (Int32.toNatClampNeg (((nI 120) + ((nI 8) * x1)) + x2)))
theorem c_X12_senderOf {G : pG} {d : Nat} {N : pN} {I : pI} {L : pL} {P : pR} {a0 : Nat} {x1 : Int32} {x2 : Int32} {qq : Int32} (hd : 0 ≤ d) (hW : WT N P) (ha0 : p_tp N a0 15) (hf : f_X12_senderOf N I P a0 x1 x2 = some qq) : MT G mX12_senderOf d 0 0 [.ref a0, .int x1, .int x2] N I L P (p_R (some (.int qq)) N I L P) := by
  refine MT.of rfl (Nat.le_of_ble_eq_true rfl) ?_
  show SW G mX12_senderOf (p_rm d 0 0) 0 0 0 0 (p_R (some (.int qq)) N I L P) 0 [(0, .ref a0), (1, .int x1), (2, .int x2)] [] N I L P
  unfold f_X12_senderOf at hf
  refine s_aload_n (pc := 0) dX12_senderOf_0 0 rfl rfl ?_
  obtain ⟨q1, h2, hf⟩ := p_bd hf
  have t3 : p_tp N q1 0 := WT.get hW ha0 h2
  refine x_getR (pc := 1) dX12_senderOf_1 fl_X12_7 rfl ha0 h2 ?_
  refine s_bipush (pc := 4) dX12_senderOf_4 (v := nI 120) rfl ?_
  refine s_bipush (pc := 6) dX12_senderOf_6 (v := nI 8) rfl ?_
  refine s_iload_n (pc := 8) dX12_senderOf_8 1 rfl rfl ?_
  refine s_imul (pc := 9) dX12_senderOf_9 ?_
  refine s_iadd (pc := 10) dX12_senderOf_10 ?_
  refine s_iload_n (pc := 11) dX12_senderOf_11 2 rfl rfl ?_
  refine s_iadd (pc := 12) dX12_senderOf_12 ?_
  obtain ⟨c4, hf⟩ := p_ckx hf
  refine x_iald (pc := 13) dX12_senderOf_13 t3 c4 ?_
  cases hf
  exact s_ireturn (pc := 14) dX12_senderOf_14 rfl rfl ⟨rfl, rfl, rfl, rfl, rfl⟩
def f_X12_isThere (N : pN) (I : pI) (P : pR) (a0 : Nat) (x1 : Int32) (x2 : Int32) : Option Int32 :=
  Option.bind (P a0 0) fun q1 =>
  p_ck (p_ib N q1 (nI 5)) <|
  Option.bind (α := Int32) ((if (I q1 (Int32.toNatClampNeg (nI 5))) = (-1) then
    Option.bind (P a0 0) fun q11 =>
    p_ck (p_ib N q11 (nI 4)) <|
    some (I q11 (Int32.toNatClampNeg (nI 4)))
  else
    Option.bind (P a0 0) fun q7 =>
    p_ck (p_ib N q7 (nI 5)) <|
    some (I q7 (Int32.toNatClampNeg (nI 5))))) fun t5 =>
  (if t5 < x1 then
    some (nI 0)
  else
    (if x2 < 0 then
      some (nI 1)
    else
      (if x2 ≤ t5 then
        some (nI 0)
      else
        some (nI 1))))
theorem c_X12_isThere {G : pG} {d : Nat} {N : pN} {I : pI} {L : pL} {P : pR} {a0 : Nat} {x1 : Int32} {x2 : Int32} {qq : Int32} (hd : 0 ≤ d) (hW : WT N P) (ha0 : p_tp N a0 15) (hf : f_X12_isThere N I P a0 x1 x2 = some qq) : MT G mX12_isThere d 0 0 [.ref a0, .int x1, .int x2] N I L P (p_R (some (.int qq)) N I L P) := by
  refine MT.of rfl (Nat.le_of_ble_eq_true rfl) ?_
  show SW G mX12_isThere (p_rm d 0 0) 0 0 0 0 (p_R (some (.int qq)) N I L P) 0 [(0, .ref a0), (1, .int x1), (2, .int x2)] [] N I L P
  unfold f_X12_isThere at hf
  refine s_aload_n (pc := 0) dX12_isThere_0 0 rfl rfl ?_
  obtain ⟨q1, h2, hf⟩ := p_bd hf
  have t3 : p_tp N q1 0 := WT.get hW ha0 h2
  refine x_getR (pc := 1) dX12_isThere_1 fl_X12_7 rfl ha0 h2 ?_
  refine s_iconst (pc := 4) dX12_isThere_4 (v := nI 5) rfl ?_
  obtain ⟨c4, hf⟩ := p_ckx hf
  refine x_iald (pc := 5) dX12_isThere_5 t3 c4 ?_
  refine s_iconst (pc := 6) dX12_isThere_6 (v := (-1)) rfl ?_
  obtain ⟨t5, hg, hf⟩ := p_bd hf
  have k6 : SW G mX12_isThere (p_rm d 0 0) 0 0 0 0 (p_R (some (.int qq)) N I L P) 25 [(1, .int x1), (2, .int x2)] [.int t5] N I L P := by
    refine s_istore_n (pc := 25) (lo' := [(3, .int t5), (1, .int x1), (2, .int x2)]) dX12_isThere_25 rfl (Nat.le_of_ble_eq_true rfl) rfl ?_
    refine s_iload_n (pc := 26) dX12_isThere_26 1 rfl rfl ?_
    refine s_iload_n (pc := 27) dX12_isThere_27 0 rfl rfl ?_
    refine s_icmp_gt (pc := 28) (tgt := 44) dX12_isThere_28 rfl (fun hc => ?_) (fun hc => ?_)
    · replace hf := p_ps hf hc
      refine s_iconst (pc := 44) dX12_isThere_44 (v := nI 0) rfl ?_
      cases hf
      exact s_ireturn (pc := 45) dX12_isThere_45 rfl rfl ⟨rfl, rfl, rfl, rfl, rfl⟩
    · replace hf := p_ng hf hc
      refine s_iload_n (pc := 31) dX12_isThere_31 2 rfl rfl ?_
      refine s_if_lt (pc := 32) (tgt := 40) dX12_isThere_32 rfl (fun hc => ?_) (fun hc => ?_)
      · replace hf := p_ps hf hc
        refine s_iconst (pc := 40) dX12_isThere_40 (v := nI 1) rfl ?_
        refine s_goto (pc := 41) (tgt := 45) dX12_isThere_41 rfl ?_
        cases hf
        exact s_ireturn (pc := 45) dX12_isThere_45 rfl rfl ⟨rfl, rfl, rfl, rfl, rfl⟩
      · replace hf := p_ng hf hc
        refine s_iload_n (pc := 35) dX12_isThere_35 2 rfl rfl ?_
        refine s_iload_n (pc := 36) dX12_isThere_36 0 rfl rfl ?_
        refine s_icmp_le (pc := 37) (tgt := 44) dX12_isThere_37 rfl (fun hc => ?_) (fun hc => ?_)
        · replace hf := p_ps hf hc
          refine s_iconst (pc := 44) dX12_isThere_44 (v := nI 0) rfl ?_
          cases hf
          exact s_ireturn (pc := 45) dX12_isThere_45 rfl rfl ⟨rfl, rfl, rfl, rfl, rfl⟩
        · replace hf := p_ng hf hc
          refine s_iconst (pc := 40) dX12_isThere_40 (v := nI 1) rfl ?_
          refine s_goto (pc := 41) (tgt := 45) dX12_isThere_41 rfl ?_
          cases hf
          exact s_ireturn (pc := 45) dX12_isThere_45 rfl rfl ⟨rfl, rfl, rfl, rfl, rfl⟩
  replace hf := hg
  refine s_icmp_ne (pc := 7) (tgt := 19) dX12_isThere_7 rfl (fun hc => ?_) (fun hc => ?_)
  · replace hf := p_ng hf hc
    refine s_aload_n (pc := 19) dX12_isThere_19 0 rfl rfl ?_
    obtain ⟨q7, h8, hf⟩ := p_bd hf
    have t9 : p_tp N q7 0 := WT.get hW ha0 h8
    refine x_getR (pc := 20) dX12_isThere_20 fl_X12_7 rfl ha0 h8 ?_
    refine s_iconst (pc := 23) dX12_isThere_23 (v := nI 5) rfl ?_
    obtain ⟨c10, hf⟩ := p_ckx hf
    refine x_iald (pc := 24) dX12_isThere_24 t9 c10 ?_
    cases hf
    exact s_lo [1, 2] rfl (k6)
  · replace hf := p_ps hf hc
    refine s_aload_n (pc := 10) dX12_isThere_10 0 rfl rfl ?_
    obtain ⟨q11, h12, hf⟩ := p_bd hf
    have t13 : p_tp N q11 0 := WT.get hW ha0 h12
    refine x_getR (pc := 11) dX12_isThere_11 fl_X12_7 rfl ha0 h12 ?_
    refine s_iconst (pc := 14) dX12_isThere_14 (v := nI 4) rfl ?_
    obtain ⟨c14, hf⟩ := p_ckx hf
    refine x_iald (pc := 15) dX12_isThere_15 t13 c14 ?_
    refine s_goto (pc := 16) (tgt := 25) dX12_isThere_16 rfl ?_
    cases hf
    exact s_lo [1, 2] rfl (k6)
