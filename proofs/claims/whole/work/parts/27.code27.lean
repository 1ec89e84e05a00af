def f_X11_end (I : pI) (P : pR) (a0 : Nat) (x1 : Int32) : Option (Int32 × pI) :=
  (if x1 < 0 then
    some ((-1), I)
  else
    Option.bind (P a0 0) fun q1 =>
    Option.bind (P q1 0) fun q4 =>
    Option.bind (f_X8_size I q4) fun q7 =>
    (if x1 ≤ q7 then
      Option.bind (P a0 0) fun q9 =>
      Option.bind (P q9 0) fun q12 =>
      Option.bind (f_X8_cut I q12 x1) fun q15 =>
      some (x1, q15)
    else
      some ((-1), I)))
theorem c_X11_end {G : pG} {d : Nat} {N : pN} {I : pI} {L : pL} {P : pR} {a0 : Nat} {x1 : Int32} {qq : Int32 × pI} (hd : 1 ≤ d) (hW : WT N P) (ha0 : p_tp N a0 14) (hf : f_X11_end I P a0 x1 = some qq) : MT G mX11_end d 0 0 [.ref a0, .int x1] N I L P (p_R (some (.int qq.1)) N qq.2 L P) := by
  refine MT.of rfl (Nat.le_of_ble_eq_true rfl) ?_
  show SW G mX11_end (p_rm d 0 0) 0 0 0 0 (p_R (some (.int qq.1)) N qq.2 L P) 0 [(0, .ref a0), (1, .int x1)] [] N I L P
  unfold f_X11_end at hf
  refine s_iload_n (pc := 0) dX11_end_0 1 rfl rfl ?_
  refine s_if_lt (pc := 1) (tgt := 18) dX11_end_1 rfl (fun hc => ?_) (fun hc => ?_)
  · replace hf := p_ps hf hc
    refine s_iconst (pc := 18) dX11_end_18 (v := (-1)) rfl ?_
    cases hf
    exact s_ireturn (pc := 19) dX11_end_19 rfl rfl ⟨rfl, rfl, rfl, rfl, rfl⟩
  · replace hf := p_ng hf hc
    refine s_iload_n (pc := 4) dX11_end_4 1 rfl rfl ?_
    refine s_aload_n (pc := 5) dX11_end_5 0 rfl rfl ?_
    obtain ⟨q1, h2, hf⟩ := p_bd hf
    have t3 : p_tp N q1 10 := WT.get hW ha0 h2
    refine x_getR (pc := 6) dX11_end_6 fl_X11_10 rfl ha0 h2 ?_
    obtain ⟨q4, h5, hf⟩ := p_bd hf
    have t6 : p_tp N q4 11 := WT.get hW t3 h5
    refine x_getR (pc := 9) dX11_end_9 fl_X11_66 rfl t3 h5 ?_
    obtain ⟨q7, h8, hf⟩ := p_bd hf
    refine y_callV1 (pc := 12) dX11_end_12 (c_X8_size (p_dd hd (by decide)) hW t6 h8) mk_X8_size mv_X8_size ml_X11_70 rfl rfl (Nat.le_of_ble_eq_true rfl) t6 rfl (p_d1 hd (by decide)) (Nat.le_of_ble_eq_true rfl) ?_
    refine s_icmp_le (pc := 15) (tgt := 20) dX11_end_15 rfl (fun hc => ?_) (fun hc => ?_)
    · replace hf := p_ps hf hc
      refine s_aload_n (pc := 20) dX11_end_20 0 rfl rfl ?_
      obtain ⟨q9, h10, hf⟩ := p_bd hf
      have t11 : p_tp N q9 10 := WT.get hW ha0 h10
      refine x_getR (pc := 21) dX11_end_21 fl_X11_10 rfl ha0 h10 ?_
      obtain ⟨q12, h13, hf⟩ := p_bd hf
      have t14 : p_tp N q12 11 := WT.get hW t11 h13
      refine x_getR (pc := 24) dX11_end_24 fl_X11_66 rfl t11 h13 ?_
      refine s_iload_n (pc := 27) dX11_end_27 1 rfl rfl ?_
      obtain ⟨q15, h16, hf⟩ := p_bd hf
      refine y_callV0 (pc := 28) dX11_end_28 (c_X8_cut (p_dd hd (by decide)) hW t14 h16) mk_X8_cut mv_X8_cut ml_X11_88 rfl rfl (Nat.le_of_ble_eq_true rfl) t14 rfl (p_d1 hd (by decide)) (Nat.le_of_ble_eq_true rfl) ?_
      refine s_iload_n (pc := 31) dX11_end_31 1 rfl rfl ?_
      cases hf
      exact s_ireturn (pc := 32) dX11_end_32 rfl rfl ⟨rfl, rfl, rfl, rfl, rfl⟩
    · replace hf := p_ng hf hc
      refine s_iconst (pc := 18) dX11_end_18 (v := (-1)) rfl ?_
      cases hf
      exact s_ireturn (pc := 19) dX11_end_19 rfl rfl ⟨rfl, rfl, rfl, rfl, rfl⟩
def f_X11_refresh (n : Nat) (N : pN) (I : pI) (P : pR) (a0 : Nat) : Option pI :=
  Option.bind (P a0 2) fun q1 =>
  Option.bind (P a0 0) fun q4 =>
  Option.bind (f_X2_build n N I P q1 q4) fun q7 =>
  Option.bind (P a0 3) fun q9 =>
  Option.bind (f_X3_forget q7 q9) fun q12 =>
  some q12
theorem c_X11_refresh {G : pG} {d : Nat} {n : Nat} {N : pN} {I : pI} {L : pL} {P : pR} {a0 : Nat} {qq : pI} (hd : 4 ≤ d) (hW : WT N P) (ha0 : p_tp N a0 14) (hf : f_X11_refresh n N I P a0 = some qq) : MT G mX11_refresh d 0 0 [.ref a0] N I L P (p_R none N qq L P) := by
  refine MT.of rfl (Nat.le_of_ble_eq_true rfl) ?_
  show SW G mX11_refresh (p_rm d 0 0) 0 0 0 0 (p_R none N qq L P) 0 [(0, .ref a0)] [] N I L P
  unfold f_X11_refresh at hf
  refine s_aload_n (pc := 0) dX11_refresh_0 0 rfl rfl ?_
  obtain ⟨q1, h2, hf⟩ := p_bd hf
  have t3 : p_tp N q1 5 := WT.get hW ha0 h2
  refine x_getR (pc := 1) dX11_refresh_1 fl_X11_23 rfl ha0 h2 ?_
  refine s_aload_n (pc := 4) dX11_refresh_4 0 rfl rfl ?_
  obtain ⟨q4, h5, hf⟩ := p_bd hf
  have t6 : p_tp N q4 10 := WT.get hW ha0 h5
  refine x_getR (pc := 5) dX11_refresh_5 fl_X11_10 rfl ha0 h5 ?_
  obtain ⟨q7, h8, hf⟩ := p_bd hf
  refine y_callV0 (pc := 8) dX11_refresh_8 (c_X2_build (p_dd hd (by decide)) hW t3 t6 h8) mk_X2_build mv_X2_build ml_X11_142 rfl rfl (Nat.le_of_ble_eq_true rfl) t3 rfl (p_d1 hd (by decide)) (Nat.le_of_ble_eq_true rfl) ?_
  refine s_aload_n (pc := 11) dX11_refresh_11 0 rfl rfl ?_
  obtain ⟨q9, h10, hf⟩ := p_bd hf
  have t11 : p_tp N q9 6 := WT.get hW ha0 h10
  refine x_getR (pc := 12) dX11_refresh_12 fl_X11_32 rfl ha0 h10 ?_
  obtain ⟨q12, h13, hf⟩ := p_bd hf
  refine y_callV0 (pc := 15) dX11_refresh_15 (c_X3_forget (p_dd hd (by decide)) hW t11 h13) mk_X3_forget mv_X3_forget ml_X11_146 rfl rfl (Nat.le_of_ble_eq_true rfl) t11 rfl (p_d1 hd (by decide)) (Nat.le_of_ble_eq_true rfl) ?_
  cases hf
  exact s_return (pc := 18) dX11_refresh_18 rfl ⟨rfl, rfl, rfl, rfl, rfl⟩
def f_X11_town (n : Nat) (N : pN) (I : pI) (P : pR) (a0 : Nat) : Option (Int32 × pI × pR) :=
  Option.bind (P a0 6) fun q1 =>
  Option.bind (P a0 0) fun q4 =>
  Option.bind (f_X10_read n N I P q1 q4) fun q7 =>
  Option.bind (q7.2.2 a0 0) fun q10 =>
  Option.bind (q7.2.2 q10 0) fun q13 =>
  Option.bind (f_X8_cut q7.2.1 q13 (nI 0)) fun q16 =>
  Option.bind (f_X11_refresh n N q16 q7.2.2 a0) fun q18 =>
  some (q7.1, q18, q7.2.2)
theorem c_X11_town {G : pG} {d : Nat} {n : Nat} {N : pN} {I : pI} {L : pL} {P : pR} {a0 : Nat} {qq : Int32 × pI × pR} (hd : 11 ≤ d) (hW : WT N P) (ha0 : p_tp N a0 14) (hf : f_X11_town n N I P a0 = some qq) : MT G mX11_town d 0 0 [.ref a0] N I L P (p_R (some (.int qq.1)) N qq.2.1 L qq.2.2) := by
  refine MT.of rfl (Nat.le_of_ble_eq_true rfl) ?_
  show SW G mX11_town (p_rm d 0 0) 0 0 0 0 (p_R (some (.int qq.1)) N qq.2.1 L qq.2.2) 0 [(0, .ref a0)] [] N I L P
  unfold f_X11_town at hf
  refine s_aload_n (pc := 0) dX11_town_0 0 rfl rfl ?_
  obtain ⟨q1, h2, hf⟩ := p_bd hf
  have t3 : p_tp N q1 13 := WT.get hW ha0 h2
  refine x_getR (pc := 1) dX11_town_1 fl_X11_55 rfl ha0 h2 ?_
  refine s_aload_n (pc := 4) dX11_town_4 0 rfl rfl ?_
  obtain ⟨q4, h5, hf⟩ := p_bd hf
  have t6 : p_tp N q4 10 := WT.get hW ha0 h5
  refine x_getR (pc := 5) dX11_town_5 fl_X11_10 rfl ha0 h5 ?_
  obtain ⟨q7, h8, hf⟩ := p_bd hf
  have w9 : WT N q7.2.2 := w_X10_read hW t3 t6 h8
  refine y_callV1 (pc := 8) dX11_town_8 (c_X10_read (p_dd hd (by decide)) hW t3 t6 h8) mk_X10_read mv_X10_read ml_X11_91 rfl rfl (Nat.le_of_ble_eq_true rfl) t3 rfl (p_d1 hd (by decide)) (Nat.le_of_ble_eq_true rfl) ?_
  refine s_istore_n (pc := 11) (lo' := [(1, .int q7.1), (0, .ref a0)]) dX11_town_11 rfl (Nat.le_of_ble_eq_true rfl) rfl ?_
  refine s_aload_n (pc := 12) dX11_town_12 1 rfl rfl ?_
  obtain ⟨q10, h11, hf⟩ := p_bd hf
  have t12 : p_tp N q10 10 := WT.get w9 ha0 h11
  refine x_getR (pc := 13) dX11_town_13 fl_X11_10 rfl ha0 h11 ?_
  obtain ⟨q13, h14, hf⟩ := p_bd hf
  have t15 : p_tp N q13 11 := WT.get w9 t12 h14
  refine x_getR (pc := 16) dX11_town_16 fl_X11_66 rfl t12 h14 ?_
  refine s_iconst (pc := 19) dX11_town_19 (v := nI 0) rfl ?_
  obtain ⟨q16, h17, hf⟩ := p_bd hf
  refine y_callV0 (pc := 20) dX11_town_20 (c_X8_cut (p_dd hd (by decide)) w9 t15 h17) mk_X8_cut mv_X8_cut ml_X11_88 rfl rfl (Nat.le_of_ble_eq_true rfl) t15 rfl (p_d1 hd (by decide)) (Nat.le_of_ble_eq_true rfl) ?_
  refine s_aload_n (pc := 23) dX11_town_23 1 rfl rfl ?_
  obtain ⟨q18, h19, hf⟩ := p_bd hf
  refine y_callV0 (pc := 24) dX11_town_24 (c_X11_refresh (p_dd hd (by decide)) w9 ha0 h19) mk_X11_refresh mv_X11_refresh ml_X11_95 rfl rfl (Nat.le_of_ble_eq_true rfl) ha0 rfl (p_d1 hd (by decide)) (Nat.le_of_ble_eq_true rfl) ?_
  refine s_iload_n (pc := 27) dX11_town_27 0 rfl rfl ?_
  cases hf
  exact s_ireturn (pc := 28) dX11_town_28 rfl rfl ⟨rfl, rfl, rfl, rfl, rfl⟩
theorem w_X11_town {n : Nat} {N : pN} {I : pI} {P : pR} {a0 : Nat} {qq : Int32 × pI × pR} (hW : WT N P) (ha0 : p_tp N a0 14) (hf : f_X11_town n N I P a0 = some qq) : WT N qq.2.2 := by
  unfold f_X11_town at hf
  obtain ⟨q0, h0, hf⟩ := p_bd hf
  obtain ⟨q1, h1, hf⟩ := p_bd hf
  obtain ⟨q2, h2, hf⟩ := p_bd hf
  have hw := w_X10_read hW (WT.get hW ha0 h0) (WT.get hW ha0 h1) h2
  obtain ⟨q3, h3, hf⟩ := p_bd hf
  obtain ⟨q4, h4, hf⟩ := p_bd hf
  obtain ⟨q5, h5, hf⟩ := p_bd hf
  obtain ⟨q6, h6, hf⟩ := p_bd hf
  cases hf
  exact hw
def f_X11_law (n : Nat) (N : pN) (I : pI) (P : pR) (a0 : Nat) : Option (Int32 × pI × pR) :=
  Option.bind (P a0 7) fun q1 =>
  Option.bind (P a0 0) fun q4 =>
  Option.bind (f_X4_read n N I P q1 q4) fun q7 =>
  Option.bind (q7.2.2 a0 0) fun q10 =>
  Option.bind (q7.2.2 q10 0) fun q13 =>
  Option.bind (f_X8_cut q7.2.1 q13 (nI 0)) fun q16 =>
  some (q7.1, q16, q7.2.2)
theorem c_X11_law {G : pG} {d : Nat} {n : Nat} {N : pN} {I : pI} {L : pL} {P : pR} {a0 : Nat} {qq : Int32 × pI × pR} (hd : 12 ≤ d) (hW : WT N P) (ha0 : p_tp N a0 14) (hf : f_X11_law n N I P a0 = some qq) : MT G mX11_law d 0 0 [.ref a0] N I L P (p_R (some (.int qq.1)) N qq.2.1 L qq.2.2) := by
  refine MT.of rfl (Nat.le_of_ble_eq_true rfl) ?_
  show SW G mX11_law (p_rm d 0 0) 0 0 0 0 (p_R (some (.int qq.1)) N qq.2.1 L qq.2.2) 0 [(0, .ref a0)] [] N I L P
  unfold f_X11_law at hf
  refine s_aload_n (pc := 0) dX11_law_0 0 rfl rfl ?_
  obtain ⟨q1, h2, hf⟩ := p_bd hf
  have t3 : p_tp N q1 7 := WT.get hW ha0 h2
  refine x_getR (pc := 1) dX11_law_1 fl_X11_62 rfl ha0 h2 ?_
  refine s_aload_n (pc := 4) dX11_law_4 0 rfl rfl ?_
  obtain ⟨q4, h5, hf⟩ := p_bd hf
  have t6 : p_tp N q4 10 := WT.get hW ha0 h5
  refine x_getR (pc := 5) dX11_law_5 fl_X11_10 rfl ha0 h5 ?_
  obtain ⟨q7, h8, hf⟩ := p_bd hf
  have w9 : WT N q7.2.2 := w_X4_read hW t3 t6 h8
  refine y_callV1 (pc := 8) dX11_law_8 (c_X4_read (p_dd hd (by decide)) hW t3 t6 h8) mk_X4_read mv_X4_read ml_X11_98 rfl rfl (Nat.le_of_ble_eq_true rfl) t3 rfl (p_d1 hd (by decide)) (Nat.le_of_ble_eq_true rfl) ?_
  refine s_istore_n (pc := 11) (lo' := [(1, .int q7.1), (0, .ref a0)]) dX11_law_11 rfl (Nat.le_of_ble_eq_true rfl) rfl ?_
  refine s_aload_n (pc := 12) dX11_law_12 1 rfl rfl ?_
  obtain ⟨q10, h11, hf⟩ := p_bd hf
  have t12 : p_tp N q10 10 := WT.get w9 ha0 h11
  refine x_getR (pc := 13) dX11_law_13 fl_X11_10 rfl ha0 h11 ?_
  obtain ⟨q13, h14, hf⟩ := p_bd hf
  have t15 : p_tp N q13 11 := WT.get w9 t12 h14
  refine x_getR (pc := 16) dX11_law_16 fl_X11_66 rfl t12 h14 ?_
  refine s_iconst (pc := 19) dX11_law_19 (v := nI 0) rfl ?_
  obtain ⟨q16, h17, hf⟩ := p_bd hf
  refine y_callV0 (pc := 20) dX11_law_20 (c_X8_cut (p_dd hd (by decide)) w9 t15 h17) mk_X8_cut mv_X8_cut ml_X11_88 rfl rfl (Nat.le_of_ble_eq_true rfl) t15 rfl (p_d1 hd (by decide)) (Nat.le_of_ble_eq_true rfl) ?_
  refine s_iload_n (pc := 23) dX11_law_23 0 rfl rfl ?_
  cases hf
  exact s_ireturn (pc := 24) dX11_law_24 rfl rfl ⟨rfl, rfl, rfl, rfl, rfl⟩
theorem w_X11_law {n : Nat} {N : pN} {I : pI} {P : pR} {a0 : Nat} {qq : Int32 × pI × pR} (hW : WT N P) (ha0 : p_tp N a0 14) (hf : f_X11_law n N I P a0 = some qq) : WT N qq.2.2 := by
  unfold f_X11_law at hf
  obtain ⟨q0, h0, hf⟩ := p_bd hf
  obtain ⟨q1, h1, hf⟩ := p_bd hf
  obtain ⟨q2, h2, hf⟩ := p_bd hf
  have hw := w_X4_read hW (WT.get hW ha0 h0) (WT.get hW ha0 h1) h2
  obtain ⟨q3, h3, hf⟩ := p_bd hf
  obtain ⟨q4, h4, hf⟩ := p_bd hf
  obtain ⟨q5, h5, hf⟩ := p_bd hf
  cases hf
  exact hw
def f_X11_fault (I : pI) (P : pR) (a0 : Nat) (x1 : Int32) : Option Int32 :=
  (if x1 = nI 0 then
    Option.bind (P a0 0) fun q4 =>
    some (I q4 9)
  else
    (if x1 = nI 1 then
      Option.bind (P a0 0) fun q1 =>
      some (I q1 10)
    else
      some (-1)))
theorem c_X11_fault {G : pG} {d : Nat} {N : pN} {I : pI} {L : pL} {P : pR} {a0 : Nat} {x1 : Int32} {qq : Int32} (hd : 0 ≤ d) (hW : WT N P) (ha0 : p_tp N a0 14) (hf : f_X11_fault I P a0 x1 = some qq) : MT G mX11_fault d 0 0 [.ref a0, .int x1] N I L P (p_R (some (.int qq)) N I L P) := by
  refine MT.of rfl (Nat.le_of_ble_eq_true rfl) ?_
  show SW G mX11_fault (p_rm d 0 0) 0 0 0 0 (p_R (some (.int qq)) N I L P) 0 [(0, .ref a0), (1, .int x1)] [] N I L P
  unfold f_X11_fault at hf
  refine s_iload_n (pc := 0) dX11_fault_0 1 rfl rfl ?_
  by_cases hc0 : x1 = nI 0
  · replace hf := p_ps hf hc0
    refine s_lookup (pc := 1) (tgt := 28) (off := 27) dX11_fault_1 (by decide) (by rw [hc0]; rfl) rfl ?_
    refine s_aload_n (pc := 28) dX11_fault_28 0 rfl rfl ?_
    obtain ⟨q4, h5, hf⟩ := p_bd hf
    have t6 : p_tp N q4 10 := WT.get hW ha0 h5
    refine x_getR (pc := 29) dX11_fault_29 fl_X11_10 rfl ha0 h5 ?_
    refine x_getI (pc := 32) dX11_fault_32 fl_X11_99 rfl t6 ?_
    cases hf
    exact s_ireturn (pc := 35) dX11_fault_35 rfl rfl ⟨rfl, rfl, rfl, rfl, rfl⟩
  · replace hf := p_ng hf hc0
    by_cases hc1 : x1 = nI 1
    · replace hf := p_ps hf hc1
      refine s_lookup (pc := 1) (tgt := 36) (off := 35) dX11_fault_1 (by decide) (by rw [hc1]; rfl) rfl ?_
      refine s_aload_n (pc := 36) dX11_fault_36 0 rfl rfl ?_
      obtain ⟨q1, h2, hf⟩ := p_bd hf
      have t3 : p_tp N q1 10 := WT.get hW ha0 h2
      refine x_getR (pc := 37) dX11_fault_37 fl_X11_10 rfl ha0 h2 ?_
      refine x_getI (pc := 40) dX11_fault_40 fl_X11_103 rfl t3 ?_
      cases hf
      exact s_ireturn (pc := 43) dX11_fault_43 rfl rfl ⟨rfl, rfl, rfl, rfl, rfl⟩
    · replace hf := p_ng hf hc1
      refine s_lookup (pc := 1) (tgt := 44) (off := 43) dX11_fault_1 (by decide) (by simp [Op.lookupswitch.offset, p_ne hc0 (i := 0) rfl, (p_ne hc0 (i := 0) rfl).symm, p_ne hc1 (i := 1) rfl, (p_ne hc1 (i := 1) rfl).symm]) rfl ?_
      refine s_iconst (pc := 44) dX11_fault_44 (v := (-1)) rfl ?_
      cases hf
      exact s_ireturn (pc := 45) dX11_fault_45 rfl rfl ⟨rfl, rfl, rfl, rfl, rfl⟩
def f_X11_day (n : Nat) (N : pN) (I : pI) (P : pR) (a0 : Nat) (x1 : Int32) : Option (Int32 × pI) :=
  Option.bind (P a0 0) fun q1 =>
  (if x1 < (I q1 11) then
    some (nI 0, I)
  else
    (if x1 ≤ (nI 999) then
      Option.bind (P a0 0) fun q4 =>
      p_let (p_u I q4 11 x1) fun I7 =>
      Option.bind (f_X11_refresh n N I7 P a0) fun q9 =>
      some (nI 1, q9)
    else
      some (nI 0, I)))
theorem c_X11_day {G : pG} {d : Nat} {n : Nat} {N : pN} {I : pI} {L : pL} {P : pR} {a0 : Nat} {x1 : Int32} {qq : Int32 × pI} (hd : 5 ≤ d) (hW : WT N P) (ha0 : p_tp N a0 14) (hf : f_X11_day n N I P a0 x1 = some qq) : MT G mX11_day d 0 0 [.ref a0, .int x1] N I L P (p_R (some (.int qq.1)) N qq.2 L P) := by
  refine MT.of rfl (Nat.le_of_ble_eq_true rfl) ?_
  show SW G mX11_day (p_rm d 0 0) 0 0 0 0 (p_R (some (.int qq.1)) N qq.2 L P) 0 [(0, .ref a0), (1, .int x1)] [] N I L P
  unfold f_X11_day at hf
  refine s_iload_n (pc := 0) dX11_day_0 1 rfl rfl ?_
  refine s_aload_n (pc := 1) dX11_day_1 0 rfl rfl ?_
  obtain ⟨q1, h2, hf⟩ := p_bd hf
  have t3 : p_tp N q1 10 := WT.get hW ha0 h2
  refine x_getR (pc := 2) dX11_day_2 fl_X11_10 rfl ha0 h2 ?_
  refine x_getI (pc := 5) dX11_day_5 fl_X11_106 rfl t3 ?_
  refine s_icmp_lt (pc := 8) (tgt := 18) dX11_day_8 rfl (fun hc => ?_) (fun hc => ?_)
  · replace hf := p_ps hf hc
    refine s_iconst (pc := 18) dX11_day_18 (v := nI 0) rfl ?_
    cases hf
    exact s_ireturn (pc := 19) dX11_day_19 rfl rfl ⟨rfl, rfl, rfl, rfl, rfl⟩
  · replace hf := p_ng hf hc
    refine s_iload_n (pc := 11) dX11_day_11 1 rfl rfl ?_
    refine s_sipush (pc := 12) dX11_day_12 (v := nI 999) rfl ?_
    refine s_icmp_le (pc := 15) (tgt := 20) dX11_day_15 rfl (fun hc => ?_) (fun hc => ?_)
    · replace hf := p_ps hf hc
      refine s_aload_n (pc := 20) dX11_day_20 0 rfl rfl ?_
      obtain ⟨q4, h5, hf⟩ := p_bd hf
      have t6 : p_tp N q4 10 := WT.get hW ha0 h5
      refine x_getR (pc := 21) dX11_day_21 fl_X11_10 rfl ha0 h5 ?_
      refine s_iload_n (pc := 24) dX11_day_24 1 rfl rfl ?_
      refine x_putI (pc := 25) dX11_day_25 fl_X11_106 (Or.inl rfl) rfl t6 ?_
      refine s_nmI (fun I7 e8 => ?_)
      replace hf := p_lx hf e8
      refine s_aload_n (pc := 28) dX11_day_28 0 rfl rfl ?_
      obtain ⟨q9, h10, hf⟩ := p_bd hf
      refine y_callV0 (pc := 29) dX11_day_29 (c_X11_refresh (p_dd hd (by decide)) hW ha0 h10) mk_X11_refresh mv_X11_refresh ml_X11_95 rfl rfl (Nat.le_of_ble_eq_true rfl) ha0 rfl (p_d1 hd (by decide)) (Nat.le_of_ble_eq_true rfl) ?_
      refine s_iconst (pc := 32) dX11_day_32 (v := nI 1) rfl ?_
      cases hf
      exact s_ireturn (pc := 33) dX11_day_33 rfl rfl ⟨rfl, rfl, rfl, rfl, rfl⟩
    · replace hf := p_ng hf hc
      refine s_iconst (pc := 18) dX11_day_18 (v := nI 0) rfl ?_
      cases hf
      exact s_ireturn (pc := 19) dX11_day_19 rfl rfl ⟨rfl, rfl, rfl, rfl, rfl⟩
def f_X11_view (n : Nat) (N : pN) (I : pI) (P : pR) (a0 : Nat) (x1 : Int32) : Option (Int32 × pI) :=
  (if x1 < (-1) then
    some (nI 0, I)
  else
    Option.bind (P a0 0) fun q1 =>
    (if x1 ≤ (I q1 11) then
      Option.bind (P a0 0) fun q4 =>
      p_let (p_u I q4 12 x1) fun I7 =>
      Option.bind (f_X11_refresh n N I7 P a0) fun q9 =>
      some (nI 1, q9)
    else
      some (nI 0, I)))
theorem c_X11_view {G : pG} {d : Nat} {n : Nat} {N : pN} {I : pI} {L : pL} {P : pR} {a0 : Nat} {x1 : Int32} {qq : Int32 × pI} (hd : 5 ≤ d) (hW : WT N P) (ha0 : p_tp N a0 14) (hf : f_X11_view n N I P a0 x1 = some qq) : MT G mX11_view d 0 0 [.ref a0, .int x1] N I L P (p_R (some (.int qq.1)) N qq.2 L P) := by
  refine MT.of rfl (Nat.le_of_ble_eq_true rfl) ?_
  show SW G mX11_view (p_rm d 0 0) 0 0 0 0 (p_R (some (.int qq.1)) N qq.2 L P) 0 [(0, .ref a0), (1, .int x1)] [] N I L P
  unfold f_X11_view at hf
  refine s_iload_n (pc := 0) dX11_view_0 1 rfl rfl ?_
  refine s_iconst (pc := 1) dX11_view_1 (v := (-1)) rfl ?_
  refine s_icmp_lt (pc := 2) (tgt := 16) dX11_view_2 rfl (fun hc => ?_) (fun hc => ?_)
  · replace hf := p_ps hf hc
    refine s_iconst (pc := 16) dX11_view_16 (v := nI 0) rfl ?_
    cases hf
    exact s_ireturn (pc := 17) dX11_view_17 rfl rfl ⟨rfl, rfl, rfl, rfl, rfl⟩
  · replace hf := p_ng hf hc
    refine s_iload_n (pc := 5) dX11_view_5 1 rfl rfl ?_
    refine s_aload_n (pc := 6) dX11_view_6 0 rfl rfl ?_
    obtain ⟨q1, h2, hf⟩ := p_bd hf
    have t3 : p_tp N q1 10 := WT.get hW ha0 h2
    refine x_getR (pc := 7) dX11_view_7 fl_X11_10 rfl ha0 h2 ?_
    refine x_getI (pc := 10) dX11_view_10 fl_X11_106 rfl t3 ?_
    refine s_icmp_le (pc := 13) (tgt := 18) dX11_view_13 rfl (fun hc => ?_) (fun hc => ?_)
    · replace hf := p_ps hf hc
      refine s_aload_n (pc := 18) dX11_view_18 0 rfl rfl ?_
      obtain ⟨q4, h5, hf⟩ := p_bd hf
      have t6 : p_tp N q4 10 := WT.get hW ha0 h5
      refine x_getR (pc := 19) dX11_view_19 fl_X11_10 rfl ha0 h5 ?_
      refine s_iload_n (pc := 22) dX11_view_22 1 rfl rfl ?_
      refine x_putI (pc := 23) dX11_view_23 fl_X11_109 (Or.inl rfl) rfl t6 ?_
      refine s_nmI (fun I7 e8 => ?_)
      replace hf := p_lx hf e8
      refine s_aload_n (pc := 26) dX11_view_26 0 rfl rfl ?_
      obtain ⟨q9, h10, hf⟩ := p_bd hf
      refine y_callV0 (pc := 27) dX11_view_27 (c_X11_refresh (p_dd hd (by decide)) hW ha0 h10) mk_X11_refresh mv_X11_refresh ml_X11_95 rfl rfl (Nat.le_of_ble_eq_true rfl) ha0 rfl (p_d1 hd (by decide)) (Nat.le_of_ble_eq_true rfl) ?_
      refine s_iconst (pc := 30) dX11_view_30 (v := nI 1) rfl ?_
      cases hf
      exact s_ireturn (pc := 31) dX11_view_31 rfl rfl ⟨rfl, rfl, rfl, rfl, rfl⟩
    · replace hf := p_ng hf hc
      refine s_iconst (pc := 16) dX11_view_16 (v := nI 0) rfl ?_
      cases hf
      exact s_ireturn (pc := 17) dX11_view_17 rfl rfl ⟨rfl, rfl, rfl, rfl, rfl⟩
def f_X11_pull (n : Nat) (N : pN) (I : pI) (P : pR) (a0 : Nat) (x1 : Int32) (x2 : Int32) : Option (Int32 × pI) :=
  Option.bind (α := Nat) ((if x1 = 0 then
    Option.bind (P a0 0) fun q4 =>
    Option.bind (P q4 2) fun q7 =>
    some q7
  else
    Option.bind (P a0 0) fun q10 =>
    Option.bind (P q10 1) fun q13 =>
    some q13)) fun t1 =>
  p_let (α := Int32) ((if x1 = 0 then
    nI 5
  else
    nI 6)) fun t16 =>
  Option.bind (f_X8_has I t1 x2) fun q18 =>
  (if q18 = 0 then
    some (nI 0, I)
  else
    Option.bind (f_X8_get N I P t1 x2 t16) fun q20 =>
    (if q20 = (-1) then
      Option.bind (P a0 0) fun q22 =>
      Option.bind (f_X8_put N I P t1 x2 t16 (I q22 11)) fun q25 =>
      Option.bind (f_X11_refresh n N q25 P a0) fun q27 =>
      some (nI 1, q27)
    else
      some (nI 0, I)))
theorem c_X11_pull {G : pG} {d : Nat} {n : Nat} {N : pN} {I : pI} {L : pL} {P : pR} {a0 : Nat} {x1 : Int32} {x2 : Int32} {qq : Int32 × pI} (hd : 5 ≤ d) (hW : WT N P) (ha0 : p_tp N a0 14) (hf : f_X11_pull n N I P a0 x1 x2 = some qq) : MT G mX11_pull d 0 0 [.ref a0, .int x1, .int x2] N I L P (p_R (some (.int qq.1)) N qq.2 L P) := by
  refine MT.of rfl (Nat.le_of_ble_eq_true rfl) ?_
  show SW G mX11_pull (p_rm d 0 0) 0 0 0 0 (p_R (some (.int qq.1)) N qq.2 L P) 0 [(0, .ref a0), (1, .int x1), (2, .int x2)] [] N I L P
  unfold f_X11_pull at hf
  refine s_iload_n (pc := 0) dX11_pull_0 1 rfl rfl ?_
  obtain ⟨t1, hg, hf⟩ := p_bd hf
  have k3 : (p_tp N t1 11) → SW G mX11_pull (p_rm d 0 0) 0 0 0 0 (p_R (some (.int qq.1)) N qq.2 L P) 21 [(0, .ref a0), (1, .int x1), (2, .int x2)] [.ref t1] N I L P := by
    intro y2
    refine s_astore_n (pc := 21) (lo' := [(3, .ref t1), (0, .ref a0), (1, .int x1), (2, .int x2)]) dX11_pull_21 rfl (Nat.le_of_ble_eq_true rfl) rfl ?_
    refine s_iload_n (pc := 22) dX11_pull_22 2 rfl rfl ?_
    obtain ⟨t16, hg, hf⟩ := p_lx2 hf
    have k17 : SW G mX11_pull (p_rm d 0 0) 0 0 0 0 (p_R (some (.int qq.1)) N qq.2 L P) 32 [(3, .ref t1), (0, .ref a0), (2, .int x2)] [.int t16] N I L P := by
      refine s_istore (pc := 32) (lo' := [(4, .int t16), (3, .ref t1), (0, .ref a0), (2, .int x2)]) dX11_pull_32 (Nat.le_of_ble_eq_true rfl) rfl ?_
      refine s_aload_n (pc := 34) dX11_pull_34 1 rfl rfl ?_
      refine s_iload_n (pc := 35) dX11_pull_35 3 rfl rfl ?_
      obtain ⟨q18, h19, hf⟩ := p_bd hf
      refine y_callV1 (pc := 36) dX11_pull_36 (c_X8_has (p_dd hd (by decide)) hW y2 h19) mk_X8_has mv_X8_has ml_X11_118 rfl rfl (Nat.le_of_ble_eq_true rfl) y2 rfl (p_d1 hd (by decide)) (Nat.le_of_ble_eq_true rfl) ?_
      refine s_if_eq (pc := 39) (tgt := 53) dX11_pull_39 rfl (fun hc => ?_) (fun hc => ?_)
      · replace hf := p_ps hf hc
        refine s_iconst (pc := 53) dX11_pull_53 (v := nI 0) rfl ?_
        cases hf
        exact s_ireturn (pc := 54) dX11_pull_54 rfl rfl ⟨rfl, rfl, rfl, rfl, rfl⟩
      · replace hf := p_ng hf hc
        refine s_aload_n (pc := 42) dX11_pull_42 1 rfl rfl ?_
        refine s_iload_n (pc := 43) dX11_pull_43 3 rfl rfl ?_
        refine s_iload (pc := 44) dX11_pull_44 0 rfl ?_
        obtain ⟨q20, h21, hf⟩ := p_bd hf
        refine y_callV1 (pc := 46) dX11_pull_46 (c_X8_get (p_dd hd (by decide)) hW y2 h21) mk_X8_get mv_X8_get ml_X11_122 rfl rfl (Nat.le_of_ble_eq_true rfl) y2 rfl (p_d1 hd (by decide)) (Nat.le_of_ble_eq_true rfl) ?_
        refine s_iconst (pc := 49) dX11_pull_49 (v := (-1)) rfl ?_
        refine s_icmp_eq (pc := 50) (tgt := 55) dX11_pull_50 rfl (fun hc => ?_) (fun hc => ?_)
        · replace hf := p_ps hf hc
          refine s_aload_n (pc := 55) dX11_pull_55 1 rfl rfl ?_
          refine s_iload_n (pc := 56) dX11_pull_56 3 rfl rfl ?_
          refine s_iload (pc := 57) dX11_pull_57 0 rfl ?_
          refine s_aload_n (pc := 59) dX11_pull_59 2 rfl rfl ?_
          obtain ⟨q22, h23, hf⟩ := p_bd hf
          have t24 : p_tp N q22 10 := WT.get hW ha0 h23
          refine x_getR (pc := 60) dX11_pull_60 fl_X11_10 rfl ha0 h23 ?_
          refine x_getI (pc := 63) dX11_pull_63 fl_X11_106 rfl t24 ?_
          obtain ⟨q25, h26, hf⟩ := p_bd hf
          refine y_callV0 (pc := 66) dX11_pull_66 (c_X8_put (p_dd hd (by decide)) hW y2 h26) mk_X8_put mv_X8_put ml_X11_84 rfl rfl (Nat.le_of_ble_eq_true rfl) y2 rfl (p_d1 hd (by decide)) (Nat.le_of_ble_eq_true rfl) ?_
          refine s_aload_n (pc := 69) dX11_pull_69 2 rfl rfl ?_
          obtain ⟨q27, h28, hf⟩ := p_bd hf
          refine y_callV0 (pc := 70) dX11_pull_70 (c_X11_refresh (p_dd hd (by decide)) hW ha0 h28) mk_X11_refresh mv_X11_refresh ml_X11_95 rfl rfl (Nat.le_of_ble_eq_true rfl) ha0 rfl (p_d1 hd (by decide)) (Nat.le_of_ble_eq_true rfl) ?_
          refine s_iconst (pc := 73) dX11_pull_73 (v := nI 1) rfl ?_
          cases hf
          exact s_ireturn (pc := 74) dX11_pull_74 rfl rfl ⟨rfl, rfl, rfl, rfl, rfl⟩
        · replace hf := p_ng hf hc
          refine s_iconst (pc := 53) dX11_pull_53 (v := nI 0) rfl ?_
          cases hf
          exact s_ireturn (pc := 54) dX11_pull_54 rfl rfl ⟨rfl, rfl, rfl, rfl, rfl⟩
    replace hf := hg.symm
    refine s_if_eq (pc := 23) (tgt := 31) dX11_pull_23 rfl (fun hc => ?_) (fun hc => ?_)
    · replace hf := p_ps hf hc
      refine s_iconst (pc := 31) dX11_pull_31 (v := nI 5) rfl ?_
      cases hf
      exact s_lo [0, 1, 3] rfl (k17)
    · replace hf := p_ng hf hc
      refine s_bipush (pc := 26) dX11_pull_26 (v := nI 6) rfl ?_
      refine s_goto (pc := 28) (tgt := 32) dX11_pull_28 rfl ?_
      cases hf
      exact s_lo [0, 1, 3] rfl (k17)
  replace hf := hg
  refine s_if_eq (pc := 1) (tgt := 14) dX11_pull_1 rfl (fun hc => ?_) (fun hc => ?_)
  · replace hf := p_ps hf hc
    refine s_aload_n (pc := 14) dX11_pull_14 0 rfl rfl ?_
    obtain ⟨q4, h5, hf⟩ := p_bd hf
    have t6 : p_tp N q4 10 := WT.get hW ha0 h5
    refine x_getR (pc := 15) dX11_pull_15 fl_X11_10 rfl ha0 h5 ?_
    obtain ⟨q7, h8, hf⟩ := p_bd hf
    have t9 : p_tp N q7 11 := WT.get hW t6 h8
    refine x_getR (pc := 18) dX11_pull_18 fl_X11_115 rfl t6 h8 ?_
    cases hf
    exact s_lo [0, 1, 2] rfl (k3 t9)
  · replace hf := p_ng hf hc
    refine s_aload_n (pc := 4) dX11_pull_4 0 rfl rfl ?_
    obtain ⟨q10, h11, hf⟩ := p_bd hf
    have t12 : p_tp N q10 10 := WT.get hW ha0 h11
    refine x_getR (pc := 5) dX11_pull_5 fl_X11_10 rfl ha0 h11 ?_
    obtain ⟨q13, h14, hf⟩ := p_bd hf
    have t15 : p_tp N q13 11 := WT.get hW t12 h14
    refine x_getR (pc := 8) dX11_pull_8 fl_X11_112 rfl t12 h14 ?_
    refine s_goto (pc := 11) (tgt := 21) dX11_pull_11 rfl ?_
    cases hf
    exact s_lo [0, 1, 2] rfl (k3 t15)
def f_X11_isPercent (x0 : Int32) : Option Int32 :=
  (if x0 < 0 then
    some (nI 0)
  else
    (if (nI 100) < x0 then
      some (nI 0)
    else
      some (nI 1)))
theorem c_X11_isPercent {G : pG} {d : Nat} {N : pN} {I : pI} {L : pL} {P : pR} {x0 : Int32} {qq : Int32} (hd : 0 ≤ d) (hW : WT N P) (hf : f_X11_isPercent x0 = some qq) : MT G mX11_isPercent d 0 0 [.int x0] N I L P (p_R (some (.int qq)) N I L P) := by
  refine MT.of rfl (Nat.le_of_ble_eq_true rfl) ?_
  show SW G mX11_isPercent (p_rm d 0 0) 0 0 0 0 (p_R (some (.int qq)) N I L P) 0 [(0, .int x0)] [] N I L P
  unfold f_X11_isPercent at hf
  refine s_iload_n (pc := 0) dX11_isPercent_0 0 rfl rfl ?_
  refine s_if_lt (pc := 1) (tgt := 14) dX11_isPercent_1 rfl (fun hc => ?_) (fun hc => ?_)
  · replace hf := p_ps hf hc
    refine s_iconst (pc := 14) dX11_isPercent_14 (v := nI 0) rfl ?_
    cases hf
    exact s_ireturn (pc := 15) dX11_isPercent_15 rfl rfl ⟨rfl, rfl, rfl, rfl, rfl⟩
  · replace hf := p_ng hf hc
    refine s_iload_n (pc := 4) dX11_isPercent_4 0 rfl rfl ?_
    refine s_bipush (pc := 5) dX11_isPercent_5 (v := nI 100) rfl ?_
    refine s_icmp_gt (pc := 7) (tgt := 14) dX11_isPercent_7 rfl (fun hc => ?_) (fun hc => ?_)
    · replace hf := p_ps hf hc
      refine s_iconst (pc := 14) dX11_isPercent_14 (v := nI 0) rfl ?_
      cases hf
      exact s_ireturn (pc := 15) dX11_isPercent_15 rfl rfl ⟨rfl, rfl, rfl, rfl, rfl⟩
    · replace hf := p_ng hf hc
      refine s_iconst (pc := 10) dX11_isPercent_10 (v := nI 1) rfl ?_
      refine s_goto (pc := 11) (tgt := 15) dX11_isPercent_11 rfl ?_
      cases hf
      exact s_ireturn (pc := 15) dX11_isPercent_15 rfl rfl ⟨rfl, rfl, rfl, rfl, rfl⟩
def f_X11_stuff (n : Nat) (N : pN) (I : pI) (P : pR) (a0 : Nat) (x1 : Int32) (x2 : Int32) (x3 : Int32) : Option (Int32 × pI) :=
  Option.bind (P a0 0) fun q1 =>
  Option.bind (P q1 5) fun q4 =>
  Option.bind (f_X8_has I q4 x1) fun q7 =>
  (if q7 = 0 then
    some (nI 0, I)
  else
    Option.bind (f_X11_isPercent x2) fun q9 =>
    (if q9 = 0 then
      some (nI 0, I)
    else
      Option.bind (f_X11_isPercent x3) fun q11 =>
      (if q11 = 0 then
        some (nI 0, I)
      else
        Option.bind (P a0 0) fun q13 =>
        Option.bind (P q13 5) fun q16 =>
        Option.bind (f_X8_put N I P q16 x1 (nI 0) x2) fun q19 =>
        Option.bind (P a0 0) fun q21 =>
        Option.bind (P q21 5) fun q24 =>
        Option.bind (f_X8_put N q19 P q24 x1 (nI 1) x3) fun q27 =>
        Option.bind (f_X11_refresh n N q27 P a0) fun q29 =>
        some (nI 1, q29))))
theorem c_X11_stuff {G : pG} {d : Nat} {n : Nat} {N : pN} {I : pI} {L : pL} {P : pR} {a0 : Nat} {x1 : Int32} {x2 : Int32} {x3 : Int32} {qq : Int32 × pI} (hd : 5 ≤ d) (hW : WT N P) (ha0 : p_tp N a0 14) (hf : f_X11_stuff n N I P a0 x1 x2 x3 = some qq) : MT G mX11_stuff d 0 0 [.ref a0, .int x1, .int x2, .int x3] N I L P (p_R (some (.int qq.1)) N qq.2 L P) := by
  refine MT.of rfl (Nat.le_of_ble_eq_true rfl) ?_
  show SW G mX11_stuff (p_rm d 0 0) 0 0 0 0 (p_R (some (.int qq.1)) N qq.2 L P) 0 [(0, .ref a0), (1, .int x1), (2, .int x2), (3, .int x3)] [] N I L P
  unfold f_X11_stuff at hf
  refine s_aload_n (pc := 0) dX11_stuff_0 0 rfl rfl ?_
  obtain ⟨q1, h2, hf⟩ := p_bd hf
  have t3 : p_tp N q1 10 := WT.get hW ha0 h2
  refine x_getR (pc := 1) dX11_stuff_1 fl_X11_10 rfl ha0 h2 ?_
  obtain ⟨q4, h5, hf⟩ := p_bd hf
  have t6 : p_tp N q4 11 := WT.get hW t3 h5
  refine x_getR (pc := 4) dX11_stuff_4 fl_X11_126 rfl t3 h5 ?_
  refine s_iload_n (pc := 7) dX11_stuff_7 1 rfl rfl ?_
  obtain ⟨q7, h8, hf⟩ := p_bd hf
  refine y_callV1 (pc := 8) dX11_stuff_8 (c_X8_has (p_dd hd (by decide)) hW t6 h8) mk_X8_has mv_X8_has ml_X11_118 rfl rfl (Nat.le_of_ble_eq_true rfl) t6 rfl (p_d1 hd (by decide)) (Nat.le_of_ble_eq_true rfl) ?_
  refine s_if_eq (pc := 11) (tgt := 28) dX11_stuff_11 rfl (fun hc => ?_) (fun hc => ?_)
  · replace hf := p_ps hf hc
    refine s_iconst (pc := 28) dX11_stuff_28 (v := nI 0) rfl ?_
    cases hf
    exact s_ireturn (pc := 29) dX11_stuff_29 rfl rfl ⟨rfl, rfl, rfl, rfl, rfl⟩
  · replace hf := p_ng hf hc
    refine s_iload_n (pc := 14) dX11_stuff_14 2 rfl rfl ?_
    obtain ⟨q9, h10, hf⟩ := p_bd hf
    refine y_callS1 (pc := 15) dX11_stuff_15 (c_X11_isPercent (p_dd hd (by decide)) hW  h10) mk_X11_isPercent mz_X11_isPercent ml_X11_129 rfl rfl (Nat.le_of_ble_eq_true rfl) (p_d1 hd (by decide)) (Nat.le_of_ble_eq_true rfl) ?_
    refine s_if_eq (pc := 18) (tgt := 28) dX11_stuff_18 rfl (fun hc => ?_) (fun hc => ?_)
    · replace hf := p_ps hf hc
      refine s_iconst (pc := 28) dX11_stuff_28 (v := nI 0) rfl ?_
      cases hf
      exact s_ireturn (pc := 29) dX11_stuff_29 rfl rfl ⟨rfl, rfl, rfl, rfl, rfl⟩
    · replace hf := p_ng hf hc
      refine s_iload_n (pc := 21) dX11_stuff_21 3 rfl rfl ?_
      obtain ⟨q11, h12, hf⟩ := p_bd hf
      refine y_callS1 (pc := 22) dX11_stuff_22 (c_X11_isPercent (p_dd hd (by decide)) hW  h12) mk_X11_isPercent mz_X11_isPercent ml_X11_129 rfl rfl (Nat.le_of_ble_eq_true rfl) (p_d1 hd (by decide)) (Nat.le_of_ble_eq_true rfl) ?_
      refine s_if_ne (pc := 25) (tgt := 30) dX11_stuff_25 rfl (fun hc => ?_) (fun hc => ?_)
      · replace hf := p_ng hf hc
        refine s_aload_n (pc := 30) dX11_stuff_30 0 rfl rfl ?_
        obtain ⟨q13, h14, hf⟩ := p_bd hf
        have t15 : p_tp N q13 10 := WT.get hW ha0 h14
        refine x_getR (pc := 31) dX11_stuff_31 fl_X11_10 rfl ha0 h14 ?_
        obtain ⟨q16, h17, hf⟩ := p_bd hf
        have t18 : p_tp N q16 11 := WT.get hW t15 h17
        refine x_getR (pc := 34) dX11_stuff_34 fl_X11_126 rfl t15 h17 ?_
        refine s_iload_n (pc := 37) dX11_stuff_37 1 rfl rfl ?_
        refine s_iconst (pc := 38) dX11_stuff_38 (v := nI 0) rfl ?_
        refine s_iload_n (pc := 39) dX11_stuff_39 2 rfl rfl ?_
        obtain ⟨q19, h20, hf⟩ := p_bd hf
        refine y_callV0 (pc := 40) dX11_stuff_40 (c_X8_put (p_dd hd (by decide)) hW t18 h20) mk_X8_put mv_X8_put ml_X11_84 rfl rfl (Nat.le_of_ble_eq_true rfl) t18 rfl (p_d1 hd (by decide)) (Nat.le_of_ble_eq_true rfl) ?_
        refine s_aload_n (pc := 43) dX11_stuff_43 0 rfl rfl ?_
        obtain ⟨q21, h22, hf⟩ := p_bd hf
        have t23 : p_tp N q21 10 := WT.get hW ha0 h22
        refine x_getR (pc := 44) dX11_stuff_44 fl_X11_10 rfl ha0 h22 ?_
        obtain ⟨q24, h25, hf⟩ := p_bd hf
        have t26 : p_tp N q24 11 := WT.get hW t23 h25
        refine x_getR (pc := 47) dX11_stuff_47 fl_X11_126 rfl t23 h25 ?_
        refine s_iload_n (pc := 50) dX11_stuff_50 1 rfl rfl ?_
        refine s_iconst (pc := 51) dX11_stuff_51 (v := nI 1) rfl ?_
        refine s_iload_n (pc := 52) dX11_stuff_52 3 rfl rfl ?_
        obtain ⟨q27, h28, hf⟩ := p_bd hf
        refine y_callV0 (pc := 53) dX11_stuff_53 (c_X8_put (p_dd hd (by decide)) hW t26 h28) mk_X8_put mv_X8_put ml_X11_84 rfl rfl (Nat.le_of_ble_eq_true rfl) t26 rfl (p_d1 hd (by decide)) (Nat.le_of_ble_eq_true rfl) ?_
        refine s_aload_n (pc := 56) dX11_stuff_56 0 rfl rfl ?_
        obtain ⟨q29, h30, hf⟩ := p_bd hf
        refine y_callV0 (pc := 57) dX11_stuff_57 (c_X11_refresh (p_dd hd (by decide)) hW ha0 h30) mk_X11_refresh mv_X11_refresh ml_X11_95 rfl rfl (Nat.le_of_ble_eq_true rfl) ha0 rfl (p_d1 hd (by decide)) (Nat.le_of_ble_eq_true rfl) ?_
        refine s_iconst (pc := 60) dX11_stuff_60 (v := nI 1) rfl ?_
        cases hf
        exact s_ireturn (pc := 61) dX11_stuff_61 rfl rfl ⟨rfl, rfl, rfl, rfl, rfl⟩
      · replace hf := p_ps hf hc
        refine s_iconst (pc := 28) dX11_stuff_28 (v := nI 0) rfl ?_
        cases hf
        exact s_ireturn (pc := 29) dX11_stuff_29 rfl rfl ⟨rfl, rfl, rfl, rfl, rfl⟩
def f_X11_set (n : Nat) (N : pN) (I : pI) (P : pR) (a0 : Nat) (x1 : Int32) (x2 : Int32) : Option (Int32 × pI) :=
  (if x1 < 0 then
    some (nI 0, I)
  else
    (if (nI 7) ≤ x1 then
      some (nI 0, I)
    else
      (if x1 < (nI 7) then
        p_ck (p_rb 1 x1) <|
        (if x2 < ((p_row 1).getD (Int32.toNatClampNeg x1) 0) then
          some (nI 0, I)
        else
          p_ck (p_rb 2 x1) <|
          (if x2 ≤ ((p_row 2).getD (Int32.toNatClampNeg x1) 0) then
            Option.bind (P a0 0) fun q3 =>
            Option.bind (P q3 6) fun q6 =>
            Option.bind (f_X8_put N I P q6 x1 (nI 0) x2) fun q9 =>
            (if x1 = 0 then
              Option.bind (f_X11_refresh n N q9 P a0) fun q11 =>
              some (nI 1, q11)
            else
              (if x1 = (nI 1) then
                Option.bind (f_X11_refresh n N q9 P a0) fun q13 =>
                some (nI 1, q13)
              else
                some (nI 1, q9)))
          else
            some (nI 0, I)))
      else
        some (nI 0, I))))
theorem c_X11_set {G : pG} {d : Nat} {n : Nat} {N : pN} {I : pI} {L : pL} {P : pR} {a0 : Nat} {x1 : Int32} {x2 : Int32} {qq : Int32 × pI} (hd : 5 ≤ d) (hW : WT N P) (ha0 : p_tp N a0 14) (hf : f_X11_set n N I P a0 x1 x2 = some qq) : MT G mX11_set d 0 0 [.ref a0, .int x1, .int x2] N I L P (p_R (some (.int qq.1)) N qq.2 L P) := by
  refine MT.of rfl (Nat.le_of_ble_eq_true rfl) ?_
  show SW G mX11_set (p_rm d 0 0) 0 0 0 0 (p_R (some (.int qq.1)) N qq.2 L P) 0 [(0, .ref a0), (1, .int x1), (2, .int x2)] [] N I L P
  unfold f_X11_set at hf
  refine s_iload_n (pc := 0) dX11_set_0 1 rfl rfl ?_
  refine s_if_lt (pc := 1) (tgt := 20) dX11_set_1 rfl (fun hc => ?_) (fun hc => ?_)
  · replace hf := p_ps hf hc
    refine s_iconst (pc := 20) dX11_set_20 (v := nI 0) rfl ?_
    cases hf
    exact s_ireturn (pc := 21) dX11_set_21 rfl rfl ⟨rfl, rfl, rfl, rfl, rfl⟩
  · replace hf := p_ng hf hc
    refine s_iload_n (pc := 4) dX11_set_4 1 rfl rfl ?_
    refine s_gets (pc := 5) (j := 1) rfl fs_X11_132 dX11_set_5 ?_
    refine y_tlen (pc := 8) (j := 1) (v := nI 7) dX11_set_8 rfl rfl ?_
    refine s_icmp_ge (pc := 9) (tgt := 20) dX11_set_9 rfl (fun hc => ?_) (fun hc => ?_)
    · replace hf := p_ps hf hc
      refine s_iconst (pc := 20) dX11_set_20 (v := nI 0) rfl ?_
      cases hf
      exact s_ireturn (pc := 21) dX11_set_21 rfl rfl ⟨rfl, rfl, rfl, rfl, rfl⟩
    · replace hf := p_ng hf hc
      refine s_iload_n (pc := 12) dX11_set_12 1 rfl rfl ?_
      refine s_gets (pc := 13) (j := 2) rfl fs_X11_136 dX11_set_13 ?_
      refine y_tlen (pc := 16) (j := 2) (v := nI 7) dX11_set_16 rfl rfl ?_
      refine s_icmp_lt (pc := 17) (tgt := 22) dX11_set_17 rfl (fun hc => ?_) (fun hc => ?_)
      · replace hf := p_ps hf hc
        refine s_iload_n (pc := 22) dX11_set_22 2 rfl rfl ?_
        refine s_gets (pc := 23) (j := 1) rfl fs_X11_132 dX11_set_23 ?_
        refine s_iload_n (pc := 26) dX11_set_26 1 rfl rfl ?_
        obtain ⟨c1, hf⟩ := p_ckx hf
        refine y_tld (pc := 27) (j := 1) dX11_set_27 rfl rfl c1 ?_
        refine s_icmp_lt (pc := 28) (tgt := 40) dX11_set_28 rfl (fun hc => ?_) (fun hc => ?_)
        · replace hf := p_ps hf hc
          refine s_iconst (pc := 40) dX11_set_40 (v := nI 0) rfl ?_
          cases hf
          exact s_ireturn (pc := 41) dX11_set_41 rfl rfl ⟨rfl, rfl, rfl, rfl, rfl⟩
        · replace hf := p_ng hf hc
          refine s_iload_n (pc := 31) dX11_set_31 2 rfl rfl ?_
          refine s_gets (pc := 32) (j := 2) rfl fs_X11_136 dX11_set_32 ?_
          refine s_iload_n (pc := 35) dX11_set_35 1 rfl rfl ?_
          obtain ⟨c2, hf⟩ := p_ckx hf
          refine y_tld (pc := 36) (j := 2) dX11_set_36 rfl rfl c2 ?_
          refine s_icmp_le (pc := 37) (tgt := 42) dX11_set_37 rfl (fun hc => ?_) (fun hc => ?_)
          · replace hf := p_ps hf hc
            refine s_aload_n (pc := 42) dX11_set_42 0 rfl rfl ?_
            obtain ⟨q3, h4, hf⟩ := p_bd hf
            have t5 : p_tp N q3 10 := WT.get hW ha0 h4
            refine x_getR (pc := 43) dX11_set_43 fl_X11_10 rfl ha0 h4 ?_
            obtain ⟨q6, h7, hf⟩ := p_bd hf
            have t8 : p_tp N q6 11 := WT.get hW t5 h7
            refine x_getR (pc := 46) dX11_set_46 fl_X11_139 rfl t5 h7 ?_
            refine s_iload_n (pc := 49) dX11_set_49 1 rfl rfl ?_
            refine s_iconst (pc := 50) dX11_set_50 (v := nI 0) rfl ?_
            refine s_iload_n (pc := 51) dX11_set_51 2 rfl rfl ?_
            obtain ⟨q9, h10, hf⟩ := p_bd hf
            refine y_callV0 (pc := 52) dX11_set_52 (c_X8_put (p_dd hd (by decide)) hW t8 h10) mk_X8_put mv_X8_put ml_X11_84 rfl rfl (Nat.le_of_ble_eq_true rfl) t8 rfl (p_d1 hd (by decide)) (Nat.le_of_ble_eq_true rfl) ?_
            refine s_iload_n (pc := 55) dX11_set_55 1 rfl rfl ?_
            refine s_if_eq (pc := 56) (tgt := 64) dX11_set_56 rfl (fun hc => ?_) (fun hc => ?_)
            · replace hf := p_ps hf hc
              refine s_aload_n (pc := 64) dX11_set_64 0 rfl rfl ?_
              obtain ⟨q11, h12, hf⟩ := p_bd hf
              refine y_callV0 (pc := 65) dX11_set_65 (c_X11_refresh (p_dd hd (by decide)) hW ha0 h12) mk_X11_refresh mv_X11_refresh ml_X11_95 rfl rfl (Nat.le_of_ble_eq_true rfl) ha0 rfl (p_d1 hd (by decide)) (Nat.le_of_ble_eq_true rfl) ?_
              refine s_iconst (pc := 68) dX11_set_68 (v := nI 1) rfl ?_
              cases hf
              exact s_ireturn (pc := 69) dX11_set_69 rfl rfl ⟨rfl, rfl, rfl, rfl, rfl⟩
            · replace hf := p_ng hf hc
              refine s_iload_n (pc := 59) dX11_set_59 1 rfl rfl ?_
              refine s_iconst (pc := 60) dX11_set_60 (v := nI 1) rfl ?_
              refine s_icmp_ne (pc := 61) (tgt := 68) dX11_set_61 rfl (fun hc => ?_) (fun hc => ?_)
              · replace hf := p_ng hf hc
                refine s_iconst (pc := 68) dX11_set_68 (v := nI 1) rfl ?_
                cases hf
                exact s_ireturn (pc := 69) dX11_set_69 rfl rfl ⟨rfl, rfl, rfl, rfl, rfl⟩
              · replace hf := p_ps hf hc
                refine s_aload_n (pc := 64) dX11_set_64 0 rfl rfl ?_
                obtain ⟨q13, h14, hf⟩ := p_bd hf
                refine y_callV0 (pc := 65) dX11_set_65 (c_X11_refresh (p_dd hd (by decide)) hW ha0 h14) mk_X11_refresh mv_X11_refresh ml_X11_95 rfl rfl (Nat.le_of_ble_eq_true rfl) ha0 rfl (p_d1 hd (by decide)) (Nat.le_of_ble_eq_true rfl) ?_
                refine s_iconst (pc := 68) dX11_set_68 (v := nI 1) rfl ?_
                cases hf
                exact s_ireturn (pc := 69) dX11_set_69 rfl rfl ⟨rfl, rfl, rfl, rfl, rfl⟩
          · replace hf := p_ng hf hc
            refine s_iconst (pc := 40) dX11_set_40 (v := nI 0) rfl ?_
            cases hf
            exact s_ireturn (pc := 41) dX11_set_41 rfl rfl ⟨rfl, rfl, rfl, rfl, rfl⟩
      · replace hf := p_ng hf hc
        refine s_iconst (pc := 20) dX11_set_20 (v := nI 0) rfl ?_
        cases hf
        exact s_ireturn (pc := 21) dX11_set_21 rfl rfl ⟨rfl, rfl, rfl, rfl, rfl⟩
def f_X11_wall (N : pN) (I : pI) (P : pR) (a0 : Nat) (x1 : Int32) (x2 : Int32) : Option Int32 :=
  Option.bind (P a0 0) fun q1 =>
  Option.bind (P q1 1) fun q4 =>
  Option.bind (f_X8_has I q4 x1) fun q7 =>
  (if q7 = 0 then
    some (-2)
  else
    (if x2 < 0 then
      some (-2)
    else
      (if x2 ≤ (nI 6) then
        Option.bind (P a0 0) fun q9 =>
        Option.bind (P q9 1) fun q12 =>
        Option.bind (f_X8_get N I P q12 x1 x2) fun q15 =>
        some q15
      else
        some (-2))))
theorem c_X11_wall {G : pG} {d : Nat} {N : pN} {I : pI} {L : pL} {P : pR} {a0 : Nat} {x1 : Int32} {x2 : Int32} {qq : Int32} (hd : 1 ≤ d) (hW : WT N P) (ha0 : p_tp N a0 14) (hf : f_X11_wall N I P a0 x1 x2 = some qq) : MT G mX11_wall d 0 0 [.ref a0, .int x1, .int x2] N I L P (p_R (some (.int qq)) N I L P) := by
  refine MT.of rfl (Nat.le_of_ble_eq_true rfl) ?_
  show SW G mX11_wall (p_rm d 0 0) 0 0 0 0 (p_R (some (.int qq)) N I L P) 0 [(0, .ref a0), (1, .int x1), (2, .int x2)] [] N I L P
  unfold f_X11_wall at hf
  refine s_aload_n (pc := 0) dX11_wall_0 0 rfl rfl ?_
  obtain ⟨q1, h2, hf⟩ := p_bd hf
  have t3 : p_tp N q1 10 := WT.get hW ha0 h2
  refine x_getR (pc := 1) dX11_wall_1 fl_X11_10 rfl ha0 h2 ?_
  obtain ⟨q4, h5, hf⟩ := p_bd hf
  have t6 : p_tp N q4 11 := WT.get hW t3 h5
  refine x_getR (pc := 4) dX11_wall_4 fl_X11_112 rfl t3 h5 ?_
  refine s_iload_n (pc := 7) dX11_wall_7 1 rfl rfl ?_
  obtain ⟨q7, h8, hf⟩ := p_bd hf
  refine y_callV1 (pc := 8) dX11_wall_8 (c_X8_has (p_dd hd (by decide)) hW t6 h8) mk_X8_has mv_X8_has ml_X11_118 rfl rfl (Nat.le_of_ble_eq_true rfl) t6 rfl (p_d1 hd (by decide)) (Nat.le_of_ble_eq_true rfl) ?_
  refine s_if_eq (pc := 11) (tgt := 24) dX11_wall_11 rfl (fun hc => ?_) (fun hc => ?_)
  · replace hf := p_ps hf hc
    refine s_bipush (pc := 24) dX11_wall_24 (v := (-2)) rfl ?_
    cases hf
    exact s_ireturn (pc := 26) dX11_wall_26 rfl rfl ⟨rfl, rfl, rfl, rfl, rfl⟩
  · replace hf := p_ng hf hc
    refine s_iload_n (pc := 14) dX11_wall_14 2 rfl rfl ?_
    refine s_if_lt (pc := 15) (tgt := 24) dX11_wall_15 rfl (fun hc => ?_) (fun hc => ?_)
    · replace hf := p_ps hf hc
      refine s_bipush (pc := 24) dX11_wall_24 (v := (-2)) rfl ?_
      cases hf
      exact s_ireturn (pc := 26) dX11_wall_26 rfl rfl ⟨rfl, rfl, rfl, rfl, rfl⟩
    · replace hf := p_ng hf hc
      refine s_iload_n (pc := 18) dX11_wall_18 2 rfl rfl ?_
      refine s_bipush (pc := 19) dX11_wall_19 (v := nI 6) rfl ?_
      refine s_icmp_le (pc := 21) (tgt := 27) dX11_wall_21 rfl (fun hc => ?_) (fun hc => ?_)
      · replace hf := p_ps hf hc
        refine s_aload_n (pc := 27) dX11_wall_27 0 rfl rfl ?_
        obtain ⟨q9, h10, hf⟩ := p_bd hf
        have t11 : p_tp N q9 10 := WT.get hW ha0 h10
        refine x_getR (pc := 28) dX11_wall_28 fl_X11_10 rfl ha0 h10 ?_
        obtain ⟨q12, h13, hf⟩ := p_bd hf
        have t14 : p_tp N q12 11 := WT.get hW t11 h13
        refine x_getR (pc := 31) dX11_wall_31 fl_X11_112 rfl t11 h13 ?_
        refine s_iload_n (pc := 34) dX11_wall_34 1 rfl rfl ?_
        refine s_iload_n (pc := 35) dX11_wall_35 2 rfl rfl ?_
        obtain ⟨q15, h16, hf⟩ := p_bd hf
        refine y_callV1 (pc := 36) dX11_wall_36 (c_X8_get (p_dd hd (by decide)) hW t14 h16) mk_X8_get mv_X8_get ml_X11_122 rfl rfl (Nat.le_of_ble_eq_true rfl) t14 rfl (p_d1 hd (by decide)) (Nat.le_of_ble_eq_true rfl) ?_
        cases hf
        exact s_ireturn (pc := 39) dX11_wall_39 rfl rfl ⟨rfl, rfl, rfl, rfl, rfl⟩
      · replace hf := p_ng hf hc
        refine s_bipush (pc := 24) dX11_wall_24 (v := (-2)) rfl ?_
        cases hf
        exact s_ireturn (pc := 26) dX11_wall_26 rfl rfl ⟨rfl, rfl, rfl, rfl, rfl⟩
def f_X11_sender (N : pN) (I : pI) (P : pR) (a0 : Nat) (x1 : Int32) (x2 : Int32) : Option Int32 :=
  Option.bind (P a0 0) fun q1 =>
  Option.bind (P q1 2) fun q4 =>
  Option.bind (f_X8_has I q4 x1) fun q7 =>
  (if q7 = 0 then
    some (-2)
  else
    (if x2 < 0 then
      some (-2)
    else
      (if x2 ≤ (nI 5) then
        Option.bind (P a0 0) fun q9 =>
        Option.bind (P q9 2) fun q12 =>
        Option.bind (f_X8_get N I P q12 x1 x2) fun q15 =>
        some q15
      else
        some (-2))))
theorem c_X11_sender {G : pG} {d : Nat} {N : pN} {I : pI} {L : pL} {P : pR} {a0 : Nat} {x1 : Int32} {x2 : Int32} {qq : Int32} (hd : 1 ≤ d) (hW : WT N P) (ha0 : p_tp N a0 14) (hf : f_X11_sender N I P a0 x1 x2 = some qq) : MT G mX11_sender d 0 0 [.ref a0, .int x1, .int x2] N I L P (p_R (some (.int qq)) N I L P) := by
  refine MT.of rfl (Nat.le_of_ble_eq_true rfl) ?_
  show SW G mX11_sender (p_rm d 0 0) 0 0 0 0 (p_R (some (.int qq)) N I L P) 0 [(0, .ref a0), (1, .int x1), (2, .int x2)] [] N I L P
  unfold f_X11_sender at hf
  refine s_aload_n (pc := 0) dX11_sender_0 0 rfl rfl ?_
  obtain ⟨q1, h2, hf⟩ := p_bd hf
  have t3 : p_tp N q1 10 := WT.get hW ha0 h2
  refine x_getR (pc := 1) dX11_sender_1 fl_X11_10 rfl ha0 h2 ?_
  obtain ⟨q4, h5, hf⟩ := p_bd hf
  have t6 : p_tp N q4 11 := WT.get hW t3 h5
  refine x_getR (pc := 4) dX11_sender_4 fl_X11_115 rfl t3 h5 ?_
  refine s_iload_n (pc := 7) dX11_sender_7 1 rfl rfl ?_
  obtain ⟨q7, h8, hf⟩ := p_bd hf
  refine y_callV1 (pc := 8) dX11_sender_8 (c_X8_has (p_dd hd (by decide)) hW t6 h8) mk_X8_has mv_X8_has ml_X11_118 rfl rfl (Nat.le_of_ble_eq_true rfl) t6 rfl (p_d1 hd (by decide)) (Nat.le_of_ble_eq_true rfl) ?_
  refine s_if_eq (pc := 11) (tgt := 23) dX11_sender_11 rfl (fun hc => ?_) (fun hc => ?_)
  · replace hf := p_ps hf hc
    refine s_bipush (pc := 23) dX11_sender_23 (v := (-2)) rfl ?_
    cases hf
    exact s_ireturn (pc := 25) dX11_sender_25 rfl rfl ⟨rfl, rfl, rfl, rfl, rfl⟩
  · replace hf := p_ng hf hc
    refine s_iload_n (pc := 14) dX11_sender_14 2 rfl rfl ?_
    refine s_if_lt (pc := 15) (tgt := 23) dX11_sender_15 rfl (fun hc => ?_) (fun hc => ?_)
    · replace hf := p_ps hf hc
      refine s_bipush (pc := 23) dX11_sender_23 (v := (-2)) rfl ?_
      cases hf
      exact s_ireturn (pc := 25) dX11_sender_25 rfl rfl ⟨rfl, rfl, rfl, rfl, rfl⟩
    · replace hf := p_ng hf hc
      refine s_iload_n (pc := 18) dX11_sender_18 2 rfl rfl ?_
      refine s_iconst (pc := 19) dX11_sender_19 (v := nI 5) rfl ?_
      refine s_icmp_le (pc := 20) (tgt := 26) dX11_sender_20 rfl (fun hc => ?_) (fun hc => ?_)
      · replace hf := p_ps hf hc
        refine s_aload_n (pc := 26) dX11_sender_26 0 rfl rfl ?_
        obtain ⟨q9, h10, hf⟩ := p_bd hf
        have t11 : p_tp N q9 10 := WT.get hW ha0 h10
        refine x_getR (pc := 27) dX11_sender_27 fl_X11_10 rfl ha0 h10 ?_
        obtain ⟨q12, h13, hf⟩ := p_bd hf
        have t14 : p_tp N q12 11 := WT.get hW t11 h13
        refine x_getR (pc := 30) dX11_sender_30 fl_X11_115 rfl t11 h13 ?_
        refine s_iload_n (pc := 33) dX11_sender_33 1 rfl rfl ?_
        refine s_iload_n (pc := 34) dX11_sender_34 2 rfl rfl ?_
        obtain ⟨q15, h16, hf⟩ := p_bd hf
        refine y_callV1 (pc := 35) dX11_sender_35 (c_X8_get (p_dd hd (by decide)) hW t14 h16) mk_X8_get mv_X8_get ml_X11_122 rfl rfl (Nat.le_of_ble_eq_true rfl) t14 rfl (p_d1 hd (by decide)) (Nat.le_of_ble_eq_true rfl) ?_
        cases hf
        exact s_ireturn (pc := 38) dX11_sender_38 rfl rfl ⟨rfl, rfl, rfl, rfl, rfl⟩
      · replace hf := p_ng hf hc
        refine s_bipush (pc := 23) dX11_sender_23 (v := (-2)) rfl ?_
        cases hf
        exact s_ireturn (pc := 25) dX11_sender_25 rfl rfl ⟨rfl, rfl, rfl, rfl, rfl⟩
def f_X11_sees (n : Nat) (N : pN) (I : pI) (L : pL) (P : pR) (a0 : Nat) (x1 : Int32) (x2 : Int32) (x3 : Int32) : Option (Int32 × pI × pL) :=
  Option.bind (P a0 3) fun q1 =>
  Option.bind (f_X3_list n N I L P q1 x1 x2 x3) fun q4 =>
  (if q4.1 = 0 then
    some (nI 0, q4.2.1, q4.2.2)
  else
    Option.bind (P a0 2) fun q6 =>
    Option.bind (f_X2_sawTarget N q4.2.1 P q6) fun q9 =>
    (if q9 = 0 then
      some (nI 0, q4.2.1, q4.2.2)
    else
      some (nI 1, q4.2.1, q4.2.2)))
theorem c_X11_sees {G : pG} {d : Nat} {n : Nat} {N : pN} {I : pI} {L : pL} {P : pR} {a0 : Nat} {x1 : Int32} {x2 : Int32} {x3 : Int32} {qq : Int32 × pI × pL} (hd : 5 ≤ d) (hW : WT N P) (ha0 : p_tp N a0 14) (hf : f_X11_sees n N I L P a0 x1 x2 x3 = some qq) : MT G mX11_sees d 0 0 [.ref a0, .int x1, .int x2, .int x3] N I L P (p_R (some (.int qq.1)) N qq.2.1 qq.2.2 P) := by
  refine MT.of rfl (Nat.le_of_ble_eq_true rfl) ?_
  show SW G mX11_sees (p_rm d 0 0) 0 0 0 0 (p_R (some (.int qq.1)) N qq.2.1 qq.2.2 P) 0 [(0, .ref a0), (1, .int x1), (2, .int x2), (3, .int x3)] [] N I L P
  unfold f_X11_sees at hf
  refine s_aload_n (pc := 0) dX11_sees_0 0 rfl rfl ?_
  obtain ⟨q1, h2, hf⟩ := p_bd hf
  have t3 : p_tp N q1 6 := WT.get hW ha0 h2
  refine x_getR (pc := 1) dX11_sees_1 fl_X11_32 rfl ha0 h2 ?_
  refine s_iload_n (pc := 4) dX11_sees_4 1 rfl rfl ?_
  refine s_iload_n (pc := 5) dX11_sees_5 2 rfl rfl ?_
  refine s_iload_n (pc := 6) dX11_sees_6 3 rfl rfl ?_
  obtain ⟨q4, h5, hf⟩ := p_bd hf
  refine y_callV1 (pc := 7) dX11_sees_7 (c_X3_list (p_dd hd (by decide)) hW t3 h5) mk_X3_list mv_X3_list ml_X11_149 rfl rfl (Nat.le_of_ble_eq_true rfl) t3 rfl (p_d1 hd (by decide)) (Nat.le_of_ble_eq_true rfl) ?_
  refine s_if_eq (pc := 10) (tgt := 27) dX11_sees_10 rfl (fun hc => ?_) (fun hc => ?_)
  · replace hf := p_ps hf hc
    refine s_iconst (pc := 27) dX11_sees_27 (v := nI 0) rfl ?_
    cases hf
    exact s_ireturn (pc := 28) dX11_sees_28 rfl rfl ⟨rfl, rfl, rfl, rfl, rfl⟩
  · replace hf := p_ng hf hc
    refine s_aload_n (pc := 13) dX11_sees_13 0 rfl rfl ?_
    obtain ⟨q6, h7, hf⟩ := p_bd hf
    have t8 : p_tp N q6 5 := WT.get hW ha0 h7
    refine x_getR (pc := 14) dX11_sees_14 fl_X11_23 rfl ha0 h7 ?_
    obtain ⟨q9, h10, hf⟩ := p_bd hf
    refine y_callV1 (pc := 17) dX11_sees_17 (c_X2_sawTarget (p_dd hd (by decide)) hW t8 h10) mk_X2_sawTarget mv_X2_sawTarget ml_X11_153 rfl rfl (Nat.le_of_ble_eq_true rfl) t8 rfl (p_d1 hd (by decide)) (Nat.le_of_ble_eq_true rfl) ?_
    refine s_if_eq (pc := 20) (tgt := 27) dX11_sees_20 rfl (fun hc => ?_) (fun hc => ?_)
    · replace hf := p_ps hf hc
      refine s_iconst (pc := 27) dX11_sees_27 (v := nI 0) rfl ?_
      cases hf
      exact s_ireturn (pc := 28) dX11_sees_28 rfl rfl ⟨rfl, rfl, rfl, rfl, rfl⟩
    · replace hf := p_ng hf hc
      refine s_iconst (pc := 23) dX11_sees_23 (v := nI 1) rfl ?_
      refine s_goto (pc := 24) (tgt := 28) dX11_sees_24 rfl ?_
      cases hf
      exact s_ireturn (pc := 28) dX11_sees_28 rfl rfl ⟨rfl, rfl, rfl, rfl, rfl⟩
def f_X11_ways (n : Nat) (N : pN) (I : pI) (L : pL) (P : pR) (a0 : Nat) (x1 : Int32) (x2 : Int32) (x3 : Int32) : Option (Int32 × pI × pL) :=
  Option.bind (P a0 3) fun q1 =>
  Option.bind (f_X3_list n N I L P q1 x1 x2 x3) fun q4 =>
  (if q4.1 = 0 then
    some ((-1), q4.2.1, q4.2.2)
  else
    Option.bind (P a0 2) fun q6 =>
    Option.bind (f_X2_size q4.2.1 P q6) fun q9 =>
    some (q9, q4.2.1, q4.2.2))
theorem c_X11_ways {G : pG} {d : Nat} {n : Nat} {N : pN} {I : pI} {L : pL} {P : pR} {a0 : Nat} {x1 : Int32} {x2 : Int32} {x3 : Int32} {qq : Int32 × pI × pL} (hd : 5 ≤ d) (hW : WT N P) (ha0 : p_tp N a0 14) (hf : f_X11_ways n N I L P a0 x1 x2 x3 = some qq) : MT G mX11_ways d 0 0 [.ref a0, .int x1, .int x2, .int x3] N I L P (p_R (some (.int qq.1)) N qq.2.1 qq.2.2 P) := by
  refine MT.of rfl (Nat.le_of_ble_eq_true rfl) ?_
  show SW G mX11_ways (p_rm d 0 0) 0 0 0 0 (p_R (some (.int qq.1)) N qq.2.1 qq.2.2 P) 0 [(0, .ref a0), (1, .int x1), (2, .int x2), (3, .int x3)] [] N I L P
  unfold f_X11_ways at hf
  refine s_aload_n (pc := 0) dX11_ways_0 0 rfl rfl ?_
  obtain ⟨q1, h2, hf⟩ := p_bd hf
  have t3 : p_tp N q1 6 := WT.get hW ha0 h2
  refine x_getR (pc := 1) dX11_ways_1 fl_X11_32 rfl ha0 h2 ?_
  refine s_iload_n (pc := 4) dX11_ways_4 1 rfl rfl ?_
  refine s_iload_n (pc := 5) dX11_ways_5 2 rfl rfl ?_
  refine s_iload_n (pc := 6) dX11_ways_6 3 rfl rfl ?_
  obtain ⟨q4, h5, hf⟩ := p_bd hf
  refine y_callV1 (pc := 7) dX11_ways_7 (c_X3_list (p_dd hd (by decide)) hW t3 h5) mk_X3_list mv_X3_list ml_X11_149 rfl rfl (Nat.le_of_ble_eq_true rfl) t3 rfl (p_d1 hd (by decide)) (Nat.le_of_ble_eq_true rfl) ?_
  refine s_if_eq (pc := 10) (tgt := 23) dX11_ways_10 rfl (fun hc => ?_) (fun hc => ?_)
  · replace hf := p_ps hf hc
    refine s_iconst (pc := 23) dX11_ways_23 (v := (-1)) rfl ?_
    cases hf
    exact s_ireturn (pc := 24) dX11_ways_24 rfl rfl ⟨rfl, rfl, rfl, rfl, rfl⟩
  · replace hf := p_ng hf hc
    refine s_aload_n (pc := 13) dX11_ways_13 0 rfl rfl ?_
    obtain ⟨q6, h7, hf⟩ := p_bd hf
    have t8 : p_tp N q6 5 := WT.get hW ha0 h7
    refine x_getR (pc := 14) dX11_ways_14 fl_X11_23 rfl ha0 h7 ?_
    obtain ⟨q9, h10, hf⟩ := p_bd hf
    refine y_callV1 (pc := 17) dX11_ways_17 (c_X2_size (p_dd hd (by decide)) hW t8 h10) mk_X2_size mv_X2_size ml_X11_156 rfl rfl (Nat.le_of_ble_eq_true rfl) t8 rfl (p_d1 hd (by decide)) (Nat.le_of_ble_eq_true rfl) ?_
    refine s_goto (pc := 20) (tgt := 24) dX11_ways_20 rfl ?_
    cases hf
    exact s_ireturn (pc := 24) dX11_ways_24 rfl rfl ⟨rfl, rfl, rfl, rfl, rfl⟩
def f_X11_way (n : Nat) (N : pN) (I : pI) (L : pL) (P : pR) (a0 : Nat) (x1 : Int32) (x2 : Int32) (x3 : Int32) (x4 : Int32) (x5 : Int32) : Option (Int32 × pI × pL) :=
  Option.bind (P a0 3) fun q1 =>
  Option.bind (f_X3_list n N I L P q1 x1 x2 x3) fun q4 =>
  (if q4.1 = 0 then
    some ((-2), q4.2.1, q4.2.2)
  else
    (if x4 < 0 then
      some ((-2), q4.2.1, q4.2.2)
    else
      Option.bind (P a0 2) fun q6 =>
      Option.bind (f_X2_size q4.2.1 P q6) fun q9 =>
      (if x4 < q9 then
        (if x5 = (nI 6) then
          Option.bind (P a0 2) fun q16 =>
          Option.bind (f_X2_lateness n N q4.2.1 P q16 x4) fun q19 =>
          some (q19, q4.2.1, q4.2.2)
        else
          (if x5 < 0 then
            some ((-2), q4.2.1, q4.2.2)
          else
            (if (nI 5) < x5 then
              some ((-2), q4.2.1, q4.2.2)
            else
              Option.bind (P a0 2) fun q11 =>
              Option.bind (f_X2_tell N q4.2.1 P q11 x4 x5) fun q14 =>
              some (q14, q4.2.1, q4.2.2))))
      else
        some ((-2), q4.2.1, q4.2.2))))
theorem c_X11_way {G : pG} {d : Nat} {n : Nat} {N : pN} {I : pI} {L : pL} {P : pR} {a0 : Nat} {x1 : Int32} {x2 : Int32} {x3 : Int32} {x4 : Int32} {x5 : Int32} {qq : Int32 × pI × pL} (hd : 5 ≤ d) (hW : WT N P) (ha0 : p_tp N a0 14) (hf : f_X11_way n N I L P a0 x1 x2 x3 x4 x5 = some qq) : MT G mX11_way d 0 0 [.ref a0, .int x1, .int x2, .int x3, .int x4, .int x5] N I L P (p_R (some (.int qq.1)) N qq.2.1 qq.2.2 P) := by
  refine MT.of rfl (Nat.le_of_ble_eq_true rfl) ?_
  show SW G mX11_way (p_rm d 0 0) 0 0 0 0 (p_R (some (.int qq.1)) N qq.2.1 qq.2.2 P) 0 [(0, .ref a0), (1, .int x1), (2, .int x2), (3, .int x3), (4, .int x4), (5, .int x5)] [] N I L P
  unfold f_X11_way at hf
  refine s_aload_n (pc := 0) dX11_way_0 0 rfl rfl ?_
  obtain ⟨q1, h2, hf⟩ := p_bd hf
  have t3 : p_tp N q1 6 := WT.get hW ha0 h2
  refine x_getR (pc := 1) dX11_way_1 fl_X11_32 rfl ha0 h2 ?_
  refine s_iload_n (pc := 4) dX11_way_4 1 rfl rfl ?_
  refine s_iload_n (pc := 5) dX11_way_5 2 rfl rfl ?_
  refine s_iload_n (pc := 6) dX11_way_6 3 rfl rfl ?_
  obtain ⟨q4, h5, hf⟩ := p_bd hf
  refine y_callV1 (pc := 7) dX11_way_7 (c_X3_list (p_dd hd (by decide)) hW t3 h5) mk_X3_list mv_X3_list ml_X11_149 rfl rfl (Nat.le_of_ble_eq_true rfl) t3 rfl (p_d1 hd (by decide)) (Nat.le_of_ble_eq_true rfl) ?_
  refine s_if_eq (pc := 10) (tgt := 30) dX11_way_10 rfl (fun hc => ?_) (fun hc => ?_)
  · replace hf := p_ps hf hc
    refine s_bipush (pc := 30) dX11_way_30 (v := (-2)) rfl ?_
    cases hf
    exact s_ireturn (pc := 32) dX11_way_32 rfl rfl ⟨rfl, rfl, rfl, rfl, rfl⟩
  · replace hf := p_ng hf hc
    refine s_iload (pc := 13) dX11_way_13 4 rfl ?_
    refine s_if_lt (pc := 15) (tgt := 30) dX11_way_15 rfl (fun hc => ?_) (fun hc => ?_)
    · replace hf := p_ps hf hc
      refine s_bipush (pc := 30) dX11_way_30 (v := (-2)) rfl ?_
      cases hf
      exact s_ireturn (pc := 32) dX11_way_32 rfl rfl ⟨rfl, rfl, rfl, rfl, rfl⟩
    · replace hf := p_ng hf hc
      refine s_iload (pc := 18) dX11_way_18 4 rfl ?_
      refine s_aload_n (pc := 20) dX11_way_20 0 rfl rfl ?_
      obtain ⟨q6, h7, hf⟩ := p_bd hf
      have t8 : p_tp N q6 5 := WT.get hW ha0 h7
      refine x_getR (pc := 21) dX11_way_21 fl_X11_23 rfl ha0 h7 ?_
      obtain ⟨q9, h10, hf⟩ := p_bd hf
      refine y_callV1 (pc := 24) dX11_way_24 (c_X2_size (p_dd hd (by decide)) hW t8 h10) mk_X2_size mv_X2_size ml_X11_156 rfl rfl (Nat.le_of_ble_eq_true rfl) t8 rfl (p_d1 hd (by decide)) (Nat.le_of_ble_eq_true rfl) ?_
      refine s_icmp_lt (pc := 27) (tgt := 33) dX11_way_27 rfl (fun hc => ?_) (fun hc => ?_)
      · replace hf := p_ps hf hc
        refine s_iload (pc := 33) dX11_way_33 5 rfl ?_
        refine s_bipush (pc := 35) dX11_way_35 (v := nI 6) rfl ?_
        refine s_icmp_ne (pc := 37) (tgt := 50) dX11_way_37 rfl (fun hc => ?_) (fun hc => ?_)
        · replace hf := p_ng hf hc
          refine s_iload (pc := 50) dX11_way_50 5 rfl ?_
          refine s_if_lt (pc := 52) (tgt := 75) dX11_way_52 rfl (fun hc => ?_) (fun hc => ?_)
          · replace hf := p_ps hf hc
            refine s_bipush (pc := 75) dX11_way_75 (v := (-2)) rfl ?_
            cases hf
            exact s_ireturn (pc := 77) dX11_way_77 rfl rfl ⟨rfl, rfl, rfl, rfl, rfl⟩
          · replace hf := p_ng hf hc
            refine s_iload (pc := 55) dX11_way_55 5 rfl ?_
            refine s_iconst (pc := 57) dX11_way_57 (v := nI 5) rfl ?_
            refine s_icmp_gt (pc := 58) (tgt := 75) dX11_way_58 rfl (fun hc => ?_) (fun hc => ?_)
            · replace hf := p_ps hf hc
              refine s_bipush (pc := 75) dX11_way_75 (v := (-2)) rfl ?_
              cases hf
              exact s_ireturn (pc := 77) dX11_way_77 rfl rfl ⟨rfl, rfl, rfl, rfl, rfl⟩
            · replace hf := p_ng hf hc
              refine s_aload_n (pc := 61) dX11_way_61 0 rfl rfl ?_
              obtain ⟨q11, h12, hf⟩ := p_bd hf
              have t13 : p_tp N q11 5 := WT.get hW ha0 h12
              refine x_getR (pc := 62) dX11_way_62 fl_X11_23 rfl ha0 h12 ?_
              refine s_iload (pc := 65) dX11_way_65 4 rfl ?_
              refine s_iload (pc := 67) dX11_way_67 5 rfl ?_
              obtain ⟨q14, h15, hf⟩ := p_bd hf
              refine y_callV1 (pc := 69) dX11_way_69 (c_X2_tell (p_dd hd (by decide)) hW t13 h15) mk_X2_tell mv_X2_tell ml_X11_161 rfl rfl (Nat.le_of_ble_eq_true rfl) t13 rfl (p_d1 hd (by decide)) (Nat.le_of_ble_eq_true rfl) ?_
              refine s_goto (pc := 72) (tgt := 77) dX11_way_72 rfl ?_
              cases hf
              exact s_ireturn (pc := 77) dX11_way_77 rfl rfl ⟨rfl, rfl, rfl, rfl, rfl⟩
        · replace hf := p_ps hf hc
          refine s_aload_n (pc := 40) dX11_way_40 0 rfl rfl ?_
          obtain ⟨q16, h17, hf⟩ := p_bd hf
          have t18 : p_tp N q16 5 := WT.get hW ha0 h17
          refine x_getR (pc := 41) dX11_way_41 fl_X11_23 rfl ha0 h17 ?_
          refine s_iload (pc := 44) dX11_way_44 4 rfl ?_
          obtain ⟨q19, h20, hf⟩ := p_bd hf
          refine y_callV1 (pc := 46) dX11_way_46 (c_X2_lateness (p_dd hd (by decide)) hW t18 h20) mk_X2_lateness mv_X2_lateness ml_X11_157 rfl rfl (Nat.le_of_ble_eq_true rfl) t18 rfl (p_d1 hd (by decide)) (Nat.le_of_ble_eq_true rfl) ?_
          cases hf
          exact s_ireturn (pc := 49) dX11_way_49 rfl rfl ⟨rfl, rfl, rfl, rfl, rfl⟩
      · replace hf := p_ng hf hc
        refine s_bipush (pc := 30) dX11_way_30 (v := (-2)) rfl ?_
        cases hf
        exact s_ireturn (pc := 32) dX11_way_32 rfl rfl ⟨rfl, rfl, rfl, rfl, rfl⟩
def f_X11_compare (n : Nat) (N : pN) (I : pI) (L : pL) (P : pR) (a0 : Nat) (x1 : Int32) (x2 : Int32) (x3 : Int32) (x4 : Int32) (x5 : Int32) (x6 : Int32) : Option (Int32 × pI × pL) :=
  Option.bind (P a0 3) fun q1 =>
  Option.bind (f_X3_list n N I L P q1 x1 x5 x6) fun q4 =>
  (if q4.1 = 0 then
    some ((-2), q4.2.1, q4.2.2)
  else
    (if x2 < 0 then
      some ((-2), q4.2.1, q4.2.2)
    else
      Option.bind (P a0 2) fun q6 =>
      Option.bind (f_X2_size q4.2.1 P q6) fun q9 =>
      (if x2 < q9 then
        Option.bind (P a0 2) fun q11 =>
        Option.bind (f_X2_tell N q4.2.1 P q11 x2 (nI 3)) fun q14 =>
        Option.bind (P a0 2) fun q16 =>
        Option.bind (f_X2_tell N q4.2.1 P q16 x2 (nI 4)) fun q19 =>
        Option.bind (P a0 3) fun q21 =>
        Option.bind (f_X3_list n N q4.2.1 q4.2.2 P q21 x3 x5 x6) fun q24 =>
        (if q24.1 = 0 then
          some ((-2), q24.2.1, q24.2.2)
        else
          (if x4 < 0 then
            some ((-2), q24.2.1, q24.2.2)
          else
            Option.bind (P a0 2) fun q26 =>
            Option.bind (f_X2_size q24.2.1 P q26) fun q29 =>
            (if x4 < q29 then
              Option.bind (P a0 2) fun q31 =>
              Option.bind (f_X2_tell N q24.2.1 P q31 x4 (nI 3)) fun q34 =>
              Option.bind (P a0 2) fun q36 =>
              Option.bind (f_X2_tell N q24.2.1 P q36 x4 (nI 4)) fun q39 =>
              Option.bind (f_X2_orderOfLengths (Int32.toInt64 q14) (Int32.toInt64 q19) (Int32.toInt64 q34) (Int32.toInt64 q39)) fun q41 =>
              some (q41, q24.2.1, q24.2.2)
            else
              some ((-2), q24.2.1, q24.2.2))))
      else
        some ((-2), q4.2.1, q4.2.2))))
theorem c_X11_compare {G : pG} {d : Nat} {n : Nat} {N : pN} {I : pI} {L : pL} {P : pR} {a0 : Nat} {x1 : Int32} {x2 : Int32} {x3 : Int32} {x4 : Int32} {x5 : Int32} {x6 : Int32} {qq : Int32 × pI × pL} (hd : 5 ≤ d) (hW : WT N P) (ha0 : p_tp N a0 14) (hf : f_X11_compare n N I L P a0 x1 x2 x3 x4 x5 x6 = some qq) : MT G mX11_compare d 0 0 [.ref a0, .int x1, .int x2, .int x3, .int x4, .int x5, .int x6] N I L P (p_R (some (.int qq.1)) N qq.2.1 qq.2.2 P) := by
  refine MT.of rfl (Nat.le_of_ble_eq_true rfl) ?_
  show SW G mX11_compare (p_rm d 0 0) 0 0 0 0 (p_R (some (.int qq.1)) N qq.2.1 qq.2.2 P) 0 [(0, .ref a0), (1, .int x1), (2, .int x2), (3, .int x3), (4, .int x4), (5, .int x5), (6, .int x6)] [] N I L P
  unfold f_X11_compare at hf
  refine s_aload_n (pc := 0) dX11_compare_0 0 rfl rfl ?_
  obtain ⟨q1, h2, hf⟩ := p_bd hf
  have t3 : p_tp N q1 6 := WT.get hW ha0 h2
  refine x_getR (pc := 1) dX11_compare_1 fl_X11_32 rfl ha0 h2 ?_
  refine s_iload_n (pc := 4) dX11_compare_4 1 rfl rfl ?_
  refine s_iload (pc := 5) dX11_compare_5 5 rfl ?_
  refine s_iload (pc := 7) dX11_compare_7 6 rfl ?_
  obtain ⟨q4, h5, hf⟩ := p_bd hf
  refine y_callV1 (pc := 9) dX11_compare_9 (c_X3_list (p_dd hd (by decide)) hW t3 h5) mk_X3_list mv_X3_list ml_X11_149 rfl rfl (Nat.le_of_ble_eq_true rfl) t3 rfl (p_d1 hd (by decide)) (Nat.le_of_ble_eq_true rfl) ?_
  refine s_if_eq (pc := 12) (tgt := 30) dX11_compare_12 rfl (fun hc => ?_) (fun hc => ?_)
  · replace hf := p_ps hf hc
    refine s_bipush (pc := 30) dX11_compare_30 (v := (-2)) rfl ?_
    cases hf
    exact s_ireturn (pc := 32) dX11_compare_32 rfl rfl ⟨rfl, rfl, rfl, rfl, rfl⟩
  · replace hf := p_ng hf hc
    refine s_iload_n (pc := 15) dX11_compare_15 2 rfl rfl ?_
    refine s_if_lt (pc := 16) (tgt := 30) dX11_compare_16 rfl (fun hc => ?_) (fun hc => ?_)
    · replace hf := p_ps hf hc
      refine s_bipush (pc := 30) dX11_compare_30 (v := (-2)) rfl ?_
      cases hf
      exact s_ireturn (pc := 32) dX11_compare_32 rfl rfl ⟨rfl, rfl, rfl, rfl, rfl⟩
    · replace hf := p_ng hf hc
      refine s_iload_n (pc := 19) dX11_compare_19 2 rfl rfl ?_
      refine s_aload_n (pc := 20) dX11_compare_20 0 rfl rfl ?_
      obtain ⟨q6, h7, hf⟩ := p_bd hf
      have t8 : p_tp N q6 5 := WT.get hW ha0 h7
      refine x_getR (pc := 21) dX11_compare_21 fl_X11_23 rfl ha0 h7 ?_
      obtain ⟨q9, h10, hf⟩ := p_bd hf
      refine y_callV1 (pc := 24) dX11_compare_24 (c_X2_size (p_dd hd (by decide)) hW t8 h10) mk_X2_size mv_X2_size ml_X11_156 rfl rfl (Nat.le_of_ble_eq_true rfl) t8 rfl (p_d1 hd (by decide)) (Nat.le_of_ble_eq_true rfl) ?_
      refine s_icmp_lt (pc := 27) (tgt := 33) dX11_compare_27 rfl (fun hc => ?_) (fun hc => ?_)
      · replace hf := p_ps hf hc
        refine s_aload_n (pc := 33) dX11_compare_33 0 rfl rfl ?_
        obtain ⟨q11, h12, hf⟩ := p_bd hf
        have t13 : p_tp N q11 5 := WT.get hW ha0 h12
        refine x_getR (pc := 34) dX11_compare_34 fl_X11_23 rfl ha0 h12 ?_
        refine s_iload_n (pc := 37) dX11_compare_37 2 rfl rfl ?_
        refine s_iconst (pc := 38) dX11_compare_38 (v := nI 3) rfl ?_
        obtain ⟨q14, h15, hf⟩ := p_bd hf
        refine y_callV1 (pc := 39) dX11_compare_39 (c_X2_tell (p_dd hd (by decide)) hW t13 h15) mk_X2_tell mv_X2_tell ml_X11_161 rfl rfl (Nat.le_of_ble_eq_true rfl) t13 rfl (p_d1 hd (by decide)) (Nat.le_of_ble_eq_true rfl) ?_
        refine s_istore (pc := 42) (lo' := [(7, .int q14), (0, .ref a0), (1, .int x1), (2, .int x2), (3, .int x3), (4, .int x4), (5, .int x5), (6, .int x6)]) dX11_compare_42 (Nat.le_of_ble_eq_true rfl) rfl ?_
        refine s_aload_n (pc := 44) dX11_compare_44 1 rfl rfl ?_
        obtain ⟨q16, h17, hf⟩ := p_bd hf
        have t18 : p_tp N q16 5 := WT.get hW ha0 h17
        refine x_getR (pc := 45) dX11_compare_45 fl_X11_23 rfl ha0 h17 ?_
        refine s_iload_n (pc := 48) dX11_compare_48 3 rfl rfl ?_
        refine s_iconst (pc := 49) dX11_compare_49 (v := nI 4) rfl ?_
        obtain ⟨q19, h20, hf⟩ := p_bd hf
        refine y_callV1 (pc := 50) dX11_compare_50 (c_X2_tell (p_dd hd (by decide)) hW t18 h20) mk_X2_tell mv_X2_tell ml_X11_161 rfl rfl (Nat.le_of_ble_eq_true rfl) t18 rfl (p_d1 hd (by decide)) (Nat.le_of_ble_eq_true rfl) ?_
        refine s_istore (pc := 53) (lo' := [(8, .int q19), (7, .int q14), (0, .ref a0), (1, .int x1), (2, .int x2), (3, .int x3), (4, .int x4), (5, .int x5), (6, .int x6)]) dX11_compare_53 (Nat.le_of_ble_eq_true rfl) rfl ?_
        refine s_aload_n (pc := 55) dX11_compare_55 2 rfl rfl ?_
        obtain ⟨q21, h22, hf⟩ := p_bd hf
        have t23 : p_tp N q21 6 := WT.get hW ha0 h22
        refine x_getR (pc := 56) dX11_compare_56 fl_X11_32 rfl ha0 h22 ?_
        refine s_iload_n (pc := 59) dX11_compare_59 5 rfl rfl ?_
        refine s_iload (pc := 60) dX11_compare_60 7 rfl ?_
        refine s_iload (pc := 62) dX11_compare_62 8 rfl ?_
        obtain ⟨q24, h25, hf⟩ := p_bd hf
        refine y_callV1 (pc := 64) dX11_compare_64 (c_X3_list (p_dd hd (by decide)) hW t23 h25) mk_X3_list mv_X3_list ml_X11_149 rfl rfl (Nat.le_of_ble_eq_true rfl) t23 rfl (p_d1 hd (by decide)) (Nat.le_of_ble_eq_true rfl) ?_
        refine s_if_eq (pc := 67) (tgt := 87) dX11_compare_67 rfl (fun hc => ?_) (fun hc => ?_)
        · replace hf := p_ps hf hc
          refine s_bipush (pc := 87) dX11_compare_87 (v := (-2)) rfl ?_
          cases hf
          exact s_ireturn (pc := 89) dX11_compare_89 rfl rfl ⟨rfl, rfl, rfl, rfl, rfl⟩
        · replace hf := p_ng hf hc
          refine s_iload (pc := 70) dX11_compare_70 6 rfl ?_
          refine s_if_lt (pc := 72) (tgt := 87) dX11_compare_72 rfl (fun hc => ?_) (fun hc => ?_)
          · replace hf := p_ps hf hc
            refine s_bipush (pc := 87) dX11_compare_87 (v := (-2)) rfl ?_
            cases hf
            exact s_ireturn (pc := 89) dX11_compare_89 rfl rfl ⟨rfl, rfl, rfl, rfl, rfl⟩
          · replace hf := p_ng hf hc
            refine s_iload (pc := 75) dX11_compare_75 6 rfl ?_
            refine s_aload_n (pc := 77) dX11_compare_77 2 rfl rfl ?_
            obtain ⟨q26, h27, hf⟩ := p_bd hf
            have t28 : p_tp N q26 5 := WT.get hW ha0 h27
            refine x_getR (pc := 78) dX11_compare_78 fl_X11_23 rfl ha0 h27 ?_
            obtain ⟨q29, h30, hf⟩ := p_bd hf
            refine y_callV1 (pc := 81) dX11_compare_81 (c_X2_size (p_dd hd (by decide)) hW t28 h30) mk_X2_size mv_X2_size ml_X11_156 rfl rfl (Nat.le_of_ble_eq_true rfl) t28 rfl (p_d1 hd (by decide)) (Nat.le_of_ble_eq_true rfl) ?_
            refine s_icmp_lt (pc := 84) (tgt := 90) dX11_compare_84 rfl (fun hc => ?_) (fun hc => ?_)
            · replace hf := p_ps hf hc
              refine s_iload (pc := 90) dX11_compare_90 1 rfl ?_
              refine s_i2l (pc := 92) dX11_compare_92 ?_
              refine s_iload (pc := 93) dX11_compare_93 0 rfl ?_
              refine s_i2l (pc := 95) dX11_compare_95 ?_
              refine s_aload_n (pc := 96) dX11_compare_96 2 rfl rfl ?_
              obtain ⟨q31, h32, hf⟩ := p_bd hf
              have t33 : p_tp N q31 5 := WT.get hW ha0 h32
              refine x_getR (pc := 97) dX11_compare_97 fl_X11_23 rfl ha0 h32 ?_
              refine s_iload (pc := 100) dX11_compare_100 6 rfl ?_
              refine s_iconst (pc := 102) dX11_compare_102 (v := nI 3) rfl ?_
              obtain ⟨q34, h35, hf⟩ := p_bd hf
              refine y_callV1 (pc := 103) dX11_compare_103 (c_X2_tell (p_dd hd (by decide)) hW t33 h35) mk_X2_tell mv_X2_tell ml_X11_161 rfl rfl (Nat.le_of_ble_eq_true rfl) t33 rfl (p_d1 hd (by decide)) (Nat.le_of_ble_eq_true rfl) ?_
              refine s_i2l (pc := 106) dX11_compare_106 ?_
              refine s_aload_n (pc := 107) dX11_compare_107 2 rfl rfl ?_
              obtain ⟨q36, h37, hf⟩ := p_bd hf
              have t38 : p_tp N q36 5 := WT.get hW ha0 h37
              refine x_getR (pc := 108) dX11_compare_108 fl_X11_23 rfl ha0 h37 ?_
              refine s_iload (pc := 111) dX11_compare_111 6 rfl ?_
              refine s_iconst (pc := 113) dX11_compare_113 (v := nI 4) rfl ?_
              obtain ⟨q39, h40, hf⟩ := p_bd hf
              refine y_callV1 (pc := 114) dX11_compare_114 (c_X2_tell (p_dd hd (by decide)) hW t38 h40) mk_X2_tell mv_X2_tell ml_X11_161 rfl rfl (Nat.le_of_ble_eq_true rfl) t38 rfl (p_d1 hd (by decide)) (Nat.le_of_ble_eq_true rfl) ?_
              refine s_i2l (pc := 117) dX11_compare_117 ?_
              obtain ⟨q41, h42, hf⟩ := p_bd hf
              refine y_callS1 (pc := 118) dX11_compare_118 (c_X2_orderOfLengths (p_dd hd (by decide)) hW  h42) mk_X2_orderOfLengths mz_X2_orderOfLengths ml_X11_164 rfl rfl (Nat.le_of_ble_eq_true rfl) (p_d1 hd (by decide)) (Nat.le_of_ble_eq_true rfl) ?_
              cases hf
              exact s_ireturn (pc := 121) dX11_compare_121 rfl rfl ⟨rfl, rfl, rfl, rfl, rfl⟩
            · replace hf := p_ng hf hc
              refine s_bipush (pc := 87) dX11_compare_87 (v := (-2)) rfl ?_
              cases hf
              exact s_ireturn (pc := 89) dX11_compare_89 rfl rfl ⟨rfl, rfl, rfl, rfl, rfl⟩
      · replace hf := p_ng hf hc
        refine s_bipush (pc := 30) dX11_compare_30 (v := (-2)) rfl ?_
        cases hf
        exact s_ireturn (pc := 32) dX11_compare_32 rfl rfl ⟨rfl, rfl, rfl, rfl, rfl⟩
def f_X11_signal (n : Nat) (N : pN) (I : pI) (L : pL) (P : pR) (a0 : Nat) (x1 : Int32) (x2 : Int32) (x3 : Int32) : Option (Int32 × pI × pL) :=
  Option.bind (P a0 3) fun q1 =>
  Option.bind (f_X3_signalAt n N I L P q1 x1 x2 x3) fun q4 =>
  some (q4.1, q4.2.1, q4.2.2)
theorem c_X11_signal {G : pG} {d : Nat} {n : Nat} {N : pN} {I : pI} {L : pL} {P : pR} {a0 : Nat} {x1 : Int32} {x2 : Int32} {x3 : Int32} {qq : Int32 × pI × pL} (hd : 5 ≤ d) (hW : WT N P) (ha0 : p_tp N a0 14) (hf : f_X11_signal n N I L P a0 x1 x2 x3 = some qq) : MT G mX11_signal d 0 0 [.ref a0, .int x1, .int x2, .int x3] N I L P (p_R (some (.int qq.1)) N qq.2.1 qq.2.2 P) := by
  refine MT.of rfl (Nat.le_of_ble_eq_true rfl) ?_
  show SW G mX11_signal (p_rm d 0 0) 0 0 0 0 (p_R (some (.int qq.1)) N qq.2.1 qq.2.2 P) 0 [(0, .ref a0), (1, .int x1), (2, .int x2), (3, .int x3)] [] N I L P
  unfold f_X11_signal at hf
  refine s_aload_n (pc := 0) dX11_signal_0 0 rfl rfl ?_
  obtain ⟨q1, h2, hf⟩ := p_bd hf
  have t3 : p_tp N q1 6 := WT.get hW ha0 h2
  refine x_getR (pc := 1) dX11_signal_1 fl_X11_32 rfl ha0 h2 ?_
  refine s_iload_n (pc := 4) dX11_signal_4 1 rfl rfl ?_
  refine s_iload_n (pc := 5) dX11_signal_5 2 rfl rfl ?_
  refine s_iload_n (pc := 6) dX11_signal_6 3 rfl rfl ?_
  obtain ⟨q4, h5, hf⟩ := p_bd hf
  refine y_callV1 (pc := 7) dX11_signal_7 (c_X3_signalAt (p_dd hd (by decide)) hW t3 h5) mk_X3_signalAt mv_X3_signalAt ml_X11_168 rfl rfl (Nat.le_of_ble_eq_true rfl) t3 rfl (p_d1 hd (by decide)) (Nat.le_of_ble_eq_true rfl) ?_
  cases hf
  exact s_ireturn (pc := 10) dX11_signal_10 rfl rfl ⟨rfl, rfl, rfl, rfl, rfl⟩
def f_X11_heard (n : Nat) (N : pN) (I : pI) (L : pL) (P : pR) (a0 : Nat) (x1 : Int32) (x2 : Int32) : Option (Int32 × pI × pL) :=
  Option.bind (f_X11_isPoint x1 x2) fun q1 =>
  (if q1 = 0 then
    some ((-1), I, L)
  else
    Option.bind (P a0 3) fun q3 =>
    Option.bind (f_X3_listen n N I L P q3 x1 x2) fun q6 =>
    Option.bind (P a0 3) fun q8 =>
    Option.bind (f_X3_heardBits n N q6.1 P q8) fun q11 =>
    some (q11, q6.1, q6.2))
theorem c_X11_heard {G : pG} {d : Nat} {n : Nat} {N : pN} {I : pI} {L : pL} {P : pR} {a0 : Nat} {x1 : Int32} {x2 : Int32} {qq : Int32 × pI × pL} (hd : 6 ≤ d) (hW : WT N P) (ha0 : p_tp N a0 14) (hf : f_X11_heard n N I L P a0 x1 x2 = some qq) : MT G mX11_heard d 0 0 [.ref a0, .int x1, .int x2] N I L P (p_R (some (.int qq.1)) N qq.2.1 qq.2.2 P) := by
  refine MT.of rfl (Nat.le_of_ble_eq_true rfl) ?_
  show SW G mX11_heard (p_rm d 0 0) 0 0 0 0 (p_R (some (.int qq.1)) N qq.2.1 qq.2.2 P) 0 [(0, .ref a0), (1, .int x1), (2, .int x2)] [] N I L P
  unfold f_X11_heard at hf
  refine s_iload_n (pc := 0) dX11_heard_0 1 rfl rfl ?_
  refine s_iload_n (pc := 1) dX11_heard_1 2 rfl rfl ?_
  obtain ⟨q1, h2, hf⟩ := p_bd hf
  refine y_callS1 (pc := 2) dX11_heard_2 (c_X11_isPoint (p_dd hd (by decide)) hW  h2) mk_X11_isPoint mz_X11_isPoint ml_X11_172 rfl rfl (Nat.le_of_ble_eq_true rfl) (p_d1 hd (by decide)) (Nat.le_of_ble_eq_true rfl) ?_
  refine s_if_ne (pc := 5) (tgt := 10) dX11_heard_5 rfl (fun hc => ?_) (fun hc => ?_)
  · replace hf := p_ng hf hc
    refine s_aload_n (pc := 10) dX11_heard_10 0 rfl rfl ?_
    obtain ⟨q3, h4, hf⟩ := p_bd hf
    have t5 : p_tp N q3 6 := WT.get hW ha0 h4
    refine x_getR (pc := 11) dX11_heard_11 fl_X11_32 rfl ha0 h4 ?_
    refine s_iload_n (pc := 14) dX11_heard_14 1 rfl rfl ?_
    refine s_iload_n (pc := 15) dX11_heard_15 2 rfl rfl ?_
    obtain ⟨q6, h7, hf⟩ := p_bd hf
    refine y_callV0 (pc := 16) dX11_heard_16 (c_X3_listen (p_dd hd (by decide)) hW t5 h7) mk_X3_listen mv_X3_listen ml_X11_176 rfl rfl (Nat.le_of_ble_eq_true rfl) t5 rfl (p_d1 hd (by decide)) (Nat.le_of_ble_eq_true rfl) ?_
    refine s_aload_n (pc := 19) dX11_heard_19 0 rfl rfl ?_
    obtain ⟨q8, h9, hf⟩ := p_bd hf
    have t10 : p_tp N q8 6 := WT.get hW ha0 h9
    refine x_getR (pc := 20) dX11_heard_20 fl_X11_32 rfl ha0 h9 ?_
    obtain ⟨q11, h12, hf⟩ := p_bd hf
    refine y_callV1 (pc := 23) dX11_heard_23 (c_X3_heardBits (p_dd hd (by decide)) hW t10 h12) mk_X3_heardBits mv_X3_heardBits ml_X11_180 rfl rfl (Nat.le_of_ble_eq_true rfl) t10 rfl (p_d1 hd (by decide)) (Nat.le_of_ble_eq_true rfl) ?_
    cases hf
    exact s_ireturn (pc := 26) dX11_heard_26 rfl rfl ⟨rfl, rfl, rfl, rfl, rfl⟩
  · replace hf := p_ps hf hc
    refine s_iconst (pc := 8) dX11_heard_8 (v := (-1)) rfl ?_
    cases hf
    exact s_ireturn (pc := 9) dX11_heard_9 rfl rfl ⟨rfl, rfl, rfl, rfl, rfl⟩
def f_X11_best (n : Nat) (N : pN) (I : pI) (L : pL) (P : pR) (a0 : Nat) (x1 : Int32) (x2 : Int32) : Option (Int32 × pI × pL) :=
  Option.bind (f_X11_isPoint x1 x2) fun q1 =>
  (if q1 = 0 then
    some ((-1), I, L)
  else
    Option.bind (P a0 3) fun q3 =>
    Option.bind (f_X3_listen n N I L P q3 x1 x2) fun q6 =>
    Option.bind (P a0 3) fun q8 =>
    Option.bind (f_X3_bestHeard n N q6.1 P q8) fun q11 =>
    some (q11, q6.1, q6.2))
theorem c_X11_best {G : pG} {d : Nat} {n : Nat} {N : pN} {I : pI} {L : pL} {P : pR} {a0 : Nat} {x1 : Int32} {x2 : Int32} {qq : Int32 × pI × pL} (hd : 6 ≤ d) (hW : WT N P) (ha0 : p_tp N a0 14) (hf : f_X11_best n N I L P a0 x1 x2 = some qq) : MT G mX11_best d 0 0 [.ref a0, .int x1, .int x2] N I L P (p_R (some (.int qq.1)) N qq.2.1 qq.2.2 P) := by
  refine MT.of rfl (Nat.le_of_ble_eq_true rfl) ?_
  show SW G mX11_best (p_rm d 0 0) 0 0 0 0 (p_R (some (.int qq.1)) N qq.2.1 qq.2.2 P) 0 [(0, .ref a0), (1, .int x1), (2, .int x2)] [] N I L P
  unfold f_X11_best at hf
  refine s_iload_n (pc := 0) dX11_best_0 1 rfl rfl ?_
  refine s_iload_n (pc := 1) dX11_best_1 2 rfl rfl ?_
  obtain ⟨q1, h2, hf⟩ := p_bd hf
  refine y_callS1 (pc := 2) dX11_best_2 (c_X11_isPoint (p_dd hd (by decide)) hW  h2) mk_X11_isPoint mz_X11_isPoint ml_X11_172 rfl rfl (Nat.le_of_ble_eq_true rfl) (p_d1 hd (by decide)) (Nat.le_of_ble_eq_true rfl) ?_
  refine s_if_ne (pc := 5) (tgt := 10) dX11_best_5 rfl (fun hc => ?_) (fun hc => ?_)
  · replace hf := p_ng hf hc
    refine s_aload_n (pc := 10) dX11_best_10 0 rfl rfl ?_
    obtain ⟨q3, h4, hf⟩ := p_bd hf
    have t5 : p_tp N q3 6 := WT.get hW ha0 h4
    refine x_getR (pc := 11) dX11_best_11 fl_X11_32 rfl ha0 h4 ?_
    refine s_iload_n (pc := 14) dX11_best_14 1 rfl rfl ?_
    refine s_iload_n (pc := 15) dX11_best_15 2 rfl rfl ?_
    obtain ⟨q6, h7, hf⟩ := p_bd hf
    refine y_callV0 (pc := 16) dX11_best_16 (c_X3_listen (p_dd hd (by decide)) hW t5 h7) mk_X3_listen mv_X3_listen ml_X11_176 rfl rfl (Nat.le_of_ble_eq_true rfl) t5 rfl (p_d1 hd (by decide)) (Nat.le_of_ble_eq_true rfl) ?_
    refine s_aload_n (pc := 19) dX11_best_19 0 rfl rfl ?_
    obtain ⟨q8, h9, hf⟩ := p_bd hf
    have t10 : p_tp N q8 6 := WT.get hW ha0 h9
    refine x_getR (pc := 20) dX11_best_20 fl_X11_32 rfl ha0 h9 ?_
    obtain ⟨q11, h12, hf⟩ := p_bd hf
    refine y_callV1 (pc := 23) dX11_best_23 (c_X3_bestHeard (p_dd hd (by decide)) hW t10 h12) mk_X3_bestHeard mv_X3_bestHeard ml_X11_183 rfl rfl (Nat.le_of_ble_eq_true rfl) t10 rfl (p_d1 hd (by decide)) (Nat.le_of_ble_eq_true rfl) ?_
    cases hf
    exact s_ireturn (pc := 26) dX11_best_26 rfl rfl ⟨rfl, rfl, rfl, rfl, rfl⟩
  · replace hf := p_ps hf hc
    refine s_iconst (pc := 8) dX11_best_8 (v := (-1)) rfl ?_
    cases hf
    exact s_ireturn (pc := 9) dX11_best_9 rfl rfl ⟨rfl, rfl, rfl, rfl, rfl⟩
def f_X11_step (N : pN) (I : pI) (P : pR) (a0 : Nat) (x1 : Int32) (x2 : Int32) : Option (Int32 × pI) :=
  Option.bind (P a0 0) fun q1 =>
  Option.bind (P q1 8) fun q4 =>
  Option.bind (f_X8_size I q4) fun q7 =>
  Option.bind (f_X11_isPoint x1 x2) fun q9 =>
  (if q9 = 0 then
    some ((-1), I)
  else
    Option.bind (P a0 0) fun q11 =>
    Option.bind (P q11 8) fun q14 =>
    Option.bind (f_X8_add I q14) fun q17 =>
    (if q17.1 = 0 then
      some ((-1), q17.2)
    else
      Option.bind (P a0 0) fun q19 =>
      Option.bind (P q19 8) fun q22 =>
      Option.bind (f_X8_put N q17.2 P q22 q7 (nI 0) x1) fun q25 =>
      Option.bind (P a0 0) fun q27 =>
      Option.bind (P q27 8) fun q30 =>
      Option.bind (f_X8_put N q25 P q30 q7 (nI 1) x2) fun q33 =>
      Option.bind (P a0 0) fun q35 =>
      Option.bind (P q35 8) fun q38 =>
      Option.bind (f_X8_size q33 q38) fun q41 =>
      some (q41, q33)))
theorem c_X11_step {G : pG} {d : Nat} {N : pN} {I : pI} {L : pL} {P : pR} {a0 : Nat} {x1 : Int32} {x2 : Int32} {qq : Int32 × pI} (hd : 1 ≤ d) (hW : WT N P) (ha0 : p_tp N a0 14) (hf : f_X11_step N I P a0 x1 x2 = some qq) : MT G mX11_step d 0 0 [.ref a0, .int x1, .int x2] N I L P (p_R (some (.int qq.1)) N qq.2 L P) := by
  refine MT.of rfl (Nat.le_of_ble_eq_true rfl) ?_
  show SW G mX11_step (p_rm d 0 0) 0 0 0 0 (p_R (some (.int qq.1)) N qq.2 L P) 0 [(0, .ref a0), (1, .int x1), (2, .int x2)] [] N I L P
  unfold f_X11_step at hf
  refine s_aload_n (pc := 0) dX11_step_0 0 rfl rfl ?_
  obtain ⟨q1, h2, hf⟩ := p_bd hf
  have t3 : p_tp N q1 10 := WT.get hW ha0 h2
  refine x_getR (pc := 1) dX11_step_1 fl_X11_10 rfl ha0 h2 ?_
  obtain ⟨q4, h5, hf⟩ := p_bd hf
  have t6 : p_tp N q4 11 := WT.get hW t3 h5
  refine x_getR (pc := 4) dX11_step_4 fl_X11_186 rfl t3 h5 ?_
  obtain ⟨q7, h8, hf⟩ := p_bd hf
  refine y_callV1 (pc := 7) dX11_step_7 (c_X8_size (p_dd hd (by decide)) hW t6 h8) mk_X8_size mv_X8_size ml_X11_70 rfl rfl (Nat.le_of_ble_eq_true rfl) t6 rfl (p_d1 hd (by decide)) (Nat.le_of_ble_eq_true rfl) ?_
  refine s_istore_n (pc := 10) (lo' := [(3, .int q7), (0, .ref a0), (1, .int x1), (2, .int x2)]) dX11_step_10 rfl (Nat.le_of_ble_eq_true rfl) rfl ?_
  refine s_iload_n (pc := 11) dX11_step_11 2 rfl rfl ?_
  refine s_iload_n (pc := 12) dX11_step_12 3 rfl rfl ?_
  obtain ⟨q9, h10, hf⟩ := p_bd hf
  refine y_callS1 (pc := 13) dX11_step_13 (c_X11_isPoint (p_dd hd (by decide)) hW  h10) mk_X11_isPoint mz_X11_isPoint ml_X11_172 rfl rfl (Nat.le_of_ble_eq_true rfl) (p_d1 hd (by decide)) (Nat.le_of_ble_eq_true rfl) ?_
  refine s_if_eq (pc := 16) (tgt := 32) dX11_step_16 rfl (fun hc => ?_) (fun hc => ?_)
  · replace hf := p_ps hf hc
    refine s_iconst (pc := 32) dX11_step_32 (v := (-1)) rfl ?_
    cases hf
    exact s_ireturn (pc := 33) dX11_step_33 rfl rfl ⟨rfl, rfl, rfl, rfl, rfl⟩
  · replace hf := p_ng hf hc
    refine s_aload_n (pc := 19) dX11_step_19 1 rfl rfl ?_
    obtain ⟨q11, h12, hf⟩ := p_bd hf
    have t13 : p_tp N q11 10 := WT.get hW ha0 h12
    refine x_getR (pc := 20) dX11_step_20 fl_X11_10 rfl ha0 h12 ?_
    obtain ⟨q14, h15, hf⟩ := p_bd hf
    have t16 : p_tp N q14 11 := WT.get hW t13 h15
    refine x_getR (pc := 23) dX11_step_23 fl_X11_186 rfl t13 h15 ?_
    obtain ⟨q17, h18, hf⟩ := p_bd hf
    refine y_callV1 (pc := 26) dX11_step_26 (c_X8_add (p_dd hd (by decide)) hW t16 h18) mk_X8_add mv_X8_add ml_X11_80 rfl rfl (Nat.le_of_ble_eq_true rfl) t16 rfl (p_d1 hd (by decide)) (Nat.le_of_ble_eq_true rfl) ?_
    refine s_if_ne (pc := 29) (tgt := 34) dX11_step_29 rfl (fun hc => ?_) (fun hc => ?_)
    · replace hf := p_ng hf hc
      refine s_aload_n (pc := 34) dX11_step_34 1 rfl rfl ?_
      obtain ⟨q19, h20, hf⟩ := p_bd hf
      have t21 : p_tp N q19 10 := WT.get hW ha0 h20
      refine x_getR (pc := 35) dX11_step_35 fl_X11_10 rfl ha0 h20 ?_
      obtain ⟨q22, h23, hf⟩ := p_bd hf
      have t24 : p_tp N q22 11 := WT.get hW t21 h23
      refine x_getR (pc := 38) dX11_step_38 fl_X11_186 rfl t21 h23 ?_
      refine s_iload_n (pc := 41) dX11_step_41 0 rfl rfl ?_
      refine s_iconst (pc := 42) dX11_step_42 (v := nI 0) rfl ?_
      refine s_iload_n (pc := 43) dX11_step_43 2 rfl rfl ?_
      obtain ⟨q25, h26, hf⟩ := p_bd hf
      refine y_callV0 (pc := 44) dX11_step_44 (c_X8_put (p_dd hd (by decide)) hW t24 h26) mk_X8_put mv_X8_put ml_X11_84 rfl rfl (Nat.le_of_ble_eq_true rfl) t24 rfl (p_d1 hd (by decide)) (Nat.le_of_ble_eq_true rfl) ?_
      refine s_aload_n (pc := 47) dX11_step_47 1 rfl rfl ?_
      obtain ⟨q27, h28, hf⟩ := p_bd hf
      have t29 : p_tp N q27 10 := WT.get hW ha0 h28
      refine x_getR (pc := 48) dX11_step_48 fl_X11_10 rfl ha0 h28 ?_
      obtain ⟨q30, h31, hf⟩ := p_bd hf
      have t32 : p_tp N q30 11 := WT.get hW t29 h31
      refine x_getR (pc := 51) dX11_step_51 fl_X11_186 rfl t29 h31 ?_
      refine s_iload_n (pc := 54) dX11_step_54 0 rfl rfl ?_
      refine s_iconst (pc := 55) dX11_step_55 (v := nI 1) rfl ?_
      refine s_iload_n (pc := 56) dX11_step_56 3 rfl rfl ?_
      obtain ⟨q33, h34, hf⟩ := p_bd hf
      refine y_callV0 (pc := 57) dX11_step_57 (c_X8_put (p_dd hd (by decide)) hW t32 h34) mk_X8_put mv_X8_put ml_X11_84 rfl rfl (Nat.le_of_ble_eq_true rfl) t32 rfl (p_d1 hd (by decide)) (Nat.le_of_ble_eq_true rfl) ?_
      refine s_aload_n (pc := 60) dX11_step_60 1 rfl rfl ?_
      obtain ⟨q35, h36, hf⟩ := p_bd hf
      have t37 : p_tp N q35 10 := WT.get hW ha0 h36
      refine x_getR (pc := 61) dX11_step_61 fl_X11_10 rfl ha0 h36 ?_
      obtain ⟨q38, h39, hf⟩ := p_bd hf
      have t40 : p_tp N q38 11 := WT.get hW t37 h39
      refine x_getR (pc := 64) dX11_step_64 fl_X11_186 rfl t37 h39 ?_
      obtain ⟨q41, h42, hf⟩ := p_bd hf
      refine y_callV1 (pc := 67) dX11_step_67 (c_X8_size (p_dd hd (by decide)) hW t40 h42) mk_X8_size mv_X8_size ml_X11_70 rfl rfl (Nat.le_of_ble_eq_true rfl) t40 rfl (p_d1 hd (by decide)) (Nat.le_of_ble_eq_true rfl) ?_
      cases hf
      exact s_ireturn (pc := 70) dX11_step_70 rfl rfl ⟨rfl, rfl, rfl, rfl, rfl⟩
    · replace hf := p_ps hf hc
      refine s_iconst (pc := 32) dX11_step_32 (v := (-1)) rfl ?_
      cases hf
      exact s_ireturn (pc := 33) dX11_step_33 rfl rfl ⟨rfl, rfl, rfl, rfl, rfl⟩
def f_X11_unwalk (I : pI) (P : pR) (a0 : Nat) : Option pI :=
  Option.bind (P a0 0) fun q1 =>
  Option.bind (P q1 8) fun q4 =>
  Option.bind (f_X8_cut I q4 (nI 0)) fun q7 =>
  some q7
theorem c_X11_unwalk {G : pG} {d : Nat} {N : pN} {I : pI} {L : pL} {P : pR} {a0 : Nat} {qq : pI} (hd : 1 ≤ d) (hW : WT N P) (ha0 : p_tp N a0 14) (hf : f_X11_unwalk I P a0 = some qq) : MT G mX11_unwalk d 0 0 [.ref a0] N I L P (p_R none N qq L P) := by
  refine MT.of rfl (Nat.le_of_ble_eq_true rfl) ?_
  show SW G mX11_unwalk (p_rm d 0 0) 0 0 0 0 (p_R none N qq L P) 0 [(0, .ref a0)] [] N I L P
  unfold f_X11_unwalk at hf
  refine s_aload_n (pc := 0) dX11_unwalk_0 0 rfl rfl ?_
  obtain ⟨q1, h2, hf⟩ := p_bd hf
  have t3 : p_tp N q1 10 := WT.get hW ha0 h2
  refine x_getR (pc := 1) dX11_unwalk_1 fl_X11_10 rfl ha0 h2 ?_
  obtain ⟨q4, h5, hf⟩ := p_bd hf
  have t6 : p_tp N q4 11 := WT.get hW t3 h5
  refine x_getR (pc := 4) dX11_unwalk_4 fl_X11_186 rfl t3 h5 ?_
  refine s_iconst (pc := 7) dX11_unwalk_7 (v := nI 0) rfl ?_
  obtain ⟨q7, h8, hf⟩ := p_bd hf
  refine y_callV0 (pc := 8) dX11_unwalk_8 (c_X8_cut (p_dd hd (by decide)) hW t6 h8) mk_X8_cut mv_X8_cut ml_X11_88 rfl rfl (Nat.le_of_ble_eq_true rfl) t6 rfl (p_d1 hd (by decide)) (Nat.le_of_ble_eq_true rfl) ?_
  cases hf
  exact s_return (pc := 11) dX11_unwalk_11 rfl ⟨rfl, rfl, rfl, rfl, rfl⟩
def f_X11_served (n : Nat) (N : pN) (I : pI) (L : pL) (P : pR) (a0 : Nat) (x1 : Int32) : Option (Int32 × pI × pL) :=
  Option.bind (P a0 0) fun q1 =>
  Option.bind (P q1 8) fun q4 =>
  Option.bind (f_X8_has I q4 x1) fun q7 =>
  (if q7 = 0 then
    some ((-1), I, L)
  else
    Option.bind (P a0 3) fun q9 =>
    Option.bind (f_X3_followWalk n N I L P q9) fun q12 =>
    Option.bind (P a0 3) fun q14 =>
    Option.bind (f_X3_servedIn N q12.1 P q14 x1) fun q17 =>
    some (q17, q12.1, q12.2))
theorem c_X11_served {G : pG} {d : Nat} {n : Nat} {N : pN} {I : pI} {L : pL} {P : pR} {a0 : Nat} {x1 : Int32} {qq : Int32 × pI × pL} (hd : 7 ≤ d) (hW : WT N P) (ha0 : p_tp N a0 14) (hf : f_X11_served n N I L P a0 x1 = some qq) : MT G mX11_served d 0 0 [.ref a0, .int x1] N I L P (p_R (some (.int qq.1)) N qq.2.1 qq.2.2 P) := by
  refine MT.of rfl (Nat.le_of_ble_eq_true rfl) ?_
  show SW G mX11_served (p_rm d 0 0) 0 0 0 0 (p_R (some (.int qq.1)) N qq.2.1 qq.2.2 P) 0 [(0, .ref a0), (1, .int x1)] [] N I L P
  unfold f_X11_served at hf
  refine s_aload_n (pc := 0) dX11_served_0 0 rfl rfl ?_
  obtain ⟨q1, h2, hf⟩ := p_bd hf
  have t3 : p_tp N q1 10 := WT.get hW ha0 h2
  refine x_getR (pc := 1) dX11_served_1 fl_X11_10 rfl ha0 h2 ?_
  obtain ⟨q4, h5, hf⟩ := p_bd hf
  have t6 : p_tp N q4 11 := WT.get hW t3 h5
  refine x_getR (pc := 4) dX11_served_4 fl_X11_186 rfl t3 h5 ?_
  refine s_iload_n (pc := 7) dX11_served_7 1 rfl rfl ?_
  obtain ⟨q7, h8, hf⟩ := p_bd hf
  refine y_callV1 (pc := 8) dX11_served_8 (c_X8_has (p_dd hd (by decide)) hW t6 h8) mk_X8_has mv_X8_has ml_X11_118 rfl rfl (Nat.le_of_ble_eq_true rfl) t6 rfl (p_d1 hd (by decide)) (Nat.le_of_ble_eq_true rfl) ?_
  refine s_if_ne (pc := 11) (tgt := 16) dX11_served_11 rfl (fun hc => ?_) (fun hc => ?_)
  · replace hf := p_ng hf hc
    refine s_aload_n (pc := 16) dX11_served_16 0 rfl rfl ?_
    obtain ⟨q9, h10, hf⟩ := p_bd hf
    have t11 : p_tp N q9 6 := WT.get hW ha0 h10
    refine x_getR (pc := 17) dX11_served_17 fl_X11_32 rfl ha0 h10 ?_
    obtain ⟨q12, h13, hf⟩ := p_bd hf
    refine y_callV0 (pc := 20) dX11_served_20 (c_X3_followWalk (p_dd hd (by decide)) hW t11 h13) mk_X3_followWalk mv_X3_followWalk ml_X11_189 rfl rfl (Nat.le_of_ble_eq_true rfl) t11 rfl (p_d1 hd (by decide)) (Nat.le_of_ble_eq_true rfl) ?_
    refine s_aload_n (pc := 23) dX11_served_23 0 rfl rfl ?_
    obtain ⟨q14, h15, hf⟩ := p_bd hf
    have t16 : p_tp N q14 6 := WT.get hW ha0 h15
    refine x_getR (pc := 24) dX11_served_24 fl_X11_32 rfl ha0 h15 ?_
    refine s_iload_n (pc := 27) dX11_served_27 1 rfl rfl ?_
    obtain ⟨q17, h18, hf⟩ := p_bd hf
    refine y_callV1 (pc := 28) dX11_served_28 (c_X3_servedIn (p_dd hd (by decide)) hW t16 h18) mk_X3_servedIn mv_X3_servedIn ml_X11_192 rfl rfl (Nat.le_of_ble_eq_true rfl) t16 rfl (p_d1 hd (by decide)) (Nat.le_of_ble_eq_true rfl) ?_
    cases hf
    exact s_ireturn (pc := 31) dX11_served_31 rfl rfl ⟨rfl, rfl, rfl, rfl, rfl⟩
  · replace hf := p_ps hf hc
    refine s_iconst (pc := 14) dX11_served_14 (v := (-1)) rfl ?_
    cases hf
    exact s_ireturn (pc := 15) dX11_served_15 rfl rfl ⟨rfl, rfl, rfl, rfl, rfl⟩
def f_X11_walk (n : Nat) (N : pN) (I : pI) (L : pL) (P : pR) (a0 : Nat) (x1 : Int32) : Option (Int32 × pI × pL) :=
  (if x1 = nI 0 then
    Option.bind (P a0 0) fun q21 =>
    Option.bind (P q21 8) fun q24 =>
    Option.bind (f_X8_size I q24) fun q27 =>
    some (q27, I, L)
  else
    (if x1 = nI 1 then
      Option.bind (P a0 3) fun q11 =>
      Option.bind (f_X3_followWalk n N I L P q11) fun q14 =>
      Option.bind (P a0 3) fun q16 =>
      Option.bind (f_X3_changes n N q14.1 P q16) fun q19 =>
      some (q19, q14.1, q14.2)
    else
      (if x1 = nI 2 then
        Option.bind (P a0 3) fun q1 =>
        Option.bind (f_X3_followWalk n N I L P q1) fun q4 =>
        Option.bind (P a0 3) fun q6 =>
        Option.bind (f_X3_lost n N q4.1 P q6) fun q9 =>
        some (q9, q4.1, q4.2)
      else
        some ((-1), I, L))))
theorem c_X11_walk {G : pG} {d : Nat} {n : Nat} {N : pN} {I : pI} {L : pL} {P : pR} {a0 : Nat} {x1 : Int32} {qq : Int32 × pI × pL} (hd : 7 ≤ d) (hW : WT N P) (ha0 : p_tp N a0 14) (hf : f_X11_walk n N I L P a0 x1 = some qq) : MT G mX11_walk d 0 0 [.ref a0, .int x1] N I L P (p_R (some (.int qq.1)) N qq.2.1 qq.2.2 P) := by
  refine MT.of rfl (Nat.le_of_ble_eq_true rfl) ?_
  show SW G mX11_walk (p_rm d 0 0) 0 0 0 0 (p_R (some (.int qq.1)) N qq.2.1 qq.2.2 P) 0 [(0, .ref a0), (1, .int x1)] [] N I L P
  unfold f_X11_walk at hf
  refine s_iload_n (pc := 0) dX11_walk_0 1 rfl rfl ?_
  by_cases hc0 : x1 = nI 0
  · replace hf := p_ps hf hc0
    refine s_tableIn (pc := 1) (tgt := 28) (off := 27) dX11_walk_1 (by rw [hc0]; decide) (by rw [hc0]; decide) (by rw [hc0]; rfl) rfl ?_
    refine s_aload_n (pc := 28) dX11_walk_28 0 rfl rfl ?_
    obtain ⟨q21, h22, hf⟩ := p_bd hf
    have t23 : p_tp N q21 10 := WT.get hW ha0 h22
    refine x_getR (pc := 29) dX11_walk_29 fl_X11_10 rfl ha0 h22 ?_
    obtain ⟨q24, h25, hf⟩ := p_bd hf
    have t26 : p_tp N q24 11 := WT.get hW t23 h25
    refine x_getR (pc := 32) dX11_walk_32 fl_X11_186 rfl t23 h25 ?_
    obtain ⟨q27, h28, hf⟩ := p_bd hf
    refine y_callV1 (pc := 35) dX11_walk_35 (c_X8_size (p_dd hd (by decide)) hW t26 h28) mk_X8_size mv_X8_size ml_X11_70 rfl rfl (Nat.le_of_ble_eq_true rfl) t26 rfl (p_d1 hd (by decide)) (Nat.le_of_ble_eq_true rfl) ?_
    cases hf
    exact s_ireturn (pc := 38) dX11_walk_38 rfl rfl ⟨rfl, rfl, rfl, rfl, rfl⟩
  · replace hf := p_ng hf hc0
    by_cases hc1 : x1 = nI 1
    · replace hf := p_ps hf hc1
      refine s_tableIn (pc := 1) (tgt := 39) (off := 38) dX11_walk_1 (by rw [hc1]; decide) (by rw [hc1]; decide) (by rw [hc1]; rfl) rfl ?_
      refine s_aload_n (pc := 39) dX11_walk_39 0 rfl rfl ?_
      obtain ⟨q11, h12, hf⟩ := p_bd hf
      have t13 : p_tp N q11 6 := WT.get hW ha0 h12
      refine x_getR (pc := 40) dX11_walk_40 fl_X11_32 rfl ha0 h12 ?_
      obtain ⟨q14, h15, hf⟩ := p_bd hf
      refine y_callV0 (pc := 43) dX11_walk_43 (c_X3_followWalk (p_dd hd (by decide)) hW t13 h15) mk_X3_followWalk mv_X3_followWalk ml_X11_189 rfl rfl (Nat.le_of_ble_eq_true rfl) t13 rfl (p_d1 hd (by decide)) (Nat.le_of_ble_eq_true rfl) ?_
      refine s_aload_n (pc := 46) dX11_walk_46 0 rfl rfl ?_
      obtain ⟨q16, h17, hf⟩ := p_bd hf
      have t18 : p_tp N q16 6 := WT.get hW ha0 h17
      refine x_getR (pc := 47) dX11_walk_47 fl_X11_32 rfl ha0 h17 ?_
      obtain ⟨q19, h20, hf⟩ := p_bd hf
      refine y_callV1 (pc := 50) dX11_walk_50 (c_X3_changes (p_dd hd (by decide)) hW t18 h20) mk_X3_changes mv_X3_changes ml_X11_195 rfl rfl (Nat.le_of_ble_eq_true rfl) t18 rfl (p_d1 hd (by decide)) (Nat.le_of_ble_eq_true rfl) ?_
      cases hf
      exact s_ireturn (pc := 53) dX11_walk_53 rfl rfl ⟨rfl, rfl, rfl, rfl, rfl⟩
    · replace hf := p_ng hf hc1
      by_cases hc2 : x1 = nI 2
      · replace hf := p_ps hf hc2
        refine s_tableIn (pc := 1) (tgt := 54) (off := 53) dX11_walk_1 (by rw [hc2]; decide) (by rw [hc2]; decide) (by rw [hc2]; rfl) rfl ?_
        refine s_aload_n (pc := 54) dX11_walk_54 0 rfl rfl ?_
        obtain ⟨q1, h2, hf⟩ := p_bd hf
        have t3 : p_tp N q1 6 := WT.get hW ha0 h2
        refine x_getR (pc := 55) dX11_walk_55 fl_X11_32 rfl ha0 h2 ?_
        obtain ⟨q4, h5, hf⟩ := p_bd hf
        refine y_callV0 (pc := 58) dX11_walk_58 (c_X3_followWalk (p_dd hd (by decide)) hW t3 h5) mk_X3_followWalk mv_X3_followWalk ml_X11_189 rfl rfl (Nat.le_of_ble_eq_true rfl) t3 rfl (p_d1 hd (by decide)) (Nat.le_of_ble_eq_true rfl) ?_
        refine s_aload_n (pc := 61) dX11_walk_61 0 rfl rfl ?_
        obtain ⟨q6, h7, hf⟩ := p_bd hf
        have t8 : p_tp N q6 6 := WT.get hW ha0 h7
        refine x_getR (pc := 62) dX11_walk_62 fl_X11_32 rfl ha0 h7 ?_
        obtain ⟨q9, h10, hf⟩ := p_bd hf
        refine y_callV1 (pc := 65) dX11_walk_65 (c_X3_lost (p_dd hd (by decide)) hW t8 h10) mk_X3_lost mv_X3_lost ml_X11_198 rfl rfl (Nat.le_of_ble_eq_true rfl) t8 rfl (p_d1 hd (by decide)) (Nat.le_of_ble_eq_true rfl) ?_
        cases hf
        exact s_ireturn (pc := 68) dX11_walk_68 rfl rfl ⟨rfl, rfl, rfl, rfl, rfl⟩
      · replace hf := p_ng hf hc2
        have hout : x1.toInt < 0 ∨ 2 < x1.toInt := p_out (fun i h1 h2 => by
          have hh : i = 0 ∨ i = 1 ∨ i = 2 := by omega
          rcases hh with rfl | rfl | rfl
          · exact p_ne hc0 rfl
          · exact p_ne hc1 rfl
          · exact p_ne hc2 rfl)
        refine s_tableOut (pc := 1) (tgt := 69) dX11_walk_1 hout rfl ?_
        refine s_iconst (pc := 69) dX11_walk_69 (v := (-1)) rfl ?_
        cases hf
        exact s_ireturn (pc := 70) dX11_walk_70 rfl rfl ⟨rfl, rfl, rfl, rfl, rfl⟩
