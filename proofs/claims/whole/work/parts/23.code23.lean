def f_X3_list (n : Nat) (N : pN) (I : pI) (L : pL) (P : pR) (a0 : Nat) (x1 : Int32) (x2 : Int32) (x3 : Int32) : Option (Int32 × pI × pL) :=
  Option.bind (P a0 0) fun q1 =>
  Option.bind (f_X7_senderStands N I P q1 x1) fun q4 =>
  (if q4 = 0 then
    some (nI 0, I, L)
  else
    Option.bind (f_X11_isPoint x2 x3) fun q6 =>
    (if q6 = 0 then
      some (nI 0, I, L)
    else
      Option.bind (f_X3_keyOf x1 x2 x3) fun q8 =>
      (if (I a0 7) = q8 then
        some (nI 1, I, L)
      else
        Option.bind (P a0 1) fun q10 =>
        Option.bind (P a0 0) fun q13 =>
        Option.bind (P q13 2) fun q16 =>
        Option.bind (f_X2_search n N I L P q10 q16 x1 (nI 3) x2 x3) fun q19 =>
        Option.bind (P a0 1) fun q21 =>
        Option.bind (f_X2_sort n N q19.2.1 P q21) fun q24 =>
        p_let (p_u q24 a0 7 q8) fun I26 =>
        some (nI 1, I26, q19.2.2))))
theorem c_X3_list {G : pG} {d : Nat} {n : Nat} {N : pN} {I : pI} {L : pL} {P : pR} {a0 : Nat} {x1 : Int32} {x2 : Int32} {x3 : Int32} {qq : Int32 × pI × pL} (hd : 4 ≤ d) (hW : WT N P) (ha0 : p_tp N a0 6) (hf : f_X3_list n N I L P a0 x1 x2 x3 = some qq) : MT G mX3_list d 0 0 [.ref a0, .int x1, .int x2, .int x3] N I L P (p_R (some (.int qq.1)) N qq.2.1 qq.2.2 P) := by
  refine MT.of rfl (Nat.le_of_ble_eq_true rfl) ?_
  show SW G mX3_list (p_rm d 0 0) 0 0 0 0 (p_R (some (.int qq.1)) N qq.2.1 qq.2.2 P) 0 [(0, .ref a0), (1, .int x1), (2, .int x2), (3, .int x3)] [] N I L P
  unfold f_X3_list at hf
  refine s_aload_n (pc := 0) dX3_list_0 0 rfl rfl ?_
  obtain ⟨q1, h2, hf⟩ := p_bd hf
  have t3 : p_tp N q1 10 := WT.get hW ha0 h2
  refine x_getR (pc := 1) dX3_list_1 fl_X3_31 rfl ha0 h2 ?_
  refine s_iload_n (pc := 4) dX3_list_4 1 rfl rfl ?_
  obtain ⟨q4, h5, hf⟩ := p_bd hf
  refine y_callV1 (pc := 5) dX3_list_5 (c_X7_senderStands (p_dd hd (by decide)) hW t3 h5) mk_X7_senderStands mv_X7_senderStands ml_X3_39 rfl rfl (Nat.le_of_ble_eq_true rfl) t3 rfl (p_d1 hd (by decide)) (Nat.le_of_ble_eq_true rfl) ?_
  refine s_if_eq (pc := 8) (tgt := 19) dX3_list_8 rfl (fun hc => ?_) (fun hc => ?_)
  · replace hf := p_ps hf hc
    refine s_iconst (pc := 19) dX3_list_19 (v := nI 0) rfl ?_
    cases hf
    exact s_ireturn (pc := 20) dX3_list_20 rfl rfl ⟨rfl, rfl, rfl, rfl, rfl⟩
  · replace hf := p_ng hf hc
    refine s_iload_n (pc := 11) dX3_list_11 2 rfl rfl ?_
    refine s_iload_n (pc := 12) dX3_list_12 3 rfl rfl ?_
    obtain ⟨q6, h7, hf⟩ := p_bd hf
    refine y_callSN1 (pc := 13) dX3_list_13 (c_X11_isPoint (p_dd hd (by decide)) hW  h7) mk_X11_isPoint mz_X11_isPoint (by decide) rfl rfl (Nat.le_of_ble_eq_true rfl) (p_d1 hd (by decide)) (Nat.le_of_ble_eq_true rfl) ?_
    refine s_if_ne (pc := 16) (tgt := 21) dX3_list_16 rfl (fun hc => ?_) (fun hc => ?_)
    · replace hf := p_ng hf hc
      refine s_iload_n (pc := 21) dX3_list_21 1 rfl rfl ?_
      refine s_iload_n (pc := 22) dX3_list_22 2 rfl rfl ?_
      refine s_iload_n (pc := 23) dX3_list_23 3 rfl rfl ?_
      obtain ⟨q8, h9, hf⟩ := p_bd hf
      refine y_callS1 (pc := 24) dX3_list_24 (c_X3_keyOf (p_dd hd (by decide)) hW  h9) mk_X3_keyOf mz_X3_keyOf ml_X3_49 rfl rfl (Nat.le_of_ble_eq_true rfl) (p_d1 hd (by decide)) (Nat.le_of_ble_eq_true rfl) ?_
      refine s_istore (pc := 27) (lo' := [(4, .int q8), (0, .ref a0), (1, .int x1), (2, .int x2), (3, .int x3)]) dX3_list_27 (Nat.le_of_ble_eq_true rfl) rfl ?_
      refine s_aload_n (pc := 29) dX3_list_29 1 rfl rfl ?_
      refine x_getI (pc := 30) dX3_list_30 fl_X3_28 rfl ha0 ?_
      refine s_iload (pc := 33) dX3_list_33 0 rfl ?_
      refine s_icmp_eq (pc := 35) (tgt := 70) dX3_list_35 rfl (fun hc => ?_) (fun hc => ?_)
      · replace hf := p_ps hf hc
        refine s_iconst (pc := 70) dX3_list_70 (v := nI 1) rfl ?_
        cases hf
        exact s_ireturn (pc := 71) dX3_list_71 rfl rfl ⟨rfl, rfl, rfl, rfl, rfl⟩
      · replace hf := p_ng hf hc
        refine s_aload_n (pc := 38) dX3_list_38 1 rfl rfl ?_
        obtain ⟨q10, h11, hf⟩ := p_bd hf
        have t12 : p_tp N q10 5 := WT.get hW ha0 h11
        refine x_getR (pc := 39) dX3_list_39 fl_X3_35 rfl ha0 h11 ?_
        refine s_aload_n (pc := 42) dX3_list_42 1 rfl rfl ?_
        obtain ⟨q13, h14, hf⟩ := p_bd hf
        have t15 : p_tp N q13 10 := WT.get hW ha0 h14
        refine x_getR (pc := 43) dX3_list_43 fl_X3_31 rfl ha0 h14 ?_
        obtain ⟨q16, h17, hf⟩ := p_bd hf
        have t18 : p_tp N q16 11 := WT.get hW t15 h17
        refine x_getR (pc := 46) dX3_list_46 fl_X3_53 rfl t15 h17 ?_
        refine s_iload_n (pc := 49) dX3_list_49 2 rfl rfl ?_
        refine s_iconst (pc := 50) dX3_list_50 (v := nI 3) rfl ?_
        refine s_iload_n (pc := 51) dX3_list_51 3 rfl rfl ?_
        refine s_iload_n (pc := 52) dX3_list_52 4 rfl rfl ?_
        obtain ⟨q19, h20, hf⟩ := p_bd hf
        refine y_callV1 (pc := 53) dX3_list_53 (c_X2_search (p_dd hd (by decide)) hW t12 t18 h20) mk_X2_search mv_X2_search ml_X3_57 rfl rfl (Nat.le_of_ble_eq_true rfl) t12 rfl (p_d1 hd (by decide)) (Nat.le_of_ble_eq_true rfl) ?_
        refine s_pop (pc := 56) dX3_list_56 rfl ?_
        refine s_aload_n (pc := 57) dX3_list_57 1 rfl rfl ?_
        obtain ⟨q21, h22, hf⟩ := p_bd hf
        have t23 : p_tp N q21 5 := WT.get hW ha0 h22
        refine x_getR (pc := 58) dX3_list_58 fl_X3_35 rfl ha0 h22 ?_
        obtain ⟨q24, h25, hf⟩ := p_bd hf
        refine y_callV0 (pc := 61) dX3_list_61 (c_X2_sort (p_dd hd (by decide)) hW t23 h25) mk_X2_sort mv_X2_sort ml_X3_78 rfl rfl (Nat.le_of_ble_eq_true rfl) t23 rfl (p_d1 hd (by decide)) (Nat.le_of_ble_eq_true rfl) ?_
        refine s_aload_n (pc := 64) dX3_list_64 1 rfl rfl ?_
        refine s_iload (pc := 65) dX3_list_65 0 rfl ?_
        refine x_putI (pc := 67) dX3_list_67 fl_X3_28 (Or.inl rfl) rfl ha0 ?_
        refine s_nmI (fun I26 e27 => ?_)
        replace hf := p_lx hf e27
        refine s_iconst (pc := 70) dX3_list_70 (v := nI 1) rfl ?_
        cases hf
        exact s_ireturn (pc := 71) dX3_list_71 rfl rfl ⟨rfl, rfl, rfl, rfl, rfl⟩
    · replace hf := p_ps hf hc
      refine s_iconst (pc := 19) dX3_list_19 (v := nI 0) rfl ?_
      cases hf
      exact s_ireturn (pc := 20) dX3_list_20 rfl rfl ⟨rfl, rfl, rfl, rfl, rfl⟩
def B_X3_listen_2 (n : Nat) (N : pN) (P : pR) (a0 : Nat) (x1 : Int32) (x2 : Int32) (rec0 : (Int32 × pI × pL) → Option (pI × pL)) (s0 : Int32 × pI × pL) : Option (pI × pL) :=
  Option.bind (P a0 4) fun q3 =>
  (if (nI (N.2 q3).2) ≤ s0.1 then
    some (s0.2.1, s0.2.2)
  else
    Option.bind (P a0 4) fun q6 =>
    Option.bind (f_X3_signalAt n N s0.2.1 s0.2.2 P a0 s0.1 x1 x2) fun q9 =>
    p_ck (p_ib N q6 s0.1) <|
    p_let (p_u q9.2.1 q6 (Int32.toNatClampNeg s0.1) (if nI 0 < q9.1 then q9.1 else nI 0)) fun I12 =>
    rec0 (s0.1 + nI 1, I12, q9.2.2))
def f_X3_listen (n : Nat) (N : pN) (I : pI) (L : pL) (P : pR) (a0 : Nat) (x1 : Int32) (x2 : Int32) : Option (pI × pL) :=
  Option.bind (p_it (B_X3_listen_2 n N P a0 x1 x2) n (nI 0, I, L)) fun t1 =>
  some (t1.1, t1.2)
theorem c_X3_listen {G : pG} {d : Nat} {n : Nat} {N : pN} {I : pI} {L : pL} {P : pR} {a0 : Nat} {x1 : Int32} {x2 : Int32} {qq : pI × pL} (hd : 5 ≤ d) (hW : WT N P) (ha0 : p_tp N a0 6) (hf : f_X3_listen n N I L P a0 x1 x2 = some qq) : MT G mX3_listen d 0 0 [.ref a0, .int x1, .int x2] N I L P (p_R none N qq.1 qq.2 P) := by
  refine MT.of rfl (Nat.le_of_ble_eq_true rfl) ?_
  show SW G mX3_listen (p_rm d 0 0) 0 0 0 0 (p_R none N qq.1 qq.2 P) 0 [(0, .ref a0), (1, .int x1), (2, .int x2)] [] N I L P
  unfold f_X3_listen at hf
  refine s_iconst (pc := 0) dX3_listen_0 (v := nI 0) rfl ?_
  refine s_istore_n (pc := 1) (lo' := [(3, .int (nI 0)), (0, .ref a0), (1, .int x1), (2, .int x2)]) dX3_listen_1 rfl (Nat.le_of_ble_eq_true rfl) rfl ?_
  obtain ⟨t1, hg, hf⟩ := p_bd hf
  have k2 : SW G mX3_listen (p_rm d 0 0) 0 0 0 0 (p_R none N qq.1 qq.2 P) 34 [] [] N t1.1 t1.2 P := by
    cases hf
    exact s_return (pc := 34) dX3_listen_34 rfl ⟨rfl, rfl, rfl, rfl, rfl⟩
  replace hf := hg
  have k14 : ∀ (k : Nat) (s0 : Int32 × pI × pL), p_it (B_X3_listen_2 n N P a0 x1 x2) k s0 = some t1 → (SW G mX3_listen (p_rm d 0 0) 0 0 0 0 (p_R none N qq.1 qq.2 P) 2 [(0, .ref a0), (1, .int x1), (2, .int x2), (3, .int s0.1)] [] N s0.2.1 s0.2.2 P) := p_it_ind (C := fun (s0 : Int32 × pI × pL) => SW G mX3_listen (p_rm d 0 0) 0 0 0 0 (p_R none N qq.1 qq.2 P) 2 [(0, .ref a0), (1, .int x1), (2, .int x2), (3, .int s0.1)] [] N s0.2.1 s0.2.2 P) (by
    intro rec0 hrec0 s0 hf
    unfold B_X3_listen_2 at hf
    refine s_iload_n (pc := 2) dX3_listen_2 3 rfl rfl ?_
    refine s_aload_n (pc := 3) dX3_listen_3 0 rfl rfl ?_
    obtain ⟨q15, h16, hf⟩ := p_bd hf
    have t17 : p_tp N q15 0 := WT.get hW ha0 h16
    refine x_getR (pc := 4) dX3_listen_4 fl_X3_18 rfl ha0 h16 ?_
    refine x_alen (pc := 7) dX3_listen_7 t17 (Nat.le_of_ble_eq_true rfl) ?_
    refine s_icmp_ge (pc := 8) (tgt := 34) dX3_listen_8 rfl (fun hc => ?_) (fun hc => ?_)
    · replace hf := p_ps hf hc
      cases hf
      exact s_lo [] rfl (k2)
    · replace hf := p_ng hf hc
      refine s_aload_n (pc := 11) dX3_listen_11 0 rfl rfl ?_
      obtain ⟨q18, h19, hf⟩ := p_bd hf
      have t20 : p_tp N q18 0 := WT.get hW ha0 h19
      refine x_getR (pc := 12) dX3_listen_12 fl_X3_18 rfl ha0 h19 ?_
      refine s_iload_n (pc := 15) dX3_listen_15 3 rfl rfl ?_
      refine s_iconst (pc := 16) dX3_listen_16 (v := nI 0) rfl ?_
      refine s_aload_n (pc := 17) dX3_listen_17 0 rfl rfl ?_
      refine s_iload_n (pc := 18) dX3_listen_18 3 rfl rfl ?_
      refine s_iload_n (pc := 19) dX3_listen_19 1 rfl rfl ?_
      refine s_iload_n (pc := 20) dX3_listen_20 2 rfl rfl ?_
      obtain ⟨q21, h22, hf⟩ := p_bd hf
      refine y_callV1 (pc := 21) dX3_listen_21 (c_X3_signalAt (p_dd hd (by decide)) hW ha0 h22) mk_X3_signalAt mv_X3_signalAt ml_X3_81 rfl rfl (Nat.le_of_ble_eq_true rfl) ha0 rfl (p_d1 hd (by decide)) (Nat.le_of_ble_eq_true rfl) ?_
      refine y_max (pc := 24) dX3_listen_24 ml_X3_84 (p_d1 hd (by decide)) (Nat.le_of_ble_eq_true rfl) ?_
      obtain ⟨c23, hf⟩ := p_ckx hf
      refine x_iast (pc := 27) dX3_listen_27 t20 c23 ?_
      refine s_nmI (fun I24 e25 => ?_)
      replace hf := p_lx hf e25
      refine s_iinc (pc := 28) (lo' := [(3, .int (s0.1 + nI 1)), (0, .ref a0), (1, .int x1), (2, .int x2)]) dX3_listen_28 3 rfl (v := s0.1 + nI 1) rfl (Nat.le_of_ble_eq_true rfl) rfl ?_
      refine s_goto (pc := 31) (tgt := 2) dX3_listen_31 rfl ?_
      exact s_lo [1, 2, 3, 0] rfl (hrec0 (s0.1 + nI 1, I24, q21.2.2) hf))
  exact s_lo [1, 2, 3, 0] rfl (k14 n (nI 0, I, L) hf)
def B_X3_isHeard_50 (N : pN) (I : pI) (P : pR) (x2 : Int32) (a0 : Nat) (x1 : Int32) (rec0 : (Int64 × Int32) → Option Int64) (s0 : Int64 × Int32) : Option Int64 :=
  Option.bind (P a0 4) fun q23 =>
  (if (nI (N.2 q23).2) ≤ s0.2 then
    some s0.1
  else
    Option.bind (α := Int64) ((if s0.2 = x1 then
      some s0.1
    else
      Option.bind (P a0 0) fun q28 =>
      Option.bind (P q28 2) fun q31 =>
      Option.bind (f_X8_get N I P q31 s0.2 (nI 2)) fun q34 =>
      (if q34 = x2 then
        Option.bind (P a0 4) fun q36 =>
        p_ck (p_ib N q36 s0.2) <|
        p_let (s0.1 + (Int32.toInt64 (I q36 (Int32.toNatClampNeg s0.2)))) fun v40 =>
        some v40
      else
        some s0.1))) fun t26 =>
    rec0 (t26, s0.2 + nI 1))
def f_X3_isHeard (n : Nat) (N : pN) (I : pI) (P : pR) (a0 : Nat) (x1 : Int32) : Option Int32 :=
  (if x1 < 0 then
    some (nI 0)
  else
    Option.bind (P a0 4) fun q1 =>
    (if (nI (N.2 q1).2) ≤ x1 then
      some (nI 0)
    else
      Option.bind (P a0 4) fun q4 =>
      p_ck (p_ib N q4 x1) <|
      (if 0 < (I q4 (Int32.toNatClampNeg x1)) then
        Option.bind (P a0 0) fun q8 =>
        Option.bind (P q8 2) fun q11 =>
        Option.bind (f_X8_get N I P q11 x1 (nI 2)) fun q14 =>
        Option.bind (P a0 0) fun q16 =>
        Option.bind (f_X7_setting N I P q16 (nI 2)) fun q19 =>
        Option.bind (p_it (B_X3_isHeard_50 N I P q14 a0 x1) n (Int32.toInt64 q19, nI 0)) fun t21 =>
        Option.bind (P a0 4) fun q62 =>
        p_ck (p_ib N q62 x1) <|
        Option.bind (P a0 0) fun q66 =>
        Option.bind (f_X7_setting N I P q66 (nI 3)) fun q69 =>
        (if ((Int32.toInt64 (I q62 (Int32.toNatClampNeg x1))) * 100) < ((Int32.toInt64 q69) * t21) then
          some (nI 0)
        else
          some (nI 1))
      else
        some (nI 0))))
theorem c_X3_isHeard {G : pG} {d : Nat} {n : Nat} {N : pN} {I : pI} {L : pL} {P : pR} {a0 : Nat} {x1 : Int32} {qq : Int32} (hd : 2 ≤ d) (hW : WT N P) (ha0 : p_tp N a0 6) (hf : f_X3_isHeard n N I P a0 x1 = some qq) : MT G mX3_isHeard d 0 0 [.ref a0, .int x1] N I L P (p_R (some (.int qq)) N I L P) := by
  refine MT.of rfl (Nat.le_of_ble_eq_true rfl) ?_
  show SW G mX3_isHeard (p_rm d 0 0) 0 0 0 0 (p_R (some (.int qq)) N I L P) 0 [(0, .ref a0), (1, .int x1)] [] N I L P
  unfold f_X3_isHeard at hf
  refine s_iload_n (pc := 0) dX3_isHeard_0 1 rfl rfl ?_
  refine s_if_lt (pc := 1) (tgt := 22) dX3_isHeard_1 rfl (fun hc => ?_) (fun hc => ?_)
  · replace hf := p_ps hf hc
    refine s_iconst (pc := 22) dX3_isHeard_22 (v := nI 0) rfl ?_
    cases hf
    exact s_ireturn (pc := 23) dX3_isHeard_23 rfl rfl ⟨rfl, rfl, rfl, rfl, rfl⟩
  · replace hf := p_ng hf hc
    refine s_iload_n (pc := 4) dX3_isHeard_4 1 rfl rfl ?_
    refine s_aload_n (pc := 5) dX3_isHeard_5 0 rfl rfl ?_
    obtain ⟨q1, h2, hf⟩ := p_bd hf
    have t3 : p_tp N q1 0 := WT.get hW ha0 h2
    refine x_getR (pc := 6) dX3_isHeard_6 fl_X3_18 rfl ha0 h2 ?_
    refine x_alen (pc := 9) dX3_isHeard_9 t3 (Nat.le_of_ble_eq_true rfl) ?_
    refine s_icmp_ge (pc := 10) (tgt := 22) dX3_isHeard_10 rfl (fun hc => ?_) (fun hc => ?_)
    · replace hf := p_ps hf hc
      refine s_iconst (pc := 22) dX3_isHeard_22 (v := nI 0) rfl ?_
      cases hf
      exact s_ireturn (pc := 23) dX3_isHeard_23 rfl rfl ⟨rfl, rfl, rfl, rfl, rfl⟩
    · replace hf := p_ng hf hc
      refine s_aload_n (pc := 13) dX3_isHeard_13 0 rfl rfl ?_
      obtain ⟨q4, h5, hf⟩ := p_bd hf
      have t6 : p_tp N q4 0 := WT.get hW ha0 h5
      refine x_getR (pc := 14) dX3_isHeard_14 fl_X3_18 rfl ha0 h5 ?_
      refine s_iload_n (pc := 17) dX3_isHeard_17 1 rfl rfl ?_
      obtain ⟨c7, hf⟩ := p_ckx hf
      refine x_iald (pc := 18) dX3_isHeard_18 t6 c7 ?_
      refine s_if_gt (pc := 19) (tgt := 24) dX3_isHeard_19 rfl (fun hc => ?_) (fun hc => ?_)
      · replace hf := p_ps hf hc
        refine s_aload_n (pc := 24) dX3_isHeard_24 0 rfl rfl ?_
        obtain ⟨q8, h9, hf⟩ := p_bd hf
        have t10 : p_tp N q8 10 := WT.get hW ha0 h9
        refine x_getR (pc := 25) dX3_isHeard_25 fl_X3_31 rfl ha0 h9 ?_
        obtain ⟨q11, h12, hf⟩ := p_bd hf
        have t13 : p_tp N q11 11 := WT.get hW t10 h12
        refine x_getR (pc := 28) dX3_isHeard_28 fl_X3_53 rfl t10 h12 ?_
        refine s_iload_n (pc := 31) dX3_isHeard_31 1 rfl rfl ?_
        refine s_iconst (pc := 32) dX3_isHeard_32 (v := nI 2) rfl ?_
        obtain ⟨q14, h15, hf⟩ := p_bd hf
        refine y_callV1 (pc := 33) dX3_isHeard_33 (c_X8_get (p_dd hd (by decide)) hW t13 h15) mk_X8_get mv_X8_get ml_X3_74 rfl rfl (Nat.le_of_ble_eq_true rfl) t13 rfl (p_d1 hd (by decide)) (Nat.le_of_ble_eq_true rfl) ?_
        refine s_istore_n (pc := 36) (lo' := [(2, .int q14), (0, .ref a0), (1, .int x1)]) dX3_isHeard_36 rfl (Nat.le_of_ble_eq_true rfl) rfl ?_
        refine s_aload_n (pc := 37) dX3_isHeard_37 1 rfl rfl ?_
        obtain ⟨q16, h17, hf⟩ := p_bd hf
        have t18 : p_tp N q16 10 := WT.get hW ha0 h17
        refine x_getR (pc := 38) dX3_isHeard_38 fl_X3_31 rfl ha0 h17 ?_
        refine s_iconst (pc := 41) dX3_isHeard_41 (v := nI 2) rfl ?_
        obtain ⟨q19, h20, hf⟩ := p_bd hf
        refine y_callV1 (pc := 42) dX3_isHeard_42 (c_X7_setting (p_dd hd (by decide)) hW t18 h20) mk_X7_setting mv_X7_setting ml_X3_89 rfl rfl (Nat.le_of_ble_eq_true rfl) t18 rfl (p_d1 hd (by decide)) (Nat.le_of_ble_eq_true rfl) ?_
        refine s_i2l (pc := 45) dX3_isHeard_45 ?_
        refine s_lstore_n (pc := 46) (lo' := [(3, .long (Int32.toInt64 q19)), (2, .int q14), (0, .ref a0), (1, .int x1)]) dX3_isHeard_46 rfl (Nat.le_of_ble_eq_true rfl) rfl ?_
        refine s_iconst (pc := 47) dX3_isHeard_47 (v := nI 0) rfl ?_
        refine s_istore (pc := 48) (lo' := [(5, .int (nI 0)), (3, .long (Int32.toInt64 q19)), (2, .int q14), (0, .ref a0), (1, .int x1)]) dX3_isHeard_48 (Nat.le_of_ble_eq_true rfl) rfl ?_
        obtain ⟨t21, hg, hf⟩ := p_bd hf
        have k22 : SW G mX3_isHeard (p_rm d 0 0) 0 0 0 0 (p_R (some (.int qq)) N I L P) 100 [(0, .ref a0), (1, .int x1), (3, .long t21)] [] N I L P := by
          refine s_aload_n (pc := 100) dX3_isHeard_100 0 rfl rfl ?_
          obtain ⟨q62, h63, hf⟩ := p_bd hf
          have t64 : p_tp N q62 0 := WT.get hW ha0 h63
          refine x_getR (pc := 101) dX3_isHeard_101 fl_X3_18 rfl ha0 h63 ?_
          refine s_iload_n (pc := 104) dX3_isHeard_104 1 rfl rfl ?_
          obtain ⟨c65, hf⟩ := p_ckx hf
          refine x_iald (pc := 105) dX3_isHeard_105 t64 c65 ?_
          refine s_i2l (pc := 106) dX3_isHeard_106 ?_
          refine s_ldc2 (pc := 107) kl_X3_93 dX3_isHeard_107 ?_
          refine s_lmul (pc := 110) dX3_isHeard_110 ?_
          refine s_aload_n (pc := 111) dX3_isHeard_111 0 rfl rfl ?_
          obtain ⟨q66, h67, hf⟩ := p_bd hf
          have t68 : p_tp N q66 10 := WT.get hW ha0 h67
          refine x_getR (pc := 112) dX3_isHeard_112 fl_X3_31 rfl ha0 h67 ?_
          refine s_iconst (pc := 115) dX3_isHeard_115 (v := nI 3) rfl ?_
          obtain ⟨q69, h70, hf⟩ := p_bd hf
          refine y_callV1 (pc := 116) dX3_isHeard_116 (c_X7_setting (p_dd hd (by decide)) hW t68 h70) mk_X7_setting mv_X7_setting ml_X3_89 rfl rfl (Nat.le_of_ble_eq_true rfl) t68 rfl (p_d1 hd (by decide)) (Nat.le_of_ble_eq_true rfl) ?_
          refine s_i2l (pc := 119) dX3_isHeard_119 ?_
          refine s_lload_n (pc := 120) dX3_isHeard_120 2 rfl rfl ?_
          refine s_lmul (pc := 121) dX3_isHeard_121 ?_
          refine x_lcmp_lt (pc := 122) (tgt := 130) dX3_isHeard_122 dX3_isHeard_123 rfl (fun hc => ?_) (fun hc => ?_)
          · replace hf := p_ps hf hc
            refine s_iconst (pc := 130) dX3_isHeard_130 (v := nI 0) rfl ?_
            cases hf
            exact s_ireturn (pc := 131) dX3_isHeard_131 rfl rfl ⟨rfl, rfl, rfl, rfl, rfl⟩
          · replace hf := p_ng hf hc
            refine s_iconst (pc := 126) dX3_isHeard_126 (v := nI 1) rfl ?_
            refine s_goto (pc := 127) (tgt := 131) dX3_isHeard_127 rfl ?_
            cases hf
            exact s_ireturn (pc := 131) dX3_isHeard_131 rfl rfl ⟨rfl, rfl, rfl, rfl, rfl⟩
        replace hf := hg
        have k42 : ∀ (k : Nat) (s0 : Int64 × Int32), p_it (B_X3_isHeard_50 N I P q14 a0 x1) k s0 = some t21 → (SW G mX3_isHeard (p_rm d 0 0) 0 0 0 0 (p_R (some (.int qq)) N I L P) 50 [(2, .int q14), (0, .ref a0), (1, .int x1), (3, .long s0.1), (5, .int s0.2)] [] N I L P) := p_it_ind (C := fun (s0 : Int64 × Int32) => SW G mX3_isHeard (p_rm d 0 0) 0 0 0 0 (p_R (some (.int qq)) N I L P) 50 [(2, .int q14), (0, .ref a0), (1, .int x1), (3, .long s0.1), (5, .int s0.2)] [] N I L P) (by
          intro rec0 hrec0 s0 hf
          unfold B_X3_isHeard_50 at hf
          refine s_iload (pc := 50) dX3_isHeard_50 4 rfl ?_
          refine s_aload_n (pc := 52) dX3_isHeard_52 1 rfl rfl ?_
          obtain ⟨q43, h44, hf⟩ := p_bd hf
          have t45 : p_tp N q43 0 := WT.get hW ha0 h44
          refine x_getR (pc := 53) dX3_isHeard_53 fl_X3_18 rfl ha0 h44 ?_
          refine x_alen (pc := 56) dX3_isHeard_56 t45 (Nat.le_of_ble_eq_true rfl) ?_
          refine s_icmp_ge (pc := 57) (tgt := 100) dX3_isHeard_57 rfl (fun hc => ?_) (fun hc => ?_)
          · replace hf := p_ps hf hc
            cases hf
            exact s_lo [1, 2, 3] rfl (k22)
          · replace hf := p_ng hf hc
            refine s_iload (pc := 60) dX3_isHeard_60 4 rfl ?_
            refine s_iload_n (pc := 62) dX3_isHeard_62 2 rfl rfl ?_
            obtain ⟨t46, hg, hf⟩ := p_bd hf
            have k47 : SW G mX3_isHeard (p_rm d 0 0) 0 0 0 0 (p_R (some (.int qq)) N I L P) 94 [(2, .int q14), (0, .ref a0), (1, .int x1), (5, .int s0.2), (3, .long t46)] [] N I L P := by
              refine s_iinc (pc := 94) (lo' := [(5, .int (s0.2 + nI 1)), (2, .int q14), (0, .ref a0), (1, .int x1), (3, .long t46)]) dX3_isHeard_94 3 rfl (v := s0.2 + nI 1) rfl (Nat.le_of_ble_eq_true rfl) rfl ?_
              refine s_goto (pc := 97) (tgt := 50) dX3_isHeard_97 rfl ?_
              exact s_lo [1, 2, 3, 4, 0] rfl (hrec0 (t46, s0.2 + nI 1) hf)
            replace hf := hg
            refine s_icmp_eq (pc := 63) (tgt := 94) dX3_isHeard_63 rfl (fun hc => ?_) (fun hc => ?_)
            · replace hf := p_ps hf hc
              cases hf
              exact s_lo [0, 1, 2, 4, 3] rfl (k47)
            · replace hf := p_ng hf hc
              refine s_aload_n (pc := 66) dX3_isHeard_66 1 rfl rfl ?_
              obtain ⟨q48, h49, hf⟩ := p_bd hf
              have t50 : p_tp N q48 10 := WT.get hW ha0 h49
              refine x_getR (pc := 67) dX3_isHeard_67 fl_X3_31 rfl ha0 h49 ?_
              obtain ⟨q51, h52, hf⟩ := p_bd hf
              have t53 : p_tp N q51 11 := WT.get hW t50 h52
              refine x_getR (pc := 70) dX3_isHeard_70 fl_X3_53 rfl t50 h52 ?_
              refine s_iload (pc := 73) dX3_isHeard_73 4 rfl ?_
              refine s_iconst (pc := 75) dX3_isHeard_75 (v := nI 2) rfl ?_
              obtain ⟨q54, h55, hf⟩ := p_bd hf
              refine y_callV1 (pc := 76) dX3_isHeard_76 (c_X8_get (p_dd hd (by decide)) hW t53 h55) mk_X8_get mv_X8_get ml_X3_74 rfl rfl (Nat.le_of_ble_eq_true rfl) t53 rfl (p_d1 hd (by decide)) (Nat.le_of_ble_eq_true rfl) ?_
              refine s_iload_n (pc := 79) dX3_isHeard_79 0 rfl rfl ?_
              refine s_icmp_ne (pc := 80) (tgt := 94) dX3_isHeard_80 rfl (fun hc => ?_) (fun hc => ?_)
              · replace hf := p_ng hf hc
                cases hf
                exact s_lo [0, 1, 2, 4, 3] rfl (k47)
              · replace hf := p_ps hf hc
                refine s_lload_n (pc := 83) dX3_isHeard_83 3 rfl rfl ?_
                refine s_aload_n (pc := 84) dX3_isHeard_84 1 rfl rfl ?_
                obtain ⟨q56, h57, hf⟩ := p_bd hf
                have t58 : p_tp N q56 0 := WT.get hW ha0 h57
                refine x_getR (pc := 85) dX3_isHeard_85 fl_X3_18 rfl ha0 h57 ?_
                refine s_iload (pc := 88) dX3_isHeard_88 4 rfl ?_
                obtain ⟨c59, hf⟩ := p_ckx hf
                refine x_iald (pc := 90) dX3_isHeard_90 t58 c59 ?_
                refine s_i2l (pc := 91) dX3_isHeard_91 ?_
                refine s_ladd (pc := 92) dX3_isHeard_92 ?_
                refine s_topl (fun v60 e61 => ?_)
                replace hf := p_lx hf e61
                refine s_lstore_n (pc := 93) (lo' := [(3, .long v60), (2, .int q14), (0, .ref a0), (1, .int x1), (5, .int s0.2)]) dX3_isHeard_93 rfl (Nat.le_of_ble_eq_true rfl) rfl ?_
                cases hf
                exact s_lo [1, 2, 3, 4, 0] rfl (k47))
        exact s_lo [2, 3, 4, 1, 0] rfl (k42 n (Int32.toInt64 q19, nI 0) hf)
      · replace hf := p_ng hf hc
        refine s_iconst (pc := 22) dX3_isHeard_22 (v := nI 0) rfl ?_
        cases hf
        exact s_ireturn (pc := 23) dX3_isHeard_23 rfl rfl ⟨rfl, rfl, rfl, rfl, rfl⟩
def B_X3_heardBits_4 (n : Nat) (N : pN) (I : pI) (P : pR) (a0 : Nat) (rec0 : (Int32 × Int32) → Option Int32) (s0 : Int32 × Int32) : Option Int32 :=
  Option.bind (P a0 4) fun q3 =>
  (if (nI (N.2 q3).2) ≤ s0.2 then
    some s0.1
  else
    Option.bind (f_X3_isHeard n N I P a0 s0.2) fun q6 =>
    p_let (α := Int32) ((if q6 = 0 then
      nI 0
    else
      (nI 1) <<< (s0.2 &&& 31))) fun t8 =>
    rec0 (s0.1 ||| t8, s0.2 + nI 1))
def f_X3_heardBits (n : Nat) (N : pN) (I : pI) (P : pR) (a0 : Nat) : Option Int32 :=
  Option.bind (p_it (B_X3_heardBits_4 n N I P a0) n (nI 0, nI 0)) fun t1 =>
  some t1
theorem c_X3_heardBits {G : pG} {d : Nat} {n : Nat} {N : pN} {I : pI} {L : pL} {P : pR} {a0 : Nat} {qq : Int32} (hd : 3 ≤ d) (hW : WT N P) (ha0 : p_tp N a0 6) (hf : f_X3_heardBits n N I P a0 = some qq) : MT G mX3_heardBits d 0 0 [.ref a0] N I L P (p_R (some (.int qq)) N I L P) := by
  refine MT.of rfl (Nat.le_of_ble_eq_true rfl) ?_
  show SW G mX3_heardBits (p_rm d 0 0) 0 0 0 0 (p_R (some (.int qq)) N I L P) 0 [(0, .ref a0)] [] N I L P
  unfold f_X3_heardBits at hf
  refine s_iconst (pc := 0) dX3_heardBits_0 (v := nI 0) rfl ?_
  refine s_istore_n (pc := 1) (lo' := [(1, .int (nI 0)), (0, .ref a0)]) dX3_heardBits_1 rfl (Nat.le_of_ble_eq_true rfl) rfl ?_
  refine s_iconst (pc := 2) dX3_heardBits_2 (v := nI 0) rfl ?_
  refine s_istore_n (pc := 3) (lo' := [(2, .int (nI 0)), (1, .int (nI 0)), (0, .ref a0)]) dX3_heardBits_3 rfl (Nat.le_of_ble_eq_true rfl) rfl ?_
  obtain ⟨t1, hg, hf⟩ := p_bd hf
  have k2 : SW G mX3_heardBits (p_rm d 0 0) 0 0 0 0 (p_R (some (.int qq)) N I L P) 37 [(1, .int t1)] [] N I L P := by
    refine s_iload_n (pc := 37) dX3_heardBits_37 0 rfl rfl ?_
    cases hf
    exact s_ireturn (pc := 38) dX3_heardBits_38 rfl rfl ⟨rfl, rfl, rfl, rfl, rfl⟩
  replace hf := hg
  have k10 : ∀ (k : Nat) (s0 : Int32 × Int32), p_it (B_X3_heardBits_4 n N I P a0) k s0 = some t1 → (SW G mX3_heardBits (p_rm d 0 0) 0 0 0 0 (p_R (some (.int qq)) N I L P) 4 [(0, .ref a0), (1, .int s0.1), (2, .int s0.2)] [] N I L P) := p_it_ind (C := fun (s0 : Int32 × Int32) => SW G mX3_heardBits (p_rm d 0 0) 0 0 0 0 (p_R (some (.int qq)) N I L P) 4 [(0, .ref a0), (1, .int s0.1), (2, .int s0.2)] [] N I L P) (by
    intro rec0 hrec0 s0 hf
    unfold B_X3_heardBits_4 at hf
    refine s_iload_n (pc := 4) dX3_heardBits_4 2 rfl rfl ?_
    refine s_aload_n (pc := 5) dX3_heardBits_5 0 rfl rfl ?_
    obtain ⟨q11, h12, hf⟩ := p_bd hf
    have t13 : p_tp N q11 0 := WT.get hW ha0 h12
    refine x_getR (pc := 6) dX3_heardBits_6 fl_X3_18 rfl ha0 h12 ?_
    refine x_alen (pc := 9) dX3_heardBits_9 t13 (Nat.le_of_ble_eq_true rfl) ?_
    refine s_icmp_ge (pc := 10) (tgt := 37) dX3_heardBits_10 rfl (fun hc => ?_) (fun hc => ?_)
    · replace hf := p_ps hf hc
      cases hf
      exact s_lo [1] rfl (k2)
    · replace hf := p_ng hf hc
      refine s_iload_n (pc := 13) dX3_heardBits_13 1 rfl rfl ?_
      refine s_aload_n (pc := 14) dX3_heardBits_14 0 rfl rfl ?_
      refine s_iload_n (pc := 15) dX3_heardBits_15 2 rfl rfl ?_
      obtain ⟨q14, h15, hf⟩ := p_bd hf
      refine y_callV1 (pc := 16) dX3_heardBits_16 (c_X3_isHeard (p_dd hd (by decide)) hW ha0 h15) mk_X3_isHeard mv_X3_isHeard ml_X3_95 rfl rfl (Nat.le_of_ble_eq_true rfl) ha0 rfl (p_d1 hd (by decide)) (Nat.le_of_ble_eq_true rfl) ?_
      obtain ⟨t16, hg, hf⟩ := p_lx2 hf
      have k17 : SW G mX3_heardBits (p_rm d 0 0) 0 0 0 0 (p_R (some (.int qq)) N I L P) 29 [(0, .ref a0), (2, .int s0.2)] [.int t16, .int s0.1] N I L P := by
        refine s_ior (pc := 29) dX3_heardBits_29 ?_
        refine s_istore_n (pc := 30) (lo' := [(1, .int (s0.1 ||| t16)), (0, .ref a0), (2, .int s0.2)]) dX3_heardBits_30 rfl (Nat.le_of_ble_eq_true rfl) rfl ?_
        refine s_iinc (pc := 31) (lo' := [(2, .int (s0.2 + nI 1)), (1, .int (s0.1 ||| t16)), (0, .ref a0)]) dX3_heardBits_31 2 rfl (v := s0.2 + nI 1) rfl (Nat.le_of_ble_eq_true rfl) rfl ?_
        refine s_goto (pc := 34) (tgt := 4) dX3_heardBits_34 rfl ?_
        exact s_lo [2, 1, 0] rfl (hrec0 (s0.1 ||| t16, s0.2 + nI 1) hf)
      replace hf := hg.symm
      refine s_if_eq (pc := 19) (tgt := 28) dX3_heardBits_19 rfl (fun hc => ?_) (fun hc => ?_)
      · replace hf := p_ps hf hc
        refine s_iconst (pc := 28) dX3_heardBits_28 (v := nI 0) rfl ?_
        cases hf
        exact s_lo [0, 2] rfl (k17)
      · replace hf := p_ng hf hc
        refine s_iconst (pc := 22) dX3_heardBits_22 (v := nI 1) rfl ?_
        refine s_iload_n (pc := 23) dX3_heardBits_23 2 rfl rfl ?_
        refine s_ishl (pc := 24) dX3_heardBits_24 ?_
        refine s_goto (pc := 25) (tgt := 29) dX3_heardBits_25 rfl ?_
        cases hf
        exact s_lo [0, 2] rfl (k17))
  exact s_lo [2, 1, 0] rfl (k10 n (nI 0, nI 0) hf)
def B_X3_bestHeard_6 (n : Nat) (N : pN) (I : pI) (P : pR) (a0 : Nat) (rec0 : (Int32 × Int32 × Int32) → Option Int32) (s0 : Int32 × Int32 × Int32) : Option Int32 :=
  Option.bind (P a0 4) fun q3 =>
  (if (nI (N.2 q3).2) ≤ s0.2.2 then
    some s0.1
  else
    Option.bind (P a0 4) fun q6 =>
    p_ck (p_ib N q6 s0.2.2) <|
    Option.bind (α := Int32 × Int32) ((if (I q6 (Int32.toNatClampNeg s0.2.2)) ≤ s0.2.1 then
      some (s0.1, s0.2.1)
    else
      Option.bind (f_X3_isHeard n N I P a0 s0.2.2) fun q12 =>
      (if q12 = 0 then
        some (s0.1, s0.2.1)
      else
        Option.bind (P a0 4) fun q14 =>
        p_ck (p_ib N q14 s0.2.2) <|
        p_let (I q14 (Int32.toNatClampNeg s0.2.2)) fun v18 =>
        some (s0.2.2, v18)))) fun t10 =>
    rec0 (t10.1, t10.2, s0.2.2 + nI 1))
def f_X3_bestHeard (n : Nat) (N : pN) (I : pI) (P : pR) (a0 : Nat) : Option Int32 :=
  Option.bind (p_it (B_X3_bestHeard_6 n N I P a0) n ((-1), nI 0, nI 0)) fun t1 =>
  some t1
theorem c_X3_bestHeard {G : pG} {d : Nat} {n : Nat} {N : pN} {I : pI} {L : pL} {P : pR} {a0 : Nat} {qq : Int32} (hd : 3 ≤ d) (hW : WT N P) (ha0 : p_tp N a0 6) (hf : f_X3_bestHeard n N I P a0 = some qq) : MT G mX3_bestHeard d 0 0 [.ref a0] N I L P (p_R (some (.int qq)) N I L P) := by
  refine MT.of rfl (Nat.le_of_ble_eq_true rfl) ?_
  show SW G mX3_bestHeard (p_rm d 0 0) 0 0 0 0 (p_R (some (.int qq)) N I L P) 0 [(0, .ref a0)] [] N I L P
  unfold f_X3_bestHeard at hf
  refine s_iconst (pc := 0) dX3_bestHeard_0 (v := (-1)) rfl ?_
  refine s_istore_n (pc := 1) (lo' := [(1, .int (-1)), (0, .ref a0)]) dX3_bestHeard_1 rfl (Nat.le_of_ble_eq_true rfl) rfl ?_
  refine s_iconst (pc := 2) dX3_bestHeard_2 (v := nI 0) rfl ?_
  refine s_istore_n (pc := 3) (lo' := [(2, .int (nI 0)), (1, .int (-1)), (0, .ref a0)]) dX3_bestHeard_3 rfl (Nat.le_of_ble_eq_true rfl) rfl ?_
  refine s_iconst (pc := 4) dX3_bestHeard_4 (v := nI 0) rfl ?_
  refine s_istore_n (pc := 5) (lo' := [(3, .int (nI 0)), (2, .int (nI 0)), (1, .int (-1)), (0, .ref a0)]) dX3_bestHeard_5 rfl (Nat.le_of_ble_eq_true rfl) rfl ?_
  obtain ⟨t1, hg, hf⟩ := p_bd hf
  have k2 : SW G mX3_bestHeard (p_rm d 0 0) 0 0 0 0 (p_R (some (.int qq)) N I L P) 48 [(1, .int t1)] [] N I L P := by
    refine s_iload_n (pc := 48) dX3_bestHeard_48 0 rfl rfl ?_
    cases hf
    exact s_ireturn (pc := 49) dX3_bestHeard_49 rfl rfl ⟨rfl, rfl, rfl, rfl, rfl⟩
  replace hf := hg
  have k20 : ∀ (k : Nat) (s0 : Int32 × Int32 × Int32), p_it (B_X3_bestHeard_6 n N I P a0) k s0 = some t1 → (SW G mX3_bestHeard (p_rm d 0 0) 0 0 0 0 (p_R (some (.int qq)) N I L P) 6 [(0, .ref a0), (1, .int s0.1), (2, .int s0.2.1), (3, .int s0.2.2)] [] N I L P) := p_it_ind (C := fun (s0 : Int32 × Int32 × Int32) => SW G mX3_bestHeard (p_rm d 0 0) 0 0 0 0 (p_R (some (.int qq)) N I L P) 6 [(0, .ref a0), (1, .int s0.1), (2, .int s0.2.1), (3, .int s0.2.2)] [] N I L P) (by
    intro rec0 hrec0 s0 hf
    unfold B_X3_bestHeard_6 at hf
    refine s_iload_n (pc := 6) dX3_bestHeard_6 3 rfl rfl ?_
    refine s_aload_n (pc := 7) dX3_bestHeard_7 0 rfl rfl ?_
    obtain ⟨q21, h22, hf⟩ := p_bd hf
    have t23 : p_tp N q21 0 := WT.get hW ha0 h22
    refine x_getR (pc := 8) dX3_bestHeard_8 fl_X3_18 rfl ha0 h22 ?_
    refine x_alen (pc := 11) dX3_bestHeard_11 t23 (Nat.le_of_ble_eq_true rfl) ?_
    refine s_icmp_ge (pc := 12) (tgt := 48) dX3_bestHeard_12 rfl (fun hc => ?_) (fun hc => ?_)
    · replace hf := p_ps hf hc
      cases hf
      exact s_lo [1] rfl (k2)
    · replace hf := p_ng hf hc
      refine s_aload_n (pc := 15) dX3_bestHeard_15 0 rfl rfl ?_
      obtain ⟨q24, h25, hf⟩ := p_bd hf
      have t26 : p_tp N q24 0 := WT.get hW ha0 h25
      refine x_getR (pc := 16) dX3_bestHeard_16 fl_X3_18 rfl ha0 h25 ?_
      refine s_iload_n (pc := 19) dX3_bestHeard_19 3 rfl rfl ?_
      obtain ⟨c27, hf⟩ := p_ckx hf
      refine x_iald (pc := 20) dX3_bestHeard_20 t26 c27 ?_
      refine s_iload_n (pc := 21) dX3_bestHeard_21 2 rfl rfl ?_
      obtain ⟨t28, hg, hf⟩ := p_bd hf
      have k29 : SW G mX3_bestHeard (p_rm d 0 0) 0 0 0 0 (p_R (some (.int qq)) N I L P) 42 [(0, .ref a0), (3, .int s0.2.2), (1, .int t28.1), (2, .int t28.2)] [] N I L P := by
        refine s_iinc (pc := 42) (lo' := [(3, .int (s0.2.2 + nI 1)), (0, .ref a0), (1, .int t28.1), (2, .int t28.2)]) dX3_bestHeard_42 1 rfl (v := s0.2.2 + nI 1) rfl (Nat.le_of_ble_eq_true rfl) rfl ?_
        refine s_goto (pc := 45) (tgt := 6) dX3_bestHeard_45 rfl ?_
        exact s_lo [1, 2, 3, 0] rfl (hrec0 (t28.1, t28.2, s0.2.2 + nI 1) hf)
      replace hf := hg
      refine s_icmp_le (pc := 22) (tgt := 42) dX3_bestHeard_22 rfl (fun hc => ?_) (fun hc => ?_)
      · replace hf := p_ps hf hc
        cases hf
        exact s_lo [0, 3, 1, 2] rfl (k29)
      · replace hf := p_ng hf hc
        refine s_aload_n (pc := 25) dX3_bestHeard_25 0 rfl rfl ?_
        refine s_iload_n (pc := 26) dX3_bestHeard_26 3 rfl rfl ?_
        obtain ⟨q30, h31, hf⟩ := p_bd hf
        refine y_callV1 (pc := 27) dX3_bestHeard_27 (c_X3_isHeard (p_dd hd (by decide)) hW ha0 h31) mk_X3_isHeard mv_X3_isHeard ml_X3_95 rfl rfl (Nat.le_of_ble_eq_true rfl) ha0 rfl (p_d1 hd (by decide)) (Nat.le_of_ble_eq_true rfl) ?_
        refine s_if_eq (pc := 30) (tgt := 42) dX3_bestHeard_30 rfl (fun hc => ?_) (fun hc => ?_)
        · replace hf := p_ps hf hc
          cases hf
          exact s_lo [0, 3, 1, 2] rfl (k29)
        · replace hf := p_ng hf hc
          refine s_iload_n (pc := 33) dX3_bestHeard_33 3 rfl rfl ?_
          refine s_istore_n (pc := 34) (lo' := [(1, .int s0.2.2), (0, .ref a0), (2, .int s0.2.1), (3, .int s0.2.2)]) dX3_bestHeard_34 rfl (Nat.le_of_ble_eq_true rfl) rfl ?_
          refine s_aload_n (pc := 35) dX3_bestHeard_35 1 rfl rfl ?_
          obtain ⟨q32, h33, hf⟩ := p_bd hf
          have t34 : p_tp N q32 0 := WT.get hW ha0 h33
          refine x_getR (pc := 36) dX3_bestHeard_36 fl_X3_18 rfl ha0 h33 ?_
          refine s_iload_n (pc := 39) dX3_bestHeard_39 3 rfl rfl ?_
          obtain ⟨c35, hf⟩ := p_ckx hf
          refine x_iald (pc := 40) dX3_bestHeard_40 t34 c35 ?_
          refine s_topi (fun v36 e37 => ?_)
          replace hf := p_lx hf e37
          refine s_istore_n (pc := 41) (lo' := [(2, .int v36), (1, .int s0.2.2), (0, .ref a0), (3, .int s0.2.2)]) dX3_bestHeard_41 rfl (Nat.le_of_ble_eq_true rfl) rfl ?_
          cases hf
          exact s_lo [2, 3, 1, 0] rfl (k29))
  exact s_lo [3, 2, 1, 0] rfl (k20 n ((-1), nI 0, nI 0) hf)
def f_X3_isWish (N : pN) (I : pI) (P : pR) (a0 : Nat) (x1 : Int32) (x2 : Int32) : Option Int32 :=
  (if x1 = x2 then
    some (nI 0)
  else
    (if x1 < 0 then
      some (nI 0)
    else
      Option.bind (P a0 4) fun q1 =>
      (if (nI (N.2 q1).2) ≤ x1 then
        some (nI 0)
      else
        (if x2 < 0 then
          some (nI 0)
        else
          Option.bind (P a0 4) fun q4 =>
          (if x2 < (nI (N.2 q4).2) then
            Option.bind (P a0 4) fun q7 =>
            p_ck (p_ib N q7 x1) <|
            Option.bind (P a0 0) fun q11 =>
            Option.bind (f_X7_setting N I P q11 (nI 5)) fun q14 =>
            Option.bind (P a0 4) fun q16 =>
            p_ck (p_ib N q16 x2) <|
            (if ((Int32.toInt64 (I q7 (Int32.toNatClampNeg x1))) * 100) ≤ ((100 + (Int32.toInt64 q14)) * (Int32.toInt64 (I q16 (Int32.toNatClampNeg x2)))) then
              some (nI 0)
            else
              some (nI 1))
          else
            some (nI 0))))))
theorem c_X3_isWish {G : pG} {d : Nat} {N : pN} {I : pI} {L : pL} {P : pR} {a0 : Nat} {x1 : Int32} {x2 : Int32} {qq : Int32} (hd : 2 ≤ d) (hW : WT N P) (ha0 : p_tp N a0 6) (hf : f_X3_isWish N I P a0 x1 x2 = some qq) : MT G mX3_isWish d 0 0 [.ref a0, .int x1, .int x2] N I L P (p_R (some (.int qq)) N I L P) := by
  refine MT.of rfl (Nat.le_of_ble_eq_true rfl) ?_
  show SW G mX3_isWish (p_rm d 0 0) 0 0 0 0 (p_R (some (.int qq)) N I L P) 0 [(0, .ref a0), (1, .int x1), (2, .int x2)] [] N I L P
  unfold f_X3_isWish at hf
  refine s_iload_n (pc := 0) dX3_isWish_0 1 rfl rfl ?_
  refine s_iload_n (pc := 1) dX3_isWish_1 2 rfl rfl ?_
  refine s_icmp_eq (pc := 2) (tgt := 31) dX3_isWish_2 rfl (fun hc => ?_) (fun hc => ?_)
  · replace hf := p_ps hf hc
    refine s_iconst (pc := 31) dX3_isWish_31 (v := nI 0) rfl ?_
    cases hf
    exact s_ireturn (pc := 32) dX3_isWish_32 rfl rfl ⟨rfl, rfl, rfl, rfl, rfl⟩
  · replace hf := p_ng hf hc
    refine s_iload_n (pc := 5) dX3_isWish_5 1 rfl rfl ?_
    refine s_if_lt (pc := 6) (tgt := 31) dX3_isWish_6 rfl (fun hc => ?_) (fun hc => ?_)
    · replace hf := p_ps hf hc
      refine s_iconst (pc := 31) dX3_isWish_31 (v := nI 0) rfl ?_
      cases hf
      exact s_ireturn (pc := 32) dX3_isWish_32 rfl rfl ⟨rfl, rfl, rfl, rfl, rfl⟩
    · replace hf := p_ng hf hc
      refine s_iload_n (pc := 9) dX3_isWish_9 1 rfl rfl ?_
      refine s_aload_n (pc := 10) dX3_isWish_10 0 rfl rfl ?_
      obtain ⟨q1, h2, hf⟩ := p_bd hf
      have t3 : p_tp N q1 0 := WT.get hW ha0 h2
      refine x_getR (pc := 11) dX3_isWish_11 fl_X3_18 rfl ha0 h2 ?_
      refine x_alen (pc := 14) dX3_isWish_14 t3 (Nat.le_of_ble_eq_true rfl) ?_
      refine s_icmp_ge (pc := 15) (tgt := 31) dX3_isWish_15 rfl (fun hc => ?_) (fun hc => ?_)
      · replace hf := p_ps hf hc
        refine s_iconst (pc := 31) dX3_isWish_31 (v := nI 0) rfl ?_
        cases hf
        exact s_ireturn (pc := 32) dX3_isWish_32 rfl rfl ⟨rfl, rfl, rfl, rfl, rfl⟩
      · replace hf := p_ng hf hc
        refine s_iload_n (pc := 18) dX3_isWish_18 2 rfl rfl ?_
        refine s_if_lt (pc := 19) (tgt := 31) dX3_isWish_19 rfl (fun hc => ?_) (fun hc => ?_)
        · replace hf := p_ps hf hc
          refine s_iconst (pc := 31) dX3_isWish_31 (v := nI 0) rfl ?_
          cases hf
          exact s_ireturn (pc := 32) dX3_isWish_32 rfl rfl ⟨rfl, rfl, rfl, rfl, rfl⟩
        · replace hf := p_ng hf hc
          refine s_iload_n (pc := 22) dX3_isWish_22 2 rfl rfl ?_
          refine s_aload_n (pc := 23) dX3_isWish_23 0 rfl rfl ?_
          obtain ⟨q4, h5, hf⟩ := p_bd hf
          have t6 : p_tp N q4 0 := WT.get hW ha0 h5
          refine x_getR (pc := 24) dX3_isWish_24 fl_X3_18 rfl ha0 h5 ?_
          refine x_alen (pc := 27) dX3_isWish_27 t6 (Nat.le_of_ble_eq_true rfl) ?_
          refine s_icmp_lt (pc := 28) (tgt := 33) dX3_isWish_28 rfl (fun hc => ?_) (fun hc => ?_)
          · replace hf := p_ps hf hc
            refine s_aload_n (pc := 33) dX3_isWish_33 0 rfl rfl ?_
            obtain ⟨q7, h8, hf⟩ := p_bd hf
            have t9 : p_tp N q7 0 := WT.get hW ha0 h8
            refine x_getR (pc := 34) dX3_isWish_34 fl_X3_18 rfl ha0 h8 ?_
            refine s_iload_n (pc := 37) dX3_isWish_37 1 rfl rfl ?_
            obtain ⟨c10, hf⟩ := p_ckx hf
            refine x_iald (pc := 38) dX3_isWish_38 t9 c10 ?_
            refine s_i2l (pc := 39) dX3_isWish_39 ?_
            refine s_ldc2 (pc := 40) kl_X3_93 dX3_isWish_40 ?_
            refine s_lmul (pc := 43) dX3_isWish_43 ?_
            refine s_ldc2 (pc := 44) kl_X3_93 dX3_isWish_44 ?_
            refine s_aload_n (pc := 47) dX3_isWish_47 0 rfl rfl ?_
            obtain ⟨q11, h12, hf⟩ := p_bd hf
            have t13 : p_tp N q11 10 := WT.get hW ha0 h12
            refine x_getR (pc := 48) dX3_isWish_48 fl_X3_31 rfl ha0 h12 ?_
            refine s_iconst (pc := 51) dX3_isWish_51 (v := nI 5) rfl ?_
            obtain ⟨q14, h15, hf⟩ := p_bd hf
            refine y_callV1 (pc := 52) dX3_isWish_52 (c_X7_setting (p_dd hd (by decide)) hW t13 h15) mk_X7_setting mv_X7_setting ml_X3_89 rfl rfl (Nat.le_of_ble_eq_true rfl) t13 rfl (p_d1 hd (by decide)) (Nat.le_of_ble_eq_true rfl) ?_
            refine s_i2l (pc := 55) dX3_isWish_55 ?_
            refine s_ladd (pc := 56) dX3_isWish_56 ?_
            refine s_aload_n (pc := 57) dX3_isWish_57 0 rfl rfl ?_
            obtain ⟨q16, h17, hf⟩ := p_bd hf
            have t18 : p_tp N q16 0 := WT.get hW ha0 h17
            refine x_getR (pc := 58) dX3_isWish_58 fl_X3_18 rfl ha0 h17 ?_
            refine s_iload_n (pc := 61) dX3_isWish_61 2 rfl rfl ?_
            obtain ⟨c19, hf⟩ := p_ckx hf
            refine x_iald (pc := 62) dX3_isWish_62 t18 c19 ?_
            refine s_i2l (pc := 63) dX3_isWish_63 ?_
            refine s_lmul (pc := 64) dX3_isWish_64 ?_
            refine x_lcmp_le (pc := 65) (tgt := 73) dX3_isWish_65 dX3_isWish_66 rfl (fun hc => ?_) (fun hc => ?_)
            · replace hf := p_ps hf hc
              refine s_iconst (pc := 73) dX3_isWish_73 (v := nI 0) rfl ?_
              cases hf
              exact s_ireturn (pc := 74) dX3_isWish_74 rfl rfl ⟨rfl, rfl, rfl, rfl, rfl⟩
            · replace hf := p_ng hf hc
              refine s_iconst (pc := 69) dX3_isWish_69 (v := nI 1) rfl ?_
              refine s_goto (pc := 70) (tgt := 74) dX3_isWish_70 rfl ?_
              cases hf
              exact s_ireturn (pc := 74) dX3_isWish_74 rfl rfl ⟨rfl, rfl, rfl, rfl, rfl⟩
          · replace hf := p_ng hf hc
            refine s_iconst (pc := 31) dX3_isWish_31 (v := nI 0) rfl ?_
            cases hf
            exact s_ireturn (pc := 32) dX3_isWish_32 rfl rfl ⟨rfl, rfl, rfl, rfl, rfl⟩
def B_X3_followWalk_6 (n : Nat) (N : pN) (P : pR) (a0 : Nat) (rec0 : (Int32 × Int32 × Int32 × pI × pL) → Option (pI × pL)) (s0 : Int32 × Int32 × Int32 × pI × pL) : Option (pI × pL) :=
  Option.bind (P a0 0) fun q3 =>
  Option.bind (P q3 8) fun q6 =>
  Option.bind (f_X8_size s0.2.2.2.1 q6) fun q9 =>
  (if q9 ≤ s0.2.2.1 then
    some (s0.2.2.2.1, s0.2.2.2.2)
  else
    Option.bind (P a0 5) fun q11 =>
    (if (nI (N.2 q11).2) ≤ s0.2.2.1 then
      some (s0.2.2.2.1, s0.2.2.2.2)
    else
      Option.bind (P a0 0) fun q14 =>
      Option.bind (P q14 8) fun q17 =>
      Option.bind (f_X8_get N s0.2.2.2.1 P q17 s0.2.2.1 (nI 0)) fun q20 =>
      Option.bind (P a0 0) fun q22 =>
      Option.bind (P q22 8) fun q25 =>
      Option.bind (f_X8_get N s0.2.2.2.1 P q25 s0.2.2.1 (nI 1)) fun q28 =>
      Option.bind (f_X3_listen n N s0.2.2.2.1 s0.2.2.2.2 P a0 q20 q28) fun q30 =>
      Option.bind (f_X3_bestHeard n N q30.1 P a0) fun q32 =>
      Option.bind (α := Int32) ((if s0.1 = (-1) then
        some (nI 0)
      else
        Option.bind (f_X3_isHeard n N q30.1 P a0 s0.1) fun q36 =>
        (if q36 = 0 then
          some (nI 0)
        else
          some (nI 1)))) fun t34 =>
      Option.bind (α := Int32) ((if t34 = 0 then
        some (nI 0)
      else
        Option.bind (f_X3_isWish N q30.1 P a0 q32 s0.1) fun q40 =>
        (if q40 = 0 then
          some (nI 0)
        else
          some (s0.2.1 + (nI 1))))) fun t38 =>
      Option.bind (α := Int32 × Int32) ((if t34 = 0 then
        some (q32, nI 0)
      else
        Option.bind (P a0 0) fun q44 =>
        Option.bind (f_X7_setting N q30.1 P q44 (nI 6)) fun q47 =>
        (if t38 < q47 then
          some (s0.1, t38)
        else
          some (q32, nI 0)))) fun t42 =>
      Option.bind (P a0 5) fun q49 =>
      p_ck (p_ib N q49 s0.2.2.1) <|
      p_let (p_u q30.1 q49 (Int32.toNatClampNeg s0.2.2.1) t42.1) fun I53 =>
      rec0 (t42.1, t42.2, s0.2.2.1 + nI 1, I53, q30.2)))
def f_X3_followWalk (n : Nat) (N : pN) (I : pI) (L : pL) (P : pR) (a0 : Nat) : Option (pI × pL) :=
  Option.bind (p_it (B_X3_followWalk_6 n N P a0) n ((-1), nI 0, nI 0, I, L)) fun t1 =>
  some (t1.1, t1.2)
theorem c_X3_followWalk {G : pG} {d : Nat} {n : Nat} {N : pN} {I : pI} {L : pL} {P : pR} {a0 : Nat} {qq : pI × pL} (hd : 6 ≤ d) (hW : WT N P) (ha0 : p_tp N a0 6) (hf : f_X3_followWalk n N I L P a0 = some qq) : MT G mX3_followWalk d 0 0 [.ref a0] N I L P (p_R none N qq.1 qq.2 P) := by
  refine MT.of rfl (Nat.le_of_ble_eq_true rfl) ?_
  show SW G mX3_followWalk (p_rm d 0 0) 0 0 0 0 (p_R none N qq.1 qq.2 P) 0 [(0, .ref a0)] [] N I L P
  unfold f_X3_followWalk at hf
  refine s_iconst (pc := 0) dX3_followWalk_0 (v := (-1)) rfl ?_
  refine s_istore_n (pc := 1) (lo' := [(1, .int (-1)), (0, .ref a0)]) dX3_followWalk_1 rfl (Nat.le_of_ble_eq_true rfl) rfl ?_
  refine s_iconst (pc := 2) dX3_followWalk_2 (v := nI 0) rfl ?_
  refine s_istore_n (pc := 3) (lo' := [(2, .int (nI 0)), (1, .int (-1)), (0, .ref a0)]) dX3_followWalk_3 rfl (Nat.le_of_ble_eq_true rfl) rfl ?_
  refine s_iconst (pc := 4) dX3_followWalk_4 (v := nI 0) rfl ?_
  refine s_istore_n (pc := 5) (lo' := [(3, .int (nI 0)), (2, .int (nI 0)), (1, .int (-1)), (0, .ref a0)]) dX3_followWalk_5 rfl (Nat.le_of_ble_eq_true rfl) rfl ?_
  obtain ⟨t1, hg, hf⟩ := p_bd hf
  have k2 : SW G mX3_followWalk (p_rm d 0 0) 0 0 0 0 (p_R none N qq.1 qq.2 P) 142 [] [] N t1.1 t1.2 P := by
    cases hf
    exact s_return (pc := 142) dX3_followWalk_142 rfl ⟨rfl, rfl, rfl, rfl, rfl⟩
  replace hf := hg
  have k55 : ∀ (k : Nat) (s0 : Int32 × Int32 × Int32 × pI × pL), p_it (B_X3_followWalk_6 n N P a0) k s0 = some t1 → (SW G mX3_followWalk (p_rm d 0 0) 0 0 0 0 (p_R none N qq.1 qq.2 P) 6 [(0, .ref a0), (1, .int s0.1), (2, .int s0.2.1), (3, .int s0.2.2.1)] [] N s0.2.2.2.1 s0.2.2.2.2 P) := p_it_ind (C := fun (s0 : Int32 × Int32 × Int32 × pI × pL) => SW G mX3_followWalk (p_rm d 0 0) 0 0 0 0 (p_R none N qq.1 qq.2 P) 6 [(0, .ref a0), (1, .int s0.1), (2, .int s0.2.1), (3, .int s0.2.2.1)] [] N s0.2.2.2.1 s0.2.2.2.2 P) (by
    intro rec0 hrec0 s0 hf
    unfold B_X3_followWalk_6 at hf
    refine s_iload_n (pc := 6) dX3_followWalk_6 3 rfl rfl ?_
    refine s_aload_n (pc := 7) dX3_followWalk_7 0 rfl rfl ?_
    obtain ⟨q56, h57, hf⟩ := p_bd hf
    have t58 : p_tp N q56 10 := WT.get hW ha0 h57
    refine x_getR (pc := 8) dX3_followWalk_8 fl_X3_31 rfl ha0 h57 ?_
    obtain ⟨q59, h60, hf⟩ := p_bd hf
    have t61 : p_tp N q59 11 := WT.get hW t58 h60
    refine x_getR (pc := 11) dX3_followWalk_11 fl_X3_98 rfl t58 h60 ?_
    obtain ⟨q62, h63, hf⟩ := p_bd hf
    refine y_callV1 (pc := 14) dX3_followWalk_14 (c_X8_size (p_dd hd (by decide)) hW t61 h63) mk_X8_size mv_X8_size ml_X3_101 rfl rfl (Nat.le_of_ble_eq_true rfl) t61 rfl (p_d1 hd (by decide)) (Nat.le_of_ble_eq_true rfl) ?_
    refine s_icmp_ge (pc := 17) (tgt := 142) dX3_followWalk_17 rfl (fun hc => ?_) (fun hc => ?_)
    · replace hf := p_ps hf hc
      cases hf
      exact s_lo [] rfl (k2)
    · replace hf := p_ng hf hc
      refine s_iload_n (pc := 20) dX3_followWalk_20 3 rfl rfl ?_
      refine s_aload_n (pc := 21) dX3_followWalk_21 0 rfl rfl ?_
      obtain ⟨q64, h65, hf⟩ := p_bd hf
      have t66 : p_tp N q64 0 := WT.get hW ha0 h65
      refine x_getR (pc := 22) dX3_followWalk_22 fl_X3_21 rfl ha0 h65 ?_
      refine x_alen (pc := 25) dX3_followWalk_25 t66 (Nat.le_of_ble_eq_true rfl) ?_
      refine s_icmp_ge (pc := 26) (tgt := 142) dX3_followWalk_26 rfl (fun hc => ?_) (fun hc => ?_)
      · replace hf := p_ps hf hc
        cases hf
        exact s_lo [] rfl (k2)
      · replace hf := p_ng hf hc
        refine s_aload_n (pc := 29) dX3_followWalk_29 0 rfl rfl ?_
        refine s_aload_n (pc := 30) dX3_followWalk_30 0 rfl rfl ?_
        obtain ⟨q67, h68, hf⟩ := p_bd hf
        have t69 : p_tp N q67 10 := WT.get hW ha0 h68
        refine x_getR (pc := 31) dX3_followWalk_31 fl_X3_31 rfl ha0 h68 ?_
        obtain ⟨q70, h71, hf⟩ := p_bd hf
        have t72 : p_tp N q70 11 := WT.get hW t69 h71
        refine x_getR (pc := 34) dX3_followWalk_34 fl_X3_98 rfl t69 h71 ?_
        refine s_iload_n (pc := 37) dX3_followWalk_37 3 rfl rfl ?_
        refine s_iconst (pc := 38) dX3_followWalk_38 (v := nI 0) rfl ?_
        obtain ⟨q73, h74, hf⟩ := p_bd hf
        refine y_callV1 (pc := 39) dX3_followWalk_39 (c_X8_get (p_dd hd (by decide)) hW t72 h74) mk_X8_get mv_X8_get ml_X3_74 rfl rfl (Nat.le_of_ble_eq_true rfl) t72 rfl (p_d1 hd (by decide)) (Nat.le_of_ble_eq_true rfl) ?_
        refine s_aload_n (pc := 42) dX3_followWalk_42 0 rfl rfl ?_
        obtain ⟨q75, h76, hf⟩ := p_bd hf
        have t77 : p_tp N q75 10 := WT.get hW ha0 h76
        refine x_getR (pc := 43) dX3_followWalk_43 fl_X3_31 rfl ha0 h76 ?_
        obtain ⟨q78, h79, hf⟩ := p_bd hf
        have t80 : p_tp N q78 11 := WT.get hW t77 h79
        refine x_getR (pc := 46) dX3_followWalk_46 fl_X3_98 rfl t77 h79 ?_
        refine s_iload_n (pc := 49) dX3_followWalk_49 3 rfl rfl ?_
        refine s_iconst (pc := 50) dX3_followWalk_50 (v := nI 1) rfl ?_
        obtain ⟨q81, h82, hf⟩ := p_bd hf
        refine y_callV1 (pc := 51) dX3_followWalk_51 (c_X8_get (p_dd hd (by decide)) hW t80 h82) mk_X8_get mv_X8_get ml_X3_74 rfl rfl (Nat.le_of_ble_eq_true rfl) t80 rfl (p_d1 hd (by decide)) (Nat.le_of_ble_eq_true rfl) ?_
        obtain ⟨q83, h84, hf⟩ := p_bd hf
        refine y_callV0 (pc := 54) dX3_followWalk_54 (c_X3_listen (p_dd hd (by decide)) hW ha0 h84) mk_X3_listen mv_X3_listen ml_X3_105 rfl rfl (Nat.le_of_ble_eq_true rfl) ha0 rfl (p_d1 hd (by decide)) (Nat.le_of_ble_eq_true rfl) ?_
        refine s_aload_n (pc := 57) dX3_followWalk_57 0 rfl rfl ?_
        obtain ⟨q85, h86, hf⟩ := p_bd hf
        refine y_callV1 (pc := 58) dX3_followWalk_58 (c_X3_bestHeard (p_dd hd (by decide)) hW ha0 h86) mk_X3_bestHeard mv_X3_bestHeard ml_X3_109 rfl rfl (Nat.le_of_ble_eq_true rfl) ha0 rfl (p_d1 hd (by decide)) (Nat.le_of_ble_eq_true rfl) ?_
        refine s_istore (pc := 61) (lo' := [(4, .int q85), (0, .ref a0), (1, .int s0.1), (2, .int s0.2.1), (3, .int s0.2.2.1)]) dX3_followWalk_61 (Nat.le_of_ble_eq_true rfl) rfl ?_
        refine s_iload_n (pc := 63) dX3_followWalk_63 2 rfl rfl ?_
        refine s_iconst (pc := 64) dX3_followWalk_64 (v := (-1)) rfl ?_
        obtain ⟨t87, hg, hf⟩ := p_bd hf
        have k88 : SW G mX3_followWalk (p_rm d 0 0) 0 0 0 0 (p_R none N qq.1 qq.2 P) 81 [(4, .int q85), (0, .ref a0), (1, .int s0.1), (2, .int s0.2.1), (3, .int s0.2.2.1)] [.int t87] N q83.1 q83.2 P := by
          refine s_istore (pc := 81) (lo' := [(5, .int t87), (4, .int q85), (0, .ref a0), (1, .int s0.1), (2, .int s0.2.1), (3, .int s0.2.2.1)]) dX3_followWalk_81 (Nat.le_of_ble_eq_true rfl) rfl ?_
          refine s_iload (pc := 83) dX3_followWalk_83 0 rfl ?_
          obtain ⟨t91, hg, hf⟩ := p_bd hf
          have k92 : SW G mX3_followWalk (p_rm d 0 0) 0 0 0 0 (p_R none N qq.1 qq.2 P) 105 [(5, .int t87), (4, .int q85), (0, .ref a0), (1, .int s0.1), (3, .int s0.2.2.1)] [.int t91] N q83.1 q83.2 P := by
            refine s_istore_n (pc := 105) (lo' := [(2, .int t91), (5, .int t87), (4, .int q85), (0, .ref a0), (1, .int s0.1), (3, .int s0.2.2.1)]) dX3_followWalk_105 rfl (Nat.le_of_ble_eq_true rfl) rfl ?_
            refine s_iload (pc := 106) dX3_followWalk_106 1 rfl ?_
            obtain ⟨t95, hg, hf⟩ := p_bd hf
            have k96 : SW G mX3_followWalk (p_rm d 0 0) 0 0 0 0 (p_R none N qq.1 qq.2 P) 129 [(0, .ref a0), (3, .int s0.2.2.1), (1, .int t95.1), (2, .int t95.2)] [] N q83.1 q83.2 P := by
              refine s_aload_n (pc := 129) dX3_followWalk_129 0 rfl rfl ?_
              obtain ⟨q102, h103, hf⟩ := p_bd hf
              have t104 : p_tp N q102 0 := WT.get hW ha0 h103
              refine x_getR (pc := 130) dX3_followWalk_130 fl_X3_21 rfl ha0 h103 ?_
              refine s_iload_n (pc := 133) dX3_followWalk_133 1 rfl rfl ?_
              refine s_iload_n (pc := 134) dX3_followWalk_134 2 rfl rfl ?_
              obtain ⟨c105, hf⟩ := p_ckx hf
              refine x_iast (pc := 135) dX3_followWalk_135 t104 c105 ?_
              refine s_nmI (fun I106 e107 => ?_)
              replace hf := p_lx hf e107
              refine s_iinc (pc := 136) (lo' := [(3, .int (s0.2.2.1 + nI 1)), (0, .ref a0), (1, .int t95.1), (2, .int t95.2)]) dX3_followWalk_136 1 rfl (v := s0.2.2.1 + nI 1) rfl (Nat.le_of_ble_eq_true rfl) rfl ?_
              refine s_goto (pc := 139) (tgt := 6) dX3_followWalk_139 rfl ?_
              exact s_lo [1, 2, 3, 0] rfl (hrec0 (t95.1, t95.2, s0.2.2.1 + nI 1, I106, q83.2) hf)
            replace hf := hg
            refine s_if_eq (pc := 108) (tgt := 124) dX3_followWalk_108 rfl (fun hc => ?_) (fun hc => ?_)
            · replace hf := p_ps hf hc
              refine s_iload (pc := 124) dX3_followWalk_124 2 rfl ?_
              refine s_istore_n (pc := 126) (lo' := [(1, .int q85), (2, .int t91), (5, .int t87), (4, .int q85), (0, .ref a0), (3, .int s0.2.2.1)]) dX3_followWalk_126 rfl (Nat.le_of_ble_eq_true rfl) rfl ?_
              refine s_iconst (pc := 127) dX3_followWalk_127 (v := nI 0) rfl ?_
              refine s_istore_n (pc := 128) (lo' := [(2, .int (nI 0)), (1, .int q85), (5, .int t87), (4, .int q85), (0, .ref a0), (3, .int s0.2.2.1)]) dX3_followWalk_128 rfl (Nat.le_of_ble_eq_true rfl) rfl ?_
              cases hf
              exact s_lo [4, 5, 1, 0] rfl (k96)
            · replace hf := p_ng hf hc
              refine s_iload_n (pc := 111) dX3_followWalk_111 0 rfl rfl ?_
              refine s_aload_n (pc := 112) dX3_followWalk_112 3 rfl rfl ?_
              obtain ⟨q97, h98, hf⟩ := p_bd hf
              have t99 : p_tp N q97 10 := WT.get hW ha0 h98
              refine x_getR (pc := 113) dX3_followWalk_113 fl_X3_31 rfl ha0 h98 ?_
              refine s_bipush (pc := 116) dX3_followWalk_116 (v := nI 6) rfl ?_
              obtain ⟨q100, h101, hf⟩ := p_bd hf
              refine y_callV1 (pc := 118) dX3_followWalk_118 (c_X7_setting (p_dd hd (by decide)) hW t99 h101) mk_X7_setting mv_X7_setting ml_X3_89 rfl rfl (Nat.le_of_ble_eq_true rfl) t99 rfl (p_d1 hd (by decide)) (Nat.le_of_ble_eq_true rfl) ?_
              refine s_icmp_lt (pc := 121) (tgt := 129) dX3_followWalk_121 rfl (fun hc => ?_) (fun hc => ?_)
              · replace hf := p_ps hf hc
                cases hf
                exact s_lo [3, 5, 4, 0] rfl (k96)
              · replace hf := p_ng hf hc
                refine s_iload (pc := 124) dX3_followWalk_124 2 rfl ?_
                refine s_istore_n (pc := 126) (lo' := [(1, .int q85), (2, .int t91), (5, .int t87), (4, .int q85), (0, .ref a0), (3, .int s0.2.2.1)]) dX3_followWalk_126 rfl (Nat.le_of_ble_eq_true rfl) rfl ?_
                refine s_iconst (pc := 127) dX3_followWalk_127 (v := nI 0) rfl ?_
                refine s_istore_n (pc := 128) (lo' := [(2, .int (nI 0)), (1, .int q85), (5, .int t87), (4, .int q85), (0, .ref a0), (3, .int s0.2.2.1)]) dX3_followWalk_128 rfl (Nat.le_of_ble_eq_true rfl) rfl ?_
                cases hf
                exact s_lo [4, 5, 1, 0] rfl (k96)
          replace hf := hg
          refine s_if_eq (pc := 85) (tgt := 104) dX3_followWalk_85 rfl (fun hc => ?_) (fun hc => ?_)
          · replace hf := p_ps hf hc
            refine s_iconst (pc := 104) dX3_followWalk_104 (v := nI 0) rfl ?_
            cases hf
            exact s_lo [0, 1, 2, 3, 5] rfl (k92)
          · replace hf := p_ng hf hc
            refine s_aload_n (pc := 88) dX3_followWalk_88 2 rfl rfl ?_
            refine s_iload (pc := 89) dX3_followWalk_89 1 rfl ?_
            refine s_iload_n (pc := 91) dX3_followWalk_91 3 rfl rfl ?_
            obtain ⟨q93, h94, hf⟩ := p_bd hf
            refine y_callV1 (pc := 92) dX3_followWalk_92 (c_X3_isWish (p_dd hd (by decide)) hW ha0 h94) mk_X3_isWish mv_X3_isWish ml_X3_112 rfl rfl (Nat.le_of_ble_eq_true rfl) ha0 rfl (p_d1 hd (by decide)) (Nat.le_of_ble_eq_true rfl) ?_
            refine s_if_eq (pc := 95) (tgt := 104) dX3_followWalk_95 rfl (fun hc => ?_) (fun hc => ?_)
            · replace hf := p_ps hf hc
              refine s_iconst (pc := 104) dX3_followWalk_104 (v := nI 0) rfl ?_
              cases hf
              exact s_lo [0, 1, 2, 3, 5] rfl (k92)
            · replace hf := p_ng hf hc
              refine s_iload_n (pc := 98) dX3_followWalk_98 4 rfl rfl ?_
              refine s_iconst (pc := 99) dX3_followWalk_99 (v := nI 1) rfl ?_
              refine s_iadd (pc := 100) dX3_followWalk_100 ?_
              refine s_goto (pc := 101) (tgt := 105) dX3_followWalk_101 rfl ?_
              cases hf
              exact s_lo [0, 1, 2, 3, 5] rfl (k92)
        replace hf := hg
        refine s_icmp_eq (pc := 65) (tgt := 80) dX3_followWalk_65 rfl (fun hc => ?_) (fun hc => ?_)
        · replace hf := p_ps hf hc
          refine s_iconst (pc := 80) dX3_followWalk_80 (v := nI 0) rfl ?_
          cases hf
          exact s_lo [0, 1, 2, 3, 4] rfl (k88)
        · replace hf := p_ng hf hc
          refine s_aload_n (pc := 68) dX3_followWalk_68 1 rfl rfl ?_
          refine s_iload_n (pc := 69) dX3_followWalk_69 2 rfl rfl ?_
          obtain ⟨q89, h90, hf⟩ := p_bd hf
          refine y_callV1 (pc := 70) dX3_followWalk_70 (c_X3_isHeard (p_dd hd (by decide)) hW ha0 h90) mk_X3_isHeard mv_X3_isHeard ml_X3_95 rfl rfl (Nat.le_of_ble_eq_true rfl) ha0 rfl (p_d1 hd (by decide)) (Nat.le_of_ble_eq_true rfl) ?_
          refine s_if_eq (pc := 73) (tgt := 80) dX3_followWalk_73 rfl (fun hc => ?_) (fun hc => ?_)
          · replace hf := p_ps hf hc
            refine s_iconst (pc := 80) dX3_followWalk_80 (v := nI 0) rfl ?_
            cases hf
            exact s_lo [0, 1, 2, 3, 4] rfl (k88)
          · replace hf := p_ng hf hc
            refine s_iconst (pc := 76) dX3_followWalk_76 (v := nI 1) rfl ?_
            refine s_goto (pc := 77) (tgt := 81) dX3_followWalk_77 rfl ?_
            cases hf
            exact s_lo [0, 1, 2, 3, 4] rfl (k88))
  exact s_lo [3, 2, 1, 0] rfl (k55 n ((-1), nI 0, nI 0, I, L) hf)
def f_X3_servedIn (N : pN) (I : pI) (P : pR) (a0 : Nat) (x1 : Int32) : Option Int32 :=
  (if x1 < 0 then
    some (-1)
  else
    Option.bind (P a0 5) fun q1 =>
    (if (nI (N.2 q1).2) ≤ x1 then
      some (-1)
    else
      Option.bind (P a0 5) fun q4 =>
      p_ck (p_ib N q4 x1) <|
      some (I q4 (Int32.toNatClampNeg x1))))
theorem c_X3_servedIn {G : pG} {d : Nat} {N : pN} {I : pI} {L : pL} {P : pR} {a0 : Nat} {x1 : Int32} {qq : Int32} (hd : 0 ≤ d) (hW : WT N P) (ha0 : p_tp N a0 6) (hf : f_X3_servedIn N I P a0 x1 = some qq) : MT G mX3_servedIn d 0 0 [.ref a0, .int x1] N I L P (p_R (some (.int qq)) N I L P) := by
  refine MT.of rfl (Nat.le_of_ble_eq_true rfl) ?_
  show SW G mX3_servedIn (p_rm d 0 0) 0 0 0 0 (p_R (some (.int qq)) N I L P) 0 [(0, .ref a0), (1, .int x1)] [] N I L P
  unfold f_X3_servedIn at hf
  refine s_iload_n (pc := 0) dX3_servedIn_0 1 rfl rfl ?_
  refine s_if_lt (pc := 1) (tgt := 22) dX3_servedIn_1 rfl (fun hc => ?_) (fun hc => ?_)
  · replace hf := p_ps hf hc
    refine s_iconst (pc := 22) dX3_servedIn_22 (v := (-1)) rfl ?_
    cases hf
    exact s_ireturn (pc := 23) dX3_servedIn_23 rfl rfl ⟨rfl, rfl, rfl, rfl, rfl⟩
  · replace hf := p_ng hf hc
    refine s_iload_n (pc := 4) dX3_servedIn_4 1 rfl rfl ?_
    refine s_aload_n (pc := 5) dX3_servedIn_5 0 rfl rfl ?_
    obtain ⟨q1, h2, hf⟩ := p_bd hf
    have t3 : p_tp N q1 0 := WT.get hW ha0 h2
    refine x_getR (pc := 6) dX3_servedIn_6 fl_X3_21 rfl ha0 h2 ?_
    refine x_alen (pc := 9) dX3_servedIn_9 t3 (Nat.le_of_ble_eq_true rfl) ?_
    refine s_icmp_ge (pc := 10) (tgt := 22) dX3_servedIn_10 rfl (fun hc => ?_) (fun hc => ?_)
    · replace hf := p_ps hf hc
      refine s_iconst (pc := 22) dX3_servedIn_22 (v := (-1)) rfl ?_
      cases hf
      exact s_ireturn (pc := 23) dX3_servedIn_23 rfl rfl ⟨rfl, rfl, rfl, rfl, rfl⟩
    · replace hf := p_ng hf hc
      refine s_aload_n (pc := 13) dX3_servedIn_13 0 rfl rfl ?_
      obtain ⟨q4, h5, hf⟩ := p_bd hf
      have t6 : p_tp N q4 0 := WT.get hW ha0 h5
      refine x_getR (pc := 14) dX3_servedIn_14 fl_X3_21 rfl ha0 h5 ?_
      refine s_iload_n (pc := 17) dX3_servedIn_17 1 rfl rfl ?_
      obtain ⟨c7, hf⟩ := p_ckx hf
      refine x_iald (pc := 18) dX3_servedIn_18 t6 c7 ?_
      refine s_goto (pc := 19) (tgt := 23) dX3_servedIn_19 rfl ?_
      cases hf
      exact s_ireturn (pc := 23) dX3_servedIn_23 rfl rfl ⟨rfl, rfl, rfl, rfl, rfl⟩
def B_X3_changes_4 (N : pN) (I : pI) (P : pR) (a0 : Nat) (rec0 : (Int32 × Int32) → Option Int32) (s0 : Int32 × Int32) : Option Int32 :=
  Option.bind (P a0 0) fun q3 =>
  Option.bind (P q3 8) fun q6 =>
  Option.bind (f_X8_size I q6) fun q9 =>
  (if q9 ≤ s0.2 then
    some s0.1
  else
    Option.bind (f_X3_servedIn N I P a0 (s0.2 - (nI 1))) fun q11 =>
    Option.bind (f_X3_servedIn N I P a0 s0.2) fun q13 =>
    p_let (α := Int32) ((if q11 = (-1) then
      nI 0
    else
      (if q13 = (-1) then
        nI 0
      else
        (if q11 = q13 then
          nI 0
        else
          nI 1)))) fun t15 =>
    rec0 (s0.1 + t15, s0.2 + nI 1))
def f_X3_changes (n : Nat) (N : pN) (I : pI) (P : pR) (a0 : Nat) : Option Int32 :=
  Option.bind (p_it (B_X3_changes_4 N I P a0) n (nI 0, nI 1)) fun t1 =>
  some t1
theorem c_X3_changes {G : pG} {d : Nat} {n : Nat} {N : pN} {I : pI} {L : pL} {P : pR} {a0 : Nat} {qq : Int32} (hd : 1 ≤ d) (hW : WT N P) (ha0 : p_tp N a0 6) (hf : f_X3_changes n N I P a0 = some qq) : MT G mX3_changes d 0 0 [.ref a0] N I L P (p_R (some (.int qq)) N I L P) := by
  refine MT.of rfl (Nat.le_of_ble_eq_true rfl) ?_
  show SW G mX3_changes (p_rm d 0 0) 0 0 0 0 (p_R (some (.int qq)) N I L P) 0 [(0, .ref a0)] [] N I L P
  unfold f_X3_changes at hf
  refine s_iconst (pc := 0) dX3_changes_0 (v := nI 0) rfl ?_
  refine s_istore_n (pc := 1) (lo' := [(1, .int (nI 0)), (0, .ref a0)]) dX3_changes_1 rfl (Nat.le_of_ble_eq_true rfl) rfl ?_
  refine s_iconst (pc := 2) dX3_changes_2 (v := nI 1) rfl ?_
  refine s_istore_n (pc := 3) (lo' := [(2, .int (nI 1)), (1, .int (nI 0)), (0, .ref a0)]) dX3_changes_3 rfl (Nat.le_of_ble_eq_true rfl) rfl ?_
  obtain ⟨t1, hg, hf⟩ := p_bd hf
  have k2 : SW G mX3_changes (p_rm d 0 0) 0 0 0 0 (p_R (some (.int qq)) N I L P) 64 [(1, .int t1)] [] N I L P := by
    refine s_iload_n (pc := 64) dX3_changes_64 0 rfl rfl ?_
    cases hf
    exact s_ireturn (pc := 65) dX3_changes_65 rfl rfl ⟨rfl, rfl, rfl, rfl, rfl⟩
  replace hf := hg
  have k17 : ∀ (k : Nat) (s0 : Int32 × Int32), p_it (B_X3_changes_4 N I P a0) k s0 = some t1 → (SW G mX3_changes (p_rm d 0 0) 0 0 0 0 (p_R (some (.int qq)) N I L P) 4 [(0, .ref a0), (1, .int s0.1), (2, .int s0.2)] [] N I L P) := p_it_ind (C := fun (s0 : Int32 × Int32) => SW G mX3_changes (p_rm d 0 0) 0 0 0 0 (p_R (some (.int qq)) N I L P) 4 [(0, .ref a0), (1, .int s0.1), (2, .int s0.2)] [] N I L P) (by
    intro rec0 hrec0 s0 hf
    unfold B_X3_changes_4 at hf
    refine s_iload_n (pc := 4) dX3_changes_4 2 rfl rfl ?_
    refine s_aload_n (pc := 5) dX3_changes_5 0 rfl rfl ?_
    obtain ⟨q18, h19, hf⟩ := p_bd hf
    have t20 : p_tp N q18 10 := WT.get hW ha0 h19
    refine x_getR (pc := 6) dX3_changes_6 fl_X3_31 rfl ha0 h19 ?_
    obtain ⟨q21, h22, hf⟩ := p_bd hf
    have t23 : p_tp N q21 11 := WT.get hW t20 h22
    refine x_getR (pc := 9) dX3_changes_9 fl_X3_98 rfl t20 h22 ?_
    obtain ⟨q24, h25, hf⟩ := p_bd hf
    refine y_callV1 (pc := 12) dX3_changes_12 (c_X8_size (p_dd hd (by decide)) hW t23 h25) mk_X8_size mv_X8_size ml_X3_101 rfl rfl (Nat.le_of_ble_eq_true rfl) t23 rfl (p_d1 hd (by decide)) (Nat.le_of_ble_eq_true rfl) ?_
    refine s_icmp_ge (pc := 15) (tgt := 64) dX3_changes_15 rfl (fun hc => ?_) (fun hc => ?_)
    · replace hf := p_ps hf hc
      cases hf
      exact s_lo [1] rfl (k2)
    · replace hf := p_ng hf hc
      refine s_aload_n (pc := 18) dX3_changes_18 0 rfl rfl ?_
      refine s_iload_n (pc := 19) dX3_changes_19 2 rfl rfl ?_
      refine s_iconst (pc := 20) dX3_changes_20 (v := nI 1) rfl ?_
      refine s_isub (pc := 21) dX3_changes_21 ?_
      obtain ⟨q26, h27, hf⟩ := p_bd hf
      refine y_callV1 (pc := 22) dX3_changes_22 (c_X3_servedIn (p_dd hd (by decide)) hW ha0 h27) mk_X3_servedIn mv_X3_servedIn ml_X3_115 rfl rfl (Nat.le_of_ble_eq_true rfl) ha0 rfl (p_d1 hd (by decide)) (Nat.le_of_ble_eq_true rfl) ?_
      refine s_istore_n (pc := 25) (lo' := [(3, .int q26), (0, .ref a0), (1, .int s0.1), (2, .int s0.2)]) dX3_changes_25 rfl (Nat.le_of_ble_eq_true rfl) rfl ?_
      refine s_aload_n (pc := 26) dX3_changes_26 1 rfl rfl ?_
      refine s_iload_n (pc := 27) dX3_changes_27 3 rfl rfl ?_
      obtain ⟨q28, h29, hf⟩ := p_bd hf
      refine y_callV1 (pc := 28) dX3_changes_28 (c_X3_servedIn (p_dd hd (by decide)) hW ha0 h29) mk_X3_servedIn mv_X3_servedIn ml_X3_115 rfl rfl (Nat.le_of_ble_eq_true rfl) ha0 rfl (p_d1 hd (by decide)) (Nat.le_of_ble_eq_true rfl) ?_
      refine s_istore (pc := 31) (lo' := [(4, .int q28), (3, .int q26), (0, .ref a0), (1, .int s0.1), (2, .int s0.2)]) dX3_changes_31 (Nat.le_of_ble_eq_true rfl) rfl ?_
      refine s_iload_n (pc := 33) dX3_changes_33 3 rfl rfl ?_
      refine s_iload_n (pc := 34) dX3_changes_34 1 rfl rfl ?_
      refine s_iconst (pc := 35) dX3_changes_35 (v := (-1)) rfl ?_
      obtain ⟨t30, hg, hf⟩ := p_lx2 hf
      have k31 : SW G mX3_changes (p_rm d 0 0) 0 0 0 0 (p_R (some (.int qq)) N I L P) 56 [(0, .ref a0), (2, .int s0.2)] [.int t30, .int s0.1] N I L P := by
        refine s_iadd (pc := 56) dX3_changes_56 ?_
        refine s_istore_n (pc := 57) (lo' := [(1, .int (s0.1 + t30)), (0, .ref a0), (2, .int s0.2)]) dX3_changes_57 rfl (Nat.le_of_ble_eq_true rfl) rfl ?_
        refine s_iinc (pc := 58) (lo' := [(2, .int (s0.2 + nI 1)), (1, .int (s0.1 + t30)), (0, .ref a0)]) dX3_changes_58 2 rfl (v := s0.2 + nI 1) rfl (Nat.le_of_ble_eq_true rfl) rfl ?_
        refine s_goto (pc := 61) (tgt := 4) dX3_changes_61 rfl ?_
        exact s_lo [2, 1, 0] rfl (hrec0 (s0.1 + t30, s0.2 + nI 1) hf)
      replace hf := hg.symm
      refine s_icmp_eq (pc := 36) (tgt := 55) dX3_changes_36 rfl (fun hc => ?_) (fun hc => ?_)
      · replace hf := p_ps hf hc
        refine s_iconst (pc := 55) dX3_changes_55 (v := nI 0) rfl ?_
        cases hf
        exact s_lo [2, 4] rfl (k31)
      · replace hf := p_ng hf hc
        refine s_iload (pc := 39) dX3_changes_39 0 rfl ?_
        refine s_iconst (pc := 41) dX3_changes_41 (v := (-1)) rfl ?_
        refine s_icmp_eq (pc := 42) (tgt := 55) dX3_changes_42 rfl (fun hc => ?_) (fun hc => ?_)
        · replace hf := p_ps hf hc
          refine s_iconst (pc := 55) dX3_changes_55 (v := nI 0) rfl ?_
          cases hf
          exact s_lo [2, 4] rfl (k31)
        · replace hf := p_ng hf hc
          refine s_iload_n (pc := 45) dX3_changes_45 1 rfl rfl ?_
          refine s_iload (pc := 46) dX3_changes_46 0 rfl ?_
          refine s_icmp_eq (pc := 48) (tgt := 55) dX3_changes_48 rfl (fun hc => ?_) (fun hc => ?_)
          · replace hf := p_ps hf hc
            refine s_iconst (pc := 55) dX3_changes_55 (v := nI 0) rfl ?_
            cases hf
            exact s_lo [2, 4] rfl (k31)
          · replace hf := p_ng hf hc
            refine s_iconst (pc := 51) dX3_changes_51 (v := nI 1) rfl ?_
            refine s_goto (pc := 52) (tgt := 56) dX3_changes_52 rfl ?_
            cases hf
            exact s_lo [2, 4] rfl (k31))
  exact s_lo [2, 1, 0] rfl (k17 n (nI 0, nI 1) hf)
def B_X3_lost_4 (N : pN) (I : pI) (P : pR) (a0 : Nat) (rec0 : (Int32 × Int32) → Option Int32) (s0 : Int32 × Int32) : Option Int32 :=
  Option.bind (P a0 0) fun q3 =>
  Option.bind (P q3 8) fun q6 =>
  Option.bind (f_X8_size I q6) fun q9 =>
  (if q9 ≤ s0.2 then
    some s0.1
  else
    Option.bind (f_X3_servedIn N I P a0 s0.2) fun q11 =>
    p_let (α := Int32) ((if q11 = (-1) then
      nI 1
    else
      nI 0)) fun t13 =>
    rec0 (s0.1 + t13, s0.2 + nI 1))
def f_X3_lost (n : Nat) (N : pN) (I : pI) (P : pR) (a0 : Nat) : Option Int32 :=
  Option.bind (p_it (B_X3_lost_4 N I P a0) n (nI 0, nI 0)) fun t1 =>
  some t1
theorem c_X3_lost {G : pG} {d : Nat} {n : Nat} {N : pN} {I : pI} {L : pL} {P : pR} {a0 : Nat} {qq : Int32} (hd : 1 ≤ d) (hW : WT N P) (ha0 : p_tp N a0 6) (hf : f_X3_lost n N I P a0 = some qq) : MT G mX3_lost d 0 0 [.ref a0] N I L P (p_R (some (.int qq)) N I L P) := by
  refine MT.of rfl (Nat.le_of_ble_eq_true rfl) ?_
  show SW G mX3_lost (p_rm d 0 0) 0 0 0 0 (p_R (some (.int qq)) N I L P) 0 [(0, .ref a0)] [] N I L P
  unfold f_X3_lost at hf
  refine s_iconst (pc := 0) dX3_lost_0 (v := nI 0) rfl ?_
  refine s_istore_n (pc := 1) (lo' := [(1, .int (nI 0)), (0, .ref a0)]) dX3_lost_1 rfl (Nat.le_of_ble_eq_true rfl) rfl ?_
  refine s_iconst (pc := 2) dX3_lost_2 (v := nI 0) rfl ?_
  refine s_istore_n (pc := 3) (lo' := [(2, .int (nI 0)), (1, .int (nI 0)), (0, .ref a0)]) dX3_lost_3 rfl (Nat.le_of_ble_eq_true rfl) rfl ?_
  obtain ⟨t1, hg, hf⟩ := p_bd hf
  have k2 : SW G mX3_lost (p_rm d 0 0) 0 0 0 0 (p_R (some (.int qq)) N I L P) 41 [(1, .int t1)] [] N I L P := by
    refine s_iload_n (pc := 41) dX3_lost_41 0 rfl rfl ?_
    cases hf
    exact s_ireturn (pc := 42) dX3_lost_42 rfl rfl ⟨rfl, rfl, rfl, rfl, rfl⟩
  replace hf := hg
  have k15 : ∀ (k : Nat) (s0 : Int32 × Int32), p_it (B_X3_lost_4 N I P a0) k s0 = some t1 → (SW G mX3_lost (p_rm d 0 0) 0 0 0 0 (p_R (some (.int qq)) N I L P) 4 [(0, .ref a0), (1, .int s0.1), (2, .int s0.2)] [] N I L P) := p_it_ind (C := fun (s0 : Int32 × Int32) => SW G mX3_lost (p_rm d 0 0) 0 0 0 0 (p_R (some (.int qq)) N I L P) 4 [(0, .ref a0), (1, .int s0.1), (2, .int s0.2)] [] N I L P) (by
    intro rec0 hrec0 s0 hf
    unfold B_X3_lost_4 at hf
    refine s_iload_n (pc := 4) dX3_lost_4 2 rfl rfl ?_
    refine s_aload_n (pc := 5) dX3_lost_5 0 rfl rfl ?_
    obtain ⟨q16, h17, hf⟩ := p_bd hf
    have t18 : p_tp N q16 10 := WT.get hW ha0 h17
    refine x_getR (pc := 6) dX3_lost_6 fl_X3_31 rfl ha0 h17 ?_
    obtain ⟨q19, h20, hf⟩ := p_bd hf
    have t21 : p_tp N q19 11 := WT.get hW t18 h20
    refine x_getR (pc := 9) dX3_lost_9 fl_X3_98 rfl t18 h20 ?_
    obtain ⟨q22, h23, hf⟩ := p_bd hf
    refine y_callV1 (pc := 12) dX3_lost_12 (c_X8_size (p_dd hd (by decide)) hW t21 h23) mk_X8_size mv_X8_size ml_X3_101 rfl rfl (Nat.le_of_ble_eq_true rfl) t21 rfl (p_d1 hd (by decide)) (Nat.le_of_ble_eq_true rfl) ?_
    refine s_icmp_ge (pc := 15) (tgt := 41) dX3_lost_15 rfl (fun hc => ?_) (fun hc => ?_)
    · replace hf := p_ps hf hc
      cases hf
      exact s_lo [1] rfl (k2)
    · replace hf := p_ng hf hc
      refine s_iload_n (pc := 18) dX3_lost_18 1 rfl rfl ?_
      refine s_aload_n (pc := 19) dX3_lost_19 0 rfl rfl ?_
      refine s_iload_n (pc := 20) dX3_lost_20 2 rfl rfl ?_
      obtain ⟨q24, h25, hf⟩ := p_bd hf
      refine y_callV1 (pc := 21) dX3_lost_21 (c_X3_servedIn (p_dd hd (by decide)) hW ha0 h25) mk_X3_servedIn mv_X3_servedIn ml_X3_115 rfl rfl (Nat.le_of_ble_eq_true rfl) ha0 rfl (p_d1 hd (by decide)) (Nat.le_of_ble_eq_true rfl) ?_
      refine s_iconst (pc := 24) dX3_lost_24 (v := (-1)) rfl ?_
      obtain ⟨t26, hg, hf⟩ := p_lx2 hf
      have k27 : SW G mX3_lost (p_rm d 0 0) 0 0 0 0 (p_R (some (.int qq)) N I L P) 33 [(0, .ref a0), (2, .int s0.2)] [.int t26, .int s0.1] N I L P := by
        refine s_iadd (pc := 33) dX3_lost_33 ?_
        refine s_istore_n (pc := 34) (lo' := [(1, .int (s0.1 + t26)), (0, .ref a0), (2, .int s0.2)]) dX3_lost_34 rfl (Nat.le_of_ble_eq_true rfl) rfl ?_
        refine s_iinc (pc := 35) (lo' := [(2, .int (s0.2 + nI 1)), (1, .int (s0.1 + t26)), (0, .ref a0)]) dX3_lost_35 2 rfl (v := s0.2 + nI 1) rfl (Nat.le_of_ble_eq_true rfl) rfl ?_
        refine s_goto (pc := 38) (tgt := 4) dX3_lost_38 rfl ?_
        exact s_lo [2, 1, 0] rfl (hrec0 (s0.1 + t26, s0.2 + nI 1) hf)
      replace hf := hg.symm
      refine s_icmp_ne (pc := 25) (tgt := 32) dX3_lost_25 rfl (fun hc => ?_) (fun hc => ?_)
      · replace hf := p_ng hf hc
        refine s_iconst (pc := 32) dX3_lost_32 (v := nI 0) rfl ?_
        cases hf
        exact s_lo [0, 2] rfl (k27)
      · replace hf := p_ps hf hc
        refine s_iconst (pc := 28) dX3_lost_28 (v := nI 1) rfl ?_
        refine s_goto (pc := 29) (tgt := 33) dX3_lost_29 rfl ?_
        cases hf
        exact s_lo [0, 2] rfl (k27))
  exact s_lo [2, 1, 0] rfl (k15 n (nI 0, nI 0) hf)
def B_X3_fits_2 (n : Nat) (N : pN) (P : pR) (a0 : Nat) (x1 : Int32) (x2 : Int32) (rec0 : (Int32 × pI × pL) → Option (Int32 × pI × pL)) (s0 : Int32 × pI × pL) : Option (Int32 × pI × pL) :=
  Option.bind (P a0 0) fun q1 =>
  Option.bind (P q1 2) fun q4 =>
  Option.bind (f_X8_size s0.2.1 q4) fun q7 =>
  (if q7 ≤ s0.1 then
    some (nI 1, s0.2.1, s0.2.2)
  else
    Option.bind (P a0 0) fun q9 =>
    Option.bind (P q9 2) fun q12 =>
    Option.bind (f_X8_get N s0.2.1 P q12 s0.1 (nI 6)) fun q15 =>
    (if q15 = (-1) then
      rec0 (s0.1 + nI 1, s0.2.1, s0.2.2)
    else
      Option.bind (P a0 0) fun q17 =>
      Option.bind (f_X7_senderStands N s0.2.1 P q17 s0.1) fun q20 =>
      (if q20 = 0 then
        rec0 (s0.1 + nI 1, s0.2.1, s0.2.2)
      else
        Option.bind (f_X3_signalAt n N s0.2.1 s0.2.2 P a0 s0.1 x1 x2) fun q22 =>
        (if q22.1 < q15 then
          some (nI 0, q22.2.1, q22.2.2)
        else
          Option.bind (P a0 0) fun q24 =>
          Option.bind (P q24 2) fun q27 =>
          Option.bind (f_X8_get N q22.2.1 P q27 s0.1 (nI 7)) fun q30 =>
          (if q22.1 ≤ q30 then
            rec0 (s0.1 + nI 1, q22.2.1, q22.2.2)
          else
            some (nI 0, q22.2.1, q22.2.2))))))
def f_X3_fits (n : Nat) (N : pN) (I : pI) (L : pL) (P : pR) (a0 : Nat) (x1 : Int32) (x2 : Int32) : Option (Int32 × pI × pL) :=
  p_it (B_X3_fits_2 n N P a0 x1 x2) n (nI 0, I, L)
theorem c_X3_fits {G : pG} {d : Nat} {n : Nat} {N : pN} {I : pI} {L : pL} {P : pR} {a0 : Nat} {x1 : Int32} {x2 : Int32} {qq : Int32 × pI × pL} (hd : 5 ≤ d) (hW : WT N P) (ha0 : p_tp N a0 6) (hf : f_X3_fits n N I L P a0 x1 x2 = some qq) : MT G mX3_fits d 0 0 [.ref a0, .int x1, .int x2] N I L P (p_R (some (.int qq.1)) N qq.2.1 qq.2.2 P) := by
  refine MT.of rfl (Nat.le_of_ble_eq_true rfl) ?_
  show SW G mX3_fits (p_rm d 0 0) 0 0 0 0 (p_R (some (.int qq.1)) N qq.2.1 qq.2.2 P) 0 [(0, .ref a0), (1, .int x1), (2, .int x2)] [] N I L P
  unfold f_X3_fits at hf
  refine s_iconst (pc := 0) dX3_fits_0 (v := nI 0) rfl ?_
  refine s_istore_n (pc := 1) (lo' := [(3, .int (nI 0)), (0, .ref a0), (1, .int x1), (2, .int x2)]) dX3_fits_1 rfl (Nat.le_of_ble_eq_true rfl) rfl ?_
  have k32 : ∀ (k : Nat) (s0 : Int32 × pI × pL), p_it (B_X3_fits_2 n N P a0 x1 x2) k s0 = some qq → (SW G mX3_fits (p_rm d 0 0) 0 0 0 0 (p_R (some (.int qq.1)) N qq.2.1 qq.2.2 P) 2 [(0, .ref a0), (1, .int x1), (2, .int x2), (3, .int s0.1)] [] N s0.2.1 s0.2.2 P) := p_it_ind (C := fun (s0 : Int32 × pI × pL) => SW G mX3_fits (p_rm d 0 0) 0 0 0 0 (p_R (some (.int qq.1)) N qq.2.1 qq.2.2 P) 2 [(0, .ref a0), (1, .int x1), (2, .int x2), (3, .int s0.1)] [] N s0.2.1 s0.2.2 P) (by
    intro rec0 hrec0 s0 hf
    unfold B_X3_fits_2 at hf
    refine s_iload_n (pc := 2) dX3_fits_2 3 rfl rfl ?_
    refine s_aload_n (pc := 3) dX3_fits_3 0 rfl rfl ?_
    obtain ⟨q33, h34, hf⟩ := p_bd hf
    have t35 : p_tp N q33 10 := WT.get hW ha0 h34
    refine x_getR (pc := 4) dX3_fits_4 fl_X3_31 rfl ha0 h34 ?_
    obtain ⟨q36, h37, hf⟩ := p_bd hf
    have t38 : p_tp N q36 11 := WT.get hW t35 h37
    refine x_getR (pc := 7) dX3_fits_7 fl_X3_53 rfl t35 h37 ?_
    obtain ⟨q39, h40, hf⟩ := p_bd hf
    refine y_callV1 (pc := 10) dX3_fits_10 (c_X8_size (p_dd hd (by decide)) hW t38 h40) mk_X8_size mv_X8_size ml_X3_101 rfl rfl (Nat.le_of_ble_eq_true rfl) t38 rfl (p_d1 hd (by decide)) (Nat.le_of_ble_eq_true rfl) ?_
    refine s_icmp_ge (pc := 13) (tgt := 93) dX3_fits_13 rfl (fun hc => ?_) (fun hc => ?_)
    · replace hf := p_ps hf hc
      refine s_iconst (pc := 93) dX3_fits_93 (v := nI 1) rfl ?_
      cases hf
      exact s_ireturn (pc := 94) dX3_fits_94 rfl rfl ⟨rfl, rfl, rfl, rfl, rfl⟩
    · replace hf := p_ng hf hc
      refine s_aload_n (pc := 16) dX3_fits_16 0 rfl rfl ?_
      obtain ⟨q41, h42, hf⟩ := p_bd hf
      have t43 : p_tp N q41 10 := WT.get hW ha0 h42
      refine x_getR (pc := 17) dX3_fits_17 fl_X3_31 rfl ha0 h42 ?_
      obtain ⟨q44, h45, hf⟩ := p_bd hf
      have t46 : p_tp N q44 11 := WT.get hW t43 h45
      refine x_getR (pc := 20) dX3_fits_20 fl_X3_53 rfl t43 h45 ?_
      refine s_iload_n (pc := 23) dX3_fits_23 3 rfl rfl ?_
      refine s_bipush (pc := 24) dX3_fits_24 (v := nI 6) rfl ?_
      obtain ⟨q47, h48, hf⟩ := p_bd hf
      refine y_callV1 (pc := 26) dX3_fits_26 (c_X8_get (p_dd hd (by decide)) hW t46 h48) mk_X8_get mv_X8_get ml_X3_74 rfl rfl (Nat.le_of_ble_eq_true rfl) t46 rfl (p_d1 hd (by decide)) (Nat.le_of_ble_eq_true rfl) ?_
      refine s_istore (pc := 29) (lo' := [(4, .int q47), (0, .ref a0), (1, .int x1), (2, .int x2), (3, .int s0.1)]) dX3_fits_29 (Nat.le_of_ble_eq_true rfl) rfl ?_
      refine s_iload (pc := 31) dX3_fits_31 0 rfl ?_
      refine s_iconst (pc := 33) dX3_fits_33 (v := (-1)) rfl ?_
      refine s_icmp_eq (pc := 34) (tgt := 87) dX3_fits_34 rfl (fun hc => ?_) (fun hc => ?_)
      · replace hf := p_ps hf hc
        refine s_iinc (pc := 87) (lo' := [(3, .int (s0.1 + nI 1)), (4, .int q47), (0, .ref a0), (1, .int x1), (2, .int x2)]) dX3_fits_87 4 rfl (v := s0.1 + nI 1) rfl (Nat.le_of_ble_eq_true rfl) rfl ?_
        refine s_goto (pc := 90) (tgt := 2) dX3_fits_90 rfl ?_
        exact s_lo [2, 3, 4, 0] rfl (hrec0 (s0.1 + nI 1, s0.2.1, s0.2.2) hf)
      · replace hf := p_ng hf hc
        refine s_aload_n (pc := 37) dX3_fits_37 1 rfl rfl ?_
        obtain ⟨q49, h50, hf⟩ := p_bd hf
        have t51 : p_tp N q49 10 := WT.get hW ha0 h50
        refine x_getR (pc := 38) dX3_fits_38 fl_X3_31 rfl ha0 h50 ?_
        refine s_iload_n (pc := 41) dX3_fits_41 4 rfl rfl ?_
        obtain ⟨q52, h53, hf⟩ := p_bd hf
        refine y_callV1 (pc := 42) dX3_fits_42 (c_X7_senderStands (p_dd hd (by decide)) hW t51 h53) mk_X7_senderStands mv_X7_senderStands ml_X3_39 rfl rfl (Nat.le_of_ble_eq_true rfl) t51 rfl (p_d1 hd (by decide)) (Nat.le_of_ble_eq_true rfl) ?_
        refine s_if_ne (pc := 45) (tgt := 51) dX3_fits_45 rfl (fun hc => ?_) (fun hc => ?_)
        · replace hf := p_ng hf hc
          refine s_aload_n (pc := 51) dX3_fits_51 1 rfl rfl ?_
          refine s_iload_n (pc := 52) dX3_fits_52 4 rfl rfl ?_
          refine s_iload_n (pc := 53) dX3_fits_53 2 rfl rfl ?_
          refine s_iload_n (pc := 54) dX3_fits_54 3 rfl rfl ?_
          obtain ⟨q54, h55, hf⟩ := p_bd hf
          refine y_callV1 (pc := 55) dX3_fits_55 (c_X3_signalAt (p_dd hd (by decide)) hW ha0 h55) mk_X3_signalAt mv_X3_signalAt ml_X3_81 rfl rfl (Nat.le_of_ble_eq_true rfl) ha0 rfl (p_d1 hd (by decide)) (Nat.le_of_ble_eq_true rfl) ?_
          refine s_istore (pc := 58) (lo' := [(5, .int q54.1), (4, .int q47), (0, .ref a0), (1, .int x1), (2, .int x2), (3, .int s0.1)]) dX3_fits_58 (Nat.le_of_ble_eq_true rfl) rfl ?_
          refine s_iload (pc := 60) dX3_fits_60 0 rfl ?_
          refine s_iload (pc := 62) dX3_fits_62 1 rfl ?_
          refine s_icmp_lt (pc := 64) (tgt := 85) dX3_fits_64 rfl (fun hc => ?_) (fun hc => ?_)
          · replace hf := p_ps hf hc
            refine s_iconst (pc := 85) dX3_fits_85 (v := nI 0) rfl ?_
            cases hf
            exact s_ireturn (pc := 86) dX3_fits_86 rfl rfl ⟨rfl, rfl, rfl, rfl, rfl⟩
          · replace hf := p_ng hf hc
            refine s_iload (pc := 67) dX3_fits_67 0 rfl ?_
            refine s_aload_n (pc := 69) dX3_fits_69 2 rfl rfl ?_
            obtain ⟨q56, h57, hf⟩ := p_bd hf
            have t58 : p_tp N q56 10 := WT.get hW ha0 h57
            refine x_getR (pc := 70) dX3_fits_70 fl_X3_31 rfl ha0 h57 ?_
            obtain ⟨q59, h60, hf⟩ := p_bd hf
            have t61 : p_tp N q59 11 := WT.get hW t58 h60
            refine x_getR (pc := 73) dX3_fits_73 fl_X3_53 rfl t58 h60 ?_
            refine s_iload_n (pc := 76) dX3_fits_76 5 rfl rfl ?_
            refine s_bipush (pc := 77) dX3_fits_77 (v := nI 7) rfl ?_
            obtain ⟨q62, h63, hf⟩ := p_bd hf
            refine y_callV1 (pc := 79) dX3_fits_79 (c_X8_get (p_dd hd (by decide)) hW t61 h63) mk_X8_get mv_X8_get ml_X3_74 rfl rfl (Nat.le_of_ble_eq_true rfl) t61 rfl (p_d1 hd (by decide)) (Nat.le_of_ble_eq_true rfl) ?_
            refine s_icmp_le (pc := 82) (tgt := 87) dX3_fits_82 rfl (fun hc => ?_) (fun hc => ?_)
            · replace hf := p_ps hf hc
              refine s_iinc (pc := 87) (lo' := [(3, .int (s0.1 + nI 1)), (5, .int q54.1), (4, .int q47), (0, .ref a0), (1, .int x1), (2, .int x2)]) dX3_fits_87 5 rfl (v := s0.1 + nI 1) rfl (Nat.le_of_ble_eq_true rfl) rfl ?_
              refine s_goto (pc := 90) (tgt := 2) dX3_fits_90 rfl ?_
              exact s_lo [3, 4, 5, 0] rfl (hrec0 (s0.1 + nI 1, q54.2.1, q54.2.2) hf)
            · replace hf := p_ng hf hc
              refine s_iconst (pc := 85) dX3_fits_85 (v := nI 0) rfl ?_
              cases hf
              exact s_ireturn (pc := 86) dX3_fits_86 rfl rfl ⟨rfl, rfl, rfl, rfl, rfl⟩
        · replace hf := p_ps hf hc
          refine s_goto (pc := 48) (tgt := 87) dX3_fits_48 rfl ?_
          refine s_iinc (pc := 87) (lo' := [(3, .int (s0.1 + nI 1)), (4, .int q47), (0, .ref a0), (1, .int x1), (2, .int x2)]) dX3_fits_87 4 rfl (v := s0.1 + nI 1) rfl (Nat.le_of_ble_eq_true rfl) rfl ?_
          refine s_goto (pc := 90) (tgt := 2) dX3_fits_90 rfl ?_
          exact s_lo [2, 3, 4, 0] rfl (hrec0 (s0.1 + nI 1, s0.2.1, s0.2.2) hf))
  exact s_lo [1, 2, 3, 0] rfl (k32 n (nI 0, I, L) hf)
def f_X9_isBlank (x0 : Int32) : Option Int32 :=
  (if x0 = (nI 32) then
    some (nI 1)
  else
    (if x0 = (nI 10) then
      some (nI 1)
    else
      some (nI 0)))
theorem c_X9_isBlank {G : pG} {d : Nat} {N : pN} {I : pI} {L : pL} {P : pR} {x0 : Int32} {qq : Int32} (hd : 0 ≤ d) (hW : WT N P) (hf : f_X9_isBlank x0 = some qq) : MT G mX9_isBlank d 0 0 [.int x0] N I L P (p_R (some (.int qq)) N I L P) := by
  refine MT.of rfl (Nat.le_of_ble_eq_true rfl) ?_
  show SW G mX9_isBlank (p_rm d 0 0) 0 0 0 0 (p_R (some (.int qq)) N I L P) 0 [(0, .int x0)] [] N I L P
  unfold f_X9_isBlank at hf
  refine s_iload_n (pc := 0) dX9_isBlank_0 0 rfl rfl ?_
  refine s_bipush (pc := 1) dX9_isBlank_1 (v := nI 32) rfl ?_
  refine s_icmp_eq (pc := 3) (tgt := 12) dX9_isBlank_3 rfl (fun hc => ?_) (fun hc => ?_)
  · replace hf := p_ps hf hc
    refine s_iconst (pc := 12) dX9_isBlank_12 (v := nI 1) rfl ?_
    refine s_goto (pc := 13) (tgt := 17) dX9_isBlank_13 rfl ?_
    cases hf
    exact s_ireturn (pc := 17) dX9_isBlank_17 rfl rfl ⟨rfl, rfl, rfl, rfl, rfl⟩
  · replace hf := p_ng hf hc
    refine s_iload_n (pc := 6) dX9_isBlank_6 0 rfl rfl ?_
    refine s_bipush (pc := 7) dX9_isBlank_7 (v := nI 10) rfl ?_
    refine s_icmp_ne (pc := 9) (tgt := 16) dX9_isBlank_9 rfl (fun hc => ?_) (fun hc => ?_)
    · replace hf := p_ng hf hc
      refine s_iconst (pc := 16) dX9_isBlank_16 (v := nI 0) rfl ?_
      cases hf
      exact s_ireturn (pc := 17) dX9_isBlank_17 rfl rfl ⟨rfl, rfl, rfl, rfl, rfl⟩
    · replace hf := p_ps hf hc
      refine s_iconst (pc := 12) dX9_isBlank_12 (v := nI 1) rfl ?_
      refine s_goto (pc := 13) (tgt := 17) dX9_isBlank_13 rfl ?_
      cases hf
      exact s_ireturn (pc := 17) dX9_isBlank_17 rfl rfl ⟨rfl, rfl, rfl, rfl, rfl⟩
def J_X9_sortOf_28 (x0 : Int32) : Option Int32 :=
  (if x0 = (nI 58) then
    some (nI 3)
  else
    (if x0 = (nI 59) then
      some (nI 3)
    else
      (if x0 = (nI 60) then
        some (nI 3)
      else
        (if x0 = (nI 62) then
          some (nI 3)
        else
          (if x0 = (nI 61) then
            some (nI 3)
          else
            some (nI 4))))))
def J_X9_sortOf_14 (x0 : Int32) : Option Int32 :=
  (if x0 < (nI 48) then
    J_X9_sortOf_28 x0
  else
    (if (nI 57) < x0 then
      J_X9_sortOf_28 x0
    else
      some (nI 2)))
def f_X9_sortOf (x0 : Int32) : Option Int32 :=
  (if x0 < (nI 97) then
    J_X9_sortOf_14 x0
  else
    (if (nI 122) < x0 then
      J_X9_sortOf_14 x0
    else
      some (nI 1)))
theorem c_X9_sortOf {G : pG} {d : Nat} {N : pN} {I : pI} {L : pL} {P : pR} {x0 : Int32} {qq : Int32} (hd : 0 ≤ d) (hW : WT N P) (hf : f_X9_sortOf x0 = some qq) : MT G mX9_sortOf d 0 0 [.int x0] N I L P (p_R (some (.int qq)) N I L P) := by
  refine MT.of rfl (Nat.le_of_ble_eq_true rfl) ?_
  show SW G mX9_sortOf (p_rm d 0 0) 0 0 0 0 (p_R (some (.int qq)) N I L P) 0 [(0, .int x0)] [] N I L P
  unfold f_X9_sortOf at hf
  refine s_iload_n (pc := 0) dX9_sortOf_0 0 rfl rfl ?_
  refine s_bipush (pc := 1) dX9_sortOf_1 (v := nI 97) rfl ?_
  have k2 : J_X9_sortOf_14 x0 = some qq → SW G mX9_sortOf (p_rm d 0 0) 0 0 0 0 (p_R (some (.int qq)) N I L P) 14 [(0, .int x0)] [] N I L P := by
    intro hf
    unfold J_X9_sortOf_14 at hf
    refine s_iload_n (pc := 14) dX9_sortOf_14 0 rfl rfl ?_
    refine s_bipush (pc := 15) dX9_sortOf_15 (v := nI 48) rfl ?_
    have k3 : J_X9_sortOf_28 x0 = some qq → SW G mX9_sortOf (p_rm d 0 0) 0 0 0 0 (p_R (some (.int qq)) N I L P) 28 [(0, .int x0)] [] N I L P := by
      intro hf
      unfold J_X9_sortOf_28 at hf
      refine s_iload_n (pc := 28) dX9_sortOf_28 0 rfl rfl ?_
      refine s_bipush (pc := 29) dX9_sortOf_29 (v := nI 58) rfl ?_
      refine s_icmp_eq (pc := 31) (tgt := 58) dX9_sortOf_31 rfl (fun hc => ?_) (fun hc => ?_)
      · replace hf := p_ps hf hc
        refine s_iconst (pc := 58) dX9_sortOf_58 (v := nI 3) rfl ?_
        refine s_goto (pc := 59) (tgt := 63) dX9_sortOf_59 rfl ?_
        cases hf
        exact s_ireturn (pc := 63) dX9_sortOf_63 rfl rfl ⟨rfl, rfl, rfl, rfl, rfl⟩
      · replace hf := p_ng hf hc
        refine s_iload_n (pc := 34) dX9_sortOf_34 0 rfl rfl ?_
        refine s_bipush (pc := 35) dX9_sortOf_35 (v := nI 59) rfl ?_
        refine s_icmp_eq (pc := 37) (tgt := 58) dX9_sortOf_37 rfl (fun hc => ?_) (fun hc => ?_)
        · replace hf := p_ps hf hc
          refine s_iconst (pc := 58) dX9_sortOf_58 (v := nI 3) rfl ?_
          refine s_goto (pc := 59) (tgt := 63) dX9_sortOf_59 rfl ?_
          cases hf
          exact s_ireturn (pc := 63) dX9_sortOf_63 rfl rfl ⟨rfl, rfl, rfl, rfl, rfl⟩
        · replace hf := p_ng hf hc
          refine s_iload_n (pc := 40) dX9_sortOf_40 0 rfl rfl ?_
          refine s_bipush (pc := 41) dX9_sortOf_41 (v := nI 60) rfl ?_
          refine s_icmp_eq (pc := 43) (tgt := 58) dX9_sortOf_43 rfl (fun hc => ?_) (fun hc => ?_)
          · replace hf := p_ps hf hc
            refine s_iconst (pc := 58) dX9_sortOf_58 (v := nI 3) rfl ?_
            refine s_goto (pc := 59) (tgt := 63) dX9_sortOf_59 rfl ?_
            cases hf
            exact s_ireturn (pc := 63) dX9_sortOf_63 rfl rfl ⟨rfl, rfl, rfl, rfl, rfl⟩
          · replace hf := p_ng hf hc
            refine s_iload_n (pc := 46) dX9_sortOf_46 0 rfl rfl ?_
            refine s_bipush (pc := 47) dX9_sortOf_47 (v := nI 62) rfl ?_
            refine s_icmp_eq (pc := 49) (tgt := 58) dX9_sortOf_49 rfl (fun hc => ?_) (fun hc => ?_)
            · replace hf := p_ps hf hc
              refine s_iconst (pc := 58) dX9_sortOf_58 (v := nI 3) rfl ?_
              refine s_goto (pc := 59) (tgt := 63) dX9_sortOf_59 rfl ?_
              cases hf
              exact s_ireturn (pc := 63) dX9_sortOf_63 rfl rfl ⟨rfl, rfl, rfl, rfl, rfl⟩
            · replace hf := p_ng hf hc
              refine s_iload_n (pc := 52) dX9_sortOf_52 0 rfl rfl ?_
              refine s_bipush (pc := 53) dX9_sortOf_53 (v := nI 61) rfl ?_
              refine s_icmp_ne (pc := 55) (tgt := 62) dX9_sortOf_55 rfl (fun hc => ?_) (fun hc => ?_)
              · replace hf := p_ng hf hc
                refine s_iconst (pc := 62) dX9_sortOf_62 (v := nI 4) rfl ?_
                cases hf
                exact s_ireturn (pc := 63) dX9_sortOf_63 rfl rfl ⟨rfl, rfl, rfl, rfl, rfl⟩
              · replace hf := p_ps hf hc
                refine s_iconst (pc := 58) dX9_sortOf_58 (v := nI 3) rfl ?_
                refine s_goto (pc := 59) (tgt := 63) dX9_sortOf_59 rfl ?_
                cases hf
                exact s_ireturn (pc := 63) dX9_sortOf_63 rfl rfl ⟨rfl, rfl, rfl, rfl, rfl⟩
    refine s_icmp_lt (pc := 17) (tgt := 28) dX9_sortOf_17 rfl (fun hc => ?_) (fun hc => ?_)
    · replace hf := p_ps hf hc
      exact s_lo [0] rfl (k3 hf)
    · replace hf := p_ng hf hc
      refine s_iload_n (pc := 20) dX9_sortOf_20 0 rfl rfl ?_
      refine s_bipush (pc := 21) dX9_sortOf_21 (v := nI 57) rfl ?_
      refine s_icmp_gt (pc := 23) (tgt := 28) dX9_sortOf_23 rfl (fun hc => ?_) (fun hc => ?_)
      · replace hf := p_ps hf hc
        exact s_lo [0] rfl (k3 hf)
      · replace hf := p_ng hf hc
        refine s_iconst (pc := 26) dX9_sortOf_26 (v := nI 2) rfl ?_
        cases hf
        exact s_ireturn (pc := 27) dX9_sortOf_27 rfl rfl ⟨rfl, rfl, rfl, rfl, rfl⟩
  refine s_icmp_lt (pc := 3) (tgt := 14) dX9_sortOf_3 rfl (fun hc => ?_) (fun hc => ?_)
  · replace hf := p_ps hf hc
    exact s_lo [0] rfl (k2 hf)
  · replace hf := p_ng hf hc
    refine s_iload_n (pc := 6) dX9_sortOf_6 0 rfl rfl ?_
    refine s_bipush (pc := 7) dX9_sortOf_7 (v := nI 122) rfl ?_
    refine s_icmp_gt (pc := 9) (tgt := 14) dX9_sortOf_9 rfl (fun hc => ?_) (fun hc => ?_)
    · replace hf := p_ps hf hc
      exact s_lo [0] rfl (k2 hf)
    · replace hf := p_ng hf hc
      refine s_iconst (pc := 12) dX9_sortOf_12 (v := nI 1) rfl ?_
      cases hf
      exact s_ireturn (pc := 13) dX9_sortOf_13 rfl rfl ⟨rfl, rfl, rfl, rfl, rfl⟩
def B_X9_advance_8 (N : pN) (P : pR) (a0 : Nat) (rec0 : pI → Option pI) (s0 : pI) : Option pI :=
  Option.bind (P a0 0) fun q5 =>
  Option.bind (f_X8_size s0 q5) fun q8 =>
  (if q8 ≤ (s0 a0 2) then
    some s0
  else
    Option.bind (P a0 0) fun q10 =>
    Option.bind (f_X8_get N s0 P q10 (s0 a0 2) (nI 0)) fun q13 =>
    Option.bind (f_X9_isBlank q13) fun q15 =>
    (if q15 = 0 then
      some s0
    else
      p_let (p_u s0 a0 2 ((s0 a0 2) + (nI 1))) fun I17 =>
      rec0 I17))
def J_X9_advance_126 (N : pN) (I : pI) (P : pR) (rec0 : pI → Option pI) (a0 : Nat) : Option pI :=
  Option.bind (P a0 0) fun q56 =>
  Option.bind (f_X8_size I q56) fun q59 =>
  (if q59 ≤ (I a0 3) then
    some I
  else
    Option.bind (P a0 0) fun q61 =>
    Option.bind (f_X8_get N I P q61 (I a0 3) (nI 0)) fun q64 =>
    Option.bind (f_X9_sortOf q64) fun q66 =>
    (if q66 = (I a0 1) then
      p_let (p_u I a0 3 ((I a0 3) + (nI 1))) fun I68 =>
      rec0 I68
    else
      some I))
def B_X9_advance_110 (N : pN) (P : pR) (a0 : Nat) (rec0 : pI → Option pI) (s0 : pI) : Option pI :=
  (if (s0 a0 1) = (nI 1) then
    J_X9_advance_126 N s0 P rec0 a0
  else
    (if (s0 a0 1) = (nI 2) then
      J_X9_advance_126 N s0 P rec0 a0
    else
      some s0))
def f_X9_advance (n : Nat) (N : pN) (I : pI) (P : pR) (a0 : Nat) : Option pI :=
  p_let (p_u I a0 2 (I a0 3)) fun I1 =>
  Option.bind (p_it (B_X9_advance_8 N P a0) n I1) fun t3 =>
  p_let (p_u t3 a0 3 (t3 a0 2)) fun I34 =>
  p_let (p_u I34 a0 1 (nI 0)) fun I36 =>
  Option.bind (P a0 0) fun q38 =>
  Option.bind (f_X8_size I36 q38) fun q41 =>
  (if (I36 a0 2) < q41 then
    Option.bind (P a0 0) fun q43 =>
    Option.bind (f_X8_get N I36 P q43 (I36 a0 2) (nI 0)) fun q46 =>
    Option.bind (f_X9_sortOf q46) fun q48 =>
    p_let (p_u I36 a0 1 q48) fun I50 =>
    p_let (p_u I50 a0 3 ((I50 a0 2) + (nI 1))) fun I52 =>
    Option.bind (p_it (B_X9_advance_110 N P a0) n I52) fun t54 =>
    some t54
  else
    some I36)
theorem c_X9_advance {G : pG} {d : Nat} {n : Nat} {N : pN} {I : pI} {L : pL} {P : pR} {a0 : Nat} {qq : pI} (hd : 1 ≤ d) (hW : WT N P) (ha0 : p_tp N a0 12) (hf : f_X9_advance n N I P a0 = some qq) : MT G mX9_advance d 0 0 [.ref a0] N I L P (p_R none N qq L P) := by
  refine MT.of rfl (Nat.le_of_ble_eq_true rfl) ?_
  show SW G mX9_advance (p_rm d 0 0) 0 0 0 0 (p_R none N qq L P) 0 [(0, .ref a0)] [] N I L P
  unfold f_X9_advance at hf
  refine s_aload_n (pc := 0) dX9_advance_0 0 rfl rfl ?_
  refine s_aload_n (pc := 1) dX9_advance_1 0 rfl rfl ?_
  refine x_getI (pc := 2) dX9_advance_2 fl_X9_18 rfl ha0 ?_
  refine x_putI (pc := 5) dX9_advance_5 fl_X9_15 (Or.inl rfl) rfl ha0 ?_
  refine s_nmI (fun I1 e2 => ?_)
  replace hf := p_lx hf e2
  obtain ⟨t3, hg, hf⟩ := p_bd hf
  have k4 : SW G mX9_advance (p_rm d 0 0) 0 0 0 0 (p_R none N qq L P) 53 [(0, .ref a0)] [] N t3 L P := by
    refine s_aload_n (pc := 53) dX9_advance_53 0 rfl rfl ?_
    refine s_aload_n (pc := 54) dX9_advance_54 0 rfl rfl ?_
    refine x_getI (pc := 55) dX9_advance_55 fl_X9_15 rfl ha0 ?_
    refine x_putI (pc := 58) dX9_advance_58 fl_X9_18 (Or.inl rfl) rfl ha0 ?_
    refine s_nmI (fun I34 e35 => ?_)
    replace hf := p_lx hf e35
    refine s_aload_n (pc := 61) dX9_advance_61 0 rfl rfl ?_
    refine s_iconst (pc := 62) dX9_advance_62 (v := nI 0) rfl ?_
    refine x_putI (pc := 63) dX9_advance_63 fl_X9_11 (Or.inl rfl) rfl ha0 ?_
    refine s_nmI (fun I36 e37 => ?_)
    replace hf := p_lx hf e37
    refine s_aload_n (pc := 66) dX9_advance_66 0 rfl rfl ?_
    refine x_getI (pc := 67) dX9_advance_67 fl_X9_15 rfl ha0 ?_
    refine s_aload_n (pc := 70) dX9_advance_70 0 rfl rfl ?_
    obtain ⟨q38, h39, hf⟩ := p_bd hf
    have t40 : p_tp N q38 11 := WT.get hW ha0 h39
    refine x_getR (pc := 71) dX9_advance_71 fl_X9_27 rfl ha0 h39 ?_
    obtain ⟨q41, h42, hf⟩ := p_bd hf
    refine y_callV1 (pc := 74) dX9_advance_74 (c_X8_size (p_dd hd (by decide)) hW t40 h42) mk_X8_size mv_X8_size ml_X9_34 rfl rfl (Nat.le_of_ble_eq_true rfl) t40 rfl (p_d1 hd (by decide)) (Nat.le_of_ble_eq_true rfl) ?_
    refine s_icmp_lt (pc := 77) (tgt := 81) dX9_advance_77 rfl (fun hc => ?_) (fun hc => ?_)
    · replace hf := p_ps hf hc
      refine s_aload_n (pc := 81) dX9_advance_81 0 rfl rfl ?_
      refine s_aload_n (pc := 82) dX9_advance_82 0 rfl rfl ?_
      obtain ⟨q43, h44, hf⟩ := p_bd hf
      have t45 : p_tp N q43 11 := WT.get hW ha0 h44
      refine x_getR (pc := 83) dX9_advance_83 fl_X9_27 rfl ha0 h44 ?_
      refine s_aload_n (pc := 86) dX9_advance_86 0 rfl rfl ?_
      refine x_getI (pc := 87) dX9_advance_87 fl_X9_15 rfl ha0 ?_
      refine s_iconst (pc := 90) dX9_advance_90 (v := nI 0) rfl ?_
      obtain ⟨q46, h47, hf⟩ := p_bd hf
      refine y_callV1 (pc := 91) dX9_advance_91 (c_X8_get (p_dd hd (by decide)) hW t45 h47) mk_X8_get mv_X8_get ml_X9_40 rfl rfl (Nat.le_of_ble_eq_true rfl) t45 rfl (p_d1 hd (by decide)) (Nat.le_of_ble_eq_true rfl) ?_
      obtain ⟨q48, h49, hf⟩ := p_bd hf
      refine y_callS1 (pc := 94) dX9_advance_94 (c_X9_sortOf (p_dd hd (by decide)) hW  h49) mk_X9_sortOf mz_X9_sortOf ml_X9_48 rfl rfl (Nat.le_of_ble_eq_true rfl) (p_d1 hd (by decide)) (Nat.le_of_ble_eq_true rfl) ?_
      refine x_putI (pc := 97) dX9_advance_97 fl_X9_11 (Or.inl rfl) rfl ha0 ?_
      refine s_nmI (fun I50 e51 => ?_)
      replace hf := p_lx hf e51
      refine s_aload_n (pc := 100) dX9_advance_100 0 rfl rfl ?_
      refine s_aload_n (pc := 101) dX9_advance_101 0 rfl rfl ?_
      refine x_getI (pc := 102) dX9_advance_102 fl_X9_15 rfl ha0 ?_
      refine s_iconst (pc := 105) dX9_advance_105 (v := nI 1) rfl ?_
      refine s_iadd (pc := 106) dX9_advance_106 ?_
      refine x_putI (pc := 107) dX9_advance_107 fl_X9_18 (Or.inl rfl) rfl ha0 ?_
      refine s_nmI (fun I52 e53 => ?_)
      replace hf := p_lx hf e53
      obtain ⟨t54, hg, hf⟩ := p_bd hf
      have k55 : SW G mX9_advance (p_rm d 0 0) 0 0 0 0 (p_R none N qq L P) 175 [] [] N t54 L P := by
        cases hf
        exact s_return (pc := 175) dX9_advance_175 rfl ⟨rfl, rfl, rfl, rfl, rfl⟩
      replace hf := hg
      have k85 : ∀ (k : Nat) (s0 : pI), p_it (B_X9_advance_110 N P a0) k s0 = some t54 → (SW G mX9_advance (p_rm d 0 0) 0 0 0 0 (p_R none N qq L P) 110 [(0, .ref a0)] [] N s0 L P) := p_it_ind (C := fun (s0 : pI) => SW G mX9_advance (p_rm d 0 0) 0 0 0 0 (p_R none N qq L P) 110 [(0, .ref a0)] [] N s0 L P) (by
        intro rec0 hrec0 s0 hf
        unfold B_X9_advance_110 at hf
        refine s_aload_n (pc := 110) dX9_advance_110 0 rfl rfl ?_
        refine x_getI (pc := 111) dX9_advance_111 fl_X9_11 rfl ha0 ?_
        refine s_iconst (pc := 114) dX9_advance_114 (v := nI 1) rfl ?_
        have k86 : J_X9_advance_126 N s0 P rec0 a0 = some t54 → SW G mX9_advance (p_rm d 0 0) 0 0 0 0 (p_R none N qq L P) 126 [(0, .ref a0)] [] N s0 L P := by
          intro hf
          unfold J_X9_advance_126 at hf
          refine s_aload_n (pc := 126) dX9_advance_126 0 rfl rfl ?_
          refine x_getI (pc := 127) dX9_advance_127 fl_X9_18 rfl ha0 ?_
          refine s_aload_n (pc := 130) dX9_advance_130 0 rfl rfl ?_
          obtain ⟨q87, h88, hf⟩ := p_bd hf
          have t89 : p_tp N q87 11 := WT.get hW ha0 h88
          refine x_getR (pc := 131) dX9_advance_131 fl_X9_27 rfl ha0 h88 ?_
          obtain ⟨q90, h91, hf⟩ := p_bd hf
          refine y_callV1 (pc := 134) dX9_advance_134 (c_X8_size (p_dd hd (by decide)) hW t89 h91) mk_X8_size mv_X8_size ml_X9_34 rfl rfl (Nat.le_of_ble_eq_true rfl) t89 rfl (p_d1 hd (by decide)) (Nat.le_of_ble_eq_true rfl) ?_
          refine s_icmp_ge (pc := 137) (tgt := 175) dX9_advance_137 rfl (fun hc => ?_) (fun hc => ?_)
          · replace hf := p_ps hf hc
            cases hf
            exact s_lo [] rfl (k55)
          · replace hf := p_ng hf hc
            refine s_aload_n (pc := 140) dX9_advance_140 0 rfl rfl ?_
            obtain ⟨q92, h93, hf⟩ := p_bd hf
            have t94 : p_tp N q92 11 := WT.get hW ha0 h93
            refine x_getR (pc := 141) dX9_advance_141 fl_X9_27 rfl ha0 h93 ?_
            refine s_aload_n (pc := 144) dX9_advance_144 0 rfl rfl ?_
            refine x_getI (pc := 145) dX9_advance_145 fl_X9_18 rfl ha0 ?_
            refine s_iconst (pc := 148) dX9_advance_148 (v := nI 0) rfl ?_
            obtain ⟨q95, h96, hf⟩ := p_bd hf
            refine y_callV1 (pc := 149) dX9_advance_149 (c_X8_get (p_dd hd (by decide)) hW t94 h96) mk_X8_get mv_X8_get ml_X9_40 rfl rfl (Nat.le_of_ble_eq_true rfl) t94 rfl (p_d1 hd (by decide)) (Nat.le_of_ble_eq_true rfl) ?_
            obtain ⟨q97, h98, hf⟩ := p_bd hf
            refine y_callS1 (pc := 152) dX9_advance_152 (c_X9_sortOf (p_dd hd (by decide)) hW  h98) mk_X9_sortOf mz_X9_sortOf ml_X9_48 rfl rfl (Nat.le_of_ble_eq_true rfl) (p_d1 hd (by decide)) (Nat.le_of_ble_eq_true rfl) ?_
            refine s_aload_n (pc := 155) dX9_advance_155 0 rfl rfl ?_
            refine x_getI (pc := 156) dX9_advance_156 fl_X9_11 rfl ha0 ?_
            refine s_icmp_ne (pc := 159) (tgt := 175) dX9_advance_159 rfl (fun hc => ?_) (fun hc => ?_)
            · replace hf := p_ng hf hc
              cases hf
              exact s_lo [] rfl (k55)
            · replace hf := p_ps hf hc
              refine s_aload_n (pc := 162) dX9_advance_162 0 rfl rfl ?_
              refine s_dup (pc := 163) dX9_advance_163 rfl ?_
              refine x_getI (pc := 164) dX9_advance_164 fl_X9_18 rfl ha0 ?_
              refine s_iconst (pc := 167) dX9_advance_167 (v := nI 1) rfl ?_
              refine s_iadd (pc := 168) dX9_advance_168 ?_
              refine x_putI (pc := 169) dX9_advance_169 fl_X9_18 (Or.inl rfl) rfl ha0 ?_
              refine s_nmI (fun I99 e100 => ?_)
              replace hf := p_lx hf e100
              refine s_goto (pc := 172) (tgt := 110) dX9_advance_172 rfl ?_
              exact s_lo [0] rfl (hrec0 I99 hf)
        refine s_icmp_eq (pc := 115) (tgt := 126) dX9_advance_115 rfl (fun hc => ?_) (fun hc => ?_)
        · replace hf := p_ps hf hc
          exact s_lo [0] rfl (k86 hf)
        · replace hf := p_ng hf hc
          refine s_aload_n (pc := 118) dX9_advance_118 0 rfl rfl ?_
          refine x_getI (pc := 119) dX9_advance_119 fl_X9_11 rfl ha0 ?_
          refine s_iconst (pc := 122) dX9_advance_122 (v := nI 2) rfl ?_
          refine s_icmp_ne (pc := 123) (tgt := 175) dX9_advance_123 rfl (fun hc => ?_) (fun hc => ?_)
          · replace hf := p_ng hf hc
            cases hf
            exact s_lo [] rfl (k55)
          · replace hf := p_ps hf hc
            exact s_lo [0] rfl (k86 hf))
      exact s_lo [0] rfl (k85 n I52 hf)
    · replace hf := p_ng hf hc
      cases hf
      exact s_return (pc := 80) dX9_advance_80 rfl ⟨rfl, rfl, rfl, rfl, rfl⟩
  replace hf := hg
  have k19 : ∀ (k : Nat) (s0 : pI), p_it (B_X9_advance_8 N P a0) k s0 = some t3 → (SW G mX9_advance (p_rm d 0 0) 0 0 0 0 (p_R none N qq L P) 8 [(0, .ref a0)] [] N s0 L P) := p_it_ind (C := fun (s0 : pI) => SW G mX9_advance (p_rm d 0 0) 0 0 0 0 (p_R none N qq L P) 8 [(0, .ref a0)] [] N s0 L P) (by
    intro rec0 hrec0 s0 hf
    unfold B_X9_advance_8 at hf
    refine s_aload_n (pc := 8) dX9_advance_8 0 rfl rfl ?_
    refine x_getI (pc := 9) dX9_advance_9 fl_X9_15 rfl ha0 ?_
    refine s_aload_n (pc := 12) dX9_advance_12 0 rfl rfl ?_
    obtain ⟨q20, h21, hf⟩ := p_bd hf
    have t22 : p_tp N q20 11 := WT.get hW ha0 h21
    refine x_getR (pc := 13) dX9_advance_13 fl_X9_27 rfl ha0 h21 ?_
    obtain ⟨q23, h24, hf⟩ := p_bd hf
    refine y_callV1 (pc := 16) dX9_advance_16 (c_X8_size (p_dd hd (by decide)) hW t22 h24) mk_X8_size mv_X8_size ml_X9_34 rfl rfl (Nat.le_of_ble_eq_true rfl) t22 rfl (p_d1 hd (by decide)) (Nat.le_of_ble_eq_true rfl) ?_
    refine s_icmp_ge (pc := 19) (tgt := 53) dX9_advance_19 rfl (fun hc => ?_) (fun hc => ?_)
    · replace hf := p_ps hf hc
      cases hf
      exact s_lo [0] rfl (k4)
    · replace hf := p_ng hf hc
      refine s_aload_n (pc := 22) dX9_advance_22 0 rfl rfl ?_
      obtain ⟨q25, h26, hf⟩ := p_bd hf
      have t27 : p_tp N q25 11 := WT.get hW ha0 h26
      refine x_getR (pc := 23) dX9_advance_23 fl_X9_27 rfl ha0 h26 ?_
      refine s_aload_n (pc := 26) dX9_advance_26 0 rfl rfl ?_
      refine x_getI (pc := 27) dX9_advance_27 fl_X9_15 rfl ha0 ?_
      refine s_iconst (pc := 30) dX9_advance_30 (v := nI 0) rfl ?_
      obtain ⟨q28, h29, hf⟩ := p_bd hf
      refine y_callV1 (pc := 31) dX9_advance_31 (c_X8_get (p_dd hd (by decide)) hW t27 h29) mk_X8_get mv_X8_get ml_X9_40 rfl rfl (Nat.le_of_ble_eq_true rfl) t27 rfl (p_d1 hd (by decide)) (Nat.le_of_ble_eq_true rfl) ?_
      obtain ⟨q30, h31, hf⟩ := p_bd hf
      refine y_callS1 (pc := 34) dX9_advance_34 (c_X9_isBlank (p_dd hd (by decide)) hW  h31) mk_X9_isBlank mz_X9_isBlank ml_X9_44 rfl rfl (Nat.le_of_ble_eq_true rfl) (p_d1 hd (by decide)) (Nat.le_of_ble_eq_true rfl) ?_
      refine s_if_eq (pc := 37) (tgt := 53) dX9_advance_37 rfl (fun hc => ?_) (fun hc => ?_)
      · replace hf := p_ps hf hc
        cases hf
        exact s_lo [0] rfl (k4)
      · replace hf := p_ng hf hc
        refine s_aload_n (pc := 40) dX9_advance_40 0 rfl rfl ?_
        refine s_dup (pc := 41) dX9_advance_41 rfl ?_
        refine x_getI (pc := 42) dX9_advance_42 fl_X9_15 rfl ha0 ?_
        refine s_iconst (pc := 45) dX9_advance_45 (v := nI 1) rfl ?_
        refine s_iadd (pc := 46) dX9_advance_46 ?_
        refine x_putI (pc := 47) dX9_advance_47 fl_X9_15 (Or.inl rfl) rfl ha0 ?_
        refine s_nmI (fun I32 e33 => ?_)
        replace hf := p_lx hf e33
        refine s_goto (pc := 50) (tgt := 8) dX9_advance_50 rfl ?_
        exact s_lo [0] rfl (hrec0 I32 hf))
  exact s_lo [0] rfl (k19 n I1 hf)
