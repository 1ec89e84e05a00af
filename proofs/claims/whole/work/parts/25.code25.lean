def B_X5_reachOf_4 (N : pN) (I : pI) (P : pR) (a0 : Nat) (x1 : Int32) (rec0 : (Int32 × Int32) → Option Int32) (s0 : Int32 × Int32) : Option Int32 :=
  Option.bind (P a0 2) fun q3 =>
  (if (nI (N.2 q3).2) ≤ s0.2 then
    some s0.1
  else
    Option.bind (α := Int32) ((if ((x1 >>> (s0.2 &&& 31)) &&& (nI 1)) = (nI 1) then
      Option.bind (P a0 2) fun q8 =>
      p_ck (p_ib N q8 s0.2) <|
      some (I q8 (Int32.toNatClampNeg s0.2))
    else
      some (nI 0))) fun t6 =>
    rec0 (s0.1 ||| t6, s0.2 + nI 1))
def f_X5_reachOf (n : Nat) (N : pN) (I : pI) (P : pR) (a0 : Nat) (x1 : Int32) : Option Int32 :=
  Option.bind (p_it (B_X5_reachOf_4 N I P a0 x1) n (nI 0, nI 0)) fun t1 =>
  some t1
theorem c_X5_reachOf {G : pG} {d : Nat} {n : Nat} {N : pN} {I : pI} {L : pL} {P : pR} {a0 : Nat} {x1 : Int32} {qq : Int32} (hd : 0 ≤ d) (hW : WT N P) (ha0 : p_tp N a0 8) (hf : f_X5_reachOf n N I P a0 x1 = some qq) : MT G mX5_reachOf d 0 0 [.ref a0, .int x1] N I L P (p_R (some (.int qq)) N I L P) := by
  refine MT.of rfl (Nat.le_of_ble_eq_true rfl) ?_
  show SW G mX5_reachOf (p_rm d 0 0) 0 0 0 0 (p_R (some (.int qq)) N I L P) 0 [(0, .ref a0), (1, .int x1)] [] N I L P
  unfold f_X5_reachOf at hf
  refine s_iconst (pc := 0) dX5_reachOf_0 (v := nI 0) rfl ?_
  refine s_istore_n (pc := 1) (lo' := [(2, .int (nI 0)), (0, .ref a0), (1, .int x1)]) dX5_reachOf_1 rfl (Nat.le_of_ble_eq_true rfl) rfl ?_
  refine s_iconst (pc := 2) dX5_reachOf_2 (v := nI 0) rfl ?_
  refine s_istore_n (pc := 3) (lo' := [(3, .int (nI 0)), (2, .int (nI 0)), (0, .ref a0), (1, .int x1)]) dX5_reachOf_3 rfl (Nat.le_of_ble_eq_true rfl) rfl ?_
  obtain ⟨t1, hg, hf⟩ := p_bd hf
  have k2 : SW G mX5_reachOf (p_rm d 0 0) 0 0 0 0 (p_R (some (.int qq)) N I L P) 41 [(2, .int t1)] [] N I L P := by
    refine s_iload_n (pc := 41) dX5_reachOf_41 0 rfl rfl ?_
    cases hf
    exact s_ireturn (pc := 42) dX5_reachOf_42 rfl rfl ⟨rfl, rfl, rfl, rfl, rfl⟩
  replace hf := hg
  have k12 : ∀ (k : Nat) (s0 : Int32 × Int32), p_it (B_X5_reachOf_4 N I P a0 x1) k s0 = some t1 → (SW G mX5_reachOf (p_rm d 0 0) 0 0 0 0 (p_R (some (.int qq)) N I L P) 4 [(0, .ref a0), (1, .int x1), (2, .int s0.1), (3, .int s0.2)] [] N I L P) := p_it_ind (C := fun (s0 : Int32 × Int32) => SW G mX5_reachOf (p_rm d 0 0) 0 0 0 0 (p_R (some (.int qq)) N I L P) 4 [(0, .ref a0), (1, .int x1), (2, .int s0.1), (3, .int s0.2)] [] N I L P) (by
    intro rec0 hrec0 s0 hf
    unfold B_X5_reachOf_4 at hf
    refine s_iload_n (pc := 4) dX5_reachOf_4 3 rfl rfl ?_
    refine s_aload_n (pc := 5) dX5_reachOf_5 0 rfl rfl ?_
    obtain ⟨q13, h14, hf⟩ := p_bd hf
    have t15 : p_tp N q13 0 := WT.get hW ha0 h14
    refine x_getR (pc := 6) dX5_reachOf_6 fl_X5_9 rfl ha0 h14 ?_
    refine x_alen (pc := 9) dX5_reachOf_9 t15 (Nat.le_of_ble_eq_true rfl) ?_
    refine s_icmp_ge (pc := 10) (tgt := 41) dX5_reachOf_10 rfl (fun hc => ?_) (fun hc => ?_)
    · replace hf := p_ps hf hc
      cases hf
      exact s_lo [2] rfl (k2)
    · replace hf := p_ng hf hc
      refine s_iload_n (pc := 13) dX5_reachOf_13 2 rfl rfl ?_
      refine s_iload_n (pc := 14) dX5_reachOf_14 1 rfl rfl ?_
      refine s_iload_n (pc := 15) dX5_reachOf_15 3 rfl rfl ?_
      refine s_ishr (pc := 16) dX5_reachOf_16 ?_
      refine s_iconst (pc := 17) dX5_reachOf_17 (v := nI 1) rfl ?_
      refine s_iand (pc := 18) dX5_reachOf_18 ?_
      refine s_iconst (pc := 19) dX5_reachOf_19 (v := nI 1) rfl ?_
      obtain ⟨t16, hg, hf⟩ := p_bd hf
      have k17 : SW G mX5_reachOf (p_rm d 0 0) 0 0 0 0 (p_R (some (.int qq)) N I L P) 33 [(0, .ref a0), (1, .int x1), (3, .int s0.2)] [.int t16, .int s0.1] N I L P := by
        refine s_ior (pc := 33) dX5_reachOf_33 ?_
        refine s_istore_n (pc := 34) (lo' := [(2, .int (s0.1 ||| t16)), (0, .ref a0), (1, .int x1), (3, .int s0.2)]) dX5_reachOf_34 rfl (Nat.le_of_ble_eq_true rfl) rfl ?_
        refine s_iinc (pc := 35) (lo' := [(3, .int (s0.2 + nI 1)), (2, .int (s0.1 ||| t16)), (0, .ref a0), (1, .int x1)]) dX5_reachOf_35 3 rfl (v := s0.2 + nI 1) rfl (Nat.le_of_ble_eq_true rfl) rfl ?_
        refine s_goto (pc := 38) (tgt := 4) dX5_reachOf_38 rfl ?_
        exact s_lo [2, 3, 1, 0] rfl (hrec0 (s0.1 ||| t16, s0.2 + nI 1) hf)
      replace hf := hg
      refine s_icmp_ne (pc := 20) (tgt := 32) dX5_reachOf_20 rfl (fun hc => ?_) (fun hc => ?_)
      · replace hf := p_ng hf hc
        refine s_iconst (pc := 32) dX5_reachOf_32 (v := nI 0) rfl ?_
        cases hf
        exact s_lo [0, 1, 3] rfl (k17)
      · replace hf := p_ps hf hc
        refine s_aload_n (pc := 23) dX5_reachOf_23 0 rfl rfl ?_
        obtain ⟨q18, h19, hf⟩ := p_bd hf
        have t20 : p_tp N q18 0 := WT.get hW ha0 h19
        refine x_getR (pc := 24) dX5_reachOf_24 fl_X5_9 rfl ha0 h19 ?_
        refine s_iload_n (pc := 27) dX5_reachOf_27 3 rfl rfl ?_
        obtain ⟨c21, hf⟩ := p_ckx hf
        refine x_iald (pc := 28) dX5_reachOf_28 t20 c21 ?_
        refine s_goto (pc := 29) (tgt := 33) dX5_reachOf_29 rfl ?_
        cases hf
        exact s_lo [0, 1, 3] rfl (k17))
  exact s_lo [2, 3, 1, 0] rfl (k12 n (nI 0, nI 0) hf)
def B_X5_costOf_4 (N : pN) (I : pI) (P : pR) (a0 : Nat) (x1 : Int32) (rec0 : (Int32 × Int32) → Option Int32) (s0 : Int32 × Int32) : Option Int32 :=
  Option.bind (P a0 0) fun q3 =>
  Option.bind (P q3 3) fun q6 =>
  Option.bind (f_X8_size I q6) fun q9 =>
  (if q9 ≤ s0.2 then
    some s0.1
  else
    Option.bind (α := Int32) ((if ((x1 >>> (s0.2 &&& 31)) &&& (nI 1)) = (nI 1) then
      Option.bind (P a0 0) fun q13 =>
      Option.bind (P q13 3) fun q16 =>
      Option.bind (f_X8_get N I P q16 s0.2 (nI 3)) fun q19 =>
      some q19
    else
      some (nI 0))) fun t11 =>
    rec0 (s0.1 + t11, s0.2 + nI 1))
def f_X5_costOf (n : Nat) (N : pN) (I : pI) (P : pR) (a0 : Nat) (x1 : Int32) : Option Int32 :=
  Option.bind (p_it (B_X5_costOf_4 N I P a0 x1) n (nI 0, nI 0)) fun t1 =>
  some t1
theorem c_X5_costOf {G : pG} {d : Nat} {n : Nat} {N : pN} {I : pI} {L : pL} {P : pR} {a0 : Nat} {x1 : Int32} {qq : Int32} (hd : 1 ≤ d) (hW : WT N P) (ha0 : p_tp N a0 8) (hf : f_X5_costOf n N I P a0 x1 = some qq) : MT G mX5_costOf d 0 0 [.ref a0, .int x1] N I L P (p_R (some (.int qq)) N I L P) := by
  refine MT.of rfl (Nat.le_of_ble_eq_true rfl) ?_
  show SW G mX5_costOf (p_rm d 0 0) 0 0 0 0 (p_R (some (.int qq)) N I L P) 0 [(0, .ref a0), (1, .int x1)] [] N I L P
  unfold f_X5_costOf at hf
  refine s_iconst (pc := 0) dX5_costOf_0 (v := nI 0) rfl ?_
  refine s_istore_n (pc := 1) (lo' := [(2, .int (nI 0)), (0, .ref a0), (1, .int x1)]) dX5_costOf_1 rfl (Nat.le_of_ble_eq_true rfl) rfl ?_
  refine s_iconst (pc := 2) dX5_costOf_2 (v := nI 0) rfl ?_
  refine s_istore_n (pc := 3) (lo' := [(3, .int (nI 0)), (2, .int (nI 0)), (0, .ref a0), (1, .int x1)]) dX5_costOf_3 rfl (Nat.le_of_ble_eq_true rfl) rfl ?_
  obtain ⟨t1, hg, hf⟩ := p_bd hf
  have k2 : SW G mX5_costOf (p_rm d 0 0) 0 0 0 0 (p_R (some (.int qq)) N I L P) 52 [(2, .int t1)] [] N I L P := by
    refine s_iload_n (pc := 52) dX5_costOf_52 0 rfl rfl ?_
    cases hf
    exact s_ireturn (pc := 53) dX5_costOf_53 rfl rfl ⟨rfl, rfl, rfl, rfl, rfl⟩
  replace hf := hg
  have k21 : ∀ (k : Nat) (s0 : Int32 × Int32), p_it (B_X5_costOf_4 N I P a0 x1) k s0 = some t1 → (SW G mX5_costOf (p_rm d 0 0) 0 0 0 0 (p_R (some (.int qq)) N I L P) 4 [(0, .ref a0), (1, .int x1), (2, .int s0.1), (3, .int s0.2)] [] N I L P) := p_it_ind (C := fun (s0 : Int32 × Int32) => SW G mX5_costOf (p_rm d 0 0) 0 0 0 0 (p_R (some (.int qq)) N I L P) 4 [(0, .ref a0), (1, .int x1), (2, .int s0.1), (3, .int s0.2)] [] N I L P) (by
    intro rec0 hrec0 s0 hf
    unfold B_X5_costOf_4 at hf
    refine s_iload_n (pc := 4) dX5_costOf_4 3 rfl rfl ?_
    refine s_aload_n (pc := 5) dX5_costOf_5 0 rfl rfl ?_
    obtain ⟨q22, h23, hf⟩ := p_bd hf
    have t24 : p_tp N q22 10 := WT.get hW ha0 h23
    refine x_getR (pc := 6) dX5_costOf_6 fl_X5_34 rfl ha0 h23 ?_
    obtain ⟨q25, h26, hf⟩ := p_bd hf
    have t27 : p_tp N q25 11 := WT.get hW t24 h26
    refine x_getR (pc := 9) dX5_costOf_9 fl_X5_57 rfl t24 h26 ?_
    obtain ⟨q28, h29, hf⟩ := p_bd hf
    refine y_callV1 (pc := 12) dX5_costOf_12 (c_X8_size (p_dd hd (by decide)) hW t27 h29) mk_X8_size mv_X8_size ml_X5_51 rfl rfl (Nat.le_of_ble_eq_true rfl) t27 rfl (p_d1 hd (by decide)) (Nat.le_of_ble_eq_true rfl) ?_
    refine s_icmp_ge (pc := 15) (tgt := 52) dX5_costOf_15 rfl (fun hc => ?_) (fun hc => ?_)
    · replace hf := p_ps hf hc
      cases hf
      exact s_lo [2] rfl (k2)
    · replace hf := p_ng hf hc
      refine s_iload_n (pc := 18) dX5_costOf_18 2 rfl rfl ?_
      refine s_iload_n (pc := 19) dX5_costOf_19 1 rfl rfl ?_
      refine s_iload_n (pc := 20) dX5_costOf_20 3 rfl rfl ?_
      refine s_ishr (pc := 21) dX5_costOf_21 ?_
      refine s_iconst (pc := 22) dX5_costOf_22 (v := nI 1) rfl ?_
      refine s_iand (pc := 23) dX5_costOf_23 ?_
      refine s_iconst (pc := 24) dX5_costOf_24 (v := nI 1) rfl ?_
      obtain ⟨t30, hg, hf⟩ := p_bd hf
      have k31 : SW G mX5_costOf (p_rm d 0 0) 0 0 0 0 (p_R (some (.int qq)) N I L P) 44 [(0, .ref a0), (1, .int x1), (3, .int s0.2)] [.int t30, .int s0.1] N I L P := by
        refine s_iadd (pc := 44) dX5_costOf_44 ?_
        refine s_istore_n (pc := 45) (lo' := [(2, .int (s0.1 + t30)), (0, .ref a0), (1, .int x1), (3, .int s0.2)]) dX5_costOf_45 rfl (Nat.le_of_ble_eq_true rfl) rfl ?_
        refine s_iinc (pc := 46) (lo' := [(3, .int (s0.2 + nI 1)), (2, .int (s0.1 + t30)), (0, .ref a0), (1, .int x1)]) dX5_costOf_46 3 rfl (v := s0.2 + nI 1) rfl (Nat.le_of_ble_eq_true rfl) rfl ?_
        refine s_goto (pc := 49) (tgt := 4) dX5_costOf_49 rfl ?_
        exact s_lo [2, 3, 1, 0] rfl (hrec0 (s0.1 + t30, s0.2 + nI 1) hf)
      replace hf := hg
      refine s_icmp_ne (pc := 25) (tgt := 43) dX5_costOf_25 rfl (fun hc => ?_) (fun hc => ?_)
      · replace hf := p_ng hf hc
        refine s_iconst (pc := 43) dX5_costOf_43 (v := nI 0) rfl ?_
        cases hf
        exact s_lo [0, 1, 3] rfl (k31)
      · replace hf := p_ps hf hc
        refine s_aload_n (pc := 28) dX5_costOf_28 0 rfl rfl ?_
        obtain ⟨q32, h33, hf⟩ := p_bd hf
        have t34 : p_tp N q32 10 := WT.get hW ha0 h33
        refine x_getR (pc := 29) dX5_costOf_29 fl_X5_34 rfl ha0 h33 ?_
        obtain ⟨q35, h36, hf⟩ := p_bd hf
        have t37 : p_tp N q35 11 := WT.get hW t34 h36
        refine x_getR (pc := 32) dX5_costOf_32 fl_X5_57 rfl t34 h36 ?_
        refine s_iload_n (pc := 35) dX5_costOf_35 3 rfl rfl ?_
        refine s_iconst (pc := 36) dX5_costOf_36 (v := nI 3) rfl ?_
        obtain ⟨q38, h39, hf⟩ := p_bd hf
        refine y_callV1 (pc := 37) dX5_costOf_37 (c_X8_get (p_dd hd (by decide)) hW t37 h39) mk_X8_get mv_X8_get ml_X5_85 rfl rfl (Nat.le_of_ble_eq_true rfl) t37 rfl (p_d1 hd (by decide)) (Nat.le_of_ble_eq_true rfl) ?_
        refine s_goto (pc := 40) (tgt := 44) dX5_costOf_40 rfl ?_
        cases hf
        exact s_lo [0, 1, 3] rfl (k31))
  exact s_lo [2, 3, 1, 0] rfl (k21 n (nI 0, nI 0) hf)
def f_J6_bitCount_0f7a4 (x0 : Int32) : Option Int32 :=
  p_let (x0 - (((x0.toUInt32 >>> (Int32.toUInt32 (nI 1) &&& Int32.toUInt32 31)).toInt32) &&& (nI 1431655765))) fun v1 =>
  p_let ((v1 &&& (nI 858993459)) + (((v1.toUInt32 >>> (Int32.toUInt32 (nI 2) &&& Int32.toUInt32 31)).toInt32) &&& (nI 858993459))) fun v3 =>
  p_let ((v3 + ((v3.toUInt32 >>> (Int32.toUInt32 (nI 4) &&& Int32.toUInt32 31)).toInt32)) &&& (nI 252645135)) fun v5 =>
  p_let (v5 + ((v5.toUInt32 >>> (Int32.toUInt32 (nI 8) &&& Int32.toUInt32 31)).toInt32)) fun v7 =>
  p_let (v7 + ((v7.toUInt32 >>> (Int32.toUInt32 (nI 16) &&& Int32.toUInt32 31)).toInt32)) fun v9 =>
  some (v9 &&& (nI 63))
theorem c_J6_bitCount_0f7a4 {G : pG} {d : Nat} {N : pN} {I : pI} {L : pL} {P : pR} {x0 : Int32} {qq : Int32} (hd : 0 ≤ d) (hW : WT N P) (hf : f_J6_bitCount_0f7a4 x0 = some qq) : MT G mJ6_bitCount_0f7a4 d 0 0 [.int x0] N I L P (p_R (some (.int qq)) N I L P) := by
  refine MT.of rfl (Nat.le_of_ble_eq_true rfl) ?_
  show SW G mJ6_bitCount_0f7a4 (p_rm d 0 0) 0 0 0 0 (p_R (some (.int qq)) N I L P) 0 [(0, .int x0)] [] N I L P
  unfold f_J6_bitCount_0f7a4 at hf
  refine s_iload_n (pc := 0) dJ6_bitCount_0f7a4_0 0 rfl rfl ?_
  refine s_iload_n (pc := 1) dJ6_bitCount_0f7a4_1 0 rfl rfl ?_
  refine s_iconst (pc := 2) dJ6_bitCount_0f7a4_2 (v := nI 1) rfl ?_
  refine s_iushr (pc := 3) dJ6_bitCount_0f7a4_3 ?_
  refine s_ldcw (pc := 4) (v := nI 1431655765) kc_J6_265 dJ6_bitCount_0f7a4_4 ?_
  refine s_iand (pc := 7) dJ6_bitCount_0f7a4_7 ?_
  refine s_isub (pc := 8) dJ6_bitCount_0f7a4_8 ?_
  refine s_topi (fun v1 e2 => ?_)
  replace hf := p_lx hf e2
  refine s_istore_n (pc := 9) (lo' := [(0, .int v1)]) dJ6_bitCount_0f7a4_9 rfl (Nat.le_of_ble_eq_true rfl) rfl ?_
  refine s_iload_n (pc := 10) dJ6_bitCount_0f7a4_10 0 rfl rfl ?_
  refine s_ldcw (pc := 11) (v := nI 858993459) kc_J6_266 dJ6_bitCount_0f7a4_11 ?_
  refine s_iand (pc := 14) dJ6_bitCount_0f7a4_14 ?_
  refine s_iload_n (pc := 15) dJ6_bitCount_0f7a4_15 0 rfl rfl ?_
  refine s_iconst (pc := 16) dJ6_bitCount_0f7a4_16 (v := nI 2) rfl ?_
  refine s_iushr (pc := 17) dJ6_bitCount_0f7a4_17 ?_
  refine s_ldcw (pc := 18) (v := nI 858993459) kc_J6_266 dJ6_bitCount_0f7a4_18 ?_
  refine s_iand (pc := 21) dJ6_bitCount_0f7a4_21 ?_
  refine s_iadd (pc := 22) dJ6_bitCount_0f7a4_22 ?_
  refine s_topi (fun v3 e4 => ?_)
  replace hf := p_lx hf e4
  refine s_istore_n (pc := 23) (lo' := [(0, .int v3)]) dJ6_bitCount_0f7a4_23 rfl (Nat.le_of_ble_eq_true rfl) rfl ?_
  refine s_iload_n (pc := 24) dJ6_bitCount_0f7a4_24 0 rfl rfl ?_
  refine s_iload_n (pc := 25) dJ6_bitCount_0f7a4_25 0 rfl rfl ?_
  refine s_iconst (pc := 26) dJ6_bitCount_0f7a4_26 (v := nI 4) rfl ?_
  refine s_iushr (pc := 27) dJ6_bitCount_0f7a4_27 ?_
  refine s_iadd (pc := 28) dJ6_bitCount_0f7a4_28 ?_
  refine s_ldcw (pc := 29) (v := nI 252645135) kc_J6_267 dJ6_bitCount_0f7a4_29 ?_
  refine s_iand (pc := 32) dJ6_bitCount_0f7a4_32 ?_
  refine s_topi (fun v5 e6 => ?_)
  replace hf := p_lx hf e6
  refine s_istore_n (pc := 33) (lo' := [(0, .int v5)]) dJ6_bitCount_0f7a4_33 rfl (Nat.le_of_ble_eq_true rfl) rfl ?_
  refine s_iload_n (pc := 34) dJ6_bitCount_0f7a4_34 0 rfl rfl ?_
  refine s_iload_n (pc := 35) dJ6_bitCount_0f7a4_35 0 rfl rfl ?_
  refine s_bipush (pc := 36) dJ6_bitCount_0f7a4_36 (v := nI 8) rfl ?_
  refine s_iushr (pc := 38) dJ6_bitCount_0f7a4_38 ?_
  refine s_iadd (pc := 39) dJ6_bitCount_0f7a4_39 ?_
  refine s_topi (fun v7 e8 => ?_)
  replace hf := p_lx hf e8
  refine s_istore_n (pc := 40) (lo' := [(0, .int v7)]) dJ6_bitCount_0f7a4_40 rfl (Nat.le_of_ble_eq_true rfl) rfl ?_
  refine s_iload_n (pc := 41) dJ6_bitCount_0f7a4_41 0 rfl rfl ?_
  refine s_iload_n (pc := 42) dJ6_bitCount_0f7a4_42 0 rfl rfl ?_
  refine s_bipush (pc := 43) dJ6_bitCount_0f7a4_43 (v := nI 16) rfl ?_
  refine s_iushr (pc := 45) dJ6_bitCount_0f7a4_45 ?_
  refine s_iadd (pc := 46) dJ6_bitCount_0f7a4_46 ?_
  refine s_topi (fun v9 e10 => ?_)
  replace hf := p_lx hf e10
  refine s_istore_n (pc := 47) (lo' := [(0, .int v9)]) dJ6_bitCount_0f7a4_47 rfl (Nat.le_of_ble_eq_true rfl) rfl ?_
  refine s_iload_n (pc := 48) dJ6_bitCount_0f7a4_48 0 rfl rfl ?_
  refine s_bipush (pc := 49) dJ6_bitCount_0f7a4_49 (v := nI 63) rfl ?_
  refine s_iand (pc := 51) dJ6_bitCount_0f7a4_51 ?_
  cases hf
  exact s_ireturn (pc := 52) dJ6_bitCount_0f7a4_52 rfl rfl ⟨rfl, rfl, rfl, rfl, rfl⟩
def f_X5_offer (I : pI) (a0 : Nat) (x1 : Int32) (x2 : Int32) (x3 : Int32) : Option pI :=
  (if (I a0 5) = (-1) then
    p_let (p_u I a0 5 x2) fun I1 =>
    p_let (p_u I1 a0 6 x3) fun I3 =>
    p_let (p_u I3 a0 7 x1) fun I5 =>
    some I5
  else
    (if x2 < (I a0 5) then
      p_let (p_u I a0 5 x2) fun I7 =>
      p_let (p_u I7 a0 6 x3) fun I9 =>
      p_let (p_u I9 a0 7 x1) fun I11 =>
      some I11
    else
      (if x2 = (I a0 5) then
        (if (I a0 6) ≤ x3 then
          some I
        else
          p_let (p_u I a0 5 x2) fun I13 =>
          p_let (p_u I13 a0 6 x3) fun I15 =>
          p_let (p_u I15 a0 7 x1) fun I17 =>
          some I17)
      else
        some I)))
theorem c_X5_offer {G : pG} {d : Nat} {N : pN} {I : pI} {L : pL} {P : pR} {a0 : Nat} {x1 : Int32} {x2 : Int32} {x3 : Int32} {qq : pI} (hd : 0 ≤ d) (hW : WT N P) (ha0 : p_tp N a0 8) (hf : f_X5_offer I a0 x1 x2 x3 = some qq) : MT G mX5_offer d 0 0 [.ref a0, .int x1, .int x2, .int x3] N I L P (p_R none N qq L P) := by
  refine MT.of rfl (Nat.le_of_ble_eq_true rfl) ?_
  show SW G mX5_offer (p_rm d 0 0) 0 0 0 0 (p_R none N qq L P) 0 [(0, .ref a0), (1, .int x1), (2, .int x2), (3, .int x3)] [] N I L P
  unfold f_X5_offer at hf
  refine s_aload_n (pc := 0) dX5_offer_0 0 rfl rfl ?_
  refine x_getI (pc := 1) dX5_offer_1 fl_X5_21 rfl ha0 ?_
  refine s_iconst (pc := 4) dX5_offer_4 (v := (-1)) rfl ?_
  refine s_icmp_eq (pc := 5) (tgt := 32) dX5_offer_5 rfl (fun hc => ?_) (fun hc => ?_)
  · replace hf := p_ps hf hc
    refine s_aload_n (pc := 32) dX5_offer_32 0 rfl rfl ?_
    refine s_iload_n (pc := 33) dX5_offer_33 2 rfl rfl ?_
    refine x_putI (pc := 34) dX5_offer_34 fl_X5_21 (Or.inl rfl) rfl ha0 ?_
    refine s_nmI (fun I1 e2 => ?_)
    replace hf := p_lx hf e2
    refine s_aload_n (pc := 37) dX5_offer_37 0 rfl rfl ?_
    refine s_iload_n (pc := 38) dX5_offer_38 3 rfl rfl ?_
    refine x_putI (pc := 39) dX5_offer_39 fl_X5_25 (Or.inl rfl) rfl ha0 ?_
    refine s_nmI (fun I3 e4 => ?_)
    replace hf := p_lx hf e4
    refine s_aload_n (pc := 42) dX5_offer_42 0 rfl rfl ?_
    refine s_iload_n (pc := 43) dX5_offer_43 1 rfl rfl ?_
    refine x_putI (pc := 44) dX5_offer_44 fl_X5_28 (Or.inl rfl) rfl ha0 ?_
    refine s_nmI (fun I5 e6 => ?_)
    replace hf := p_lx hf e6
    cases hf
    exact s_return (pc := 47) dX5_offer_47 rfl ⟨rfl, rfl, rfl, rfl, rfl⟩
  · replace hf := p_ng hf hc
    refine s_iload_n (pc := 8) dX5_offer_8 2 rfl rfl ?_
    refine s_aload_n (pc := 9) dX5_offer_9 0 rfl rfl ?_
    refine x_getI (pc := 10) dX5_offer_10 fl_X5_21 rfl ha0 ?_
    refine s_icmp_lt (pc := 13) (tgt := 32) dX5_offer_13 rfl (fun hc => ?_) (fun hc => ?_)
    · replace hf := p_ps hf hc
      refine s_aload_n (pc := 32) dX5_offer_32 0 rfl rfl ?_
      refine s_iload_n (pc := 33) dX5_offer_33 2 rfl rfl ?_
      refine x_putI (pc := 34) dX5_offer_34 fl_X5_21 (Or.inl rfl) rfl ha0 ?_
      refine s_nmI (fun I7 e8 => ?_)
      replace hf := p_lx hf e8
      refine s_aload_n (pc := 37) dX5_offer_37 0 rfl rfl ?_
      refine s_iload_n (pc := 38) dX5_offer_38 3 rfl rfl ?_
      refine x_putI (pc := 39) dX5_offer_39 fl_X5_25 (Or.inl rfl) rfl ha0 ?_
      refine s_nmI (fun I9 e10 => ?_)
      replace hf := p_lx hf e10
      refine s_aload_n (pc := 42) dX5_offer_42 0 rfl rfl ?_
      refine s_iload_n (pc := 43) dX5_offer_43 1 rfl rfl ?_
      refine x_putI (pc := 44) dX5_offer_44 fl_X5_28 (Or.inl rfl) rfl ha0 ?_
      refine s_nmI (fun I11 e12 => ?_)
      replace hf := p_lx hf e12
      cases hf
      exact s_return (pc := 47) dX5_offer_47 rfl ⟨rfl, rfl, rfl, rfl, rfl⟩
    · replace hf := p_ng hf hc
      refine s_iload_n (pc := 16) dX5_offer_16 2 rfl rfl ?_
      refine s_aload_n (pc := 17) dX5_offer_17 0 rfl rfl ?_
      refine x_getI (pc := 18) dX5_offer_18 fl_X5_21 rfl ha0 ?_
      refine s_icmp_ne (pc := 21) (tgt := 47) dX5_offer_21 rfl (fun hc => ?_) (fun hc => ?_)
      · replace hf := p_ng hf hc
        cases hf
        exact s_return (pc := 47) dX5_offer_47 rfl ⟨rfl, rfl, rfl, rfl, rfl⟩
      · replace hf := p_ps hf hc
        refine s_iload_n (pc := 24) dX5_offer_24 3 rfl rfl ?_
        refine s_aload_n (pc := 25) dX5_offer_25 0 rfl rfl ?_
        refine x_getI (pc := 26) dX5_offer_26 fl_X5_25 rfl ha0 ?_
        refine s_icmp_ge (pc := 29) (tgt := 47) dX5_offer_29 rfl (fun hc => ?_) (fun hc => ?_)
        · replace hf := p_ps hf hc
          cases hf
          exact s_return (pc := 47) dX5_offer_47 rfl ⟨rfl, rfl, rfl, rfl, rfl⟩
        · replace hf := p_ng hf hc
          refine s_aload_n (pc := 32) dX5_offer_32 0 rfl rfl ?_
          refine s_iload_n (pc := 33) dX5_offer_33 2 rfl rfl ?_
          refine x_putI (pc := 34) dX5_offer_34 fl_X5_21 (Or.inl rfl) rfl ha0 ?_
          refine s_nmI (fun I13 e14 => ?_)
          replace hf := p_lx hf e14
          refine s_aload_n (pc := 37) dX5_offer_37 0 rfl rfl ?_
          refine s_iload_n (pc := 38) dX5_offer_38 3 rfl rfl ?_
          refine x_putI (pc := 39) dX5_offer_39 fl_X5_25 (Or.inl rfl) rfl ha0 ?_
          refine s_nmI (fun I15 e16 => ?_)
          replace hf := p_lx hf e16
          refine s_aload_n (pc := 42) dX5_offer_42 0 rfl rfl ?_
          refine s_iload_n (pc := 43) dX5_offer_43 1 rfl rfl ?_
          refine x_putI (pc := 44) dX5_offer_44 fl_X5_28 (Or.inl rfl) rfl ha0 ?_
          refine s_nmI (fun I17 e18 => ?_)
          replace hf := p_lx hf e18
          cases hf
          exact s_return (pc := 47) dX5_offer_47 rfl ⟨rfl, rfl, rfl, rfl, rfl⟩
def B_X5_chooseSites_36 (n : Nat) (N : pN) (P : pR) (x1 : Int32) (a0 : Nat) (rec0 : (Int32 × pI) → Option pI) (s0 : Int32 × pI) : Option pI :=
  Option.bind (P a0 0) fun q21 =>
  Option.bind (P q21 3) fun q24 =>
  Option.bind (f_X8_size s0.2 q24) fun q27 =>
  (if ((nI 1) <<< (q27 &&& 31)) ≤ s0.1 then
    some s0.2
  else
    Option.bind (f_X5_reachOf n N s0.2 P a0 s0.1) fun q29 =>
    Option.bind (α := pI) ((if q29 = x1 then
      Option.bind (f_X5_costOf n N s0.2 P a0 s0.1) fun q33 =>
      Option.bind (f_J6_bitCount_0f7a4 s0.1) fun q35 =>
      Option.bind (f_X5_offer s0.2 a0 s0.1 q33 q35) fun q37 =>
      some q37
    else
      some s0.2)) fun t31 =>
    rec0 (s0.1 + nI 1, t31))
def f_X5_chooseSites (n : Nat) (N : pN) (I : pI) (L : pL) (P : pR) (a0 : Nat) : Option (pI × pL) :=
  Option.bind (f_X5_findSiteReaches n N I L P a0) fun q1 =>
  p_let (p_u q1.1 a0 5 (-1)) fun I3 =>
  p_let (p_u I3 a0 6 (-1)) fun I5 =>
  p_let (p_u I5 a0 7 (-1)) fun I7 =>
  Option.bind (P a0 0) fun q9 =>
  Option.bind (P q9 4) fun q12 =>
  Option.bind (f_X8_size I7 q12) fun q15 =>
  p_let (((nI 1) <<< (q15 &&& 31)) - (nI 1)) fun v17 =>
  Option.bind (p_it (B_X5_chooseSites_36 n N P v17 a0) n (nI 0, I7)) fun t19 =>
  some (t19, q1.2)
theorem c_X5_chooseSites {G : pG} {d : Nat} {n : Nat} {N : pN} {I : pI} {L : pL} {P : pR} {a0 : Nat} {qq : pI × pL} (hd : 6 ≤ d) (hW : WT N P) (ha0 : p_tp N a0 8) (hf : f_X5_chooseSites n N I L P a0 = some qq) : MT G mX5_chooseSites d 0 0 [.ref a0] N I L P (p_R none N qq.1 qq.2 P) := by
  refine MT.of rfl (Nat.le_of_ble_eq_true rfl) ?_
  show SW G mX5_chooseSites (p_rm d 0 0) 0 0 0 0 (p_R none N qq.1 qq.2 P) 0 [(0, .ref a0)] [] N I L P
  unfold f_X5_chooseSites at hf
  refine s_aload_n (pc := 0) dX5_chooseSites_0 0 rfl rfl ?_
  obtain ⟨q1, h2, hf⟩ := p_bd hf
  refine y_callV0 (pc := 1) dX5_chooseSites_1 (c_X5_findSiteReaches (p_dd hd (by decide)) hW ha0 h2) mk_X5_findSiteReaches mv_X5_findSiteReaches ml_X5_42 rfl rfl (Nat.le_of_ble_eq_true rfl) ha0 rfl (p_d1 hd (by decide)) (Nat.le_of_ble_eq_true rfl) ?_
  refine s_aload_n (pc := 4) dX5_chooseSites_4 0 rfl rfl ?_
  refine s_iconst (pc := 5) dX5_chooseSites_5 (v := (-1)) rfl ?_
  refine x_putI (pc := 6) dX5_chooseSites_6 fl_X5_21 (Or.inl rfl) rfl ha0 ?_
  refine s_nmI (fun I3 e4 => ?_)
  replace hf := p_lx hf e4
  refine s_aload_n (pc := 9) dX5_chooseSites_9 0 rfl rfl ?_
  refine s_iconst (pc := 10) dX5_chooseSites_10 (v := (-1)) rfl ?_
  refine x_putI (pc := 11) dX5_chooseSites_11 fl_X5_25 (Or.inl rfl) rfl ha0 ?_
  refine s_nmI (fun I5 e6 => ?_)
  replace hf := p_lx hf e6
  refine s_aload_n (pc := 14) dX5_chooseSites_14 0 rfl rfl ?_
  refine s_iconst (pc := 15) dX5_chooseSites_15 (v := (-1)) rfl ?_
  refine x_putI (pc := 16) dX5_chooseSites_16 fl_X5_28 (Or.inl rfl) rfl ha0 ?_
  refine s_nmI (fun I7 e8 => ?_)
  replace hf := p_lx hf e8
  refine s_iconst (pc := 19) dX5_chooseSites_19 (v := nI 1) rfl ?_
  refine s_aload_n (pc := 20) dX5_chooseSites_20 0 rfl rfl ?_
  obtain ⟨q9, h10, hf⟩ := p_bd hf
  have t11 : p_tp N q9 10 := WT.get hW ha0 h10
  refine x_getR (pc := 21) dX5_chooseSites_21 fl_X5_34 rfl ha0 h10 ?_
  obtain ⟨q12, h13, hf⟩ := p_bd hf
  have t14 : p_tp N q12 11 := WT.get hW t11 h13
  refine x_getR (pc := 24) dX5_chooseSites_24 fl_X5_45 rfl t11 h13 ?_
  obtain ⟨q15, h16, hf⟩ := p_bd hf
  refine y_callV1 (pc := 27) dX5_chooseSites_27 (c_X8_size (p_dd hd (by decide)) hW t14 h16) mk_X8_size mv_X8_size ml_X5_51 rfl rfl (Nat.le_of_ble_eq_true rfl) t14 rfl (p_d1 hd (by decide)) (Nat.le_of_ble_eq_true rfl) ?_
  refine s_ishl (pc := 30) dX5_chooseSites_30 ?_
  refine s_iconst (pc := 31) dX5_chooseSites_31 (v := nI 1) rfl ?_
  refine s_isub (pc := 32) dX5_chooseSites_32 ?_
  refine s_topi (fun v17 e18 => ?_)
  replace hf := p_lx hf e18
  refine s_istore_n (pc := 33) (lo' := [(1, .int v17), (0, .ref a0)]) dX5_chooseSites_33 rfl (Nat.le_of_ble_eq_true rfl) rfl ?_
  refine s_iconst (pc := 34) dX5_chooseSites_34 (v := nI 0) rfl ?_
  refine s_istore_n (pc := 35) (lo' := [(2, .int (nI 0)), (1, .int v17), (0, .ref a0)]) dX5_chooseSites_35 rfl (Nat.le_of_ble_eq_true rfl) rfl ?_
  obtain ⟨t19, hg, hf⟩ := p_bd hf
  have k20 : SW G mX5_chooseSites (p_rm d 0 0) 0 0 0 0 (p_R none N qq.1 qq.2 P) 81 [] [] N t19 q1.2 P := by
    cases hf
    exact s_return (pc := 81) dX5_chooseSites_81 rfl ⟨rfl, rfl, rfl, rfl, rfl⟩
  replace hf := hg
  have k39 : ∀ (k : Nat) (s0 : Int32 × pI), p_it (B_X5_chooseSites_36 n N P v17 a0) k s0 = some t19 → (SW G mX5_chooseSites (p_rm d 0 0) 0 0 0 0 (p_R none N qq.1 qq.2 P) 36 [(1, .int v17), (0, .ref a0), (2, .int s0.1)] [] N s0.2 q1.2 P) := p_it_ind (C := fun (s0 : Int32 × pI) => SW G mX5_chooseSites (p_rm d 0 0) 0 0 0 0 (p_R none N qq.1 qq.2 P) 36 [(1, .int v17), (0, .ref a0), (2, .int s0.1)] [] N s0.2 q1.2 P) (by
    intro rec0 hrec0 s0 hf
    unfold B_X5_chooseSites_36 at hf
    refine s_iload_n (pc := 36) dX5_chooseSites_36 2 rfl rfl ?_
    refine s_iconst (pc := 37) dX5_chooseSites_37 (v := nI 1) rfl ?_
    refine s_aload_n (pc := 38) dX5_chooseSites_38 1 rfl rfl ?_
    obtain ⟨q40, h41, hf⟩ := p_bd hf
    have t42 : p_tp N q40 10 := WT.get hW ha0 h41
    refine x_getR (pc := 39) dX5_chooseSites_39 fl_X5_34 rfl ha0 h41 ?_
    obtain ⟨q43, h44, hf⟩ := p_bd hf
    have t45 : p_tp N q43 11 := WT.get hW t42 h44
    refine x_getR (pc := 42) dX5_chooseSites_42 fl_X5_57 rfl t42 h44 ?_
    obtain ⟨q46, h47, hf⟩ := p_bd hf
    refine y_callV1 (pc := 45) dX5_chooseSites_45 (c_X8_size (p_dd hd (by decide)) hW t45 h47) mk_X8_size mv_X8_size ml_X5_51 rfl rfl (Nat.le_of_ble_eq_true rfl) t45 rfl (p_d1 hd (by decide)) (Nat.le_of_ble_eq_true rfl) ?_
    refine s_ishl (pc := 48) dX5_chooseSites_48 ?_
    refine s_icmp_ge (pc := 49) (tgt := 81) dX5_chooseSites_49 rfl (fun hc => ?_) (fun hc => ?_)
    · replace hf := p_ps hf hc
      cases hf
      exact s_lo [] rfl (k20)
    · replace hf := p_ng hf hc
      refine s_aload_n (pc := 52) dX5_chooseSites_52 1 rfl rfl ?_
      refine s_iload_n (pc := 53) dX5_chooseSites_53 2 rfl rfl ?_
      obtain ⟨q48, h49, hf⟩ := p_bd hf
      refine y_callV1 (pc := 54) dX5_chooseSites_54 (c_X5_reachOf (p_dd hd (by decide)) hW ha0 h49) mk_X5_reachOf mv_X5_reachOf ml_X5_60 rfl rfl (Nat.le_of_ble_eq_true rfl) ha0 rfl (p_d1 hd (by decide)) (Nat.le_of_ble_eq_true rfl) ?_
      refine s_iload_n (pc := 57) dX5_chooseSites_57 0 rfl rfl ?_
      obtain ⟨t50, hg, hf⟩ := p_bd hf
      have k51 : SW G mX5_chooseSites (p_rm d 0 0) 0 0 0 0 (p_R none N qq.1 qq.2 P) 75 [(1, .int v17), (0, .ref a0), (2, .int s0.1)] [] N t50 q1.2 P := by
        refine s_iinc (pc := 75) (lo' := [(2, .int (s0.1 + nI 1)), (1, .int v17), (0, .ref a0)]) dX5_chooseSites_75 2 rfl (v := s0.1 + nI 1) rfl (Nat.le_of_ble_eq_true rfl) rfl ?_
        refine s_goto (pc := 78) (tgt := 36) dX5_chooseSites_78 rfl ?_
        exact s_lo [1, 2, 0] rfl (hrec0 (s0.1 + nI 1, t50) hf)
      replace hf := hg
      refine s_icmp_ne (pc := 58) (tgt := 75) dX5_chooseSites_58 rfl (fun hc => ?_) (fun hc => ?_)
      · replace hf := p_ng hf hc
        cases hf
        exact s_lo [0, 1, 2] rfl (k51)
      · replace hf := p_ps hf hc
        refine s_aload_n (pc := 61) dX5_chooseSites_61 1 rfl rfl ?_
        refine s_iload_n (pc := 62) dX5_chooseSites_62 2 rfl rfl ?_
        refine s_aload_n (pc := 63) dX5_chooseSites_63 1 rfl rfl ?_
        refine s_iload_n (pc := 64) dX5_chooseSites_64 2 rfl rfl ?_
        obtain ⟨q52, h53, hf⟩ := p_bd hf
        refine y_callV1 (pc := 65) dX5_chooseSites_65 (c_X5_costOf (p_dd hd (by decide)) hW ha0 h53) mk_X5_costOf mv_X5_costOf ml_X5_64 rfl rfl (Nat.le_of_ble_eq_true rfl) ha0 rfl (p_d1 hd (by decide)) (Nat.le_of_ble_eq_true rfl) ?_
        refine s_iload_n (pc := 68) dX5_chooseSites_68 2 rfl rfl ?_
        obtain ⟨q54, h55, hf⟩ := p_bd hf
        refine y_callS1 (pc := 69) dX5_chooseSites_69 (c_J6_bitCount_0f7a4 (p_dd hd (by decide)) hW  h55) mk_J6_bitCount_0f7a4 mz_J6_bitCount_0f7a4 ml_X5_67 rfl rfl (Nat.le_of_ble_eq_true rfl) (p_d1 hd (by decide)) (Nat.le_of_ble_eq_true rfl) ?_
        obtain ⟨q56, h57, hf⟩ := p_bd hf
        refine y_callV0 (pc := 72) dX5_chooseSites_72 (c_X5_offer (p_dd hd (by decide)) hW ha0 h57) mk_X5_offer mv_X5_offer ml_X5_72 rfl rfl (Nat.le_of_ble_eq_true rfl) ha0 rfl (p_d1 hd (by decide)) (Nat.le_of_ble_eq_true rfl) ?_
        cases hf
        exact s_lo [0, 1, 2] rfl (k51))
  exact s_lo [1, 2, 0] rfl (k39 n (nI 0, I7) hf)
def B_X5_findReaches_30 (n : Nat) (N : pN) (P : pR) (a0 : Nat) (x1 : Int32) (rec1 : (Int32 × Int32 × pI × pL) → Option (Int32 × pI × pL)) (s1 : Int32 × Int32 × pI × pL) : Option (Int32 × pI × pL) :=
  Option.bind (P a0 0) fun q15 =>
  Option.bind (P q15 4) fun q18 =>
  Option.bind (f_X8_size s1.2.2.1 q18) fun q21 =>
  (if q21 ≤ s1.2.1 then
    some (s1.1, s1.2.2.1, s1.2.2.2)
  else
    Option.bind (P a0 1) fun q23 =>
    Option.bind (P a0 0) fun q26 =>
    Option.bind (P q26 4) fun q29 =>
    Option.bind (f_X8_get N s1.2.2.1 P q29 s1.2.1 (nI 0)) fun q32 =>
    Option.bind (P a0 0) fun q34 =>
    Option.bind (P q34 4) fun q37 =>
    Option.bind (f_X8_get N s1.2.2.1 P q37 s1.2.1 (nI 1)) fun q40 =>
    Option.bind (f_X3_signalAt n N s1.2.2.1 s1.2.2.2 P q23 x1 q32 q40) fun q42 =>
    Option.bind (P a0 0) fun q44 =>
    Option.bind (f_X7_setting N q42.2.1 P q44 (nI 4)) fun q47 =>
    p_let (α := Int32) ((if q42.1 < q47 then
      nI 0
    else
      (nI 1) <<< (s1.2.1 &&& 31))) fun t49 =>
    rec1 (s1.1 ||| t49, s1.2.1 + nI 1, q42.2.1, q42.2.2))
def B_X5_findReaches_2 (n : Nat) (N : pN) (P : pR) (a0 : Nat) (rec0 : (Int32 × pI × pL) → Option (pI × pL)) (s0 : Int32 × pI × pL) : Option (pI × pL) :=
  Option.bind (P a0 3) fun q3 =>
  (if (nI (N.2 q3).2) ≤ s0.1 then
    some (s0.2.1, s0.2.2)
  else
    Option.bind (P a0 0) fun q6 =>
    Option.bind (f_X7_senderStands N s0.2.1 P q6 s0.1) fun q9 =>
    p_let (α := Int32) ((if q9 = 0 then
      (-1)
    else
      nI 0)) fun t11 =>
    Option.bind (p_it (B_X5_findReaches_30 n N P a0 s0.1) n (t11, nI 0, s0.2.1, s0.2.2)) fun t13 =>
    Option.bind (P a0 3) fun q88 =>
    p_ck (p_ib N q88 s0.1) <|
    p_let (p_u t13.2.1 q88 (Int32.toNatClampNeg s0.1) t13.1) fun I92 =>
    rec0 (s0.1 + nI 1, I92, t13.2.2))
def f_X5_findReaches (n : Nat) (N : pN) (I : pI) (L : pL) (P : pR) (a0 : Nat) : Option (pI × pL) :=
  Option.bind (p_it (B_X5_findReaches_2 n N P a0) n (nI 0, I, L)) fun t1 =>
  some (t1.1, t1.2)
theorem c_X5_findReaches {G : pG} {d : Nat} {n : Nat} {N : pN} {I : pI} {L : pL} {P : pR} {a0 : Nat} {qq : pI × pL} (hd : 5 ≤ d) (hW : WT N P) (ha0 : p_tp N a0 8) (hf : f_X5_findReaches n N I L P a0 = some qq) : MT G mX5_findReaches d 0 0 [.ref a0] N I L P (p_R none N qq.1 qq.2 P) := by
  refine MT.of rfl (Nat.le_of_ble_eq_true rfl) ?_
  show SW G mX5_findReaches (p_rm d 0 0) 0 0 0 0 (p_R none N qq.1 qq.2 P) 0 [(0, .ref a0)] [] N I L P
  unfold f_X5_findReaches at hf
  refine s_iconst (pc := 0) dX5_findReaches_0 (v := nI 0) rfl ?_
  refine s_istore_n (pc := 1) (lo' := [(1, .int (nI 0)), (0, .ref a0)]) dX5_findReaches_1 rfl (Nat.le_of_ble_eq_true rfl) rfl ?_
  obtain ⟨t1, hg, hf⟩ := p_bd hf
  have k2 : SW G mX5_findReaches (p_rm d 0 0) 0 0 0 0 (p_R none N qq.1 qq.2 P) 120 [] [] N t1.1 t1.2 P := by
    cases hf
    exact s_return (pc := 120) dX5_findReaches_120 rfl ⟨rfl, rfl, rfl, rfl, rfl⟩
  replace hf := hg
  have k94 : ∀ (k : Nat) (s0 : Int32 × pI × pL), p_it (B_X5_findReaches_2 n N P a0) k s0 = some t1 → (SW G mX5_findReaches (p_rm d 0 0) 0 0 0 0 (p_R none N qq.1 qq.2 P) 2 [(0, .ref a0), (1, .int s0.1)] [] N s0.2.1 s0.2.2 P) := p_it_ind (C := fun (s0 : Int32 × pI × pL) => SW G mX5_findReaches (p_rm d 0 0) 0 0 0 0 (p_R none N qq.1 qq.2 P) 2 [(0, .ref a0), (1, .int s0.1)] [] N s0.2.1 s0.2.2 P) (by
    intro rec0 hrec0 s0 hf
    unfold B_X5_findReaches_2 at hf
    refine s_iload_n (pc := 2) dX5_findReaches_2 1 rfl rfl ?_
    refine s_aload_n (pc := 3) dX5_findReaches_3 0 rfl rfl ?_
    obtain ⟨q95, h96, hf⟩ := p_bd hf
    have t97 : p_tp N q95 0 := WT.get hW ha0 h96
    refine x_getR (pc := 4) dX5_findReaches_4 fl_X5_15 rfl ha0 h96 ?_
    refine x_alen (pc := 7) dX5_findReaches_7 t97 (Nat.le_of_ble_eq_true rfl) ?_
    refine s_icmp_ge (pc := 8) (tgt := 120) dX5_findReaches_8 rfl (fun hc => ?_) (fun hc => ?_)
    · replace hf := p_ps hf hc
      cases hf
      exact s_lo [] rfl (k2)
    · replace hf := p_ng hf hc
      refine s_aload_n (pc := 11) dX5_findReaches_11 0 rfl rfl ?_
      obtain ⟨q98, h99, hf⟩ := p_bd hf
      have t100 : p_tp N q98 10 := WT.get hW ha0 h99
      refine x_getR (pc := 12) dX5_findReaches_12 fl_X5_34 rfl ha0 h99 ?_
      refine s_iload_n (pc := 15) dX5_findReaches_15 1 rfl rfl ?_
      obtain ⟨q101, h102, hf⟩ := p_bd hf
      refine y_callV1 (pc := 16) dX5_findReaches_16 (c_X7_senderStands (p_dd hd (by decide)) hW t100 h102) mk_X7_senderStands mv_X7_senderStands ml_X5_88 rfl rfl (Nat.le_of_ble_eq_true rfl) t100 rfl (p_d1 hd (by decide)) (Nat.le_of_ble_eq_true rfl) ?_
      obtain ⟨t103, hg, hf⟩ := p_lx2 hf
      have k104 : SW G mX5_findReaches (p_rm d 0 0) 0 0 0 0 (p_R none N qq.1 qq.2 P) 27 [(0, .ref a0), (1, .int s0.1)] [.int t103] N s0.2.1 s0.2.2 P := by
        refine s_istore_n (pc := 27) (lo' := [(2, .int t103), (0, .ref a0), (1, .int s0.1)]) dX5_findReaches_27 rfl (Nat.le_of_ble_eq_true rfl) rfl ?_
        refine s_iconst (pc := 28) dX5_findReaches_28 (v := nI 0) rfl ?_
        refine s_istore_n (pc := 29) (lo' := [(3, .int (nI 0)), (2, .int t103), (0, .ref a0), (1, .int s0.1)]) dX5_findReaches_29 rfl (Nat.le_of_ble_eq_true rfl) rfl ?_
        obtain ⟨t105, hg, hf⟩ := p_bd hf
        have k106 : SW G mX5_findReaches (p_rm d 0 0) 0 0 0 0 (p_R none N qq.1 qq.2 P) 107 [(0, .ref a0), (1, .int s0.1), (2, .int t105.1)] [] N t105.2.1 t105.2.2 P := by
          refine s_aload_n (pc := 107) dX5_findReaches_107 0 rfl rfl ?_
          obtain ⟨q144, h145, hf⟩ := p_bd hf
          have t146 : p_tp N q144 0 := WT.get hW ha0 h145
          refine x_getR (pc := 108) dX5_findReaches_108 fl_X5_15 rfl ha0 h145 ?_
          refine s_iload_n (pc := 111) dX5_findReaches_111 1 rfl rfl ?_
          refine s_iload_n (pc := 112) dX5_findReaches_112 2 rfl rfl ?_
          obtain ⟨c147, hf⟩ := p_ckx hf
          refine x_iast (pc := 113) dX5_findReaches_113 t146 c147 ?_
          refine s_nmI (fun I148 e149 => ?_)
          replace hf := p_lx hf e149
          refine s_iinc (pc := 114) (lo' := [(1, .int (s0.1 + nI 1)), (0, .ref a0), (2, .int t105.1)]) dX5_findReaches_114 1 rfl (v := s0.1 + nI 1) rfl (Nat.le_of_ble_eq_true rfl) rfl ?_
          refine s_goto (pc := 117) (tgt := 2) dX5_findReaches_117 rfl ?_
          exact s_lo [1, 0] rfl (hrec0 (s0.1 + nI 1, I148, t105.2.2) hf)
        replace hf := hg
        have k107 : ∀ (k : Nat) (s1 : Int32 × Int32 × pI × pL), p_it (B_X5_findReaches_30 n N P a0 s0.1) k s1 = some t105 → (SW G mX5_findReaches (p_rm d 0 0) 0 0 0 0 (p_R none N qq.1 qq.2 P) 30 [(0, .ref a0), (1, .int s0.1), (2, .int s1.1), (3, .int s1.2.1)] [] N s1.2.2.1 s1.2.2.2 P) := p_it_ind (C := fun (s1 : Int32 × Int32 × pI × pL) => SW G mX5_findReaches (p_rm d 0 0) 0 0 0 0 (p_R none N qq.1 qq.2 P) 30 [(0, .ref a0), (1, .int s0.1), (2, .int s1.1), (3, .int s1.2.1)] [] N s1.2.2.1 s1.2.2.2 P) (by
          intro rec1 hrec1 s1 hf
          unfold B_X5_findReaches_30 at hf
          refine s_iload_n (pc := 30) dX5_findReaches_30 3 rfl rfl ?_
          refine s_aload_n (pc := 31) dX5_findReaches_31 0 rfl rfl ?_
          obtain ⟨q108, h109, hf⟩ := p_bd hf
          have t110 : p_tp N q108 10 := WT.get hW ha0 h109
          refine x_getR (pc := 32) dX5_findReaches_32 fl_X5_34 rfl ha0 h109 ?_
          obtain ⟨q111, h112, hf⟩ := p_bd hf
          have t113 : p_tp N q111 11 := WT.get hW t110 h112
          refine x_getR (pc := 35) dX5_findReaches_35 fl_X5_45 rfl t110 h112 ?_
          obtain ⟨q114, h115, hf⟩ := p_bd hf
          refine y_callV1 (pc := 38) dX5_findReaches_38 (c_X8_size (p_dd hd (by decide)) hW t113 h115) mk_X8_size mv_X8_size ml_X5_51 rfl rfl (Nat.le_of_ble_eq_true rfl) t113 rfl (p_d1 hd (by decide)) (Nat.le_of_ble_eq_true rfl) ?_
          refine s_icmp_ge (pc := 41) (tgt := 107) dX5_findReaches_41 rfl (fun hc => ?_) (fun hc => ?_)
          · replace hf := p_ps hf hc
            cases hf
            exact s_lo [0, 1, 2] rfl (k106)
          · replace hf := p_ng hf hc
            refine s_aload_n (pc := 44) dX5_findReaches_44 0 rfl rfl ?_
            obtain ⟨q116, h117, hf⟩ := p_bd hf
            have t118 : p_tp N q116 6 := WT.get hW ha0 h117
            refine x_getR (pc := 45) dX5_findReaches_45 fl_X5_38 rfl ha0 h117 ?_
            refine s_iload_n (pc := 48) dX5_findReaches_48 1 rfl rfl ?_
            refine s_aload_n (pc := 49) dX5_findReaches_49 0 rfl rfl ?_
            obtain ⟨q119, h120, hf⟩ := p_bd hf
            have t121 : p_tp N q119 10 := WT.get hW ha0 h120
            refine x_getR (pc := 50) dX5_findReaches_50 fl_X5_34 rfl ha0 h120 ?_
            obtain ⟨q122, h123, hf⟩ := p_bd hf
            have t124 : p_tp N q122 11 := WT.get hW t121 h123
            refine x_getR (pc := 53) dX5_findReaches_53 fl_X5_45 rfl t121 h123 ?_
            refine s_iload_n (pc := 56) dX5_findReaches_56 3 rfl rfl ?_
            refine s_iconst (pc := 57) dX5_findReaches_57 (v := nI 0) rfl ?_
            obtain ⟨q125, h126, hf⟩ := p_bd hf
            refine y_callV1 (pc := 58) dX5_findReaches_58 (c_X8_get (p_dd hd (by decide)) hW t124 h126) mk_X8_get mv_X8_get ml_X5_85 rfl rfl (Nat.le_of_ble_eq_true rfl) t124 rfl (p_d1 hd (by decide)) (Nat.le_of_ble_eq_true rfl) ?_
            refine s_aload_n (pc := 61) dX5_findReaches_61 0 rfl rfl ?_
            obtain ⟨q127, h128, hf⟩ := p_bd hf
            have t129 : p_tp N q127 10 := WT.get hW ha0 h128
            refine x_getR (pc := 62) dX5_findReaches_62 fl_X5_34 rfl ha0 h128 ?_
            obtain ⟨q130, h131, hf⟩ := p_bd hf
            have t132 : p_tp N q130 11 := WT.get hW t129 h131
            refine x_getR (pc := 65) dX5_findReaches_65 fl_X5_45 rfl t129 h131 ?_
            refine s_iload_n (pc := 68) dX5_findReaches_68 3 rfl rfl ?_
            refine s_iconst (pc := 69) dX5_findReaches_69 (v := nI 1) rfl ?_
            obtain ⟨q133, h134, hf⟩ := p_bd hf
            refine y_callV1 (pc := 70) dX5_findReaches_70 (c_X8_get (p_dd hd (by decide)) hW t132 h134) mk_X8_get mv_X8_get ml_X5_85 rfl rfl (Nat.le_of_ble_eq_true rfl) t132 rfl (p_d1 hd (by decide)) (Nat.le_of_ble_eq_true rfl) ?_
            obtain ⟨q135, h136, hf⟩ := p_bd hf
            refine y_callV1 (pc := 73) dX5_findReaches_73 (c_X3_signalAt (p_dd hd (by decide)) hW t118 h136) mk_X3_signalAt mv_X3_signalAt ml_X5_92 rfl rfl (Nat.le_of_ble_eq_true rfl) t118 rfl (p_d1 hd (by decide)) (Nat.le_of_ble_eq_true rfl) ?_
            refine s_istore (pc := 76) (lo' := [(4, .int q135.1), (0, .ref a0), (1, .int s0.1), (2, .int s1.1), (3, .int s1.2.1)]) dX5_findReaches_76 (Nat.le_of_ble_eq_true rfl) rfl ?_
            refine s_iload_n (pc := 78) dX5_findReaches_78 3 rfl rfl ?_
            refine s_iload (pc := 79) dX5_findReaches_79 0 rfl ?_
            refine s_aload_n (pc := 81) dX5_findReaches_81 1 rfl rfl ?_
            obtain ⟨q137, h138, hf⟩ := p_bd hf
            have t139 : p_tp N q137 10 := WT.get hW ha0 h138
            refine x_getR (pc := 82) dX5_findReaches_82 fl_X5_34 rfl ha0 h138 ?_
            refine s_iconst (pc := 85) dX5_findReaches_85 (v := nI 4) rfl ?_
            obtain ⟨q140, h141, hf⟩ := p_bd hf
            refine y_callV1 (pc := 86) dX5_findReaches_86 (c_X7_setting (p_dd hd (by decide)) hW t139 h141) mk_X7_setting mv_X7_setting ml_X5_82 rfl rfl (Nat.le_of_ble_eq_true rfl) t139 rfl (p_d1 hd (by decide)) (Nat.le_of_ble_eq_true rfl) ?_
            obtain ⟨t142, hg, hf⟩ := p_lx2 hf
            have k143 : SW G mX5_findReaches (p_rm d 0 0) 0 0 0 0 (p_R none N qq.1 qq.2 P) 99 [(0, .ref a0), (1, .int s0.1), (3, .int s1.2.1)] [.int t142, .int s1.1] N q135.2.1 q135.2.2 P := by
              refine s_ior (pc := 99) dX5_findReaches_99 ?_
              refine s_istore_n (pc := 100) (lo' := [(2, .int (s1.1 ||| t142)), (0, .ref a0), (1, .int s0.1), (3, .int s1.2.1)]) dX5_findReaches_100 rfl (Nat.le_of_ble_eq_true rfl) rfl ?_
              refine s_iinc (pc := 101) (lo' := [(3, .int (s1.2.1 + nI 1)), (2, .int (s1.1 ||| t142)), (0, .ref a0), (1, .int s0.1)]) dX5_findReaches_101 3 rfl (v := s1.2.1 + nI 1) rfl (Nat.le_of_ble_eq_true rfl) rfl ?_
              refine s_goto (pc := 104) (tgt := 30) dX5_findReaches_104 rfl ?_
              exact s_lo [2, 3, 1, 0] rfl (hrec1 (s1.1 ||| t142, s1.2.1 + nI 1, q135.2.1, q135.2.2) hf)
            replace hf := hg.symm
            refine s_icmp_lt (pc := 89) (tgt := 98) dX5_findReaches_89 rfl (fun hc => ?_) (fun hc => ?_)
            · replace hf := p_ps hf hc
              refine s_iconst (pc := 98) dX5_findReaches_98 (v := nI 0) rfl ?_
              cases hf
              exact s_lo [1, 2, 4] rfl (k143)
            · replace hf := p_ng hf hc
              refine s_iconst (pc := 92) dX5_findReaches_92 (v := nI 1) rfl ?_
              refine s_iload_n (pc := 93) dX5_findReaches_93 4 rfl rfl ?_
              refine s_ishl (pc := 94) dX5_findReaches_94 ?_
              refine s_goto (pc := 95) (tgt := 99) dX5_findReaches_95 rfl ?_
              cases hf
              exact s_lo [1, 2, 4] rfl (k143))
        exact s_lo [2, 3, 1, 0] rfl (k107 n (t103, nI 0, s0.2.1, s0.2.2) hf)
      replace hf := hg.symm
      refine s_if_eq (pc := 19) (tgt := 26) dX5_findReaches_19 rfl (fun hc => ?_) (fun hc => ?_)
      · replace hf := p_ps hf hc
        refine s_iconst (pc := 26) dX5_findReaches_26 (v := (-1)) rfl ?_
        cases hf
        exact s_lo [0, 1] rfl (k104)
      · replace hf := p_ng hf hc
        refine s_iconst (pc := 22) dX5_findReaches_22 (v := nI 0) rfl ?_
        refine s_goto (pc := 23) (tgt := 27) dX5_findReaches_23 rfl ?_
        cases hf
        exact s_lo [0, 1] rfl (k104))
  exact s_lo [1, 0] rfl (k94 n (nI 0, I, L) hf)
def f_X5_areClashing (N : pN) (I : pI) (a0 : Nat) (x1 : Int32) (x2 : Int32) : Option Int32 :=
  (if x1 < 0 then
    some (nI 0)
  else
    (if (nI (N.2 a0).2) ≤ x1 then
      some (nI 0)
    else
      (if x2 < 0 then
        some (nI 0)
      else
        (if x2 < (nI (N.2 a0).2) then
          p_ck (p_ib N a0 x1) <|
          (if (I a0 (Int32.toNatClampNeg x1)) = (-1) then
            some (nI 0)
          else
            p_ck (p_ib N a0 x2) <|
            (if (I a0 (Int32.toNatClampNeg x2)) = (-1) then
              some (nI 0)
            else
              p_ck (p_ib N a0 x1) <|
              p_ck (p_ib N a0 x2) <|
              (if ((I a0 (Int32.toNatClampNeg x1)) &&& (I a0 (Int32.toNatClampNeg x2))) = 0 then
                some (nI 0)
              else
                some (nI 1))))
        else
          some (nI 0)))))
theorem c_X5_areClashing {G : pG} {d : Nat} {N : pN} {I : pI} {L : pL} {P : pR} {a0 : Nat} {x1 : Int32} {x2 : Int32} {qq : Int32} (hd : 0 ≤ d) (hW : WT N P) (ha0 : p_tp N a0 0) (hf : f_X5_areClashing N I a0 x1 x2 = some qq) : MT G mX5_areClashing d 0 0 [.ref a0, .int x1, .int x2] N I L P (p_R (some (.int qq)) N I L P) := by
  refine MT.of rfl (Nat.le_of_ble_eq_true rfl) ?_
  show SW G mX5_areClashing (p_rm d 0 0) 0 0 0 0 (p_R (some (.int qq)) N I L P) 0 [(0, .ref a0), (1, .int x1), (2, .int x2)] [] N I L P
  unfold f_X5_areClashing at hf
  refine s_iload_n (pc := 0) dX5_areClashing_0 1 rfl rfl ?_
  refine s_if_lt (pc := 1) (tgt := 20) dX5_areClashing_1 rfl (fun hc => ?_) (fun hc => ?_)
  · replace hf := p_ps hf hc
    refine s_iconst (pc := 20) dX5_areClashing_20 (v := nI 0) rfl ?_
    cases hf
    exact s_ireturn (pc := 21) dX5_areClashing_21 rfl rfl ⟨rfl, rfl, rfl, rfl, rfl⟩
  · replace hf := p_ng hf hc
    refine s_iload_n (pc := 4) dX5_areClashing_4 1 rfl rfl ?_
    refine s_aload_n (pc := 5) dX5_areClashing_5 0 rfl rfl ?_
    refine x_alen (pc := 6) dX5_areClashing_6 ha0 (Nat.le_of_ble_eq_true rfl) ?_
    refine s_icmp_ge (pc := 7) (tgt := 20) dX5_areClashing_7 rfl (fun hc => ?_) (fun hc => ?_)
    · replace hf := p_ps hf hc
      refine s_iconst (pc := 20) dX5_areClashing_20 (v := nI 0) rfl ?_
      cases hf
      exact s_ireturn (pc := 21) dX5_areClashing_21 rfl rfl ⟨rfl, rfl, rfl, rfl, rfl⟩
    · replace hf := p_ng hf hc
      refine s_iload_n (pc := 10) dX5_areClashing_10 2 rfl rfl ?_
      refine s_if_lt (pc := 11) (tgt := 20) dX5_areClashing_11 rfl (fun hc => ?_) (fun hc => ?_)
      · replace hf := p_ps hf hc
        refine s_iconst (pc := 20) dX5_areClashing_20 (v := nI 0) rfl ?_
        cases hf
        exact s_ireturn (pc := 21) dX5_areClashing_21 rfl rfl ⟨rfl, rfl, rfl, rfl, rfl⟩
      · replace hf := p_ng hf hc
        refine s_iload_n (pc := 14) dX5_areClashing_14 2 rfl rfl ?_
        refine s_aload_n (pc := 15) dX5_areClashing_15 0 rfl rfl ?_
        refine x_alen (pc := 16) dX5_areClashing_16 ha0 (Nat.le_of_ble_eq_true rfl) ?_
        refine s_icmp_lt (pc := 17) (tgt := 22) dX5_areClashing_17 rfl (fun hc => ?_) (fun hc => ?_)
        · replace hf := p_ps hf hc
          refine s_aload_n (pc := 22) dX5_areClashing_22 0 rfl rfl ?_
          refine s_iload_n (pc := 23) dX5_areClashing_23 1 rfl rfl ?_
          obtain ⟨c1, hf⟩ := p_ckx hf
          refine x_iald (pc := 24) dX5_areClashing_24 ha0 c1 ?_
          refine s_iconst (pc := 25) dX5_areClashing_25 (v := (-1)) rfl ?_
          refine s_icmp_eq (pc := 26) (tgt := 50) dX5_areClashing_26 rfl (fun hc => ?_) (fun hc => ?_)
          · replace hf := p_ps hf hc
            refine s_iconst (pc := 50) dX5_areClashing_50 (v := nI 0) rfl ?_
            cases hf
            exact s_ireturn (pc := 51) dX5_areClashing_51 rfl rfl ⟨rfl, rfl, rfl, rfl, rfl⟩
          · replace hf := p_ng hf hc
            refine s_aload_n (pc := 29) dX5_areClashing_29 0 rfl rfl ?_
            refine s_iload_n (pc := 30) dX5_areClashing_30 2 rfl rfl ?_
            obtain ⟨c2, hf⟩ := p_ckx hf
            refine x_iald (pc := 31) dX5_areClashing_31 ha0 c2 ?_
            refine s_iconst (pc := 32) dX5_areClashing_32 (v := (-1)) rfl ?_
            refine s_icmp_eq (pc := 33) (tgt := 50) dX5_areClashing_33 rfl (fun hc => ?_) (fun hc => ?_)
            · replace hf := p_ps hf hc
              refine s_iconst (pc := 50) dX5_areClashing_50 (v := nI 0) rfl ?_
              cases hf
              exact s_ireturn (pc := 51) dX5_areClashing_51 rfl rfl ⟨rfl, rfl, rfl, rfl, rfl⟩
            · replace hf := p_ng hf hc
              refine s_aload_n (pc := 36) dX5_areClashing_36 0 rfl rfl ?_
              refine s_iload_n (pc := 37) dX5_areClashing_37 1 rfl rfl ?_
              obtain ⟨c3, hf⟩ := p_ckx hf
              refine x_iald (pc := 38) dX5_areClashing_38 ha0 c3 ?_
              refine s_aload_n (pc := 39) dX5_areClashing_39 0 rfl rfl ?_
              refine s_iload_n (pc := 40) dX5_areClashing_40 2 rfl rfl ?_
              obtain ⟨c4, hf⟩ := p_ckx hf
              refine x_iald (pc := 41) dX5_areClashing_41 ha0 c4 ?_
              refine s_iand (pc := 42) dX5_areClashing_42 ?_
              refine s_if_eq (pc := 43) (tgt := 50) dX5_areClashing_43 rfl (fun hc => ?_) (fun hc => ?_)
              · replace hf := p_ps hf hc
                refine s_iconst (pc := 50) dX5_areClashing_50 (v := nI 0) rfl ?_
                cases hf
                exact s_ireturn (pc := 51) dX5_areClashing_51 rfl rfl ⟨rfl, rfl, rfl, rfl, rfl⟩
              · replace hf := p_ng hf hc
                refine s_iconst (pc := 46) dX5_areClashing_46 (v := nI 1) rfl ?_
                refine s_goto (pc := 47) (tgt := 51) dX5_areClashing_47 rfl ?_
                cases hf
                exact s_ireturn (pc := 51) dX5_areClashing_51 rfl rfl ⟨rfl, rfl, rfl, rfl, rfl⟩
        · replace hf := p_ng hf hc
          refine s_iconst (pc := 20) dX5_areClashing_20 (v := nI 0) rfl ?_
          cases hf
          exact s_ireturn (pc := 21) dX5_areClashing_21 rfl rfl ⟨rfl, rfl, rfl, rfl, rfl⟩
def f_X5_clashing (N : pN) (I : pI) (P : pR) (a0 : Nat) (x1 : Int32) (x2 : Int32) : Option Int32 :=
  Option.bind (P a0 3) fun q1 =>
  Option.bind (f_X5_areClashing N I q1 x1 x2) fun q4 =>
  p_ck (decide (q4 = 0 ∨ q4 = 1)) <|
  some q4
theorem c_X5_clashing {G : pG} {d : Nat} {N : pN} {I : pI} {L : pL} {P : pR} {a0 : Nat} {x1 : Int32} {x2 : Int32} {qq : Int32} (hd : 1 ≤ d) (hW : WT N P) (ha0 : p_tp N a0 8) (hf : f_X5_clashing N I P a0 x1 x2 = some qq) : MT G mX5_clashing d 0 0 [.ref a0, .int x1, .int x2] N I L P (p_R (some (.int qq)) N I L P) := by
  refine MT.of rfl (Nat.le_of_ble_eq_true rfl) ?_
  show SW G mX5_clashing (p_rm d 0 0) 0 0 0 0 (p_R (some (.int qq)) N I L P) 0 [(0, .ref a0), (1, .int x1), (2, .int x2)] [] N I L P
  unfold f_X5_clashing at hf
  refine s_aload_n (pc := 0) dX5_clashing_0 0 rfl rfl ?_
  obtain ⟨q1, h2, hf⟩ := p_bd hf
  have t3 : p_tp N q1 0 := WT.get hW ha0 h2
  refine x_getR (pc := 1) dX5_clashing_1 fl_X5_15 rfl ha0 h2 ?_
  refine s_iload_n (pc := 4) dX5_clashing_4 1 rfl rfl ?_
  refine s_iload_n (pc := 5) dX5_clashing_5 2 rfl rfl ?_
  obtain ⟨q4, h5, hf⟩ := p_bd hf
  refine y_callS1 (pc := 6) dX5_clashing_6 (c_X5_areClashing (p_dd hd (by decide)) hW t3 h5) mk_X5_areClashing mz_X5_areClashing ml_X5_96 rfl rfl (Nat.le_of_ble_eq_true rfl) (p_d1 hd (by decide)) (Nat.le_of_ble_eq_true rfl) ?_
  obtain ⟨c6, hf⟩ := p_ckx hf
  cases hf
  exact s_ireturn (pc := 9) dX5_clashing_9 rfl (p_nr (of_decide_eq_true c6)) ⟨rfl, rfl, rfl, rfl, rfl⟩
def B_X5_isFree_2 (N : pN) (I : pI) (x0 : Int32) (a1 : Nat) (a2 : Nat) (rec0 : Int32 → Option Int32) (s0 : Int32) : Option Int32 :=
  (if x0 ≤ s0 then
    some (nI 1)
  else
    (if (nI (N.2 a1).2) ≤ x0 then
      some (nI 1)
    else
      p_ck (p_ib N a1 s0) <|
      p_ck (p_ib N a1 x0) <|
      (if (I a1 (Int32.toNatClampNeg s0)) = (I a1 (Int32.toNatClampNeg x0)) then
        Option.bind (f_X5_areClashing N I a2 s0 x0) fun q3 =>
        (if q3 = 0 then
          rec0 (s0 + nI 1)
        else
          some (nI 0))
      else
        rec0 (s0 + nI 1))))
def f_X5_isFree (n : Nat) (N : pN) (I : pI) (x0 : Int32) (a1 : Nat) (a2 : Nat) : Option Int32 :=
  p_it (B_X5_isFree_2 N I x0 a1 a2) n (nI 0)
theorem c_X5_isFree {G : pG} {d : Nat} {n : Nat} {N : pN} {I : pI} {L : pL} {P : pR} {x0 : Int32} {a1 : Nat} {a2 : Nat} {qq : Int32} (hd : 1 ≤ d) (hW : WT N P) (ha1 : p_tp N a1 0) (ha2 : p_tp N a2 0) (hf : f_X5_isFree n N I x0 a1 a2 = some qq) : MT G mX5_isFree d 0 0 [.int x0, .ref a1, .ref a2] N I L P (p_R (some (.int qq)) N I L P) := by
  refine MT.of rfl (Nat.le_of_ble_eq_true rfl) ?_
  show SW G mX5_isFree (p_rm d 0 0) 0 0 0 0 (p_R (some (.int qq)) N I L P) 0 [(0, .int x0), (1, .ref a1), (2, .ref a2)] [] N I L P
  unfold f_X5_isFree at hf
  refine s_iconst (pc := 0) dX5_isFree_0 (v := nI 0) rfl ?_
  refine s_istore_n (pc := 1) (lo' := [(3, .int (nI 0)), (0, .int x0), (1, .ref a1), (2, .ref a2)]) dX5_isFree_1 rfl (Nat.le_of_ble_eq_true rfl) rfl ?_
  have k5 : ∀ (k : Nat) (s0 : Int32), p_it (B_X5_isFree_2 N I x0 a1 a2) k s0 = some qq → (SW G mX5_isFree (p_rm d 0 0) 0 0 0 0 (p_R (some (.int qq)) N I L P) 2 [(0, .int x0), (1, .ref a1), (2, .ref a2), (3, .int s0)] [] N I L P) := p_it_ind (C := fun (s0 : Int32) => SW G mX5_isFree (p_rm d 0 0) 0 0 0 0 (p_R (some (.int qq)) N I L P) 2 [(0, .int x0), (1, .ref a1), (2, .ref a2), (3, .int s0)] [] N I L P) (by
    intro rec0 hrec0 s0 hf
    unfold B_X5_isFree_2 at hf
    refine s_iload_n (pc := 2) dX5_isFree_2 3 rfl rfl ?_
    refine s_iload_n (pc := 3) dX5_isFree_3 0 rfl rfl ?_
    refine s_icmp_ge (pc := 4) (tgt := 39) dX5_isFree_4 rfl (fun hc => ?_) (fun hc => ?_)
    · replace hf := p_ps hf hc
      refine s_iconst (pc := 39) dX5_isFree_39 (v := nI 1) rfl ?_
      cases hf
      exact s_ireturn (pc := 40) dX5_isFree_40 rfl rfl ⟨rfl, rfl, rfl, rfl, rfl⟩
    · replace hf := p_ng hf hc
      refine s_iload_n (pc := 7) dX5_isFree_7 0 rfl rfl ?_
      refine s_aload_n (pc := 8) dX5_isFree_8 1 rfl rfl ?_
      refine x_alen (pc := 9) dX5_isFree_9 ha1 (Nat.le_of_ble_eq_true rfl) ?_
      refine s_icmp_ge (pc := 10) (tgt := 39) dX5_isFree_10 rfl (fun hc => ?_) (fun hc => ?_)
      · replace hf := p_ps hf hc
        refine s_iconst (pc := 39) dX5_isFree_39 (v := nI 1) rfl ?_
        cases hf
        exact s_ireturn (pc := 40) dX5_isFree_40 rfl rfl ⟨rfl, rfl, rfl, rfl, rfl⟩
      · replace hf := p_ng hf hc
        refine s_aload_n (pc := 13) dX5_isFree_13 1 rfl rfl ?_
        refine s_iload_n (pc := 14) dX5_isFree_14 3 rfl rfl ?_
        obtain ⟨c6, hf⟩ := p_ckx hf
        refine x_iald (pc := 15) dX5_isFree_15 ha1 c6 ?_
        refine s_aload_n (pc := 16) dX5_isFree_16 1 rfl rfl ?_
        refine s_iload_n (pc := 17) dX5_isFree_17 0 rfl rfl ?_
        obtain ⟨c7, hf⟩ := p_ckx hf
        refine x_iald (pc := 18) dX5_isFree_18 ha1 c7 ?_
        refine s_icmp_ne (pc := 19) (tgt := 33) dX5_isFree_19 rfl (fun hc => ?_) (fun hc => ?_)
        · replace hf := p_ng hf hc
          refine s_iinc (pc := 33) (lo' := [(3, .int (s0 + nI 1)), (0, .int x0), (1, .ref a1), (2, .ref a2)]) dX5_isFree_33 3 rfl (v := s0 + nI 1) rfl (Nat.le_of_ble_eq_true rfl) rfl ?_
          refine s_goto (pc := 36) (tgt := 2) dX5_isFree_36 rfl ?_
          exact s_lo [1, 2, 3, 0] rfl (hrec0 (s0 + nI 1) hf)
        · replace hf := p_ps hf hc
          refine s_aload_n (pc := 22) dX5_isFree_22 2 rfl rfl ?_
          refine s_iload_n (pc := 23) dX5_isFree_23 3 rfl rfl ?_
          refine s_iload_n (pc := 24) dX5_isFree_24 0 rfl rfl ?_
          obtain ⟨q8, h9, hf⟩ := p_bd hf
          refine y_callS1 (pc := 25) dX5_isFree_25 (c_X5_areClashing (p_dd hd (by decide)) hW ha2 h9) mk_X5_areClashing mz_X5_areClashing ml_X5_96 rfl rfl (Nat.le_of_ble_eq_true rfl) (p_d1 hd (by decide)) (Nat.le_of_ble_eq_true rfl) ?_
          refine s_if_eq (pc := 28) (tgt := 33) dX5_isFree_28 rfl (fun hc => ?_) (fun hc => ?_)
          · replace hf := p_ps hf hc
            refine s_iinc (pc := 33) (lo' := [(3, .int (s0 + nI 1)), (0, .int x0), (1, .ref a1), (2, .ref a2)]) dX5_isFree_33 3 rfl (v := s0 + nI 1) rfl (Nat.le_of_ble_eq_true rfl) rfl ?_
            refine s_goto (pc := 36) (tgt := 2) dX5_isFree_36 rfl ?_
            exact s_lo [1, 2, 3, 0] rfl (hrec0 (s0 + nI 1) hf)
          · replace hf := p_ng hf hc
            refine s_iconst (pc := 31) dX5_isFree_31 (v := nI 0) rfl ?_
            cases hf
            exact s_ireturn (pc := 32) dX5_isFree_32 rfl rfl ⟨rfl, rfl, rfl, rfl, rfl⟩)
  exact s_lo [1, 2, 3, 0] rfl (k5 n (nI 0) hf)
def B_X5_paintFrom_42 (n : Nat) (N : pN) (self : pI → Int32 → Int32 → Nat → Nat → Option (Int32 × pI)) (x0 : Int32) (x1 : Int32) (a2 : Nat) (a3 : Nat) (rec0 : (Int32 × pI) → Option (Int32 × pI)) (s0 : Int32 × pI) : Option (Int32 × pI) :=
  (if x1 ≤ s0.1 then
    some (nI 0, s0.2)
  else
    p_ck (p_ib N a2 x0) <|
    p_let (p_u s0.2 a2 (Int32.toNatClampNeg x0) s0.1) fun I3 =>
    Option.bind (f_X5_isFree n N I3 x0 a2 a3) fun q5 =>
    (if q5 = 0 then
      rec0 (s0.1 + nI 1, I3)
    else
      Option.bind (self I3 (x0 + (nI 1)) x1 a2 a3) fun q7 =>
      (if q7.1 = 0 then
        rec0 (s0.1 + nI 1, q7.2)
      else
        some (nI 1, q7.2))))
def b_X5_paintFrom (n : Nat) (N : pN) (self : pI → Int32 → Int32 → Nat → Nat → Option (Int32 × pI)) (I : pI) (x0 : Int32) (x1 : Int32) (a2 : Nat) (a3 : Nat) : Option (Int32 × pI) :=
  (if x0 < 0 then
    some (nI 1, I)
  else
    (if (nI (N.2 a2).2) ≤ x0 then
      some (nI 1, I)
    else
      (if x0 < (nI (N.2 a3).2) then
        p_ck (p_ib N a3 x0) <|
        (if (I a3 (Int32.toNatClampNeg x0)) = (-1) then
          p_ck (p_ib N a2 x0) <|
          p_let (p_u I a2 (Int32.toNatClampNeg x0) (-1)) fun I18 =>
          Option.bind (self I18 (x0 + (nI 1)) x1 a2 a3) fun q20 =>
          p_ck (decide (q20.1 = 0 ∨ q20.1 = 1)) <|
          some (q20.1, q20.2)
        else
          p_it (B_X5_paintFrom_42 n N self x0 x1 a2 a3) n (nI 0, I))
      else
        some (nI 1, I))))
theorem e_X5_paintFrom {G : pG} {d : Nat} {n : Nat} {N : pN} {self : pI → Int32 → Int32 → Nat → Nat → Option (Int32 × pI)} {I : pI} {L : pL} {P : pR} {x0 : Int32} {x1 : Int32} {a2 : Nat} {a3 : Nat} {qq : Int32 × pI} (hd : 2 ≤ d) (hW : WT N P) (hself : ∀ {I : pI} {x0 x1 : Int32} {a2 a3 : Nat} {qq : Int32 × pI}, p_tp N a2 0 → p_tp N a3 0 → self I x0 x1 a2 a3 = some qq → MT G mX5_paintFrom (d - 1) 0 0 [.int x0, .int x1, .ref a2, .ref a3] N I L P (p_R (some (.int qq.1)) N qq.2 L P)) (ha2 : p_tp N a2 0) (ha3 : p_tp N a3 0) (hf : b_X5_paintFrom n N self I x0 x1 a2 a3 = some qq) : MT G mX5_paintFrom d 0 0 [.int x0, .int x1, .ref a2, .ref a3] N I L P (p_R (some (.int qq.1)) N qq.2 L P) := by
  refine MT.of rfl (Nat.le_of_ble_eq_true rfl) ?_
  show SW G mX5_paintFrom (p_rm d 0 0) 0 0 0 0 (p_R (some (.int qq.1)) N qq.2 L P) 0 [(0, .int x0), (1, .int x1), (2, .ref a2), (3, .ref a3)] [] N I L P
  unfold b_X5_paintFrom at hf
  refine s_iload_n (pc := 0) dX5_paintFrom_0 0 rfl rfl ?_
  refine s_if_lt (pc := 1) (tgt := 16) dX5_paintFrom_1 rfl (fun hc => ?_) (fun hc => ?_)
  · replace hf := p_ps hf hc
    refine s_iconst (pc := 16) dX5_paintFrom_16 (v := nI 1) rfl ?_
    cases hf
    exact s_ireturn (pc := 17) dX5_paintFrom_17 rfl rfl ⟨rfl, rfl, rfl, rfl, rfl⟩
  · replace hf := p_ng hf hc
    refine s_iload_n (pc := 4) dX5_paintFrom_4 0 rfl rfl ?_
    refine s_aload_n (pc := 5) dX5_paintFrom_5 2 rfl rfl ?_
    refine x_alen (pc := 6) dX5_paintFrom_6 ha2 (Nat.le_of_ble_eq_true rfl) ?_
    refine s_icmp_ge (pc := 7) (tgt := 16) dX5_paintFrom_7 rfl (fun hc => ?_) (fun hc => ?_)
    · replace hf := p_ps hf hc
      refine s_iconst (pc := 16) dX5_paintFrom_16 (v := nI 1) rfl ?_
      cases hf
      exact s_ireturn (pc := 17) dX5_paintFrom_17 rfl rfl ⟨rfl, rfl, rfl, rfl, rfl⟩
    · replace hf := p_ng hf hc
      refine s_iload_n (pc := 10) dX5_paintFrom_10 0 rfl rfl ?_
      refine s_aload_n (pc := 11) dX5_paintFrom_11 3 rfl rfl ?_
      refine x_alen (pc := 12) dX5_paintFrom_12 ha3 (Nat.le_of_ble_eq_true rfl) ?_
      refine s_icmp_lt (pc := 13) (tgt := 18) dX5_paintFrom_13 rfl (fun hc => ?_) (fun hc => ?_)
      · replace hf := p_ps hf hc
        refine s_aload_n (pc := 18) dX5_paintFrom_18 3 rfl rfl ?_
        refine s_iload_n (pc := 19) dX5_paintFrom_19 0 rfl rfl ?_
        obtain ⟨c1, hf⟩ := p_ckx hf
        refine x_iald (pc := 20) dX5_paintFrom_20 ha3 c1 ?_
        refine s_iconst (pc := 21) dX5_paintFrom_21 (v := (-1)) rfl ?_
        refine s_icmp_ne (pc := 22) (tgt := 39) dX5_paintFrom_22 rfl (fun hc => ?_) (fun hc => ?_)
        · replace hf := p_ng hf hc
          refine s_iconst (pc := 39) dX5_paintFrom_39 (v := nI 0) rfl ?_
          refine s_istore (pc := 40) (lo' := [(4, .int (nI 0)), (0, .int x0), (1, .int x1), (2, .ref a2), (3, .ref a3)]) dX5_paintFrom_40 (Nat.le_of_ble_eq_true rfl) rfl ?_
          have k9 : ∀ (k : Nat) (s0 : Int32 × pI), p_it (B_X5_paintFrom_42 n N self x0 x1 a2 a3) k s0 = some qq → (SW G mX5_paintFrom (p_rm d 0 0) 0 0 0 0 (p_R (some (.int qq.1)) N qq.2 L P) 42 [(0, .int x0), (1, .int x1), (2, .ref a2), (3, .ref a3), (4, .int s0.1)] [] N s0.2 L P) := p_it_ind (C := fun (s0 : Int32 × pI) => SW G mX5_paintFrom (p_rm d 0 0) 0 0 0 0 (p_R (some (.int qq.1)) N qq.2 L P) 42 [(0, .int x0), (1, .int x1), (2, .ref a2), (3, .ref a3), (4, .int s0.1)] [] N s0.2 L P) (by
            intro rec0 hrec0 s0 hf
            unfold B_X5_paintFrom_42 at hf
            refine s_iload (pc := 42) dX5_paintFrom_42 4 rfl ?_
            refine s_iload_n (pc := 44) dX5_paintFrom_44 1 rfl rfl ?_
            refine s_icmp_ge (pc := 45) (tgt := 82) dX5_paintFrom_45 rfl (fun hc => ?_) (fun hc => ?_)
            · replace hf := p_ps hf hc
              refine s_iconst (pc := 82) dX5_paintFrom_82 (v := nI 0) rfl ?_
              cases hf
              exact s_ireturn (pc := 83) dX5_paintFrom_83 rfl rfl ⟨rfl, rfl, rfl, rfl, rfl⟩
            · replace hf := p_ng hf hc
              refine s_aload_n (pc := 48) dX5_paintFrom_48 2 rfl rfl ?_
              refine s_iload_n (pc := 49) dX5_paintFrom_49 0 rfl rfl ?_
              refine s_iload (pc := 50) dX5_paintFrom_50 4 rfl ?_
              obtain ⟨c10, hf⟩ := p_ckx hf
              refine x_iast (pc := 52) dX5_paintFrom_52 ha2 c10 ?_
              refine s_nmI (fun I11 e12 => ?_)
              replace hf := p_lx hf e12
              refine s_iload_n (pc := 53) dX5_paintFrom_53 0 rfl rfl ?_
              refine s_aload_n (pc := 54) dX5_paintFrom_54 2 rfl rfl ?_
              refine s_aload_n (pc := 55) dX5_paintFrom_55 3 rfl rfl ?_
              obtain ⟨q13, h14, hf⟩ := p_bd hf
              refine y_callS1 (pc := 56) dX5_paintFrom_56 (c_X5_isFree (p_dd hd (by decide)) hW ha2 ha3 h14) mk_X5_isFree mz_X5_isFree ml_X5_107 rfl rfl (Nat.le_of_ble_eq_true rfl) (p_d1 hd (by decide)) (Nat.le_of_ble_eq_true rfl) ?_
              refine s_if_eq (pc := 59) (tgt := 76) dX5_paintFrom_59 rfl (fun hc => ?_) (fun hc => ?_)
              · replace hf := p_ps hf hc
                refine s_iinc (pc := 76) (lo' := [(4, .int (s0.1 + nI 1)), (0, .int x0), (1, .int x1), (2, .ref a2), (3, .ref a3)]) dX5_paintFrom_76 4 rfl (v := s0.1 + nI 1) rfl (Nat.le_of_ble_eq_true rfl) rfl ?_
                refine s_goto (pc := 79) (tgt := 42) dX5_paintFrom_79 rfl ?_
                exact s_lo [1, 2, 3, 4, 0] rfl (hrec0 (s0.1 + nI 1, I11) hf)
              · replace hf := p_ng hf hc
                refine s_iload_n (pc := 62) dX5_paintFrom_62 0 rfl rfl ?_
                refine s_iconst (pc := 63) dX5_paintFrom_63 (v := nI 1) rfl ?_
                refine s_iadd (pc := 64) dX5_paintFrom_64 ?_
                refine s_iload_n (pc := 65) dX5_paintFrom_65 1 rfl rfl ?_
                refine s_aload_n (pc := 66) dX5_paintFrom_66 2 rfl rfl ?_
                refine s_aload_n (pc := 67) dX5_paintFrom_67 3 rfl rfl ?_
                obtain ⟨q15, h16, hf⟩ := p_bd hf
                refine y_callS1 (pc := 68) dX5_paintFrom_68 (hself ha2 ha3 h16) mk_X5_paintFrom mz_X5_paintFrom ml_X5_103 rfl rfl (Nat.le_of_ble_eq_true rfl) (p_d1 hd (by decide)) (Nat.le_of_ble_eq_true rfl) ?_
                refine s_if_eq (pc := 71) (tgt := 76) dX5_paintFrom_71 rfl (fun hc => ?_) (fun hc => ?_)
                · replace hf := p_ps hf hc
                  refine s_iinc (pc := 76) (lo' := [(4, .int (s0.1 + nI 1)), (0, .int x0), (1, .int x1), (2, .ref a2), (3, .ref a3)]) dX5_paintFrom_76 4 rfl (v := s0.1 + nI 1) rfl (Nat.le_of_ble_eq_true rfl) rfl ?_
                  refine s_goto (pc := 79) (tgt := 42) dX5_paintFrom_79 rfl ?_
                  exact s_lo [1, 2, 3, 4, 0] rfl (hrec0 (s0.1 + nI 1, q15.2) hf)
                · replace hf := p_ng hf hc
                  refine s_iconst (pc := 74) dX5_paintFrom_74 (v := nI 1) rfl ?_
                  cases hf
                  exact s_ireturn (pc := 75) dX5_paintFrom_75 rfl rfl ⟨rfl, rfl, rfl, rfl, rfl⟩)
          exact s_lo [1, 2, 3, 4, 0] rfl (k9 n (nI 0, I) hf)
        · replace hf := p_ps hf hc
          refine s_aload_n (pc := 25) dX5_paintFrom_25 2 rfl rfl ?_
          refine s_iload_n (pc := 26) dX5_paintFrom_26 0 rfl rfl ?_
          refine s_iconst (pc := 27) dX5_paintFrom_27 (v := (-1)) rfl ?_
          obtain ⟨c17, hf⟩ := p_ckx hf
          refine x_iast (pc := 28) dX5_paintFrom_28 ha2 c17 ?_
          refine s_nmI (fun I18 e19 => ?_)
          replace hf := p_lx hf e19
          refine s_iload_n (pc := 29) dX5_paintFrom_29 0 rfl rfl ?_
          refine s_iconst (pc := 30) dX5_paintFrom_30 (v := nI 1) rfl ?_
          refine s_iadd (pc := 31) dX5_paintFrom_31 ?_
          refine s_iload_n (pc := 32) dX5_paintFrom_32 1 rfl rfl ?_
          refine s_aload_n (pc := 33) dX5_paintFrom_33 2 rfl rfl ?_
          refine s_aload_n (pc := 34) dX5_paintFrom_34 3 rfl rfl ?_
          obtain ⟨q20, h21, hf⟩ := p_bd hf
          refine y_callS1 (pc := 35) dX5_paintFrom_35 (hself ha2 ha3 h21) mk_X5_paintFrom mz_X5_paintFrom ml_X5_103 rfl rfl (Nat.le_of_ble_eq_true rfl) (p_d1 hd (by decide)) (Nat.le_of_ble_eq_true rfl) ?_
          obtain ⟨c22, hf⟩ := p_ckx hf
          cases hf
          exact s_ireturn (pc := 38) dX5_paintFrom_38 rfl (p_nr (of_decide_eq_true c22)) ⟨rfl, rfl, rfl, rfl, rfl⟩
      · replace hf := p_ng hf hc
        refine s_iconst (pc := 16) dX5_paintFrom_16 (v := nI 1) rfl ?_
        cases hf
        exact s_ireturn (pc := 17) dX5_paintFrom_17 rfl rfl ⟨rfl, rfl, rfl, rfl, rfl⟩
def r_X5_paintFrom (n : Nat) (N : pN) : Nat → pI → Int32 → Int32 → Nat → Nat → Option (Int32 × pI)
  | 0 => fun _ _ _ _ _ => none
  | k + 1 => fun I x0 x1 a2 a3 => b_X5_paintFrom n N (r_X5_paintFrom n N k) I x0 x1 a2 a3
theorem cr_X5_paintFrom {G : pG} {n : Nat} {N : pN} {L : pL} {P : pR} (hW : WT N P) : ∀ (k d : Nat), k + 3 ≤ d → ∀ {I : pI} {x0 x1 : Int32} {a2 a3 : Nat} {qq : Int32 × pI}, p_tp N a2 0 → p_tp N a3 0 → r_X5_paintFrom n N k I x0 x1 a2 a3 = some qq → MT G mX5_paintFrom d 0 0 [.int x0, .int x1, .ref a2, .ref a3] N I L P (p_R (some (.int qq.1)) N qq.2 L P) := by
  intro k
  induction k with
  | zero => intro d hd I x0 x1 a2 a3 qq h2 h3 hf; cases hf
  | succ k ih =>
    intro d hd I x0 x1 a2 a3 qq h2 h3 hf
    exact e_X5_paintFrom (by omega) hW (fun g2 g3 g => ih (d - 1) (by omega) g2 g3 g) h2 h3 hf
def f_X5_paintFrom (n : Nat) (N : pN) (I : pI) (x0 : Int32) (x1 : Int32) (a2 : Nat) (a3 : Nat) : Option (Int32 × pI) := r_X5_paintFrom n N 8 I x0 x1 a2 a3
theorem c_X5_paintFrom {G : pG} {d : Nat} {n : Nat} {N : pN} {I : pI} {L : pL} {P : pR} {x0 : Int32} {x1 : Int32} {a2 : Nat} {a3 : Nat} {qq : Int32 × pI} (hd : 11 ≤ d) (hW : WT N P) (ha2 : p_tp N a2 0) (ha3 : p_tp N a3 0) (hf : f_X5_paintFrom n N I x0 x1 a2 a3 = some qq) : MT G mX5_paintFrom d 0 0 [.int x0, .int x1, .ref a2, .ref a3] N I L P (p_R (some (.int qq.1)) N qq.2 L P) := cr_X5_paintFrom hW 8 d hd ha2 ha3 hf
def B_X5_paintSenders_9 (n : Nat) (N : pN) (P : pR) (a0 : Nat) (rec0 : pI → Option pI) (s0 : pI) : Option pI :=
  Option.bind (P a0 4) fun q7 =>
  Option.bind (P a0 3) fun q10 =>
  Option.bind (f_X5_paintFrom n N s0 (nI 0) (s0 a0 8) q7 q10) fun q13 =>
  (if q13.1 = 0 then
    (if (nI 6) ≤ (q13.2 a0 8) then
      some q13.2
    else
      p_let (p_u q13.2 a0 8 ((q13.2 a0 8) + (nI 1))) fun I15 =>
      rec0 I15)
  else
    some q13.2)
def f_X5_paintSenders (n : Nat) (N : pN) (I : pI) (L : pL) (P : pR) (a0 : Nat) : Option (pI × pL) :=
  Option.bind (f_X5_findReaches n N I L P a0) fun q1 =>
  p_let (p_u q1.1 a0 8 (nI 0)) fun I3 =>
  Option.bind (p_it (B_X5_paintSenders_9 n N P a0) n I3) fun t5 =>
  some (t5, q1.2)
theorem c_X5_paintSenders {G : pG} {d : Nat} {n : Nat} {N : pN} {I : pI} {L : pL} {P : pR} {a0 : Nat} {qq : pI × pL} (hd : 12 ≤ d) (hW : WT N P) (ha0 : p_tp N a0 8) (hf : f_X5_paintSenders n N I L P a0 = some qq) : MT G mX5_paintSenders d 0 0 [.ref a0] N I L P (p_R none N qq.1 qq.2 P) := by
  refine MT.of rfl (Nat.le_of_ble_eq_true rfl) ?_
  show SW G mX5_paintSenders (p_rm d 0 0) 0 0 0 0 (p_R none N qq.1 qq.2 P) 0 [(0, .ref a0)] [] N I L P
  unfold f_X5_paintSenders at hf
  refine s_aload_n (pc := 0) dX5_paintSenders_0 0 rfl rfl ?_
  obtain ⟨q1, h2, hf⟩ := p_bd hf
  refine y_callV0 (pc := 1) dX5_paintSenders_1 (c_X5_findReaches (p_dd hd (by decide)) hW ha0 h2) mk_X5_findReaches mv_X5_findReaches ml_X5_100 rfl rfl (Nat.le_of_ble_eq_true rfl) ha0 rfl (p_d1 hd (by decide)) (Nat.le_of_ble_eq_true rfl) ?_
  refine s_aload_n (pc := 4) dX5_paintSenders_4 0 rfl rfl ?_
  refine s_iconst (pc := 5) dX5_paintSenders_5 (v := nI 0) rfl ?_
  refine x_putI (pc := 6) dX5_paintSenders_6 fl_X5_31 (Or.inl rfl) rfl ha0 ?_
  refine s_nmI (fun I3 e4 => ?_)
  replace hf := p_lx hf e4
  obtain ⟨t5, hg, hf⟩ := p_bd hf
  have k6 : SW G mX5_paintSenders (p_rm d 0 0) 0 0 0 0 (p_R none N qq.1 qq.2 P) 50 [] [] N t5 q1.2 P := by
    cases hf
    exact s_return (pc := 50) dX5_paintSenders_50 rfl ⟨rfl, rfl, rfl, rfl, rfl⟩
  replace hf := hg
  have k17 : ∀ (k : Nat) (s0 : pI), p_it (B_X5_paintSenders_9 n N P a0) k s0 = some t5 → (SW G mX5_paintSenders (p_rm d 0 0) 0 0 0 0 (p_R none N qq.1 qq.2 P) 9 [(0, .ref a0)] [] N s0 q1.2 P) := p_it_ind (C := fun (s0 : pI) => SW G mX5_paintSenders (p_rm d 0 0) 0 0 0 0 (p_R none N qq.1 qq.2 P) 9 [(0, .ref a0)] [] N s0 q1.2 P) (by
    intro rec0 hrec0 s0 hf
    unfold B_X5_paintSenders_9 at hf
    refine s_iconst (pc := 9) dX5_paintSenders_9 (v := nI 0) rfl ?_
    refine s_aload_n (pc := 10) dX5_paintSenders_10 0 rfl rfl ?_
    refine x_getI (pc := 11) dX5_paintSenders_11 fl_X5_31 rfl ha0 ?_
    refine s_aload_n (pc := 14) dX5_paintSenders_14 0 rfl rfl ?_
    obtain ⟨q18, h19, hf⟩ := p_bd hf
    have t20 : p_tp N q18 0 := WT.get hW ha0 h19
    refine x_getR (pc := 15) dX5_paintSenders_15 fl_X5_18 rfl ha0 h19 ?_
    refine s_aload_n (pc := 18) dX5_paintSenders_18 0 rfl rfl ?_
    obtain ⟨q21, h22, hf⟩ := p_bd hf
    have t23 : p_tp N q21 0 := WT.get hW ha0 h22
    refine x_getR (pc := 19) dX5_paintSenders_19 fl_X5_15 rfl ha0 h22 ?_
    obtain ⟨q24, h25, hf⟩ := p_bd hf
    refine y_callS1 (pc := 22) dX5_paintSenders_22 (c_X5_paintFrom (p_dd hd (by decide)) hW t20 t23 h25) mk_X5_paintFrom mz_X5_paintFrom ml_X5_103 rfl rfl (Nat.le_of_ble_eq_true rfl) (p_d1 hd (by decide)) (Nat.le_of_ble_eq_true rfl) ?_
    refine s_if_ne (pc := 25) (tgt := 50) dX5_paintSenders_25 rfl (fun hc => ?_) (fun hc => ?_)
    · replace hf := p_ng hf hc
      cases hf
      exact s_lo [] rfl (k6)
    · replace hf := p_ps hf hc
      refine s_aload_n (pc := 28) dX5_paintSenders_28 0 rfl rfl ?_
      refine x_getI (pc := 29) dX5_paintSenders_29 fl_X5_31 rfl ha0 ?_
      refine s_bipush (pc := 32) dX5_paintSenders_32 (v := nI 6) rfl ?_
      refine s_icmp_ge (pc := 34) (tgt := 50) dX5_paintSenders_34 rfl (fun hc => ?_) (fun hc => ?_)
      · replace hf := p_ps hf hc
        cases hf
        exact s_lo [] rfl (k6)
      · replace hf := p_ng hf hc
        refine s_aload_n (pc := 37) dX5_paintSenders_37 0 rfl rfl ?_
        refine s_dup (pc := 38) dX5_paintSenders_38 rfl ?_
        refine x_getI (pc := 39) dX5_paintSenders_39 fl_X5_31 rfl ha0 ?_
        refine s_iconst (pc := 42) dX5_paintSenders_42 (v := nI 1) rfl ?_
        refine s_iadd (pc := 43) dX5_paintSenders_43 ?_
        refine x_putI (pc := 44) dX5_paintSenders_44 fl_X5_31 (Or.inl rfl) rfl ha0 ?_
        refine s_nmI (fun I26 e27 => ?_)
        replace hf := p_lx hf e27
        refine s_goto (pc := 47) (tgt := 9) dX5_paintSenders_47 rfl ?_
        exact s_lo [0] rfl (hrec0 I26 hf))
  exact s_lo [0] rfl (k17 n I3 hf)
def f_X5_paintOf (N : pN) (I : pI) (P : pR) (a0 : Nat) (x1 : Int32) : Option Int32 :=
  (if x1 < 0 then
    some (-1)
  else
    Option.bind (P a0 4) fun q1 =>
    (if (nI (N.2 q1).2) ≤ x1 then
      some (-1)
    else
      Option.bind (P a0 4) fun q4 =>
      p_ck (p_ib N q4 x1) <|
      some (I q4 (Int32.toNatClampNeg x1))))
theorem c_X5_paintOf {G : pG} {d : Nat} {N : pN} {I : pI} {L : pL} {P : pR} {a0 : Nat} {x1 : Int32} {qq : Int32} (hd : 0 ≤ d) (hW : WT N P) (ha0 : p_tp N a0 8) (hf : f_X5_paintOf N I P a0 x1 = some qq) : MT G mX5_paintOf d 0 0 [.ref a0, .int x1] N I L P (p_R (some (.int qq)) N I L P) := by
  refine MT.of rfl (Nat.le_of_ble_eq_true rfl) ?_
  show SW G mX5_paintOf (p_rm d 0 0) 0 0 0 0 (p_R (some (.int qq)) N I L P) 0 [(0, .ref a0), (1, .int x1)] [] N I L P
  unfold f_X5_paintOf at hf
  refine s_iload_n (pc := 0) dX5_paintOf_0 1 rfl rfl ?_
  refine s_if_lt (pc := 1) (tgt := 22) dX5_paintOf_1 rfl (fun hc => ?_) (fun hc => ?_)
  · replace hf := p_ps hf hc
    refine s_iconst (pc := 22) dX5_paintOf_22 (v := (-1)) rfl ?_
    cases hf
    exact s_ireturn (pc := 23) dX5_paintOf_23 rfl rfl ⟨rfl, rfl, rfl, rfl, rfl⟩
  · replace hf := p_ng hf hc
    refine s_iload_n (pc := 4) dX5_paintOf_4 1 rfl rfl ?_
    refine s_aload_n (pc := 5) dX5_paintOf_5 0 rfl rfl ?_
    obtain ⟨q1, h2, hf⟩ := p_bd hf
    have t3 : p_tp N q1 0 := WT.get hW ha0 h2
    refine x_getR (pc := 6) dX5_paintOf_6 fl_X5_18 rfl ha0 h2 ?_
    refine x_alen (pc := 9) dX5_paintOf_9 t3 (Nat.le_of_ble_eq_true rfl) ?_
    refine s_icmp_ge (pc := 10) (tgt := 22) dX5_paintOf_10 rfl (fun hc => ?_) (fun hc => ?_)
    · replace hf := p_ps hf hc
      refine s_iconst (pc := 22) dX5_paintOf_22 (v := (-1)) rfl ?_
      cases hf
      exact s_ireturn (pc := 23) dX5_paintOf_23 rfl rfl ⟨rfl, rfl, rfl, rfl, rfl⟩
    · replace hf := p_ng hf hc
      refine s_aload_n (pc := 13) dX5_paintOf_13 0 rfl rfl ?_
      obtain ⟨q4, h5, hf⟩ := p_bd hf
      have t6 : p_tp N q4 0 := WT.get hW ha0 h5
      refine x_getR (pc := 14) dX5_paintOf_14 fl_X5_18 rfl ha0 h5 ?_
      refine s_iload_n (pc := 17) dX5_paintOf_17 1 rfl rfl ?_
      obtain ⟨c7, hf⟩ := p_ckx hf
      refine x_iald (pc := 18) dX5_paintOf_18 t6 c7 ?_
      refine s_goto (pc := 19) (tgt := 23) dX5_paintOf_19 rfl ?_
      cases hf
      exact s_ireturn (pc := 23) dX5_paintOf_23 rfl rfl ⟨rfl, rfl, rfl, rfl, rfl⟩
def f_X7_copy (N : pN) (I : pI) (P : pR) (a0 : Nat) (a1 : Nat) : Option pI :=
  Option.bind (P a0 0) fun q1 =>
  Option.bind (P a1 0) fun q4 =>
  Option.bind (f_X8_copy N I P q1 q4) fun q7 =>
  Option.bind (P a0 1) fun q9 =>
  Option.bind (P a1 1) fun q12 =>
  Option.bind (f_X8_copy N q7 P q9 q12) fun q15 =>
  Option.bind (P a0 2) fun q17 =>
  Option.bind (P a1 2) fun q20 =>
  Option.bind (f_X8_copy N q15 P q17 q20) fun q23 =>
  Option.bind (P a0 3) fun q25 =>
  Option.bind (P a1 3) fun q28 =>
  Option.bind (f_X8_copy N q23 P q25 q28) fun q31 =>
  Option.bind (P a0 4) fun q33 =>
  Option.bind (P a1 4) fun q36 =>
  Option.bind (f_X8_copy N q31 P q33 q36) fun q39 =>
  Option.bind (P a0 5) fun q41 =>
  Option.bind (P a1 5) fun q44 =>
  Option.bind (f_X8_copy N q39 P q41 q44) fun q47 =>
  Option.bind (P a0 6) fun q49 =>
  Option.bind (P a1 6) fun q52 =>
  Option.bind (f_X8_copy N q47 P q49 q52) fun q55 =>
  Option.bind (P a0 7) fun q57 =>
  Option.bind (P a1 7) fun q60 =>
  Option.bind (f_X8_copy N q55 P q57 q60) fun q63 =>
  Option.bind (P a0 8) fun q65 =>
  Option.bind (P a1 8) fun q68 =>
  Option.bind (f_X8_copy N q63 P q65 q68) fun q71 =>
  p_let (p_u q71 a0 9 (q71 a1 9)) fun I73 =>
  p_let (p_u I73 a0 10 (I73 a1 10)) fun I75 =>
  p_let (p_u I75 a0 11 (I75 a1 11)) fun I77 =>
  p_let (p_u I77 a0 12 (I77 a1 12)) fun I79 =>
  some I79
theorem c_X7_copy {G : pG} {d : Nat} {N : pN} {I : pI} {L : pL} {P : pR} {a0 : Nat} {a1 : Nat} {qq : pI} (hd : 2 ≤ d) (hW : WT N P) (ha0 : p_tp N a0 10) (ha1 : p_tp N a1 10) (hf : f_X7_copy N I P a0 a1 = some qq) : MT G mX7_copy d 0 0 [.ref a0, .ref a1] N I L P (p_R none N qq L P) := by
  refine MT.of rfl (Nat.le_of_ble_eq_true rfl) ?_
  show SW G mX7_copy (p_rm d 0 0) 0 0 0 0 (p_R none N qq L P) 0 [(0, .ref a0), (1, .ref a1)] [] N I L P
  unfold f_X7_copy at hf
  refine s_aload_n (pc := 0) dX7_copy_0 0 rfl rfl ?_
  obtain ⟨q1, h2, hf⟩ := p_bd hf
  have t3 : p_tp N q1 11 := WT.get hW ha0 h2
  refine x_getR (pc := 1) dX7_copy_1 fl_X7_14 rfl ha0 h2 ?_
  refine s_aload_n (pc := 4) dX7_copy_4 1 rfl rfl ?_
  obtain ⟨q4, h5, hf⟩ := p_bd hf
  have t6 : p_tp N q4 11 := WT.get hW ha1 h5
  refine x_getR (pc := 5) dX7_copy_5 fl_X7_14 rfl ha1 h5 ?_
  obtain ⟨q7, h8, hf⟩ := p_bd hf
  refine y_callV0 (pc := 8) dX7_copy_8 (c_X8_copy (p_dd hd (by decide)) hW t3 t6 h8) mk_X8_copy mv_X8_copy ml_X7_71 rfl rfl (Nat.le_of_ble_eq_true rfl) t3 rfl (p_d1 hd (by decide)) (Nat.le_of_ble_eq_true rfl) ?_
  refine s_aload_n (pc := 11) dX7_copy_11 0 rfl rfl ?_
  obtain ⟨q9, h10, hf⟩ := p_bd hf
  have t11 : p_tp N q9 11 := WT.get hW ha0 h10
  refine x_getR (pc := 12) dX7_copy_12 fl_X7_20 rfl ha0 h10 ?_
  refine s_aload_n (pc := 15) dX7_copy_15 1 rfl rfl ?_
  obtain ⟨q12, h13, hf⟩ := p_bd hf
  have t14 : p_tp N q12 11 := WT.get hW ha1 h13
  refine x_getR (pc := 16) dX7_copy_16 fl_X7_20 rfl ha1 h13 ?_
  obtain ⟨q15, h16, hf⟩ := p_bd hf
  refine y_callV0 (pc := 19) dX7_copy_19 (c_X8_copy (p_dd hd (by decide)) hW t11 t14 h16) mk_X8_copy mv_X8_copy ml_X7_71 rfl rfl (Nat.le_of_ble_eq_true rfl) t11 rfl (p_d1 hd (by decide)) (Nat.le_of_ble_eq_true rfl) ?_
  refine s_aload_n (pc := 22) dX7_copy_22 0 rfl rfl ?_
  obtain ⟨q17, h18, hf⟩ := p_bd hf
  have t19 : p_tp N q17 11 := WT.get hW ha0 h18
  refine x_getR (pc := 23) dX7_copy_23 fl_X7_23 rfl ha0 h18 ?_
  refine s_aload_n (pc := 26) dX7_copy_26 1 rfl rfl ?_
  obtain ⟨q20, h21, hf⟩ := p_bd hf
  have t22 : p_tp N q20 11 := WT.get hW ha1 h21
  refine x_getR (pc := 27) dX7_copy_27 fl_X7_23 rfl ha1 h21 ?_
  obtain ⟨q23, h24, hf⟩ := p_bd hf
  refine y_callV0 (pc := 30) dX7_copy_30 (c_X8_copy (p_dd hd (by decide)) hW t19 t22 h24) mk_X8_copy mv_X8_copy ml_X7_71 rfl rfl (Nat.le_of_ble_eq_true rfl) t19 rfl (p_d1 hd (by decide)) (Nat.le_of_ble_eq_true rfl) ?_
  refine s_aload_n (pc := 33) dX7_copy_33 0 rfl rfl ?_
  obtain ⟨q25, h26, hf⟩ := p_bd hf
  have t27 : p_tp N q25 11 := WT.get hW ha0 h26
  refine x_getR (pc := 34) dX7_copy_34 fl_X7_26 rfl ha0 h26 ?_
  refine s_aload_n (pc := 37) dX7_copy_37 1 rfl rfl ?_
  obtain ⟨q28, h29, hf⟩ := p_bd hf
  have t30 : p_tp N q28 11 := WT.get hW ha1 h29
  refine x_getR (pc := 38) dX7_copy_38 fl_X7_26 rfl ha1 h29 ?_
  obtain ⟨q31, h32, hf⟩ := p_bd hf
  refine y_callV0 (pc := 41) dX7_copy_41 (c_X8_copy (p_dd hd (by decide)) hW t27 t30 h32) mk_X8_copy mv_X8_copy ml_X7_71 rfl rfl (Nat.le_of_ble_eq_true rfl) t27 rfl (p_d1 hd (by decide)) (Nat.le_of_ble_eq_true rfl) ?_
  refine s_aload_n (pc := 44) dX7_copy_44 0 rfl rfl ?_
  obtain ⟨q33, h34, hf⟩ := p_bd hf
  have t35 : p_tp N q33 11 := WT.get hW ha0 h34
  refine x_getR (pc := 45) dX7_copy_45 fl_X7_29 rfl ha0 h34 ?_
  refine s_aload_n (pc := 48) dX7_copy_48 1 rfl rfl ?_
  obtain ⟨q36, h37, hf⟩ := p_bd hf
  have t38 : p_tp N q36 11 := WT.get hW ha1 h37
  refine x_getR (pc := 49) dX7_copy_49 fl_X7_29 rfl ha1 h37 ?_
  obtain ⟨q39, h40, hf⟩ := p_bd hf
  refine y_callV0 (pc := 52) dX7_copy_52 (c_X8_copy (p_dd hd (by decide)) hW t35 t38 h40) mk_X8_copy mv_X8_copy ml_X7_71 rfl rfl (Nat.le_of_ble_eq_true rfl) t35 rfl (p_d1 hd (by decide)) (Nat.le_of_ble_eq_true rfl) ?_
  refine s_aload_n (pc := 55) dX7_copy_55 0 rfl rfl ?_
  obtain ⟨q41, h42, hf⟩ := p_bd hf
  have t43 : p_tp N q41 11 := WT.get hW ha0 h42
  refine x_getR (pc := 56) dX7_copy_56 fl_X7_32 rfl ha0 h42 ?_
  refine s_aload_n (pc := 59) dX7_copy_59 1 rfl rfl ?_
  obtain ⟨q44, h45, hf⟩ := p_bd hf
  have t46 : p_tp N q44 11 := WT.get hW ha1 h45
  refine x_getR (pc := 60) dX7_copy_60 fl_X7_32 rfl ha1 h45 ?_
  obtain ⟨q47, h48, hf⟩ := p_bd hf
  refine y_callV0 (pc := 63) dX7_copy_63 (c_X8_copy (p_dd hd (by decide)) hW t43 t46 h48) mk_X8_copy mv_X8_copy ml_X7_71 rfl rfl (Nat.le_of_ble_eq_true rfl) t43 rfl (p_d1 hd (by decide)) (Nat.le_of_ble_eq_true rfl) ?_
  refine s_aload_n (pc := 66) dX7_copy_66 0 rfl rfl ?_
  obtain ⟨q49, h50, hf⟩ := p_bd hf
  have t51 : p_tp N q49 11 := WT.get hW ha0 h50
  refine x_getR (pc := 67) dX7_copy_67 fl_X7_39 rfl ha0 h50 ?_
  refine s_aload_n (pc := 70) dX7_copy_70 1 rfl rfl ?_
  obtain ⟨q52, h53, hf⟩ := p_bd hf
  have t54 : p_tp N q52 11 := WT.get hW ha1 h53
  refine x_getR (pc := 71) dX7_copy_71 fl_X7_39 rfl ha1 h53 ?_
  obtain ⟨q55, h56, hf⟩ := p_bd hf
  refine y_callV0 (pc := 74) dX7_copy_74 (c_X8_copy (p_dd hd (by decide)) hW t51 t54 h56) mk_X8_copy mv_X8_copy ml_X7_71 rfl rfl (Nat.le_of_ble_eq_true rfl) t51 rfl (p_d1 hd (by decide)) (Nat.le_of_ble_eq_true rfl) ?_
  refine s_aload_n (pc := 77) dX7_copy_77 0 rfl rfl ?_
  obtain ⟨q57, h58, hf⟩ := p_bd hf
  have t59 : p_tp N q57 11 := WT.get hW ha0 h58
  refine x_getR (pc := 78) dX7_copy_78 fl_X7_44 rfl ha0 h58 ?_
  refine s_aload_n (pc := 81) dX7_copy_81 1 rfl rfl ?_
  obtain ⟨q60, h61, hf⟩ := p_bd hf
  have t62 : p_tp N q60 11 := WT.get hW ha1 h61
  refine x_getR (pc := 82) dX7_copy_82 fl_X7_44 rfl ha1 h61 ?_
  obtain ⟨q63, h64, hf⟩ := p_bd hf
  refine y_callV0 (pc := 85) dX7_copy_85 (c_X8_copy (p_dd hd (by decide)) hW t59 t62 h64) mk_X8_copy mv_X8_copy ml_X7_71 rfl rfl (Nat.le_of_ble_eq_true rfl) t59 rfl (p_d1 hd (by decide)) (Nat.le_of_ble_eq_true rfl) ?_
  refine s_aload_n (pc := 88) dX7_copy_88 0 rfl rfl ?_
  obtain ⟨q65, h66, hf⟩ := p_bd hf
  have t67 : p_tp N q65 11 := WT.get hW ha0 h66
  refine x_getR (pc := 89) dX7_copy_89 fl_X7_47 rfl ha0 h66 ?_
  refine s_aload_n (pc := 92) dX7_copy_92 1 rfl rfl ?_
  obtain ⟨q68, h69, hf⟩ := p_bd hf
  have t70 : p_tp N q68 11 := WT.get hW ha1 h69
  refine x_getR (pc := 93) dX7_copy_93 fl_X7_47 rfl ha1 h69 ?_
  obtain ⟨q71, h72, hf⟩ := p_bd hf
  refine y_callV0 (pc := 96) dX7_copy_96 (c_X8_copy (p_dd hd (by decide)) hW t67 t70 h72) mk_X8_copy mv_X8_copy ml_X7_71 rfl rfl (Nat.le_of_ble_eq_true rfl) t67 rfl (p_d1 hd (by decide)) (Nat.le_of_ble_eq_true rfl) ?_
  refine s_aload_n (pc := 99) dX7_copy_99 0 rfl rfl ?_
  refine s_aload_n (pc := 100) dX7_copy_100 1 rfl rfl ?_
  refine x_getI (pc := 101) dX7_copy_101 fl_X7_50 rfl ha1 ?_
  refine x_putI (pc := 104) dX7_copy_104 fl_X7_50 (Or.inl rfl) rfl ha0 ?_
  refine s_nmI (fun I73 e74 => ?_)
  replace hf := p_lx hf e74
  refine s_aload_n (pc := 107) dX7_copy_107 0 rfl rfl ?_
  refine s_aload_n (pc := 108) dX7_copy_108 1 rfl rfl ?_
  refine x_getI (pc := 109) dX7_copy_109 fl_X7_54 rfl ha1 ?_
  refine x_putI (pc := 112) dX7_copy_112 fl_X7_54 (Or.inl rfl) rfl ha0 ?_
  refine s_nmI (fun I75 e76 => ?_)
  replace hf := p_lx hf e76
  refine s_aload_n (pc := 115) dX7_copy_115 0 rfl rfl ?_
  refine s_aload_n (pc := 116) dX7_copy_116 1 rfl rfl ?_
  refine x_getI (pc := 117) dX7_copy_117 fl_X7_57 rfl ha1 ?_
  refine x_putI (pc := 120) dX7_copy_120 fl_X7_57 (Or.inl rfl) rfl ha0 ?_
  refine s_nmI (fun I77 e78 => ?_)
  replace hf := p_lx hf e78
  refine s_aload_n (pc := 123) dX7_copy_123 0 rfl rfl ?_
  refine s_aload_n (pc := 124) dX7_copy_124 1 rfl rfl ?_
  refine x_getI (pc := 125) dX7_copy_125 fl_X7_60 rfl ha1 ?_
  refine x_putI (pc := 128) dX7_copy_128 fl_X7_60 (Or.inl rfl) rfl ha0 ?_
  refine s_nmI (fun I79 e80 => ?_)
  replace hf := p_lx hf e80
  cases hf
  exact s_return (pc := 131) dX7_copy_131 rfl ⟨rfl, rfl, rfl, rfl, rfl⟩
def B_X7_standingWalls_4 (N : pN) (I : pI) (P : pR) (a0 : Nat) (rec0 : (Int32 × Int32) → Option Int32) (s0 : Int32 × Int32) : Option Int32 :=
  Option.bind (P a0 1) fun q3 =>
  Option.bind (f_X8_size I q3) fun q6 =>
  (if q6 ≤ s0.2 then
    some s0.1
  else
    Option.bind (f_X7_wallStands N I P a0 s0.2) fun q8 =>
    p_let (α := Int32) ((if q8 = 0 then
      nI 0
    else
      nI 1)) fun t10 =>
    rec0 (s0.1 + t10, s0.2 + nI 1))
def f_X7_standingWalls (n : Nat) (N : pN) (I : pI) (P : pR) (a0 : Nat) : Option Int32 :=
  Option.bind (p_it (B_X7_standingWalls_4 N I P a0) n (nI 0, nI 0)) fun t1 =>
  some t1
theorem c_X7_standingWalls {G : pG} {d : Nat} {n : Nat} {N : pN} {I : pI} {L : pL} {P : pR} {a0 : Nat} {qq : Int32} (hd : 2 ≤ d) (hW : WT N P) (ha0 : p_tp N a0 10) (hf : f_X7_standingWalls n N I P a0 = some qq) : MT G mX7_standingWalls d 0 0 [.ref a0] N I L P (p_R (some (.int qq)) N I L P) := by
  refine MT.of rfl (Nat.le_of_ble_eq_true rfl) ?_
  show SW G mX7_standingWalls (p_rm d 0 0) 0 0 0 0 (p_R (some (.int qq)) N I L P) 0 [(0, .ref a0)] [] N I L P
  unfold f_X7_standingWalls at hf
  refine s_iconst (pc := 0) dX7_standingWalls_0 (v := nI 0) rfl ?_
  refine s_istore_n (pc := 1) (lo' := [(1, .int (nI 0)), (0, .ref a0)]) dX7_standingWalls_1 rfl (Nat.le_of_ble_eq_true rfl) rfl ?_
  refine s_iconst (pc := 2) dX7_standingWalls_2 (v := nI 0) rfl ?_
  refine s_istore_n (pc := 3) (lo' := [(2, .int (nI 0)), (1, .int (nI 0)), (0, .ref a0)]) dX7_standingWalls_3 rfl (Nat.le_of_ble_eq_true rfl) rfl ?_
  obtain ⟨t1, hg, hf⟩ := p_bd hf
  have k2 : SW G mX7_standingWalls (p_rm d 0 0) 0 0 0 0 (p_R (some (.int qq)) N I L P) 37 [(1, .int t1)] [] N I L P := by
    refine s_iload_n (pc := 37) dX7_standingWalls_37 0 rfl rfl ?_
    cases hf
    exact s_ireturn (pc := 38) dX7_standingWalls_38 rfl rfl ⟨rfl, rfl, rfl, rfl, rfl⟩
  replace hf := hg
  have k12 : ∀ (k : Nat) (s0 : Int32 × Int32), p_it (B_X7_standingWalls_4 N I P a0) k s0 = some t1 → (SW G mX7_standingWalls (p_rm d 0 0) 0 0 0 0 (p_R (some (.int qq)) N I L P) 4 [(0, .ref a0), (1, .int s0.1), (2, .int s0.2)] [] N I L P) := p_it_ind (C := fun (s0 : Int32 × Int32) => SW G mX7_standingWalls (p_rm d 0 0) 0 0 0 0 (p_R (some (.int qq)) N I L P) 4 [(0, .ref a0), (1, .int s0.1), (2, .int s0.2)] [] N I L P) (by
    intro rec0 hrec0 s0 hf
    unfold B_X7_standingWalls_4 at hf
    refine s_iload_n (pc := 4) dX7_standingWalls_4 2 rfl rfl ?_
    refine s_aload_n (pc := 5) dX7_standingWalls_5 0 rfl rfl ?_
    obtain ⟨q13, h14, hf⟩ := p_bd hf
    have t15 : p_tp N q13 11 := WT.get hW ha0 h14
    refine x_getR (pc := 6) dX7_standingWalls_6 fl_X7_20 rfl ha0 h14 ?_
    obtain ⟨q16, h17, hf⟩ := p_bd hf
    refine y_callV1 (pc := 9) dX7_standingWalls_9 (c_X8_size (p_dd hd (by decide)) hW t15 h17) mk_X8_size mv_X8_size ml_X7_87 rfl rfl (Nat.le_of_ble_eq_true rfl) t15 rfl (p_d1 hd (by decide)) (Nat.le_of_ble_eq_true rfl) ?_
    refine s_icmp_ge (pc := 12) (tgt := 37) dX7_standingWalls_12 rfl (fun hc => ?_) (fun hc => ?_)
    · replace hf := p_ps hf hc
      cases hf
      exact s_lo [1] rfl (k2)
    · replace hf := p_ng hf hc
      refine s_iload_n (pc := 15) dX7_standingWalls_15 1 rfl rfl ?_
      refine s_aload_n (pc := 16) dX7_standingWalls_16 0 rfl rfl ?_
      refine s_iload_n (pc := 17) dX7_standingWalls_17 2 rfl rfl ?_
      obtain ⟨q18, h19, hf⟩ := p_bd hf
      refine y_callV1 (pc := 18) dX7_standingWalls_18 (c_X7_wallStands (p_dd hd (by decide)) hW ha0 h19) mk_X7_wallStands mv_X7_wallStands ml_X7_91 rfl rfl (Nat.le_of_ble_eq_true rfl) ha0 rfl (p_d1 hd (by decide)) (Nat.le_of_ble_eq_true rfl) ?_
      obtain ⟨t20, hg, hf⟩ := p_lx2 hf
      have k21 : SW G mX7_standingWalls (p_rm d 0 0) 0 0 0 0 (p_R (some (.int qq)) N I L P) 29 [(0, .ref a0), (2, .int s0.2)] [.int t20, .int s0.1] N I L P := by
        refine s_iadd (pc := 29) dX7_standingWalls_29 ?_
        refine s_istore_n (pc := 30) (lo' := [(1, .int (s0.1 + t20)), (0, .ref a0), (2, .int s0.2)]) dX7_standingWalls_30 rfl (Nat.le_of_ble_eq_true rfl) rfl ?_
        refine s_iinc (pc := 31) (lo' := [(2, .int (s0.2 + nI 1)), (1, .int (s0.1 + t20)), (0, .ref a0)]) dX7_standingWalls_31 2 rfl (v := s0.2 + nI 1) rfl (Nat.le_of_ble_eq_true rfl) rfl ?_
        refine s_goto (pc := 34) (tgt := 4) dX7_standingWalls_34 rfl ?_
        exact s_lo [2, 1, 0] rfl (hrec0 (s0.1 + t20, s0.2 + nI 1) hf)
      replace hf := hg.symm
      refine s_if_eq (pc := 21) (tgt := 28) dX7_standingWalls_21 rfl (fun hc => ?_) (fun hc => ?_)
      · replace hf := p_ps hf hc
        refine s_iconst (pc := 28) dX7_standingWalls_28 (v := nI 0) rfl ?_
        cases hf
        exact s_lo [0, 2] rfl (k21)
      · replace hf := p_ng hf hc
        refine s_iconst (pc := 24) dX7_standingWalls_24 (v := nI 1) rfl ?_
        refine s_goto (pc := 25) (tgt := 29) dX7_standingWalls_25 rfl ?_
        cases hf
        exact s_lo [0, 2] rfl (k21))
  exact s_lo [2, 1, 0] rfl (k12 n (nI 0, nI 0) hf)
def B_X7_standingSenders_4 (N : pN) (I : pI) (P : pR) (a0 : Nat) (rec0 : (Int32 × Int32) → Option Int32) (s0 : Int32 × Int32) : Option Int32 :=
  Option.bind (P a0 2) fun q3 =>
  Option.bind (f_X8_size I q3) fun q6 =>
  (if q6 ≤ s0.2 then
    some s0.1
  else
    Option.bind (f_X7_senderStands N I P a0 s0.2) fun q8 =>
    p_let (α := Int32) ((if q8 = 0 then
      nI 0
    else
      nI 1)) fun t10 =>
    rec0 (s0.1 + t10, s0.2 + nI 1))
def f_X7_standingSenders (n : Nat) (N : pN) (I : pI) (P : pR) (a0 : Nat) : Option Int32 :=
  Option.bind (p_it (B_X7_standingSenders_4 N I P a0) n (nI 0, nI 0)) fun t1 =>
  some t1
theorem c_X7_standingSenders {G : pG} {d : Nat} {n : Nat} {N : pN} {I : pI} {L : pL} {P : pR} {a0 : Nat} {qq : Int32} (hd : 2 ≤ d) (hW : WT N P) (ha0 : p_tp N a0 10) (hf : f_X7_standingSenders n N I P a0 = some qq) : MT G mX7_standingSenders d 0 0 [.ref a0] N I L P (p_R (some (.int qq)) N I L P) := by
  refine MT.of rfl (Nat.le_of_ble_eq_true rfl) ?_
  show SW G mX7_standingSenders (p_rm d 0 0) 0 0 0 0 (p_R (some (.int qq)) N I L P) 0 [(0, .ref a0)] [] N I L P
  unfold f_X7_standingSenders at hf
  refine s_iconst (pc := 0) dX7_standingSenders_0 (v := nI 0) rfl ?_
  refine s_istore_n (pc := 1) (lo' := [(1, .int (nI 0)), (0, .ref a0)]) dX7_standingSenders_1 rfl (Nat.le_of_ble_eq_true rfl) rfl ?_
  refine s_iconst (pc := 2) dX7_standingSenders_2 (v := nI 0) rfl ?_
  refine s_istore_n (pc := 3) (lo' := [(2, .int (nI 0)), (1, .int (nI 0)), (0, .ref a0)]) dX7_standingSenders_3 rfl (Nat.le_of_ble_eq_true rfl) rfl ?_
  obtain ⟨t1, hg, hf⟩ := p_bd hf
  have k2 : SW G mX7_standingSenders (p_rm d 0 0) 0 0 0 0 (p_R (some (.int qq)) N I L P) 37 [(1, .int t1)] [] N I L P := by
    refine s_iload_n (pc := 37) dX7_standingSenders_37 0 rfl rfl ?_
    cases hf
    exact s_ireturn (pc := 38) dX7_standingSenders_38 rfl rfl ⟨rfl, rfl, rfl, rfl, rfl⟩
  replace hf := hg
  have k12 : ∀ (k : Nat) (s0 : Int32 × Int32), p_it (B_X7_standingSenders_4 N I P a0) k s0 = some t1 → (SW G mX7_standingSenders (p_rm d 0 0) 0 0 0 0 (p_R (some (.int qq)) N I L P) 4 [(0, .ref a0), (1, .int s0.1), (2, .int s0.2)] [] N I L P) := p_it_ind (C := fun (s0 : Int32 × Int32) => SW G mX7_standingSenders (p_rm d 0 0) 0 0 0 0 (p_R (some (.int qq)) N I L P) 4 [(0, .ref a0), (1, .int s0.1), (2, .int s0.2)] [] N I L P) (by
    intro rec0 hrec0 s0 hf
    unfold B_X7_standingSenders_4 at hf
    refine s_iload_n (pc := 4) dX7_standingSenders_4 2 rfl rfl ?_
    refine s_aload_n (pc := 5) dX7_standingSenders_5 0 rfl rfl ?_
    obtain ⟨q13, h14, hf⟩ := p_bd hf
    have t15 : p_tp N q13 11 := WT.get hW ha0 h14
    refine x_getR (pc := 6) dX7_standingSenders_6 fl_X7_23 rfl ha0 h14 ?_
    obtain ⟨q16, h17, hf⟩ := p_bd hf
    refine y_callV1 (pc := 9) dX7_standingSenders_9 (c_X8_size (p_dd hd (by decide)) hW t15 h17) mk_X8_size mv_X8_size ml_X7_87 rfl rfl (Nat.le_of_ble_eq_true rfl) t15 rfl (p_d1 hd (by decide)) (Nat.le_of_ble_eq_true rfl) ?_
    refine s_icmp_ge (pc := 12) (tgt := 37) dX7_standingSenders_12 rfl (fun hc => ?_) (fun hc => ?_)
    · replace hf := p_ps hf hc
      cases hf
      exact s_lo [1] rfl (k2)
    · replace hf := p_ng hf hc
      refine s_iload_n (pc := 15) dX7_standingSenders_15 1 rfl rfl ?_
      refine s_aload_n (pc := 16) dX7_standingSenders_16 0 rfl rfl ?_
      refine s_iload_n (pc := 17) dX7_standingSenders_17 2 rfl rfl ?_
      obtain ⟨q18, h19, hf⟩ := p_bd hf
      refine y_callV1 (pc := 18) dX7_standingSenders_18 (c_X7_senderStands (p_dd hd (by decide)) hW ha0 h19) mk_X7_senderStands mv_X7_senderStands ml_X7_94 rfl rfl (Nat.le_of_ble_eq_true rfl) ha0 rfl (p_d1 hd (by decide)) (Nat.le_of_ble_eq_true rfl) ?_
      obtain ⟨t20, hg, hf⟩ := p_lx2 hf
      have k21 : SW G mX7_standingSenders (p_rm d 0 0) 0 0 0 0 (p_R (some (.int qq)) N I L P) 29 [(0, .ref a0), (2, .int s0.2)] [.int t20, .int s0.1] N I L P := by
        refine s_iadd (pc := 29) dX7_standingSenders_29 ?_
        refine s_istore_n (pc := 30) (lo' := [(1, .int (s0.1 + t20)), (0, .ref a0), (2, .int s0.2)]) dX7_standingSenders_30 rfl (Nat.le_of_ble_eq_true rfl) rfl ?_
        refine s_iinc (pc := 31) (lo' := [(2, .int (s0.2 + nI 1)), (1, .int (s0.1 + t20)), (0, .ref a0)]) dX7_standingSenders_31 2 rfl (v := s0.2 + nI 1) rfl (Nat.le_of_ble_eq_true rfl) rfl ?_
        refine s_goto (pc := 34) (tgt := 4) dX7_standingSenders_34 rfl ?_
        exact s_lo [2, 1, 0] rfl (hrec0 (s0.1 + t20, s0.2 + nI 1) hf)
      replace hf := hg.symm
      refine s_if_eq (pc := 21) (tgt := 28) dX7_standingSenders_21 rfl (fun hc => ?_) (fun hc => ?_)
      · replace hf := p_ps hf hc
        refine s_iconst (pc := 28) dX7_standingSenders_28 (v := nI 0) rfl ?_
        cases hf
        exact s_lo [0, 2] rfl (k21)
      · replace hf := p_ng hf hc
        refine s_iconst (pc := 24) dX7_standingSenders_24 (v := nI 1) rfl ?_
        refine s_goto (pc := 25) (tgt := 29) dX7_standingSenders_25 rfl ?_
        cases hf
        exact s_lo [0, 2] rfl (k21))
  exact s_lo [2, 1, 0] rfl (k12 n (nI 0, nI 0) hf)
