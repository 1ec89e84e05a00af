def B_X12_isAlone_4 (N : pN) (I : pI) (P : pR) (a0 : Nat) (x1 : Int32) (rec0 : (Int32 × Int32) → Option Int32) (s0 : Int32 × Int32) : Option Int32 :=
  Option.bind (P a0 0) fun q3 =>
  p_ck (p_ib N q3 (nI 1)) <|
  (if (I q3 (Int32.toNatClampNeg (nI 1))) ≤ s0.2 then
    some s0.1
  else
    Option.bind (α := Int32) ((if s0.1 = 0 then
      some (nI 0)
    else
      (if s0.2 = x1 then
        some (nI 1)
      else
        Option.bind (f_X12_seesSender N I P a0 s0.2) fun q9 =>
        (if q9 = 0 then
          some (nI 1)
        else
          Option.bind (f_X12_senderOf N I P a0 s0.2 (nI 2)) fun q11 =>
          Option.bind (f_X12_senderOf N I P a0 x1 (nI 2)) fun q13 =>
          (if q11 = q13 then
            some (nI 0)
          else
            some (nI 1)))))) fun t7 =>
    rec0 (t7, s0.2 + nI 1))
def f_X12_isAlone (n : Nat) (N : pN) (I : pI) (P : pR) (a0 : Nat) (x1 : Int32) : Option Int32 :=
  Option.bind (p_it (B_X12_isAlone_4 N I P a0 x1) n (nI 1, nI 0)) fun t1 =>
  p_ck (decide (t1 = 0 ∨ t1 = 1)) <|
  some t1
theorem c_X12_isAlone {G : pG} {d : Nat} {n : Nat} {N : pN} {I : pI} {L : pL} {P : pR} {a0 : Nat} {x1 : Int32} {qq : Int32} (hd : 3 ≤ d) (hW : WT N P) (ha0 : p_tp N a0 15) (hf : f_X12_isAlone n N I P a0 x1 = some qq) : MT G mX12_isAlone d 0 0 [.ref a0, .int x1] N I L P (p_R (some (.int qq)) N I L P) := by
  refine MT.of rfl (Nat.le_of_ble_eq_true rfl) ?_
  show SW G mX12_isAlone (p_rm d 0 0) 0 0 0 0 (p_R (some (.int qq)) N I L P) 0 [(0, .ref a0), (1, .int x1)] [] N I L P
  unfold f_X12_isAlone at hf
  refine s_iconst (pc := 0) dX12_isAlone_0 (v := nI 1) rfl ?_
  refine s_istore_n (pc := 1) (lo' := [(2, .int (nI 1)), (0, .ref a0), (1, .int x1)]) dX12_isAlone_1 rfl (Nat.le_of_ble_eq_true rfl) rfl ?_
  refine s_iconst (pc := 2) dX12_isAlone_2 (v := nI 0) rfl ?_
  refine s_istore_n (pc := 3) (lo' := [(3, .int (nI 0)), (2, .int (nI 1)), (0, .ref a0), (1, .int x1)]) dX12_isAlone_3 rfl (Nat.le_of_ble_eq_true rfl) rfl ?_
  obtain ⟨t1, hg, hf⟩ := p_bd hf
  have k2 : SW G mX12_isAlone (p_rm d 0 0) 0 0 0 0 (p_R (some (.int qq)) N I L P) 58 [(2, .int t1)] [] N I L P := by
    refine s_iload_n (pc := 58) dX12_isAlone_58 0 rfl rfl ?_
    obtain ⟨c28, hf⟩ := p_ckx hf
    cases hf
    exact s_ireturn (pc := 59) dX12_isAlone_59 rfl (p_nr (of_decide_eq_true c28)) ⟨rfl, rfl, rfl, rfl, rfl⟩
  replace hf := hg
  have k15 : ∀ (k : Nat) (s0 : Int32 × Int32), p_it (B_X12_isAlone_4 N I P a0 x1) k s0 = some t1 → (SW G mX12_isAlone (p_rm d 0 0) 0 0 0 0 (p_R (some (.int qq)) N I L P) 4 [(0, .ref a0), (1, .int x1), (2, .int s0.1), (3, .int s0.2)] [] N I L P) := p_it_ind (C := fun (s0 : Int32 × Int32) => SW G mX12_isAlone (p_rm d 0 0) 0 0 0 0 (p_R (some (.int qq)) N I L P) 4 [(0, .ref a0), (1, .int x1), (2, .int s0.1), (3, .int s0.2)] [] N I L P) (by
    intro rec0 hrec0 s0 hf
    unfold B_X12_isAlone_4 at hf
    refine s_iload_n (pc := 4) dX12_isAlone_4 3 rfl rfl ?_
    refine s_aload_n (pc := 5) dX12_isAlone_5 0 rfl rfl ?_
    obtain ⟨q16, h17, hf⟩ := p_bd hf
    have t18 : p_tp N q16 0 := WT.get hW ha0 h17
    refine x_getR (pc := 6) dX12_isAlone_6 fl_X12_7 rfl ha0 h17 ?_
    refine s_iconst (pc := 9) dX12_isAlone_9 (v := nI 1) rfl ?_
    obtain ⟨c19, hf⟩ := p_ckx hf
    refine x_iald (pc := 10) dX12_isAlone_10 t18 c19 ?_
    refine s_icmp_ge (pc := 11) (tgt := 58) dX12_isAlone_11 rfl (fun hc => ?_) (fun hc => ?_)
    · replace hf := p_ps hf hc
      cases hf
      exact s_lo [2] rfl (k2)
    · replace hf := p_ng hf hc
      refine s_iload_n (pc := 14) dX12_isAlone_14 2 rfl rfl ?_
      obtain ⟨t20, hg, hf⟩ := p_bd hf
      have k21 : SW G mX12_isAlone (p_rm d 0 0) 0 0 0 0 (p_R (some (.int qq)) N I L P) 51 [(0, .ref a0), (1, .int x1), (3, .int s0.2)] [.int t20] N I L P := by
        refine s_istore_n (pc := 51) (lo' := [(2, .int t20), (0, .ref a0), (1, .int x1), (3, .int s0.2)]) dX12_isAlone_51 rfl (Nat.le_of_ble_eq_true rfl) rfl ?_
        refine s_iinc (pc := 52) (lo' := [(3, .int (s0.2 + nI 1)), (2, .int t20), (0, .ref a0), (1, .int x1)]) dX12_isAlone_52 3 rfl (v := s0.2 + nI 1) rfl (Nat.le_of_ble_eq_true rfl) rfl ?_
        refine s_goto (pc := 55) (tgt := 4) dX12_isAlone_55 rfl ?_
        exact s_lo [2, 3, 1, 0] rfl (hrec0 (t20, s0.2 + nI 1) hf)
      replace hf := hg
      refine s_if_eq (pc := 15) (tgt := 50) dX12_isAlone_15 rfl (fun hc => ?_) (fun hc => ?_)
      · replace hf := p_ps hf hc
        refine s_iconst (pc := 50) dX12_isAlone_50 (v := nI 0) rfl ?_
        cases hf
        exact s_lo [0, 1, 3] rfl (k21)
      · replace hf := p_ng hf hc
        refine s_iload_n (pc := 18) dX12_isAlone_18 3 rfl rfl ?_
        refine s_iload_n (pc := 19) dX12_isAlone_19 1 rfl rfl ?_
        refine s_icmp_eq (pc := 20) (tgt := 46) dX12_isAlone_20 rfl (fun hc => ?_) (fun hc => ?_)
        · replace hf := p_ps hf hc
          refine s_iconst (pc := 46) dX12_isAlone_46 (v := nI 1) rfl ?_
          refine s_goto (pc := 47) (tgt := 51) dX12_isAlone_47 rfl ?_
          cases hf
          exact s_lo [0, 1, 3] rfl (k21)
        · replace hf := p_ng hf hc
          refine s_aload_n (pc := 23) dX12_isAlone_23 0 rfl rfl ?_
          refine s_iload_n (pc := 24) dX12_isAlone_24 3 rfl rfl ?_
          obtain ⟨q22, h23, hf⟩ := p_bd hf
          refine y_callV1 (pc := 25) dX12_isAlone_25 (c_X12_seesSender (p_dd hd (by decide)) hW ha0 h23) mk_X12_seesSender mv_X12_seesSender ml_X12_215 rfl rfl (Nat.le_of_ble_eq_true rfl) ha0 rfl (p_d1 hd (by decide)) (Nat.le_of_ble_eq_true rfl) ?_
          refine s_if_eq (pc := 28) (tgt := 46) dX12_isAlone_28 rfl (fun hc => ?_) (fun hc => ?_)
          · replace hf := p_ps hf hc
            refine s_iconst (pc := 46) dX12_isAlone_46 (v := nI 1) rfl ?_
            refine s_goto (pc := 47) (tgt := 51) dX12_isAlone_47 rfl ?_
            cases hf
            exact s_lo [0, 1, 3] rfl (k21)
          · replace hf := p_ng hf hc
            refine s_aload_n (pc := 31) dX12_isAlone_31 0 rfl rfl ?_
            refine s_iload_n (pc := 32) dX12_isAlone_32 3 rfl rfl ?_
            refine s_iconst (pc := 33) dX12_isAlone_33 (v := nI 2) rfl ?_
            obtain ⟨q24, h25, hf⟩ := p_bd hf
            refine y_callV1 (pc := 34) dX12_isAlone_34 (c_X12_senderOf (p_dd hd (by decide)) hW ha0 h25) mk_X12_senderOf mv_X12_senderOf ml_X12_83 rfl rfl (Nat.le_of_ble_eq_true rfl) ha0 rfl (p_d1 hd (by decide)) (Nat.le_of_ble_eq_true rfl) ?_
            refine s_aload_n (pc := 37) dX12_isAlone_37 0 rfl rfl ?_
            refine s_iload_n (pc := 38) dX12_isAlone_38 1 rfl rfl ?_
            refine s_iconst (pc := 39) dX12_isAlone_39 (v := nI 2) rfl ?_
            obtain ⟨q26, h27, hf⟩ := p_bd hf
            refine y_callV1 (pc := 40) dX12_isAlone_40 (c_X12_senderOf (p_dd hd (by decide)) hW ha0 h27) mk_X12_senderOf mv_X12_senderOf ml_X12_83 rfl rfl (Nat.le_of_ble_eq_true rfl) ha0 rfl (p_d1 hd (by decide)) (Nat.le_of_ble_eq_true rfl) ?_
            refine s_icmp_eq (pc := 43) (tgt := 50) dX12_isAlone_43 rfl (fun hc => ?_) (fun hc => ?_)
            · replace hf := p_ps hf hc
              refine s_iconst (pc := 50) dX12_isAlone_50 (v := nI 0) rfl ?_
              cases hf
              exact s_lo [0, 1, 3] rfl (k21)
            · replace hf := p_ng hf hc
              refine s_iconst (pc := 46) dX12_isAlone_46 (v := nI 1) rfl ?_
              refine s_goto (pc := 47) (tgt := 51) dX12_isAlone_47 rfl ?_
              cases hf
              exact s_lo [0, 1, 3] rfl (k21))
  exact s_lo [2, 3, 1, 0] rfl (k15 n (nI 1, nI 0) hf)
def B_X12_greatest_4 (n : Nat) (N : pN) (P : pR) (a0 : Nat) (x1 : Int32) (rec0 : (Int32 × Int32 × pI × pL) → Option (Int32 × pI × pL)) (s0 : Int32 × Int32 × pI × pL) : Option (Int32 × pI × pL) :=
  Option.bind (P a0 0) fun q3 =>
  p_ck (p_ib N q3 (nI 3)) <|
  (if (s0.2.2.1 q3 (Int32.toNatClampNeg (nI 3))) ≤ s0.2.1 then
    some (s0.1, s0.2.2.1, s0.2.2.2)
  else
    Option.bind (P a0 0) fun q7 =>
    p_ck (p_ib N q7 ((nI 202) + ((nI 2) * s0.2.1))) <|
    Option.bind (P a0 0) fun q11 =>
    p_ck (p_ib N q11 (((nI 202) + ((nI 2) * s0.2.1)) + (nI 1))) <|
    Option.bind (f_X12_signalOf n N s0.2.2.1 s0.2.2.2 P a0 x1 (s0.2.2.1 q7 (Int32.toNatClampNeg ((nI 202) + ((nI 2) * s0.2.1)))) (s0.2.2.1 q11 (Int32.toNatClampNeg (((nI 202) + ((nI 2) * s0.2.1)) + (nI 1))))) fun q15 =>
    p_let (α := Int32) ((if q15.1 ≤ s0.1 then
      s0.1
    else
      q15.1)) fun t17 =>
    rec0 (t17, s0.2.1 + nI 1, q15.2.1, q15.2.2))
def f_X12_greatest (n : Nat) (N : pN) (I : pI) (L : pL) (P : pR) (a0 : Nat) (x1 : Int32) : Option (Int32 × pI × pL) :=
  Option.bind (p_it (B_X12_greatest_4 n N P a0 x1) n (nI 0, nI 0, I, L)) fun t1 =>
  (if (nI 9999) ≤ t1.1 then
    some (nI 9999, t1.2.1, t1.2.2)
  else
    some (t1.1, t1.2.1, t1.2.2))
theorem c_X12_greatest {G : pG} {d : Nat} {n : Nat} {N : pN} {I : pI} {L : pL} {P : pR} {a0 : Nat} {x1 : Int32} {qq : Int32 × pI × pL} (hd : 8 ≤ d) (hW : WT N P) (ha0 : p_tp N a0 15) (hf : f_X12_greatest n N I L P a0 x1 = some qq) : MT G mX12_greatest d 0 0 [.ref a0, .int x1] N I L P (p_R (some (.int qq.1)) N qq.2.1 qq.2.2 P) := by
  refine MT.of rfl (Nat.le_of_ble_eq_true rfl) ?_
  show SW G mX12_greatest (p_rm d 0 0) 0 0 0 0 (p_R (some (.int qq.1)) N qq.2.1 qq.2.2 P) 0 [(0, .ref a0), (1, .int x1)] [] N I L P
  unfold f_X12_greatest at hf
  refine s_iconst (pc := 0) dX12_greatest_0 (v := nI 0) rfl ?_
  refine s_istore_n (pc := 1) (lo' := [(2, .int (nI 0)), (0, .ref a0), (1, .int x1)]) dX12_greatest_1 rfl (Nat.le_of_ble_eq_true rfl) rfl ?_
  refine s_iconst (pc := 2) dX12_greatest_2 (v := nI 0) rfl ?_
  refine s_istore_n (pc := 3) (lo' := [(3, .int (nI 0)), (2, .int (nI 0)), (0, .ref a0), (1, .int x1)]) dX12_greatest_3 rfl (Nat.le_of_ble_eq_true rfl) rfl ?_
  obtain ⟨t1, hg, hf⟩ := p_bd hf
  have k2 : SW G mX12_greatest (p_rm d 0 0) 0 0 0 0 (p_R (some (.int qq.1)) N qq.2.1 qq.2.2 P) 66 [(2, .int t1.1)] [] N t1.2.1 t1.2.2 P := by
    refine s_iload_n (pc := 66) dX12_greatest_66 0 rfl rfl ?_
    refine s_sipush (pc := 67) dX12_greatest_67 (v := nI 9999) rfl ?_
    refine s_icmp_ge (pc := 70) (tgt := 77) dX12_greatest_70 rfl (fun hc => ?_) (fun hc => ?_)
    · replace hf := p_ps hf hc
      refine s_sipush (pc := 77) dX12_greatest_77 (v := nI 9999) rfl ?_
      cases hf
      exact s_ireturn (pc := 80) dX12_greatest_80 rfl rfl ⟨rfl, rfl, rfl, rfl, rfl⟩
    · replace hf := p_ng hf hc
      refine s_iload_n (pc := 73) dX12_greatest_73 0 rfl rfl ?_
      refine s_goto (pc := 74) (tgt := 80) dX12_greatest_74 rfl ?_
      cases hf
      exact s_ireturn (pc := 80) dX12_greatest_80 rfl rfl ⟨rfl, rfl, rfl, rfl, rfl⟩
  replace hf := hg
  have k19 : ∀ (k : Nat) (s0 : Int32 × Int32 × pI × pL), p_it (B_X12_greatest_4 n N P a0 x1) k s0 = some t1 → (SW G mX12_greatest (p_rm d 0 0) 0 0 0 0 (p_R (some (.int qq.1)) N qq.2.1 qq.2.2 P) 4 [(0, .ref a0), (1, .int x1), (2, .int s0.1), (3, .int s0.2.1)] [] N s0.2.2.1 s0.2.2.2 P) := p_it_ind (C := fun (s0 : Int32 × Int32 × pI × pL) => SW G mX12_greatest (p_rm d 0 0) 0 0 0 0 (p_R (some (.int qq.1)) N qq.2.1 qq.2.2 P) 4 [(0, .ref a0), (1, .int x1), (2, .int s0.1), (3, .int s0.2.1)] [] N s0.2.2.1 s0.2.2.2 P) (by
    intro rec0 hrec0 s0 hf
    unfold B_X12_greatest_4 at hf
    refine s_iload_n (pc := 4) dX12_greatest_4 3 rfl rfl ?_
    refine s_aload_n (pc := 5) dX12_greatest_5 0 rfl rfl ?_
    obtain ⟨q20, h21, hf⟩ := p_bd hf
    have t22 : p_tp N q20 0 := WT.get hW ha0 h21
    refine x_getR (pc := 6) dX12_greatest_6 fl_X12_7 rfl ha0 h21 ?_
    refine s_iconst (pc := 9) dX12_greatest_9 (v := nI 3) rfl ?_
    obtain ⟨c23, hf⟩ := p_ckx hf
    refine x_iald (pc := 10) dX12_greatest_10 t22 c23 ?_
    refine s_icmp_ge (pc := 11) (tgt := 66) dX12_greatest_11 rfl (fun hc => ?_) (fun hc => ?_)
    · replace hf := p_ps hf hc
      cases hf
      exact s_lo [2] rfl (k2)
    · replace hf := p_ng hf hc
      refine s_aload_n (pc := 14) dX12_greatest_14 0 rfl rfl ?_
      refine s_iload_n (pc := 15) dX12_greatest_15 1 rfl rfl ?_
      refine s_aload_n (pc := 16) dX12_greatest_16 0 rfl rfl ?_
      obtain ⟨q24, h25, hf⟩ := p_bd hf
      have t26 : p_tp N q24 0 := WT.get hW ha0 h25
      refine x_getR (pc := 17) dX12_greatest_17 fl_X12_7 rfl ha0 h25 ?_
      refine s_sipush (pc := 20) dX12_greatest_20 (v := nI 202) rfl ?_
      refine s_iconst (pc := 23) dX12_greatest_23 (v := nI 2) rfl ?_
      refine s_iload_n (pc := 24) dX12_greatest_24 3 rfl rfl ?_
      refine s_imul (pc := 25) dX12_greatest_25 ?_
      refine s_iadd (pc := 26) dX12_greatest_26 ?_
      obtain ⟨c27, hf⟩ := p_ckx hf
      refine x_iald (pc := 27) dX12_greatest_27 t26 c27 ?_
      refine s_aload_n (pc := 28) dX12_greatest_28 0 rfl rfl ?_
      obtain ⟨q28, h29, hf⟩ := p_bd hf
      have t30 : p_tp N q28 0 := WT.get hW ha0 h29
      refine x_getR (pc := 29) dX12_greatest_29 fl_X12_7 rfl ha0 h29 ?_
      refine s_sipush (pc := 32) dX12_greatest_32 (v := nI 202) rfl ?_
      refine s_iconst (pc := 35) dX12_greatest_35 (v := nI 2) rfl ?_
      refine s_iload_n (pc := 36) dX12_greatest_36 3 rfl rfl ?_
      refine s_imul (pc := 37) dX12_greatest_37 ?_
      refine s_iadd (pc := 38) dX12_greatest_38 ?_
      refine s_iconst (pc := 39) dX12_greatest_39 (v := nI 1) rfl ?_
      refine s_iadd (pc := 40) dX12_greatest_40 ?_
      obtain ⟨c31, hf⟩ := p_ckx hf
      refine x_iald (pc := 41) dX12_greatest_41 t30 c31 ?_
      obtain ⟨q32, h33, hf⟩ := p_bd hf
      refine y_callV1 (pc := 42) dX12_greatest_42 (c_X12_signalOf (p_dd hd (by decide)) hW ha0 h33) mk_X12_signalOf mv_X12_signalOf ml_X12_244 rfl rfl (Nat.le_of_ble_eq_true rfl) ha0 rfl (p_d1 hd (by decide)) (Nat.le_of_ble_eq_true rfl) ?_
      refine s_istore (pc := 45) (lo' := [(4, .int q32.1), (0, .ref a0), (1, .int x1), (2, .int s0.1), (3, .int s0.2.1)]) dX12_greatest_45 (Nat.le_of_ble_eq_true rfl) rfl ?_
      refine s_iload (pc := 47) dX12_greatest_47 0 rfl ?_
      refine s_iload_n (pc := 49) dX12_greatest_49 3 rfl rfl ?_
      obtain ⟨t34, hg, hf⟩ := p_lx2 hf
      have k35 : SW G mX12_greatest (p_rm d 0 0) 0 0 0 0 (p_R (some (.int qq.1)) N qq.2.1 qq.2.2 P) 59 [(0, .ref a0), (1, .int x1), (3, .int s0.2.1)] [.int t34] N q32.2.1 q32.2.2 P := by
        refine s_istore_n (pc := 59) (lo' := [(2, .int t34), (0, .ref a0), (1, .int x1), (3, .int s0.2.1)]) dX12_greatest_59 rfl (Nat.le_of_ble_eq_true rfl) rfl ?_
        refine s_iinc (pc := 60) (lo' := [(3, .int (s0.2.1 + nI 1)), (2, .int t34), (0, .ref a0), (1, .int x1)]) dX12_greatest_60 3 rfl (v := s0.2.1 + nI 1) rfl (Nat.le_of_ble_eq_true rfl) rfl ?_
        refine s_goto (pc := 63) (tgt := 4) dX12_greatest_63 rfl ?_
        exact s_lo [2, 3, 1, 0] rfl (hrec0 (t34, s0.2.1 + nI 1, q32.2.1, q32.2.2) hf)
      replace hf := hg.symm
      refine s_icmp_le (pc := 50) (tgt := 58) dX12_greatest_50 rfl (fun hc => ?_) (fun hc => ?_)
      · replace hf := p_ps hf hc
        refine s_iload_n (pc := 58) dX12_greatest_58 3 rfl rfl ?_
        cases hf
        exact s_lo [1, 2, 4] rfl (k35)
      · replace hf := p_ng hf hc
        refine s_iload (pc := 53) dX12_greatest_53 0 rfl ?_
        refine s_goto (pc := 55) (tgt := 59) dX12_greatest_55 rfl ?_
        cases hf
        exact s_lo [1, 2, 4] rfl (k35))
  exact s_lo [2, 3, 1, 0] rfl (k19 n (nI 0, nI 0, I, L) hf)
def f_X12_asked (n : Nat) (N : pN) (I : pI) (L : pL) (P : pR) (a0 : Nat) (x1 : Int32) (x2 : Int32) (x3 : Int32) : Option (Int32 × pI × pL) :=
  (if x1 = nI 10 then
    Option.bind (f_X12_isAlone n N I P a0 x2) fun q13 =>
    (if q13 = 0 then
      some (nI 0, I, L)
    else
      some (nI 1, I, L))
  else
    (if x1 = nI 11 then
      Option.bind (f_X12_senderOf N I P a0 x2 (nI 2)) fun q11 =>
      some (q11, I, L)
    else
      (if x1 = nI 12 then
        Option.bind (f_X12_senderOf N I P a0 x2 (nI 3)) fun q9 =>
        some (q9, I, L)
      else
        (if x1 = nI 13 then
          Option.bind (f_X12_senderOf N I P a0 x2 (nI 0)) fun q7 =>
          some (q7, I, L)
        else
          (if x1 = nI 14 then
            Option.bind (f_X12_senderOf N I P a0 x2 (nI 1)) fun q5 =>
            some (q5, I, L)
          else
            (if x1 = nI 15 then
              some (x3, I, L)
            else
              Option.bind (f_X12_greatest n N I L P a0 x2) fun q3 =>
              some (q3.1, q3.2.1, q3.2.2)))))))
theorem c_X12_asked {G : pG} {d : Nat} {n : Nat} {N : pN} {I : pI} {L : pL} {P : pR} {a0 : Nat} {x1 : Int32} {x2 : Int32} {x3 : Int32} {qq : Int32 × pI × pL} (hd : 9 ≤ d) (hW : WT N P) (ha0 : p_tp N a0 15) (hf : f_X12_asked n N I L P a0 x1 x2 x3 = some qq) : MT G mX12_asked d 0 0 [.ref a0, .int x1, .int x2, .int x3] N I L P (p_R (some (.int qq.1)) N qq.2.1 qq.2.2 P) := by
  refine MT.of rfl (Nat.le_of_ble_eq_true rfl) ?_
  show SW G mX12_asked (p_rm d 0 0) 0 0 0 0 (p_R (some (.int qq.1)) N qq.2.1 qq.2.2 P) 0 [(0, .ref a0), (1, .int x1), (2, .int x2), (3, .int x3)] [] N I L P
  unfold f_X12_asked at hf
  refine s_iload_n (pc := 0) dX12_asked_0 1 rfl rfl ?_
  by_cases hc0 : x1 = nI 10
  · replace hf := p_ps hf hc0
    refine s_tableIn (pc := 1) (tgt := 40) (off := 39) dX12_asked_1 (by rw [hc0]; decide) (by rw [hc0]; decide) (by rw [hc0]; rfl) rfl ?_
    refine s_aload_n (pc := 40) dX12_asked_40 0 rfl rfl ?_
    refine s_iload_n (pc := 41) dX12_asked_41 2 rfl rfl ?_
    obtain ⟨q13, h14, hf⟩ := p_bd hf
    refine y_callV1 (pc := 42) dX12_asked_42 (c_X12_isAlone (p_dd hd (by decide)) hW ha0 h14) mk_X12_isAlone mv_X12_isAlone ml_X12_405 rfl rfl (Nat.le_of_ble_eq_true rfl) ha0 rfl (p_d1 hd (by decide)) (Nat.le_of_ble_eq_true rfl) ?_
    refine s_if_eq (pc := 45) (tgt := 52) dX12_asked_45 rfl (fun hc => ?_) (fun hc => ?_)
    · replace hf := p_ps hf hc
      refine s_iconst (pc := 52) dX12_asked_52 (v := nI 0) rfl ?_
      cases hf
      exact s_ireturn (pc := 53) dX12_asked_53 rfl rfl ⟨rfl, rfl, rfl, rfl, rfl⟩
    · replace hf := p_ng hf hc
      refine s_iconst (pc := 48) dX12_asked_48 (v := nI 1) rfl ?_
      refine s_goto (pc := 49) (tgt := 53) dX12_asked_49 rfl ?_
      cases hf
      exact s_ireturn (pc := 53) dX12_asked_53 rfl rfl ⟨rfl, rfl, rfl, rfl, rfl⟩
  · replace hf := p_ng hf hc0
    by_cases hc1 : x1 = nI 11
    · replace hf := p_ps hf hc1
      refine s_tableIn (pc := 1) (tgt := 54) (off := 53) dX12_asked_1 (by rw [hc1]; decide) (by rw [hc1]; decide) (by rw [hc1]; rfl) rfl ?_
      refine s_aload_n (pc := 54) dX12_asked_54 0 rfl rfl ?_
      refine s_iload_n (pc := 55) dX12_asked_55 2 rfl rfl ?_
      refine s_iconst (pc := 56) dX12_asked_56 (v := nI 2) rfl ?_
      obtain ⟨q11, h12, hf⟩ := p_bd hf
      refine y_callV1 (pc := 57) dX12_asked_57 (c_X12_senderOf (p_dd hd (by decide)) hW ha0 h12) mk_X12_senderOf mv_X12_senderOf ml_X12_83 rfl rfl (Nat.le_of_ble_eq_true rfl) ha0 rfl (p_d1 hd (by decide)) (Nat.le_of_ble_eq_true rfl) ?_
      cases hf
      exact s_ireturn (pc := 60) dX12_asked_60 rfl rfl ⟨rfl, rfl, rfl, rfl, rfl⟩
    · replace hf := p_ng hf hc1
      by_cases hc2 : x1 = nI 12
      · replace hf := p_ps hf hc2
        refine s_tableIn (pc := 1) (tgt := 61) (off := 60) dX12_asked_1 (by rw [hc2]; decide) (by rw [hc2]; decide) (by rw [hc2]; rfl) rfl ?_
        refine s_aload_n (pc := 61) dX12_asked_61 0 rfl rfl ?_
        refine s_iload_n (pc := 62) dX12_asked_62 2 rfl rfl ?_
        refine s_iconst (pc := 63) dX12_asked_63 (v := nI 3) rfl ?_
        obtain ⟨q9, h10, hf⟩ := p_bd hf
        refine y_callV1 (pc := 64) dX12_asked_64 (c_X12_senderOf (p_dd hd (by decide)) hW ha0 h10) mk_X12_senderOf mv_X12_senderOf ml_X12_83 rfl rfl (Nat.le_of_ble_eq_true rfl) ha0 rfl (p_d1 hd (by decide)) (Nat.le_of_ble_eq_true rfl) ?_
        cases hf
        exact s_ireturn (pc := 67) dX12_asked_67 rfl rfl ⟨rfl, rfl, rfl, rfl, rfl⟩
      · replace hf := p_ng hf hc2
        by_cases hc3 : x1 = nI 13
        · replace hf := p_ps hf hc3
          refine s_tableIn (pc := 1) (tgt := 68) (off := 67) dX12_asked_1 (by rw [hc3]; decide) (by rw [hc3]; decide) (by rw [hc3]; rfl) rfl ?_
          refine s_aload_n (pc := 68) dX12_asked_68 0 rfl rfl ?_
          refine s_iload_n (pc := 69) dX12_asked_69 2 rfl rfl ?_
          refine s_iconst (pc := 70) dX12_asked_70 (v := nI 0) rfl ?_
          obtain ⟨q7, h8, hf⟩ := p_bd hf
          refine y_callV1 (pc := 71) dX12_asked_71 (c_X12_senderOf (p_dd hd (by decide)) hW ha0 h8) mk_X12_senderOf mv_X12_senderOf ml_X12_83 rfl rfl (Nat.le_of_ble_eq_true rfl) ha0 rfl (p_d1 hd (by decide)) (Nat.le_of_ble_eq_true rfl) ?_
          cases hf
          exact s_ireturn (pc := 74) dX12_asked_74 rfl rfl ⟨rfl, rfl, rfl, rfl, rfl⟩
        · replace hf := p_ng hf hc3
          by_cases hc4 : x1 = nI 14
          · replace hf := p_ps hf hc4
            refine s_tableIn (pc := 1) (tgt := 75) (off := 74) dX12_asked_1 (by rw [hc4]; decide) (by rw [hc4]; decide) (by rw [hc4]; rfl) rfl ?_
            refine s_aload_n (pc := 75) dX12_asked_75 0 rfl rfl ?_
            refine s_iload_n (pc := 76) dX12_asked_76 2 rfl rfl ?_
            refine s_iconst (pc := 77) dX12_asked_77 (v := nI 1) rfl ?_
            obtain ⟨q5, h6, hf⟩ := p_bd hf
            refine y_callV1 (pc := 78) dX12_asked_78 (c_X12_senderOf (p_dd hd (by decide)) hW ha0 h6) mk_X12_senderOf mv_X12_senderOf ml_X12_83 rfl rfl (Nat.le_of_ble_eq_true rfl) ha0 rfl (p_d1 hd (by decide)) (Nat.le_of_ble_eq_true rfl) ?_
            cases hf
            exact s_ireturn (pc := 81) dX12_asked_81 rfl rfl ⟨rfl, rfl, rfl, rfl, rfl⟩
          · replace hf := p_ng hf hc4
            by_cases hc5 : x1 = nI 15
            · replace hf := p_ps hf hc5
              refine s_tableIn (pc := 1) (tgt := 82) (off := 81) dX12_asked_1 (by rw [hc5]; decide) (by rw [hc5]; decide) (by rw [hc5]; rfl) rfl ?_
              refine s_iload_n (pc := 82) dX12_asked_82 3 rfl rfl ?_
              cases hf
              exact s_ireturn (pc := 83) dX12_asked_83 rfl rfl ⟨rfl, rfl, rfl, rfl, rfl⟩
            · replace hf := p_ng hf hc5
              have hout : x1.toInt < 10 ∨ 15 < x1.toInt := p_out (fun i h1 h2 => by
                have hh : i = 10 ∨ i = 11 ∨ i = 12 ∨ i = 13 ∨ i = 14 ∨ i = 15 := by omega
                rcases hh with rfl | rfl | rfl | rfl | rfl | rfl
                · exact p_ne hc0 rfl
                · exact p_ne hc1 rfl
                · exact p_ne hc2 rfl
                · exact p_ne hc3 rfl
                · exact p_ne hc4 rfl
                · exact p_ne hc5 rfl)
              refine s_tableOut (pc := 1) (tgt := 84) dX12_asked_1 hout rfl ?_
              refine s_aload_n (pc := 84) dX12_asked_84 0 rfl rfl ?_
              refine s_iload_n (pc := 85) dX12_asked_85 2 rfl rfl ?_
              obtain ⟨q3, h4, hf⟩ := p_bd hf
              refine y_callV1 (pc := 86) dX12_asked_86 (c_X12_greatest (p_dd hd (by decide)) hW ha0 h4) mk_X12_greatest mv_X12_greatest ml_X12_408 rfl rfl (Nat.le_of_ble_eq_true rfl) ha0 rfl (p_d1 hd (by decide)) (Nat.le_of_ble_eq_true rfl) ?_
              cases hf
              exact s_ireturn (pc := 89) dX12_asked_89 rfl rfl ⟨rfl, rfl, rfl, rfl, rfl⟩
def B_X12_holds_6 (n : Nat) (N : pN) (P : pR) (a0 : Nat) (x1 : Int32) (x2 : Int32) (x3 : Int32) (rec0 : (Int32 × Int32 × pI × pL) → Option (Int32 × pI × pL)) (s0 : Int32 × Int32 × pI × pL) : Option (Int32 × pI × pL) :=
  Option.bind (P a0 0) fun q3 =>
  p_ck (p_ib N q3 x1) <|
  (if (s0.2.2.1 q3 (Int32.toNatClampNeg x1)) ≤ s0.2.1 then
    some (s0.1, s0.2.2.1, s0.2.2.2)
  else
    (if s0.1 = 0 then
      some (s0.1, s0.2.2.1, s0.2.2.2)
    else
      p_let ((x1 + (nI 1)) + ((nI 4) * s0.2.1)) fun v7 =>
      Option.bind (P a0 0) fun q9 =>
      p_ck (p_ib N q9 (v7 + (nI 1))) <|
      Option.bind (f_X12_asked n N s0.2.2.1 s0.2.2.2 P a0 (s0.2.2.1 q9 (Int32.toNatClampNeg (v7 + (nI 1)))) x2 x3) fun q13 =>
      Option.bind (P a0 0) fun q15 =>
      p_ck (p_ib N q15 (v7 + (nI 3))) <|
      p_let (q13.2.1 q15 (Int32.toNatClampNeg (v7 + (nI 3)))) fun v19 =>
      Option.bind (P a0 0) fun q21 =>
      p_ck (p_ib N q21 (v7 + (nI 2))) <|
      Option.bind (α := Int32) ((if (q13.2.1 q21 (Int32.toNatClampNeg (v7 + (nI 2)))) = (nI 60) then
        (if v19 ≤ q13.1 then
          some (nI 0)
        else
          some (nI 1))
      else
        Option.bind (P a0 0) fun q27 =>
        p_ck (p_ib N q27 (v7 + (nI 2))) <|
        (if (q13.2.1 q27 (Int32.toNatClampNeg (v7 + (nI 2)))) = (nI 62) then
          (if q13.1 ≤ v19 then
            some (nI 0)
          else
            some (nI 1))
        else
          (if q13.1 = v19 then
            some (nI 1)
          else
            some (nI 0))))) fun t25 =>
      Option.bind (P a0 0) fun q31 =>
      p_ck (p_ib N q31 v7) <|
      p_let (α := Int32) ((if (q13.2.1 q31 (Int32.toNatClampNeg v7)) = (nI 1) then
        nI 1
      else
        nI 0)) fun t35 =>
      p_let (α := Int32) ((if t25 = t35 then
        nI 0
      else
        nI 1)) fun t37 =>
      rec0 (t37, s0.2.1 + nI 1, q13.2.1, q13.2.2)))
def f_X12_holds (n : Nat) (N : pN) (I : pI) (L : pL) (P : pR) (a0 : Nat) (x1 : Int32) (x2 : Int32) (x3 : Int32) : Option (Int32 × pI × pL) :=
  Option.bind (p_it (B_X12_holds_6 n N P a0 x1 x2 x3) n (nI 1, nI 0, I, L)) fun t1 =>
  p_ck (decide (t1.1 = 0 ∨ t1.1 = 1)) <|
  some (t1.1, t1.2.1, t1.2.2)
theorem c_X12_holds {G : pG} {d : Nat} {n : Nat} {N : pN} {I : pI} {L : pL} {P : pR} {a0 : Nat} {x1 : Int32} {x2 : Int32} {x3 : Int32} {qq : Int32 × pI × pL} (hd : 10 ≤ d) (hW : WT N P) (ha0 : p_tp N a0 15) (hf : f_X12_holds n N I L P a0 x1 x2 x3 = some qq) : MT G mX12_holds d 0 0 [.ref a0, .int x1, .int x2, .int x3] N I L P (p_R (some (.int qq.1)) N qq.2.1 qq.2.2 P) := by
  refine MT.of rfl (Nat.le_of_ble_eq_true rfl) ?_
  show SW G mX12_holds (p_rm d 0 0) 0 0 0 0 (p_R (some (.int qq.1)) N qq.2.1 qq.2.2 P) 0 [(0, .ref a0), (1, .int x1), (2, .int x2), (3, .int x3)] [] N I L P
  unfold f_X12_holds at hf
  refine s_iconst (pc := 0) dX12_holds_0 (v := nI 1) rfl ?_
  refine s_istore (pc := 1) (lo' := [(4, .int (nI 1)), (0, .ref a0), (1, .int x1), (2, .int x2), (3, .int x3)]) dX12_holds_1 (Nat.le_of_ble_eq_true rfl) rfl ?_
  refine s_iconst (pc := 3) dX12_holds_3 (v := nI 0) rfl ?_
  refine s_istore (pc := 4) (lo' := [(5, .int (nI 0)), (4, .int (nI 1)), (0, .ref a0), (1, .int x1), (2, .int x2), (3, .int x3)]) dX12_holds_4 (Nat.le_of_ble_eq_true rfl) rfl ?_
  obtain ⟨t1, hg, hf⟩ := p_bd hf
  have k2 : SW G mX12_holds (p_rm d 0 0) 0 0 0 0 (p_R (some (.int qq.1)) N qq.2.1 qq.2.2 P) 166 [(4, .int t1.1)] [] N t1.2.1 t1.2.2 P := by
    refine s_iload (pc := 166) dX12_holds_166 0 rfl ?_
    obtain ⟨c76, hf⟩ := p_ckx hf
    cases hf
    exact s_ireturn (pc := 168) dX12_holds_168 rfl (p_nr (of_decide_eq_true c76)) ⟨rfl, rfl, rfl, rfl, rfl⟩
  replace hf := hg
  have k39 : ∀ (k : Nat) (s0 : Int32 × Int32 × pI × pL), p_it (B_X12_holds_6 n N P a0 x1 x2 x3) k s0 = some t1 → (SW G mX12_holds (p_rm d 0 0) 0 0 0 0 (p_R (some (.int qq.1)) N qq.2.1 qq.2.2 P) 6 [(0, .ref a0), (1, .int x1), (2, .int x2), (3, .int x3), (4, .int s0.1), (5, .int s0.2.1)] [] N s0.2.2.1 s0.2.2.2 P) := p_it_ind (C := fun (s0 : Int32 × Int32 × pI × pL) => SW G mX12_holds (p_rm d 0 0) 0 0 0 0 (p_R (some (.int qq.1)) N qq.2.1 qq.2.2 P) 6 [(0, .ref a0), (1, .int x1), (2, .int x2), (3, .int x3), (4, .int s0.1), (5, .int s0.2.1)] [] N s0.2.2.1 s0.2.2.2 P) (by
    intro rec0 hrec0 s0 hf
    unfold B_X12_holds_6 at hf
    refine s_iload (pc := 6) dX12_holds_6 5 rfl ?_
    refine s_aload_n (pc := 8) dX12_holds_8 0 rfl rfl ?_
    obtain ⟨q40, h41, hf⟩ := p_bd hf
    have t42 : p_tp N q40 0 := WT.get hW ha0 h41
    refine x_getR (pc := 9) dX12_holds_9 fl_X12_7 rfl ha0 h41 ?_
    refine s_iload_n (pc := 12) dX12_holds_12 1 rfl rfl ?_
    obtain ⟨c43, hf⟩ := p_ckx hf
    refine x_iald (pc := 13) dX12_holds_13 t42 c43 ?_
    refine s_icmp_ge (pc := 14) (tgt := 166) dX12_holds_14 rfl (fun hc => ?_) (fun hc => ?_)
    · replace hf := p_ps hf hc
      cases hf
      exact s_lo [4] rfl (k2)
    · replace hf := p_ng hf hc
      refine s_iload (pc := 17) dX12_holds_17 4 rfl ?_
      refine s_if_eq (pc := 19) (tgt := 166) dX12_holds_19 rfl (fun hc => ?_) (fun hc => ?_)
      · replace hf := p_ps hf hc
        cases hf
        exact s_lo [4] rfl (k2)
      · replace hf := p_ng hf hc
        refine s_iload_n (pc := 22) dX12_holds_22 1 rfl rfl ?_
        refine s_iconst (pc := 23) dX12_holds_23 (v := nI 1) rfl ?_
        refine s_iadd (pc := 24) dX12_holds_24 ?_
        refine s_iconst (pc := 25) dX12_holds_25 (v := nI 4) rfl ?_
        refine s_iload (pc := 26) dX12_holds_26 5 rfl ?_
        refine s_imul (pc := 28) dX12_holds_28 ?_
        refine s_iadd (pc := 29) dX12_holds_29 ?_
        refine s_topi (fun v44 e45 => ?_)
        replace hf := p_lx hf e45
        refine s_istore (pc := 30) (lo' := [(6, .int v44), (0, .ref a0), (1, .int x1), (2, .int x2), (3, .int x3), (4, .int s0.1), (5, .int s0.2.1)]) dX12_holds_30 (Nat.le_of_ble_eq_true rfl) rfl ?_
        refine s_aload_n (pc := 32) dX12_holds_32 1 rfl rfl ?_
        refine s_aload_n (pc := 33) dX12_holds_33 1 rfl rfl ?_
        obtain ⟨q46, h47, hf⟩ := p_bd hf
        have t48 : p_tp N q46 0 := WT.get hW ha0 h47
        refine x_getR (pc := 34) dX12_holds_34 fl_X12_7 rfl ha0 h47 ?_
        refine s_iload (pc := 37) dX12_holds_37 0 rfl ?_
        refine s_iconst (pc := 39) dX12_holds_39 (v := nI 1) rfl ?_
        refine s_iadd (pc := 40) dX12_holds_40 ?_
        obtain ⟨c49, hf⟩ := p_ckx hf
        refine x_iald (pc := 41) dX12_holds_41 t48 c49 ?_
        refine s_iload_n (pc := 42) dX12_holds_42 3 rfl rfl ?_
        refine s_iload_n (pc := 43) dX12_holds_43 4 rfl rfl ?_
        obtain ⟨q50, h51, hf⟩ := p_bd hf
        refine y_callV1 (pc := 44) dX12_holds_44 (c_X12_asked (p_dd hd (by decide)) hW ha0 h51) mk_X12_asked mv_X12_asked ml_X12_411 rfl rfl (Nat.le_of_ble_eq_true rfl) ha0 rfl (p_d1 hd (by decide)) (Nat.le_of_ble_eq_true rfl) ?_
        refine s_istore (pc := 47) (lo' := [(7, .int q50.1), (6, .int v44), (0, .ref a0), (1, .int x1), (2, .int x2), (3, .int x3), (4, .int s0.1), (5, .int s0.2.1)]) dX12_holds_47 (Nat.le_of_ble_eq_true rfl) rfl ?_
        refine s_aload_n (pc := 49) dX12_holds_49 2 rfl rfl ?_
        obtain ⟨q52, h53, hf⟩ := p_bd hf
        have t54 : p_tp N q52 0 := WT.get hW ha0 h53
        refine x_getR (pc := 50) dX12_holds_50 fl_X12_7 rfl ha0 h53 ?_
        refine s_iload (pc := 53) dX12_holds_53 1 rfl ?_
        refine s_iconst (pc := 55) dX12_holds_55 (v := nI 3) rfl ?_
        refine s_iadd (pc := 56) dX12_holds_56 ?_
        obtain ⟨c55, hf⟩ := p_ckx hf
        refine x_iald (pc := 57) dX12_holds_57 t54 c55 ?_
        refine s_topi (fun v56 e57 => ?_)
        replace hf := p_lx hf e57
        refine s_istore (pc := 58) (lo' := [(8, .int v56), (7, .int q50.1), (6, .int v44), (0, .ref a0), (1, .int x1), (2, .int x2), (3, .int x3), (4, .int s0.1), (5, .int s0.2.1)]) dX12_holds_58 (Nat.le_of_ble_eq_true rfl) rfl ?_
        refine s_aload_n (pc := 60) dX12_holds_60 3 rfl rfl ?_
        obtain ⟨q58, h59, hf⟩ := p_bd hf
        have t60 : p_tp N q58 0 := WT.get hW ha0 h59
        refine x_getR (pc := 61) dX12_holds_61 fl_X12_7 rfl ha0 h59 ?_
        refine s_iload (pc := 64) dX12_holds_64 2 rfl ?_
        refine s_iconst (pc := 66) dX12_holds_66 (v := nI 2) rfl ?_
        refine s_iadd (pc := 67) dX12_holds_67 ?_
        obtain ⟨c61, hf⟩ := p_ckx hf
        refine x_iald (pc := 68) dX12_holds_68 t60 c61 ?_
        refine s_bipush (pc := 69) dX12_holds_69 (v := nI 60) rfl ?_
        obtain ⟨t62, hg, hf⟩ := p_bd hf
        have k63 : SW G mX12_holds (p_rm d 0 0) 0 0 0 0 (p_R (some (.int qq.1)) N qq.2.1 qq.2.2 P) 130 [(6, .int v44), (0, .ref a0), (1, .int x1), (2, .int x2), (3, .int x3), (5, .int s0.2.1)] [.int t62] N q50.2.1 q50.2.2 P := by
          refine s_istore (pc := 130) (lo' := [(9, .int t62), (6, .int v44), (0, .ref a0), (1, .int x1), (2, .int x2), (3, .int x3), (5, .int s0.2.1)]) dX12_holds_130 (Nat.le_of_ble_eq_true rfl) rfl ?_
          refine s_iload (pc := 132) dX12_holds_132 0 rfl ?_
          refine s_aload_n (pc := 134) dX12_holds_134 2 rfl rfl ?_
          obtain ⟨q68, h69, hf⟩ := p_bd hf
          have t70 : p_tp N q68 0 := WT.get hW ha0 h69
          refine x_getR (pc := 135) dX12_holds_135 fl_X12_7 rfl ha0 h69 ?_
          refine s_iload (pc := 138) dX12_holds_138 1 rfl ?_
          obtain ⟨c71, hf⟩ := p_ckx hf
          refine x_iald (pc := 140) dX12_holds_140 t70 c71 ?_
          refine s_iconst (pc := 141) dX12_holds_141 (v := nI 1) rfl ?_
          obtain ⟨t72, hg, hf⟩ := p_lx2 hf
          have k73 : SW G mX12_holds (p_rm d 0 0) 0 0 0 0 (p_R (some (.int qq.1)) N qq.2.1 qq.2.2 P) 150 [(0, .ref a0), (1, .int x1), (2, .int x2), (3, .int x3), (5, .int s0.2.1)] [.int t72, .int t62] N q50.2.1 q50.2.2 P := by
            obtain ⟨t74, hg, hf⟩ := p_lx2 hf
            have k75 : SW G mX12_holds (p_rm d 0 0) 0 0 0 0 (p_R (some (.int qq.1)) N qq.2.1 qq.2.2 P) 158 [(0, .ref a0), (1, .int x1), (2, .int x2), (3, .int x3), (5, .int s0.2.1)] [.int t74] N q50.2.1 q50.2.2 P := by
              refine s_istore (pc := 158) (lo' := [(4, .int t74), (0, .ref a0), (1, .int x1), (2, .int x2), (3, .int x3), (5, .int s0.2.1)]) dX12_holds_158 (Nat.le_of_ble_eq_true rfl) rfl ?_
              refine s_iinc (pc := 160) (lo' := [(5, .int (s0.2.1 + nI 1)), (4, .int t74), (0, .ref a0), (1, .int x1), (2, .int x2), (3, .int x3)]) dX12_holds_160 5 rfl (v := s0.2.1 + nI 1) rfl (Nat.le_of_ble_eq_true rfl) rfl ?_
              refine s_goto (pc := 163) (tgt := 6) dX12_holds_163 rfl ?_
              exact s_lo [2, 3, 4, 5, 1, 0] rfl (hrec0 (t74, s0.2.1 + nI 1, q50.2.1, q50.2.2) hf)
            replace hf := hg.symm
            refine s_icmp_eq (pc := 150) (tgt := 157) dX12_holds_150 rfl (fun hc => ?_) (fun hc => ?_)
            · replace hf := p_ps hf hc
              refine s_iconst (pc := 157) dX12_holds_157 (v := nI 0) rfl ?_
              cases hf
              exact s_lo [0, 1, 2, 3, 4] rfl (k75)
            · replace hf := p_ng hf hc
              refine s_iconst (pc := 153) dX12_holds_153 (v := nI 1) rfl ?_
              refine s_goto (pc := 154) (tgt := 158) dX12_holds_154 rfl ?_
              cases hf
              exact s_lo [0, 1, 2, 3, 4] rfl (k75)
          replace hf := hg.symm
          refine s_icmp_ne (pc := 142) (tgt := 149) dX12_holds_142 rfl (fun hc => ?_) (fun hc => ?_)
          · replace hf := p_ng hf hc
            refine s_iconst (pc := 149) dX12_holds_149 (v := nI 0) rfl ?_
            cases hf
            exact s_lo [2, 3, 4, 5, 6] rfl (k73)
          · replace hf := p_ps hf hc
            refine s_iconst (pc := 145) dX12_holds_145 (v := nI 1) rfl ?_
            refine s_goto (pc := 146) (tgt := 150) dX12_holds_146 rfl ?_
            cases hf
            exact s_lo [2, 3, 4, 5, 6] rfl (k73)
        replace hf := hg
        refine s_icmp_ne (pc := 71) (tgt := 89) dX12_holds_71 rfl (fun hc => ?_) (fun hc => ?_)
        · replace hf := p_ng hf hc
          refine s_aload_n (pc := 89) dX12_holds_89 3 rfl rfl ?_
          obtain ⟨q64, h65, hf⟩ := p_bd hf
          have t66 : p_tp N q64 0 := WT.get hW ha0 h65
          refine x_getR (pc := 90) dX12_holds_90 fl_X12_7 rfl ha0 h65 ?_
          refine s_iload (pc := 93) dX12_holds_93 2 rfl ?_
          refine s_iconst (pc := 95) dX12_holds_95 (v := nI 2) rfl ?_
          refine s_iadd (pc := 96) dX12_holds_96 ?_
          obtain ⟨c67, hf⟩ := p_ckx hf
          refine x_iald (pc := 97) dX12_holds_97 t66 c67 ?_
          refine s_bipush (pc := 98) dX12_holds_98 (v := nI 62) rfl ?_
          refine s_icmp_ne (pc := 100) (tgt := 118) dX12_holds_100 rfl (fun hc => ?_) (fun hc => ?_)
          · replace hf := p_ng hf hc
            refine s_iload (pc := 118) dX12_holds_118 1 rfl ?_
            refine s_iload (pc := 120) dX12_holds_120 0 rfl ?_
            refine s_icmp_ne (pc := 122) (tgt := 129) dX12_holds_122 rfl (fun hc => ?_) (fun hc => ?_)
            · replace hf := p_ng hf hc
              refine s_iconst (pc := 129) dX12_holds_129 (v := nI 0) rfl ?_
              cases hf
              exact s_lo [2, 3, 4, 5, 6, 8] rfl (k63)
            · replace hf := p_ps hf hc
              refine s_iconst (pc := 125) dX12_holds_125 (v := nI 1) rfl ?_
              refine s_goto (pc := 126) (tgt := 130) dX12_holds_126 rfl ?_
              cases hf
              exact s_lo [2, 3, 4, 5, 6, 8] rfl (k63)
          · replace hf := p_ps hf hc
            refine s_iload (pc := 103) dX12_holds_103 1 rfl ?_
            refine s_iload (pc := 105) dX12_holds_105 0 rfl ?_
            refine s_icmp_le (pc := 107) (tgt := 114) dX12_holds_107 rfl (fun hc => ?_) (fun hc => ?_)
            · replace hf := p_ps hf hc
              refine s_iconst (pc := 114) dX12_holds_114 (v := nI 0) rfl ?_
              refine s_goto (pc := 115) (tgt := 130) dX12_holds_115 rfl ?_
              cases hf
              exact s_lo [2, 3, 4, 5, 6, 8] rfl (k63)
            · replace hf := p_ng hf hc
              refine s_iconst (pc := 110) dX12_holds_110 (v := nI 1) rfl ?_
              refine s_goto (pc := 111) (tgt := 130) dX12_holds_111 rfl ?_
              cases hf
              exact s_lo [2, 3, 4, 5, 6, 8] rfl (k63)
        · replace hf := p_ps hf hc
          refine s_iload (pc := 74) dX12_holds_74 1 rfl ?_
          refine s_iload (pc := 76) dX12_holds_76 0 rfl ?_
          refine s_icmp_ge (pc := 78) (tgt := 85) dX12_holds_78 rfl (fun hc => ?_) (fun hc => ?_)
          · replace hf := p_ps hf hc
            refine s_iconst (pc := 85) dX12_holds_85 (v := nI 0) rfl ?_
            refine s_goto (pc := 86) (tgt := 130) dX12_holds_86 rfl ?_
            cases hf
            exact s_lo [2, 3, 4, 5, 6, 8] rfl (k63)
          · replace hf := p_ng hf hc
            refine s_iconst (pc := 81) dX12_holds_81 (v := nI 1) rfl ?_
            refine s_goto (pc := 82) (tgt := 130) dX12_holds_82 rfl ?_
            cases hf
            exact s_lo [2, 3, 4, 5, 6, 8] rfl (k63))
  exact s_lo [2, 3, 4, 5, 1, 0] rfl (k39 n (nI 1, nI 0, I, L) hf)
def B_X12_lineOf_2 (n : Nat) (N : pN) (P : pR) (a0 : Nat) (x1 : Int32) (x2 : Int32) (rec0 : (Int32 × pI × pL) → Option (Int32 × pI × pL)) (s0 : Int32 × pI × pL) : Option (Int32 × pI × pL) :=
  Option.bind (P a0 0) fun q1 =>
  p_ck (p_ib N q1 (nI 6)) <|
  (if (s0.2.1 q1 (Int32.toNatClampNeg (nI 6))) ≤ s0.1 then
    some ((-1), s0.2.1, s0.2.2)
  else
    Option.bind (f_X12_holds n N s0.2.1 s0.2.2 P a0 ((nI 340) + ((nI 20) * s0.1)) x1 x2) fun q5 =>
    (if q5.1 = 0 then
      rec0 (s0.1 + nI 1, q5.2.1, q5.2.2)
    else
      some (s0.1, q5.2.1, q5.2.2)))
def f_X12_lineOf (n : Nat) (N : pN) (I : pI) (L : pL) (P : pR) (a0 : Nat) (x1 : Int32) (x2 : Int32) : Option (Int32 × pI × pL) :=
  p_it (B_X12_lineOf_2 n N P a0 x1 x2) n (nI 0, I, L)
theorem c_X12_lineOf {G : pG} {d : Nat} {n : Nat} {N : pN} {I : pI} {L : pL} {P : pR} {a0 : Nat} {x1 : Int32} {x2 : Int32} {qq : Int32 × pI × pL} (hd : 11 ≤ d) (hW : WT N P) (ha0 : p_tp N a0 15) (hf : f_X12_lineOf n N I L P a0 x1 x2 = some qq) : MT G mX12_lineOf d 0 0 [.ref a0, .int x1, .int x2] N I L P (p_R (some (.int qq.1)) N qq.2.1 qq.2.2 P) := by
  refine MT.of rfl (Nat.le_of_ble_eq_true rfl) ?_
  show SW G mX12_lineOf (p_rm d 0 0) 0 0 0 0 (p_R (some (.int qq.1)) N qq.2.1 qq.2.2 P) 0 [(0, .ref a0), (1, .int x1), (2, .int x2)] [] N I L P
  unfold f_X12_lineOf at hf
  refine s_iconst (pc := 0) dX12_lineOf_0 (v := nI 0) rfl ?_
  refine s_istore_n (pc := 1) (lo' := [(3, .int (nI 0)), (0, .ref a0), (1, .int x1), (2, .int x2)]) dX12_lineOf_1 rfl (Nat.le_of_ble_eq_true rfl) rfl ?_
  have k7 : ∀ (k : Nat) (s0 : Int32 × pI × pL), p_it (B_X12_lineOf_2 n N P a0 x1 x2) k s0 = some qq → (SW G mX12_lineOf (p_rm d 0 0) 0 0 0 0 (p_R (some (.int qq.1)) N qq.2.1 qq.2.2 P) 2 [(0, .ref a0), (1, .int x1), (2, .int x2), (3, .int s0.1)] [] N s0.2.1 s0.2.2 P) := p_it_ind (C := fun (s0 : Int32 × pI × pL) => SW G mX12_lineOf (p_rm d 0 0) 0 0 0 0 (p_R (some (.int qq.1)) N qq.2.1 qq.2.2 P) 2 [(0, .ref a0), (1, .int x1), (2, .int x2), (3, .int s0.1)] [] N s0.2.1 s0.2.2 P) (by
    intro rec0 hrec0 s0 hf
    unfold B_X12_lineOf_2 at hf
    refine s_iload_n (pc := 2) dX12_lineOf_2 3 rfl rfl ?_
    refine s_aload_n (pc := 3) dX12_lineOf_3 0 rfl rfl ?_
    obtain ⟨q8, h9, hf⟩ := p_bd hf
    have t10 : p_tp N q8 0 := WT.get hW ha0 h9
    refine x_getR (pc := 4) dX12_lineOf_4 fl_X12_7 rfl ha0 h9 ?_
    refine s_bipush (pc := 7) dX12_lineOf_7 (v := nI 6) rfl ?_
    obtain ⟨c11, hf⟩ := p_ckx hf
    refine x_iald (pc := 9) dX12_lineOf_9 t10 c11 ?_
    refine s_icmp_ge (pc := 10) (tgt := 38) dX12_lineOf_10 rfl (fun hc => ?_) (fun hc => ?_)
    · replace hf := p_ps hf hc
      refine s_iconst (pc := 38) dX12_lineOf_38 (v := (-1)) rfl ?_
      cases hf
      exact s_ireturn (pc := 39) dX12_lineOf_39 rfl rfl ⟨rfl, rfl, rfl, rfl, rfl⟩
    · replace hf := p_ng hf hc
      refine s_aload_n (pc := 13) dX12_lineOf_13 0 rfl rfl ?_
      refine s_sipush (pc := 14) dX12_lineOf_14 (v := nI 340) rfl ?_
      refine s_bipush (pc := 17) dX12_lineOf_17 (v := nI 20) rfl ?_
      refine s_iload_n (pc := 19) dX12_lineOf_19 3 rfl rfl ?_
      refine s_imul (pc := 20) dX12_lineOf_20 ?_
      refine s_iadd (pc := 21) dX12_lineOf_21 ?_
      refine s_iload_n (pc := 22) dX12_lineOf_22 1 rfl rfl ?_
      refine s_iload_n (pc := 23) dX12_lineOf_23 2 rfl rfl ?_
      obtain ⟨q12, h13, hf⟩ := p_bd hf
      refine y_callV1 (pc := 24) dX12_lineOf_24 (c_X12_holds (p_dd hd (by decide)) hW ha0 h13) mk_X12_holds mv_X12_holds ml_X12_414 rfl rfl (Nat.le_of_ble_eq_true rfl) ha0 rfl (p_d1 hd (by decide)) (Nat.le_of_ble_eq_true rfl) ?_
      refine s_if_eq (pc := 27) (tgt := 32) dX12_lineOf_27 rfl (fun hc => ?_) (fun hc => ?_)
      · replace hf := p_ps hf hc
        refine s_iinc (pc := 32) (lo' := [(3, .int (s0.1 + nI 1)), (0, .ref a0), (1, .int x1), (2, .int x2)]) dX12_lineOf_32 3 rfl (v := s0.1 + nI 1) rfl (Nat.le_of_ble_eq_true rfl) rfl ?_
        refine s_goto (pc := 35) (tgt := 2) dX12_lineOf_35 rfl ?_
        exact s_lo [1, 2, 3, 0] rfl (hrec0 (s0.1 + nI 1, q12.2.1, q12.2.2) hf)
      · replace hf := p_ng hf hc
        refine s_iload_n (pc := 30) dX12_lineOf_30 3 rfl rfl ?_
        cases hf
        exact s_ireturn (pc := 31) dX12_lineOf_31 rfl rfl ⟨rfl, rfl, rfl, rfl, rfl⟩)
  exact s_lo [1, 2, 3, 0] rfl (k7 n (nI 0, I, L) hf)
def f_X12_why (n : Nat) (N : pN) (I : pI) (L : pL) (P : pR) (a0 : Nat) (x1 : Int32) (x2 : Int32) : Option (Int32 × pI × pL) :=
  Option.bind (f_X12_seesSender N I P a0 x1) fun q1 =>
  (if q1 = 0 then
    some ((-1), I, L)
  else
    Option.bind (f_X12_isIn x2 (nI 0) (nI 23)) fun q3 =>
    (if q3 = 0 then
      some ((-1), I, L)
    else
      Option.bind (f_X12_lineOf n N I L P a0 x1 x2) fun q5 =>
      some (q5.1, q5.2.1, q5.2.2)))
theorem c_X12_why {G : pG} {d : Nat} {n : Nat} {N : pN} {I : pI} {L : pL} {P : pR} {a0 : Nat} {x1 : Int32} {x2 : Int32} {qq : Int32 × pI × pL} (hd : 12 ≤ d) (hW : WT N P) (ha0 : p_tp N a0 15) (hf : f_X12_why n N I L P a0 x1 x2 = some qq) : MT G mX12_why d 0 0 [.ref a0, .int x1, .int x2] N I L P (p_R (some (.int qq.1)) N qq.2.1 qq.2.2 P) := by
  refine MT.of rfl (Nat.le_of_ble_eq_true rfl) ?_
  show SW G mX12_why (p_rm d 0 0) 0 0 0 0 (p_R (some (.int qq.1)) N qq.2.1 qq.2.2 P) 0 [(0, .ref a0), (1, .int x1), (2, .int x2)] [] N I L P
  unfold f_X12_why at hf
  refine s_aload_n (pc := 0) dX12_why_0 0 rfl rfl ?_
  refine s_iload_n (pc := 1) dX12_why_1 1 rfl rfl ?_
  obtain ⟨q1, h2, hf⟩ := p_bd hf
  refine y_callV1 (pc := 2) dX12_why_2 (c_X12_seesSender (p_dd hd (by decide)) hW ha0 h2) mk_X12_seesSender mv_X12_seesSender ml_X12_215 rfl rfl (Nat.le_of_ble_eq_true rfl) ha0 rfl (p_d1 hd (by decide)) (Nat.le_of_ble_eq_true rfl) ?_
  refine s_if_eq (pc := 5) (tgt := 27) dX12_why_5 rfl (fun hc => ?_) (fun hc => ?_)
  · replace hf := p_ps hf hc
    refine s_iconst (pc := 27) dX12_why_27 (v := (-1)) rfl ?_
    cases hf
    exact s_ireturn (pc := 28) dX12_why_28 rfl rfl ⟨rfl, rfl, rfl, rfl, rfl⟩
  · replace hf := p_ng hf hc
    refine s_iload_n (pc := 8) dX12_why_8 2 rfl rfl ?_
    refine s_iconst (pc := 9) dX12_why_9 (v := nI 0) rfl ?_
    refine s_bipush (pc := 10) dX12_why_10 (v := nI 23) rfl ?_
    obtain ⟨q3, h4, hf⟩ := p_bd hf
    refine y_callS1 (pc := 12) dX12_why_12 (c_X12_isIn (p_dd hd (by decide)) hW  h4) mk_X12_isIn mz_X12_isIn ml_X12_68 rfl rfl (Nat.le_of_ble_eq_true rfl) (p_d1 hd (by decide)) (Nat.le_of_ble_eq_true rfl) ?_
    refine s_if_eq (pc := 15) (tgt := 27) dX12_why_15 rfl (fun hc => ?_) (fun hc => ?_)
    · replace hf := p_ps hf hc
      refine s_iconst (pc := 27) dX12_why_27 (v := (-1)) rfl ?_
      cases hf
      exact s_ireturn (pc := 28) dX12_why_28 rfl rfl ⟨rfl, rfl, rfl, rfl, rfl⟩
    · replace hf := p_ng hf hc
      refine s_aload_n (pc := 18) dX12_why_18 0 rfl rfl ?_
      refine s_iload_n (pc := 19) dX12_why_19 1 rfl rfl ?_
      refine s_iload_n (pc := 20) dX12_why_20 2 rfl rfl ?_
      obtain ⟨q5, h6, hf⟩ := p_bd hf
      refine y_callV1 (pc := 21) dX12_why_21 (c_X12_lineOf (p_dd hd (by decide)) hW ha0 h6) mk_X12_lineOf mv_X12_lineOf ml_X12_417 rfl rfl (Nat.le_of_ble_eq_true rfl) ha0 rfl (p_d1 hd (by decide)) (Nat.le_of_ble_eq_true rfl) ?_
      refine s_goto (pc := 24) (tgt := 28) dX12_why_24 rfl ?_
      cases hf
      exact s_ireturn (pc := 28) dX12_why_28 rfl rfl ⟨rfl, rfl, rfl, rfl, rfl⟩
def B_X12_breach_19 (n : Nat) (N : pN) (P : pR) (rec0 : (Int32 × pI × pL) → Option (Int32 × pI × pL)) (a0 : Nat) (x1 : Int32) (x2 : Int32) (rec1 : (Int32 × pI × pL) → Option (Int32 × pI × pL)) (s1 : Int32 × pI × pL) : Option (Int32 × pI × pL) :=
  Option.bind (P a0 0) fun q3 =>
  p_ck (p_ib N q3 (nI 1)) <|
  (if (s1.2.1 q3 (Int32.toNatClampNeg (nI 1))) ≤ s1.1 then
    rec0 (x2 + nI 1, s1.2.1, s1.2.2)
  else
    Option.bind (f_X12_seesSender N s1.2.1 P a0 s1.1) fun q7 =>
    (if q7 = 0 then
      rec1 (s1.1 + nI 1, s1.2.1, s1.2.2)
    else
      Option.bind (f_X12_lineOf n N s1.2.1 s1.2.2 P a0 s1.1 x2) fun q9 =>
      (if q9.1 < 0 then
        rec1 (s1.1 + nI 1, q9.2.1, q9.2.2)
      else
        Option.bind (P a0 0) fun q11 =>
        p_ck (p_ib N q11 (((nI 340) + ((nI 20) * q9.1)) + (nI 17))) <|
        (if (q9.2.1 q11 (Int32.toNatClampNeg (((nI 340) + ((nI 20) * q9.1)) + (nI 17)))) = (nI 20) then
          (if x1 = 0 then
            some (x2, q9.2.1, q9.2.2)
          else
            some (s1.1, q9.2.1, q9.2.2))
        else
          rec1 (s1.1 + nI 1, q9.2.1, q9.2.2)))))
def B_X12_breach_2 (n : Nat) (N : pN) (P : pR) (a0 : Nat) (x1 : Int32) (rec0 : (Int32 × pI × pL) → Option (Int32 × pI × pL)) (s0 : Int32 × pI × pL) : Option (Int32 × pI × pL) :=
  (if (nI 24) ≤ s0.1 then
    some ((-1), s0.2.1, s0.2.2)
  else
    Option.bind (f_X12_isIn x1 (nI 0) (nI 1)) fun q1 =>
    (if q1 = 0 then
      some ((-1), s0.2.1, s0.2.2)
    else
      p_it (B_X12_breach_19 n N P rec0 a0 x1 s0.1) n (nI 0, s0.2.1, s0.2.2)))
def f_X12_breach (n : Nat) (N : pN) (I : pI) (L : pL) (P : pR) (a0 : Nat) (x1 : Int32) : Option (Int32 × pI × pL) :=
  p_it (B_X12_breach_2 n N P a0 x1) n (nI 0, I, L)
theorem c_X12_breach {G : pG} {d : Nat} {n : Nat} {N : pN} {I : pI} {L : pL} {P : pR} {a0 : Nat} {x1 : Int32} {qq : Int32 × pI × pL} (hd : 12 ≤ d) (hW : WT N P) (ha0 : p_tp N a0 15) (hf : f_X12_breach n N I L P a0 x1 = some qq) : MT G mX12_breach d 0 0 [.ref a0, .int x1] N I L P (p_R (some (.int qq.1)) N qq.2.1 qq.2.2 P) := by
  refine MT.of rfl (Nat.le_of_ble_eq_true rfl) ?_
  show SW G mX12_breach (p_rm d 0 0) 0 0 0 0 (p_R (some (.int qq.1)) N qq.2.1 qq.2.2 P) 0 [(0, .ref a0), (1, .int x1)] [] N I L P
  unfold f_X12_breach at hf
  refine s_iconst (pc := 0) dX12_breach_0 (v := nI 0) rfl ?_
  refine s_istore_n (pc := 1) (lo' := [(2, .int (nI 0)), (0, .ref a0), (1, .int x1)]) dX12_breach_1 rfl (Nat.le_of_ble_eq_true rfl) rfl ?_
  have k28 : ∀ (k : Nat) (s0 : Int32 × pI × pL), p_it (B_X12_breach_2 n N P a0 x1) k s0 = some qq → (SW G mX12_breach (p_rm d 0 0) 0 0 0 0 (p_R (some (.int qq.1)) N qq.2.1 qq.2.2 P) 2 [(0, .ref a0), (1, .int x1), (2, .int s0.1)] [] N s0.2.1 s0.2.2 P) := p_it_ind (C := fun (s0 : Int32 × pI × pL) => SW G mX12_breach (p_rm d 0 0) 0 0 0 0 (p_R (some (.int qq.1)) N qq.2.1 qq.2.2 P) 2 [(0, .ref a0), (1, .int x1), (2, .int s0.1)] [] N s0.2.1 s0.2.2 P) (by
    intro rec0 hrec0 s0 hf
    unfold B_X12_breach_2 at hf
    refine s_iload_n (pc := 2) dX12_breach_2 2 rfl rfl ?_
    refine s_bipush (pc := 3) dX12_breach_3 (v := nI 24) rfl ?_
    refine s_icmp_ge (pc := 5) (tgt := 97) dX12_breach_5 rfl (fun hc => ?_) (fun hc => ?_)
    · replace hf := p_ps hf hc
      refine s_iconst (pc := 97) dX12_breach_97 (v := (-1)) rfl ?_
      cases hf
      exact s_ireturn (pc := 98) dX12_breach_98 rfl rfl ⟨rfl, rfl, rfl, rfl, rfl⟩
    · replace hf := p_ng hf hc
      refine s_iload_n (pc := 8) dX12_breach_8 1 rfl rfl ?_
      refine s_iconst (pc := 9) dX12_breach_9 (v := nI 0) rfl ?_
      refine s_iconst (pc := 10) dX12_breach_10 (v := nI 1) rfl ?_
      obtain ⟨q29, h30, hf⟩ := p_bd hf
      refine y_callS1 (pc := 11) dX12_breach_11 (c_X12_isIn (p_dd hd (by decide)) hW  h30) mk_X12_isIn mz_X12_isIn ml_X12_68 rfl rfl (Nat.le_of_ble_eq_true rfl) (p_d1 hd (by decide)) (Nat.le_of_ble_eq_true rfl) ?_
      refine s_if_eq (pc := 14) (tgt := 97) dX12_breach_14 rfl (fun hc => ?_) (fun hc => ?_)
      · replace hf := p_ps hf hc
        refine s_iconst (pc := 97) dX12_breach_97 (v := (-1)) rfl ?_
        cases hf
        exact s_ireturn (pc := 98) dX12_breach_98 rfl rfl ⟨rfl, rfl, rfl, rfl, rfl⟩
      · replace hf := p_ng hf hc
        refine s_iconst (pc := 17) dX12_breach_17 (v := nI 0) rfl ?_
        refine s_istore_n (pc := 18) (lo' := [(3, .int (nI 0)), (0, .ref a0), (1, .int x1), (2, .int s0.1)]) dX12_breach_18 rfl (Nat.le_of_ble_eq_true rfl) rfl ?_
        have k31 : ∀ (k : Nat) (s1 : Int32 × pI × pL), p_it (B_X12_breach_19 n N P rec0 a0 x1 s0.1) k s1 = some qq → (SW G mX12_breach (p_rm d 0 0) 0 0 0 0 (p_R (some (.int qq.1)) N qq.2.1 qq.2.2 P) 19 [(0, .ref a0), (1, .int x1), (2, .int s0.1), (3, .int s1.1)] [] N s1.2.1 s1.2.2 P) := p_it_ind (C := fun (s1 : Int32 × pI × pL) => SW G mX12_breach (p_rm d 0 0) 0 0 0 0 (p_R (some (.int qq.1)) N qq.2.1 qq.2.2 P) 19 [(0, .ref a0), (1, .int x1), (2, .int s0.1), (3, .int s1.1)] [] N s1.2.1 s1.2.2 P) (by
          intro rec1 hrec1 s1 hf
          unfold B_X12_breach_19 at hf
          refine s_iload_n (pc := 19) dX12_breach_19 3 rfl rfl ?_
          refine s_aload_n (pc := 20) dX12_breach_20 0 rfl rfl ?_
          obtain ⟨q32, h33, hf⟩ := p_bd hf
          have t34 : p_tp N q32 0 := WT.get hW ha0 h33
          refine x_getR (pc := 21) dX12_breach_21 fl_X12_7 rfl ha0 h33 ?_
          refine s_iconst (pc := 24) dX12_breach_24 (v := nI 1) rfl ?_
          obtain ⟨c35, hf⟩ := p_ckx hf
          refine x_iald (pc := 25) dX12_breach_25 t34 c35 ?_
          refine s_icmp_ge (pc := 26) (tgt := 91) dX12_breach_26 rfl (fun hc => ?_) (fun hc => ?_)
          · replace hf := p_ps hf hc
            refine s_iinc (pc := 91) (lo' := [(2, .int (s0.1 + nI 1)), (0, .ref a0), (1, .int x1), (3, .int s1.1)]) dX12_breach_91 2 rfl (v := s0.1 + nI 1) rfl (Nat.le_of_ble_eq_true rfl) rfl ?_
            refine s_goto (pc := 94) (tgt := 2) dX12_breach_94 rfl ?_
            exact s_lo [1, 2, 0] rfl (hrec0 (s0.1 + nI 1, s1.2.1, s1.2.2) hf)
          · replace hf := p_ng hf hc
            refine s_aload_n (pc := 29) dX12_breach_29 0 rfl rfl ?_
            refine s_iload_n (pc := 30) dX12_breach_30 3 rfl rfl ?_
            obtain ⟨q36, h37, hf⟩ := p_bd hf
            refine y_callV1 (pc := 31) dX12_breach_31 (c_X12_seesSender (p_dd hd (by decide)) hW ha0 h37) mk_X12_seesSender mv_X12_seesSender ml_X12_215 rfl rfl (Nat.le_of_ble_eq_true rfl) ha0 rfl (p_d1 hd (by decide)) (Nat.le_of_ble_eq_true rfl) ?_
            refine s_if_ne (pc := 34) (tgt := 40) dX12_breach_34 rfl (fun hc => ?_) (fun hc => ?_)
            · replace hf := p_ng hf hc
              refine s_aload_n (pc := 40) dX12_breach_40 0 rfl rfl ?_
              refine s_iload_n (pc := 41) dX12_breach_41 3 rfl rfl ?_
              refine s_iload_n (pc := 42) dX12_breach_42 2 rfl rfl ?_
              obtain ⟨q38, h39, hf⟩ := p_bd hf
              refine y_callV1 (pc := 43) dX12_breach_43 (c_X12_lineOf (p_dd hd (by decide)) hW ha0 h39) mk_X12_lineOf mv_X12_lineOf ml_X12_417 rfl rfl (Nat.le_of_ble_eq_true rfl) ha0 rfl (p_d1 hd (by decide)) (Nat.le_of_ble_eq_true rfl) ?_
              refine s_istore (pc := 46) (lo' := [(4, .int q38.1), (0, .ref a0), (1, .int x1), (2, .int s0.1), (3, .int s1.1)]) dX12_breach_46 (Nat.le_of_ble_eq_true rfl) rfl ?_
              refine s_iload (pc := 48) dX12_breach_48 0 rfl ?_
              refine s_if_lt (pc := 50) (tgt := 85) dX12_breach_50 rfl (fun hc => ?_) (fun hc => ?_)
              · replace hf := p_ps hf hc
                refine s_iinc (pc := 85) (lo' := [(3, .int (s1.1 + nI 1)), (4, .int q38.1), (0, .ref a0), (1, .int x1), (2, .int s0.1)]) dX12_breach_85 4 rfl (v := s1.1 + nI 1) rfl (Nat.le_of_ble_eq_true rfl) rfl ?_
                refine s_goto (pc := 88) (tgt := 19) dX12_breach_88 rfl ?_
                exact s_lo [2, 3, 4, 0] rfl (hrec1 (s1.1 + nI 1, q38.2.1, q38.2.2) hf)
              · replace hf := p_ng hf hc
                refine s_aload_n (pc := 53) dX12_breach_53 1 rfl rfl ?_
                obtain ⟨q40, h41, hf⟩ := p_bd hf
                have t42 : p_tp N q40 0 := WT.get hW ha0 h41
                refine x_getR (pc := 54) dX12_breach_54 fl_X12_7 rfl ha0 h41 ?_
                refine s_sipush (pc := 57) dX12_breach_57 (v := nI 340) rfl ?_
                refine s_bipush (pc := 60) dX12_breach_60 (v := nI 20) rfl ?_
                refine s_iload (pc := 62) dX12_breach_62 0 rfl ?_
                refine s_imul (pc := 64) dX12_breach_64 ?_
                refine s_iadd (pc := 65) dX12_breach_65 ?_
                refine s_bipush (pc := 66) dX12_breach_66 (v := nI 17) rfl ?_
                refine s_iadd (pc := 68) dX12_breach_68 ?_
                obtain ⟨c43, hf⟩ := p_ckx hf
                refine x_iald (pc := 69) dX12_breach_69 t42 c43 ?_
                refine s_bipush (pc := 70) dX12_breach_70 (v := nI 20) rfl ?_
                refine s_icmp_ne (pc := 72) (tgt := 85) dX12_breach_72 rfl (fun hc => ?_) (fun hc => ?_)
                · replace hf := p_ng hf hc
                  refine s_iinc (pc := 85) (lo' := [(3, .int (s1.1 + nI 1)), (4, .int q38.1), (0, .ref a0), (1, .int x1), (2, .int s0.1)]) dX12_breach_85 4 rfl (v := s1.1 + nI 1) rfl (Nat.le_of_ble_eq_true rfl) rfl ?_
                  refine s_goto (pc := 88) (tgt := 19) dX12_breach_88 rfl ?_
                  exact s_lo [2, 3, 4, 0] rfl (hrec1 (s1.1 + nI 1, q38.2.1, q38.2.2) hf)
                · replace hf := p_ps hf hc
                  refine s_iload_n (pc := 75) dX12_breach_75 2 rfl rfl ?_
                  refine s_if_ne (pc := 76) (tgt := 83) dX12_breach_76 rfl (fun hc => ?_) (fun hc => ?_)
                  · replace hf := p_ng hf hc
                    refine s_iload_n (pc := 83) dX12_breach_83 4 rfl rfl ?_
                    cases hf
                    exact s_ireturn (pc := 84) dX12_breach_84 rfl rfl ⟨rfl, rfl, rfl, rfl, rfl⟩
                  · replace hf := p_ps hf hc
                    refine s_iload_n (pc := 79) dX12_breach_79 3 rfl rfl ?_
                    refine s_goto (pc := 80) (tgt := 84) dX12_breach_80 rfl ?_
                    cases hf
                    exact s_ireturn (pc := 84) dX12_breach_84 rfl rfl ⟨rfl, rfl, rfl, rfl, rfl⟩
            · replace hf := p_ps hf hc
              refine s_goto (pc := 37) (tgt := 85) dX12_breach_37 rfl ?_
              refine s_iinc (pc := 85) (lo' := [(3, .int (s1.1 + nI 1)), (0, .ref a0), (1, .int x1), (2, .int s0.1)]) dX12_breach_85 3 rfl (v := s1.1 + nI 1) rfl (Nat.le_of_ble_eq_true rfl) rfl ?_
              refine s_goto (pc := 88) (tgt := 19) dX12_breach_88 rfl ?_
              exact s_lo [1, 2, 3, 0] rfl (hrec1 (s1.1 + nI 1, s1.2.1, s1.2.2) hf))
        exact s_lo [1, 2, 3, 0] rfl (k31 n (nI 0, s0.2.1, s0.2.2) hf))
  exact s_lo [1, 2, 0] rfl (k28 n (nI 0, I, L) hf)
def f_X12_day (n : Nat) (N : pN) (I : pI) (P : pR) (a0 : Nat) (x1 : Int32) : Option (Int32 × pI) :=
  Option.bind (P a0 0) fun q1 =>
  p_ck (p_ib N q1 (nI 4)) <|
  Option.bind (f_X12_isIn x1 (I q1 (Int32.toNatClampNeg (nI 4))) (nI 999)) fun q5 =>
  (if q5 = 0 then
    some (nI 0, I)
  else
    Option.bind (P a0 0) fun q7 =>
    p_ck (p_ib N q7 (nI 4)) <|
    p_let (p_u I q7 (Int32.toNatClampNeg (nI 4)) x1) fun I11 =>
    Option.bind (f_X12_forgets n N I11 P a0) fun q13 =>
    some (nI 1, q13))
theorem c_X12_day {G : pG} {d : Nat} {n : Nat} {N : pN} {I : pI} {L : pL} {P : pR} {a0 : Nat} {x1 : Int32} {qq : Int32 × pI} (hd : 1 ≤ d) (hW : WT N P) (ha0 : p_tp N a0 15) (hf : f_X12_day n N I P a0 x1 = some qq) : MT G mX12_day d 0 0 [.ref a0, .int x1] N I L P (p_R (some (.int qq.1)) N qq.2 L P) := by
  refine MT.of rfl (Nat.le_of_ble_eq_true rfl) ?_
  show SW G mX12_day (p_rm d 0 0) 0 0 0 0 (p_R (some (.int qq.1)) N qq.2 L P) 0 [(0, .ref a0), (1, .int x1)] [] N I L P
  unfold f_X12_day at hf
  refine s_iload_n (pc := 0) dX12_day_0 1 rfl rfl ?_
  refine s_aload_n (pc := 1) dX12_day_1 0 rfl rfl ?_
  obtain ⟨q1, h2, hf⟩ := p_bd hf
  have t3 : p_tp N q1 0 := WT.get hW ha0 h2
  refine x_getR (pc := 2) dX12_day_2 fl_X12_7 rfl ha0 h2 ?_
  refine s_iconst (pc := 5) dX12_day_5 (v := nI 4) rfl ?_
  obtain ⟨c4, hf⟩ := p_ckx hf
  refine x_iald (pc := 6) dX12_day_6 t3 c4 ?_
  refine s_sipush (pc := 7) dX12_day_7 (v := nI 999) rfl ?_
  obtain ⟨q5, h6, hf⟩ := p_bd hf
  refine y_callS1 (pc := 10) dX12_day_10 (c_X12_isIn (p_dd hd (by decide)) hW  h6) mk_X12_isIn mz_X12_isIn ml_X12_68 rfl rfl (Nat.le_of_ble_eq_true rfl) (p_d1 hd (by decide)) (Nat.le_of_ble_eq_true rfl) ?_
  refine s_if_ne (pc := 13) (tgt := 18) dX12_day_13 rfl (fun hc => ?_) (fun hc => ?_)
  · replace hf := p_ng hf hc
    refine s_aload_n (pc := 18) dX12_day_18 0 rfl rfl ?_
    obtain ⟨q7, h8, hf⟩ := p_bd hf
    have t9 : p_tp N q7 0 := WT.get hW ha0 h8
    refine x_getR (pc := 19) dX12_day_19 fl_X12_7 rfl ha0 h8 ?_
    refine s_iconst (pc := 22) dX12_day_22 (v := nI 4) rfl ?_
    refine s_iload_n (pc := 23) dX12_day_23 1 rfl rfl ?_
    obtain ⟨c10, hf⟩ := p_ckx hf
    refine x_iast (pc := 24) dX12_day_24 t9 c10 ?_
    refine s_nmI (fun I11 e12 => ?_)
    replace hf := p_lx hf e12
    refine s_aload_n (pc := 25) dX12_day_25 0 rfl rfl ?_
    obtain ⟨q13, h14, hf⟩ := p_bd hf
    refine y_callV0 (pc := 26) dX12_day_26 (c_X12_forgets (p_dd hd (by decide)) hW ha0 h14) mk_X12_forgets mv_X12_forgets ml_X12_65 rfl rfl (Nat.le_of_ble_eq_true rfl) ha0 rfl (p_d1 hd (by decide)) (Nat.le_of_ble_eq_true rfl) ?_
    refine s_iconst (pc := 29) dX12_day_29 (v := nI 1) rfl ?_
    cases hf
    exact s_ireturn (pc := 30) dX12_day_30 rfl rfl ⟨rfl, rfl, rfl, rfl, rfl⟩
  · replace hf := p_ps hf hc
    refine s_iconst (pc := 16) dX12_day_16 (v := nI 0) rfl ?_
    cases hf
    exact s_ireturn (pc := 17) dX12_day_17 rfl rfl ⟨rfl, rfl, rfl, rfl, rfl⟩
def f_X12_view (n : Nat) (N : pN) (I : pI) (P : pR) (a0 : Nat) (x1 : Int32) : Option (Int32 × pI) :=
  (if x1 = (-1) then
    Option.bind (P a0 0) fun q1 =>
    p_ck (p_ib N q1 (nI 5)) <|
    p_let (p_u I q1 (Int32.toNatClampNeg (nI 5)) x1) fun I5 =>
    Option.bind (f_X12_forgets n N I5 P a0) fun q7 =>
    some (nI 1, q7)
  else
    Option.bind (P a0 0) fun q9 =>
    p_ck (p_ib N q9 (nI 4)) <|
    Option.bind (f_X12_isIn x1 (nI 0) (I q9 (Int32.toNatClampNeg (nI 4)))) fun q13 =>
    (if q13 = 0 then
      some (nI 0, I)
    else
      Option.bind (P a0 0) fun q15 =>
      p_ck (p_ib N q15 (nI 5)) <|
      p_let (p_u I q15 (Int32.toNatClampNeg (nI 5)) x1) fun I19 =>
      Option.bind (f_X12_forgets n N I19 P a0) fun q21 =>
      some (nI 1, q21)))
theorem c_X12_view {G : pG} {d : Nat} {n : Nat} {N : pN} {I : pI} {L : pL} {P : pR} {a0 : Nat} {x1 : Int32} {qq : Int32 × pI} (hd : 1 ≤ d) (hW : WT N P) (ha0 : p_tp N a0 15) (hf : f_X12_view n N I P a0 x1 = some qq) : MT G mX12_view d 0 0 [.ref a0, .int x1] N I L P (p_R (some (.int qq.1)) N qq.2 L P) := by
  refine MT.of rfl (Nat.le_of_ble_eq_true rfl) ?_
  show SW G mX12_view (p_rm d 0 0) 0 0 0 0 (p_R (some (.int qq.1)) N qq.2 L P) 0 [(0, .ref a0), (1, .int x1)] [] N I L P
  unfold f_X12_view at hf
  refine s_iload_n (pc := 0) dX12_view_0 1 rfl rfl ?_
  refine s_iconst (pc := 1) dX12_view_1 (v := (-1)) rfl ?_
  refine s_icmp_eq (pc := 2) (tgt := 21) dX12_view_2 rfl (fun hc => ?_) (fun hc => ?_)
  · replace hf := p_ps hf hc
    refine s_aload_n (pc := 21) dX12_view_21 0 rfl rfl ?_
    obtain ⟨q1, h2, hf⟩ := p_bd hf
    have t3 : p_tp N q1 0 := WT.get hW ha0 h2
    refine x_getR (pc := 22) dX12_view_22 fl_X12_7 rfl ha0 h2 ?_
    refine s_iconst (pc := 25) dX12_view_25 (v := nI 5) rfl ?_
    refine s_iload_n (pc := 26) dX12_view_26 1 rfl rfl ?_
    obtain ⟨c4, hf⟩ := p_ckx hf
    refine x_iast (pc := 27) dX12_view_27 t3 c4 ?_
    refine s_nmI (fun I5 e6 => ?_)
    replace hf := p_lx hf e6
    refine s_aload_n (pc := 28) dX12_view_28 0 rfl rfl ?_
    obtain ⟨q7, h8, hf⟩ := p_bd hf
    refine y_callV0 (pc := 29) dX12_view_29 (c_X12_forgets (p_dd hd (by decide)) hW ha0 h8) mk_X12_forgets mv_X12_forgets ml_X12_65 rfl rfl (Nat.le_of_ble_eq_true rfl) ha0 rfl (p_d1 hd (by decide)) (Nat.le_of_ble_eq_true rfl) ?_
    refine s_iconst (pc := 32) dX12_view_32 (v := nI 1) rfl ?_
    cases hf
    exact s_ireturn (pc := 33) dX12_view_33 rfl rfl ⟨rfl, rfl, rfl, rfl, rfl⟩
  · replace hf := p_ng hf hc
    refine s_iload_n (pc := 5) dX12_view_5 1 rfl rfl ?_
    refine s_iconst (pc := 6) dX12_view_6 (v := nI 0) rfl ?_
    refine s_aload_n (pc := 7) dX12_view_7 0 rfl rfl ?_
    obtain ⟨q9, h10, hf⟩ := p_bd hf
    have t11 : p_tp N q9 0 := WT.get hW ha0 h10
    refine x_getR (pc := 8) dX12_view_8 fl_X12_7 rfl ha0 h10 ?_
    refine s_iconst (pc := 11) dX12_view_11 (v := nI 4) rfl ?_
    obtain ⟨c12, hf⟩ := p_ckx hf
    refine x_iald (pc := 12) dX12_view_12 t11 c12 ?_
    obtain ⟨q13, h14, hf⟩ := p_bd hf
    refine y_callS1 (pc := 13) dX12_view_13 (c_X12_isIn (p_dd hd (by decide)) hW  h14) mk_X12_isIn mz_X12_isIn ml_X12_68 rfl rfl (Nat.le_of_ble_eq_true rfl) (p_d1 hd (by decide)) (Nat.le_of_ble_eq_true rfl) ?_
    refine s_if_ne (pc := 16) (tgt := 21) dX12_view_16 rfl (fun hc => ?_) (fun hc => ?_)
    · replace hf := p_ng hf hc
      refine s_aload_n (pc := 21) dX12_view_21 0 rfl rfl ?_
      obtain ⟨q15, h16, hf⟩ := p_bd hf
      have t17 : p_tp N q15 0 := WT.get hW ha0 h16
      refine x_getR (pc := 22) dX12_view_22 fl_X12_7 rfl ha0 h16 ?_
      refine s_iconst (pc := 25) dX12_view_25 (v := nI 5) rfl ?_
      refine s_iload_n (pc := 26) dX12_view_26 1 rfl rfl ?_
      obtain ⟨c18, hf⟩ := p_ckx hf
      refine x_iast (pc := 27) dX12_view_27 t17 c18 ?_
      refine s_nmI (fun I19 e20 => ?_)
      replace hf := p_lx hf e20
      refine s_aload_n (pc := 28) dX12_view_28 0 rfl rfl ?_
      obtain ⟨q21, h22, hf⟩ := p_bd hf
      refine y_callV0 (pc := 29) dX12_view_29 (c_X12_forgets (p_dd hd (by decide)) hW ha0 h22) mk_X12_forgets mv_X12_forgets ml_X12_65 rfl rfl (Nat.le_of_ble_eq_true rfl) ha0 rfl (p_d1 hd (by decide)) (Nat.le_of_ble_eq_true rfl) ?_
      refine s_iconst (pc := 32) dX12_view_32 (v := nI 1) rfl ?_
      cases hf
      exact s_ireturn (pc := 33) dX12_view_33 rfl rfl ⟨rfl, rfl, rfl, rfl, rfl⟩
    · replace hf := p_ps hf hc
      refine s_iconst (pc := 19) dX12_view_19 (v := nI 0) rfl ?_
      cases hf
      exact s_ireturn (pc := 20) dX12_view_20 rfl rfl ⟨rfl, rfl, rfl, rfl, rfl⟩
def f_X12_pull (n : Nat) (N : pN) (I : pI) (P : pR) (a0 : Nat) (x1 : Int32) (x2 : Int32) : Option (Int32 × pI) :=
  p_let (α := Int32) ((if x1 = 0 then
    nI 1
  else
    nI 0)) fun t1 =>
  Option.bind (f_X12_isOf N I P a0 x2 t1) fun q3 =>
  (if q3 = 0 then
    some (nI 0, I)
  else
    p_let (α := Int32) ((if x1 = 0 then
      ((nI 120) + ((nI 8) * x2)) + (nI 5)
    else
      ((nI 30) + ((nI 7) * x2)) + (nI 6))) fun t5 =>
    Option.bind (P a0 0) fun q7 =>
    p_ck (p_ib N q7 t5) <|
    (if (I q7 (Int32.toNatClampNeg t5)) < 0 then
      Option.bind (P a0 0) fun q11 =>
      Option.bind (P a0 0) fun q14 =>
      p_ck (p_ib N q14 (nI 4)) <|
      p_ck (p_ib N q11 t5) <|
      p_let (p_u I q11 (Int32.toNatClampNeg t5) (I q14 (Int32.toNatClampNeg (nI 4)))) fun I19 =>
      Option.bind (f_X12_forgets n N I19 P a0) fun q21 =>
      some (nI 1, q21)
    else
      some (nI 0, I)))
theorem c_X12_pull {G : pG} {d : Nat} {n : Nat} {N : pN} {I : pI} {L : pL} {P : pR} {a0 : Nat} {x1 : Int32} {x2 : Int32} {qq : Int32 × pI} (hd : 2 ≤ d) (hW : WT N P) (ha0 : p_tp N a0 15) (hf : f_X12_pull n N I P a0 x1 x2 = some qq) : MT G mX12_pull d 0 0 [.ref a0, .int x1, .int x2] N I L P (p_R (some (.int qq.1)) N qq.2 L P) := by
  refine MT.of rfl (Nat.le_of_ble_eq_true rfl) ?_
  show SW G mX12_pull (p_rm d 0 0) 0 0 0 0 (p_R (some (.int qq.1)) N qq.2 L P) 0 [(0, .ref a0), (1, .int x1), (2, .int x2)] [] N I L P
  unfold f_X12_pull at hf
  refine s_aload_n (pc := 0) dX12_pull_0 0 rfl rfl ?_
  refine s_iload_n (pc := 1) dX12_pull_1 2 rfl rfl ?_
  refine s_iload_n (pc := 2) dX12_pull_2 1 rfl rfl ?_
  obtain ⟨t1, hg, hf⟩ := p_lx2 hf
  have k2 : SW G mX12_pull (p_rm d 0 0) 0 0 0 0 (p_R (some (.int qq.1)) N qq.2 L P) 11 [(0, .ref a0), (1, .int x1), (2, .int x2)] [.int t1, .int x2, .ref a0] N I L P := by
    obtain ⟨q3, h4, hf⟩ := p_bd hf
    refine y_callV1 (pc := 11) dX12_pull_11 (c_X12_isOf (p_dd hd (by decide)) hW ha0 h4) mk_X12_isOf mv_X12_isOf ml_X12_80 rfl rfl (Nat.le_of_ble_eq_true rfl) ha0 rfl (p_d1 hd (by decide)) (Nat.le_of_ble_eq_true rfl) ?_
    refine s_if_ne (pc := 14) (tgt := 19) dX12_pull_14 rfl (fun hc => ?_) (fun hc => ?_)
    · replace hf := p_ng hf hc
      refine s_iload_n (pc := 19) dX12_pull_19 1 rfl rfl ?_
      obtain ⟨t5, hg, hf⟩ := p_lx2 hf
      have k6 : SW G mX12_pull (p_rm d 0 0) 0 0 0 0 (p_R (some (.int qq.1)) N qq.2 L P) 45 [(0, .ref a0)] [.int t5] N I L P := by
        refine s_istore_n (pc := 45) (lo' := [(3, .int t5), (0, .ref a0)]) dX12_pull_45 rfl (Nat.le_of_ble_eq_true rfl) rfl ?_
        refine s_aload_n (pc := 46) dX12_pull_46 1 rfl rfl ?_
        obtain ⟨q7, h8, hf⟩ := p_bd hf
        have t9 : p_tp N q7 0 := WT.get hW ha0 h8
        refine x_getR (pc := 47) dX12_pull_47 fl_X12_7 rfl ha0 h8 ?_
        refine s_iload_n (pc := 50) dX12_pull_50 0 rfl rfl ?_
        obtain ⟨c10, hf⟩ := p_ckx hf
        refine x_iald (pc := 51) dX12_pull_51 t9 c10 ?_
        refine s_if_lt (pc := 52) (tgt := 57) dX12_pull_52 rfl (fun hc => ?_) (fun hc => ?_)
        · replace hf := p_ps hf hc
          refine s_aload_n (pc := 57) dX12_pull_57 1 rfl rfl ?_
          obtain ⟨q11, h12, hf⟩ := p_bd hf
          have t13 : p_tp N q11 0 := WT.get hW ha0 h12
          refine x_getR (pc := 58) dX12_pull_58 fl_X12_7 rfl ha0 h12 ?_
          refine s_iload_n (pc := 61) dX12_pull_61 0 rfl rfl ?_
          refine s_aload_n (pc := 62) dX12_pull_62 1 rfl rfl ?_
          obtain ⟨q14, h15, hf⟩ := p_bd hf
          have t16 : p_tp N q14 0 := WT.get hW ha0 h15
          refine x_getR (pc := 63) dX12_pull_63 fl_X12_7 rfl ha0 h15 ?_
          refine s_iconst (pc := 66) dX12_pull_66 (v := nI 4) rfl ?_
          obtain ⟨c17, hf⟩ := p_ckx hf
          refine x_iald (pc := 67) dX12_pull_67 t16 c17 ?_
          obtain ⟨c18, hf⟩ := p_ckx hf
          refine x_iast (pc := 68) dX12_pull_68 t13 c18 ?_
          refine s_nmI (fun I19 e20 => ?_)
          replace hf := p_lx hf e20
          refine s_aload_n (pc := 69) dX12_pull_69 1 rfl rfl ?_
          obtain ⟨q21, h22, hf⟩ := p_bd hf
          refine y_callV0 (pc := 70) dX12_pull_70 (c_X12_forgets (p_dd hd (by decide)) hW ha0 h22) mk_X12_forgets mv_X12_forgets ml_X12_65 rfl rfl (Nat.le_of_ble_eq_true rfl) ha0 rfl (p_d1 hd (by decide)) (Nat.le_of_ble_eq_true rfl) ?_
          refine s_iconst (pc := 73) dX12_pull_73 (v := nI 1) rfl ?_
          cases hf
          exact s_ireturn (pc := 74) dX12_pull_74 rfl rfl ⟨rfl, rfl, rfl, rfl, rfl⟩
        · replace hf := p_ng hf hc
          refine s_iconst (pc := 55) dX12_pull_55 (v := nI 0) rfl ?_
          cases hf
          exact s_ireturn (pc := 56) dX12_pull_56 rfl rfl ⟨rfl, rfl, rfl, rfl, rfl⟩
      replace hf := hg.symm
      refine s_if_eq (pc := 20) (tgt := 36) dX12_pull_20 rfl (fun hc => ?_) (fun hc => ?_)
      · replace hf := p_ps hf hc
        refine s_bipush (pc := 36) dX12_pull_36 (v := nI 120) rfl ?_
        refine s_bipush (pc := 38) dX12_pull_38 (v := nI 8) rfl ?_
        refine s_iload_n (pc := 40) dX12_pull_40 2 rfl rfl ?_
        refine s_imul (pc := 41) dX12_pull_41 ?_
        refine s_iadd (pc := 42) dX12_pull_42 ?_
        refine s_iconst (pc := 43) dX12_pull_43 (v := nI 5) rfl ?_
        refine s_iadd (pc := 44) dX12_pull_44 ?_
        cases hf
        exact s_lo [0] rfl (k6)
      · replace hf := p_ng hf hc
        refine s_bipush (pc := 23) dX12_pull_23 (v := nI 30) rfl ?_
        refine s_bipush (pc := 25) dX12_pull_25 (v := nI 7) rfl ?_
        refine s_iload_n (pc := 27) dX12_pull_27 2 rfl rfl ?_
        refine s_imul (pc := 28) dX12_pull_28 ?_
        refine s_iadd (pc := 29) dX12_pull_29 ?_
        refine s_bipush (pc := 30) dX12_pull_30 (v := nI 6) rfl ?_
        refine s_iadd (pc := 32) dX12_pull_32 ?_
        refine s_goto (pc := 33) (tgt := 45) dX12_pull_33 rfl ?_
        cases hf
        exact s_lo [0] rfl (k6)
    · replace hf := p_ps hf hc
      refine s_iconst (pc := 17) dX12_pull_17 (v := nI 0) rfl ?_
      cases hf
      exact s_ireturn (pc := 18) dX12_pull_18 rfl rfl ⟨rfl, rfl, rfl, rfl, rfl⟩
  replace hf := hg.symm
  refine s_if_eq (pc := 3) (tgt := 10) dX12_pull_3 rfl (fun hc => ?_) (fun hc => ?_)
  · replace hf := p_ps hf hc
    refine s_iconst (pc := 10) dX12_pull_10 (v := nI 1) rfl ?_
    cases hf
    exact s_lo [0, 1, 2] rfl (k2)
  · replace hf := p_ng hf hc
    refine s_iconst (pc := 6) dX12_pull_6 (v := nI 0) rfl ?_
    refine s_goto (pc := 7) (tgt := 11) dX12_pull_7 rfl ?_
    cases hf
    exact s_lo [0, 1, 2] rfl (k2)
def f_X12_stuff (n : Nat) (N : pN) (I : pI) (P : pR) (a0 : Nat) (x1 : Int32) (x2 : Int32) (x3 : Int32) : Option (Int32 × pI) :=
  Option.bind (f_X12_isIn x1 (nI 0) (nI 4)) fun q1 =>
  (if q1 = 0 then
    some (nI 0, I)
  else
    Option.bind (f_X12_isIn x2 (nI 0) (nI 100)) fun q3 =>
    (if q3 = 0 then
      some (nI 0, I)
    else
      Option.bind (f_X12_isIn x3 (nI 0) (nI 100)) fun q5 =>
      (if q5 = 0 then
        some (nI 0, I)
      else
        Option.bind (P a0 0) fun q7 =>
        p_ck (p_ib N q7 ((nI 18) + x1)) <|
        p_let (p_u I q7 (Int32.toNatClampNeg ((nI 18) + x1)) x2) fun I11 =>
        Option.bind (P a0 0) fun q13 =>
        p_ck (p_ib N q13 ((nI 23) + x1)) <|
        p_let (p_u I11 q13 (Int32.toNatClampNeg ((nI 23) + x1)) x3) fun I17 =>
        Option.bind (f_X12_forgets n N I17 P a0) fun q19 =>
        some (nI 1, q19))))
theorem c_X12_stuff {G : pG} {d : Nat} {n : Nat} {N : pN} {I : pI} {L : pL} {P : pR} {a0 : Nat} {x1 : Int32} {x2 : Int32} {x3 : Int32} {qq : Int32 × pI} (hd : 1 ≤ d) (hW : WT N P) (ha0 : p_tp N a0 15) (hf : f_X12_stuff n N I P a0 x1 x2 x3 = some qq) : MT G mX12_stuff d 0 0 [.ref a0, .int x1, .int x2, .int x3] N I L P (p_R (some (.int qq.1)) N qq.2 L P) := by
  refine MT.of rfl (Nat.le_of_ble_eq_true rfl) ?_
  show SW G mX12_stuff (p_rm d 0 0) 0 0 0 0 (p_R (some (.int qq.1)) N qq.2 L P) 0 [(0, .ref a0), (1, .int x1), (2, .int x2), (3, .int x3)] [] N I L P
  unfold f_X12_stuff at hf
  refine s_iload_n (pc := 0) dX12_stuff_0 1 rfl rfl ?_
  refine s_iconst (pc := 1) dX12_stuff_1 (v := nI 0) rfl ?_
  refine s_iconst (pc := 2) dX12_stuff_2 (v := nI 4) rfl ?_
  obtain ⟨q1, h2, hf⟩ := p_bd hf
  refine y_callS1 (pc := 3) dX12_stuff_3 (c_X12_isIn (p_dd hd (by decide)) hW  h2) mk_X12_isIn mz_X12_isIn ml_X12_68 rfl rfl (Nat.le_of_ble_eq_true rfl) (p_d1 hd (by decide)) (Nat.le_of_ble_eq_true rfl) ?_
  refine s_if_eq (pc := 6) (tgt := 29) dX12_stuff_6 rfl (fun hc => ?_) (fun hc => ?_)
  · replace hf := p_ps hf hc
    refine s_iconst (pc := 29) dX12_stuff_29 (v := nI 0) rfl ?_
    cases hf
    exact s_ireturn (pc := 30) dX12_stuff_30 rfl rfl ⟨rfl, rfl, rfl, rfl, rfl⟩
  · replace hf := p_ng hf hc
    refine s_iload_n (pc := 9) dX12_stuff_9 2 rfl rfl ?_
    refine s_iconst (pc := 10) dX12_stuff_10 (v := nI 0) rfl ?_
    refine s_bipush (pc := 11) dX12_stuff_11 (v := nI 100) rfl ?_
    obtain ⟨q3, h4, hf⟩ := p_bd hf
    refine y_callS1 (pc := 13) dX12_stuff_13 (c_X12_isIn (p_dd hd (by decide)) hW  h4) mk_X12_isIn mz_X12_isIn ml_X12_68 rfl rfl (Nat.le_of_ble_eq_true rfl) (p_d1 hd (by decide)) (Nat.le_of_ble_eq_true rfl) ?_
    refine s_if_eq (pc := 16) (tgt := 29) dX12_stuff_16 rfl (fun hc => ?_) (fun hc => ?_)
    · replace hf := p_ps hf hc
      refine s_iconst (pc := 29) dX12_stuff_29 (v := nI 0) rfl ?_
      cases hf
      exact s_ireturn (pc := 30) dX12_stuff_30 rfl rfl ⟨rfl, rfl, rfl, rfl, rfl⟩
    · replace hf := p_ng hf hc
      refine s_iload_n (pc := 19) dX12_stuff_19 3 rfl rfl ?_
      refine s_iconst (pc := 20) dX12_stuff_20 (v := nI 0) rfl ?_
      refine s_bipush (pc := 21) dX12_stuff_21 (v := nI 100) rfl ?_
      obtain ⟨q5, h6, hf⟩ := p_bd hf
      refine y_callS1 (pc := 23) dX12_stuff_23 (c_X12_isIn (p_dd hd (by decide)) hW  h6) mk_X12_isIn mz_X12_isIn ml_X12_68 rfl rfl (Nat.le_of_ble_eq_true rfl) (p_d1 hd (by decide)) (Nat.le_of_ble_eq_true rfl) ?_
      refine s_if_ne (pc := 26) (tgt := 31) dX12_stuff_26 rfl (fun hc => ?_) (fun hc => ?_)
      · replace hf := p_ng hf hc
        refine s_aload_n (pc := 31) dX12_stuff_31 0 rfl rfl ?_
        obtain ⟨q7, h8, hf⟩ := p_bd hf
        have t9 : p_tp N q7 0 := WT.get hW ha0 h8
        refine x_getR (pc := 32) dX12_stuff_32 fl_X12_7 rfl ha0 h8 ?_
        refine s_bipush (pc := 35) dX12_stuff_35 (v := nI 18) rfl ?_
        refine s_iload_n (pc := 37) dX12_stuff_37 1 rfl rfl ?_
        refine s_iadd (pc := 38) dX12_stuff_38 ?_
        refine s_iload_n (pc := 39) dX12_stuff_39 2 rfl rfl ?_
        obtain ⟨c10, hf⟩ := p_ckx hf
        refine x_iast (pc := 40) dX12_stuff_40 t9 c10 ?_
        refine s_nmI (fun I11 e12 => ?_)
        replace hf := p_lx hf e12
        refine s_aload_n (pc := 41) dX12_stuff_41 0 rfl rfl ?_
        obtain ⟨q13, h14, hf⟩ := p_bd hf
        have t15 : p_tp N q13 0 := WT.get hW ha0 h14
        refine x_getR (pc := 42) dX12_stuff_42 fl_X12_7 rfl ha0 h14 ?_
        refine s_bipush (pc := 45) dX12_stuff_45 (v := nI 23) rfl ?_
        refine s_iload_n (pc := 47) dX12_stuff_47 1 rfl rfl ?_
        refine s_iadd (pc := 48) dX12_stuff_48 ?_
        refine s_iload_n (pc := 49) dX12_stuff_49 3 rfl rfl ?_
        obtain ⟨c16, hf⟩ := p_ckx hf
        refine x_iast (pc := 50) dX12_stuff_50 t15 c16 ?_
        refine s_nmI (fun I17 e18 => ?_)
        replace hf := p_lx hf e18
        refine s_aload_n (pc := 51) dX12_stuff_51 0 rfl rfl ?_
        obtain ⟨q19, h20, hf⟩ := p_bd hf
        refine y_callV0 (pc := 52) dX12_stuff_52 (c_X12_forgets (p_dd hd (by decide)) hW ha0 h20) mk_X12_forgets mv_X12_forgets ml_X12_65 rfl rfl (Nat.le_of_ble_eq_true rfl) ha0 rfl (p_d1 hd (by decide)) (Nat.le_of_ble_eq_true rfl) ?_
        refine s_iconst (pc := 55) dX12_stuff_55 (v := nI 1) rfl ?_
        cases hf
        exact s_ireturn (pc := 56) dX12_stuff_56 rfl rfl ⟨rfl, rfl, rfl, rfl, rfl⟩
      · replace hf := p_ps hf hc
        refine s_iconst (pc := 29) dX12_stuff_29 (v := nI 0) rfl ?_
        cases hf
        exact s_ireturn (pc := 30) dX12_stuff_30 rfl rfl ⟨rfl, rfl, rfl, rfl, rfl⟩
def f_X12_leastOf (x0 : Int32) : Option Int32 :=
  (if x0 = (nI 4) then
    some (nI 1)
  else
    (if x0 = (nI 6) then
      some (nI 1)
    else
      some (nI 0)))
theorem c_X12_leastOf {G : pG} {d : Nat} {N : pN} {I : pI} {L : pL} {P : pR} {x0 : Int32} {qq : Int32} (hd : 0 ≤ d) (hW : WT N P) (hf : f_X12_leastOf x0 = some qq) : MT G mX12_leastOf d 0 0 [.int x0] N I L P (p_R (some (.int qq)) N I L P) := by
  refine MT.of rfl (Nat.le_of_ble_eq_true rfl) ?_
  show SW G mX12_leastOf (p_rm d 0 0) 0 0 0 0 (p_R (some (.int qq)) N I L P) 0 [(0, .int x0)] [] N I L P
  unfold f_X12_leastOf at hf
  refine s_iload_n (pc := 0) dX12_leastOf_0 0 rfl rfl ?_
  refine s_iconst (pc := 1) dX12_leastOf_1 (v := nI 4) rfl ?_
  refine s_icmp_eq (pc := 2) (tgt := 11) dX12_leastOf_2 rfl (fun hc => ?_) (fun hc => ?_)
  · replace hf := p_ps hf hc
    refine s_iconst (pc := 11) dX12_leastOf_11 (v := nI 1) rfl ?_
    refine s_goto (pc := 12) (tgt := 16) dX12_leastOf_12 rfl ?_
    cases hf
    exact s_ireturn (pc := 16) dX12_leastOf_16 rfl rfl ⟨rfl, rfl, rfl, rfl, rfl⟩
  · replace hf := p_ng hf hc
    refine s_iload_n (pc := 5) dX12_leastOf_5 0 rfl rfl ?_
    refine s_bipush (pc := 6) dX12_leastOf_6 (v := nI 6) rfl ?_
    refine s_icmp_ne (pc := 8) (tgt := 15) dX12_leastOf_8 rfl (fun hc => ?_) (fun hc => ?_)
    · replace hf := p_ng hf hc
      refine s_iconst (pc := 15) dX12_leastOf_15 (v := nI 0) rfl ?_
      cases hf
      exact s_ireturn (pc := 16) dX12_leastOf_16 rfl rfl ⟨rfl, rfl, rfl, rfl, rfl⟩
    · replace hf := p_ps hf hc
      refine s_iconst (pc := 11) dX12_leastOf_11 (v := nI 1) rfl ?_
      refine s_goto (pc := 12) (tgt := 16) dX12_leastOf_12 rfl ?_
      cases hf
      exact s_ireturn (pc := 16) dX12_leastOf_16 rfl rfl ⟨rfl, rfl, rfl, rfl, rfl⟩
def f_X12_mostFor (x0 : Int32) : Option Int32 :=
  (if x0 = nI 0 then
    some (nI 2)
  else
    (if x0 = nI 1 then
      some (nI 100)
    else
      (if x0 = nI 2 then
        some (nI 9999)
      else
        (if x0 = nI 3 then
          some (nI 9999)
        else
          (if x0 = nI 4 then
            some (nI 9999)
          else
            (if x0 = nI 5 then
              some (nI 999)
            else
              (if x0 = nI 6 then
                some (nI 9)
              else
                some (nI 9999))))))))
theorem c_X12_mostFor {G : pG} {d : Nat} {N : pN} {I : pI} {L : pL} {P : pR} {x0 : Int32} {qq : Int32} (hd : 0 ≤ d) (hW : WT N P) (hf : f_X12_mostFor x0 = some qq) : MT G mX12_mostFor d 0 0 [.int x0] N I L P (p_R (some (.int qq)) N I L P) := by
  refine MT.of rfl (Nat.le_of_ble_eq_true rfl) ?_
  show SW G mX12_mostFor (p_rm d 0 0) 0 0 0 0 (p_R (some (.int qq)) N I L P) 0 [(0, .int x0)] [] N I L P
  unfold f_X12_mostFor at hf
  refine s_iload_n (pc := 0) dX12_mostFor_0 0 rfl rfl ?_
  by_cases hc0 : x0 = nI 0
  · replace hf := p_ps hf hc0
    refine s_tableIn (pc := 1) (tgt := 44) (off := 43) dX12_mostFor_1 (by rw [hc0]; decide) (by rw [hc0]; decide) (by rw [hc0]; rfl) rfl ?_
    refine s_iconst (pc := 44) dX12_mostFor_44 (v := nI 2) rfl ?_
    cases hf
    exact s_ireturn (pc := 45) dX12_mostFor_45 rfl rfl ⟨rfl, rfl, rfl, rfl, rfl⟩
  · replace hf := p_ng hf hc0
    by_cases hc1 : x0 = nI 1
    · replace hf := p_ps hf hc1
      refine s_tableIn (pc := 1) (tgt := 46) (off := 45) dX12_mostFor_1 (by rw [hc1]; decide) (by rw [hc1]; decide) (by rw [hc1]; rfl) rfl ?_
      refine s_bipush (pc := 46) dX12_mostFor_46 (v := nI 100) rfl ?_
      cases hf
      exact s_ireturn (pc := 48) dX12_mostFor_48 rfl rfl ⟨rfl, rfl, rfl, rfl, rfl⟩
    · replace hf := p_ng hf hc1
      by_cases hc2 : x0 = nI 2
      · replace hf := p_ps hf hc2
        refine s_tableIn (pc := 1) (tgt := 56) (off := 55) dX12_mostFor_1 (by rw [hc2]; decide) (by rw [hc2]; decide) (by rw [hc2]; rfl) rfl ?_
        refine s_sipush (pc := 56) dX12_mostFor_56 (v := nI 9999) rfl ?_
        cases hf
        exact s_ireturn (pc := 59) dX12_mostFor_59 rfl rfl ⟨rfl, rfl, rfl, rfl, rfl⟩
      · replace hf := p_ng hf hc2
        by_cases hc3 : x0 = nI 3
        · replace hf := p_ps hf hc3
          refine s_tableIn (pc := 1) (tgt := 56) (off := 55) dX12_mostFor_1 (by rw [hc3]; decide) (by rw [hc3]; decide) (by rw [hc3]; rfl) rfl ?_
          refine s_sipush (pc := 56) dX12_mostFor_56 (v := nI 9999) rfl ?_
          cases hf
          exact s_ireturn (pc := 59) dX12_mostFor_59 rfl rfl ⟨rfl, rfl, rfl, rfl, rfl⟩
        · replace hf := p_ng hf hc3
          by_cases hc4 : x0 = nI 4
          · replace hf := p_ps hf hc4
            refine s_tableIn (pc := 1) (tgt := 56) (off := 55) dX12_mostFor_1 (by rw [hc4]; decide) (by rw [hc4]; decide) (by rw [hc4]; rfl) rfl ?_
            refine s_sipush (pc := 56) dX12_mostFor_56 (v := nI 9999) rfl ?_
            cases hf
            exact s_ireturn (pc := 59) dX12_mostFor_59 rfl rfl ⟨rfl, rfl, rfl, rfl, rfl⟩
          · replace hf := p_ng hf hc4
            by_cases hc5 : x0 = nI 5
            · replace hf := p_ps hf hc5
              refine s_tableIn (pc := 1) (tgt := 49) (off := 48) dX12_mostFor_1 (by rw [hc5]; decide) (by rw [hc5]; decide) (by rw [hc5]; rfl) rfl ?_
              refine s_sipush (pc := 49) dX12_mostFor_49 (v := nI 999) rfl ?_
              cases hf
              exact s_ireturn (pc := 52) dX12_mostFor_52 rfl rfl ⟨rfl, rfl, rfl, rfl, rfl⟩
            · replace hf := p_ng hf hc5
              by_cases hc6 : x0 = nI 6
              · replace hf := p_ps hf hc6
                refine s_tableIn (pc := 1) (tgt := 53) (off := 52) dX12_mostFor_1 (by rw [hc6]; decide) (by rw [hc6]; decide) (by rw [hc6]; rfl) rfl ?_
                refine s_bipush (pc := 53) dX12_mostFor_53 (v := nI 9) rfl ?_
                cases hf
                exact s_ireturn (pc := 55) dX12_mostFor_55 rfl rfl ⟨rfl, rfl, rfl, rfl, rfl⟩
              · replace hf := p_ng hf hc6
                have hout : x0.toInt < 0 ∨ 6 < x0.toInt := p_out (fun i h1 h2 => by
                  have hh : i = 0 ∨ i = 1 ∨ i = 2 ∨ i = 3 ∨ i = 4 ∨ i = 5 ∨ i = 6 := by omega
                  rcases hh with rfl | rfl | rfl | rfl | rfl | rfl | rfl
                  · exact p_ne hc0 rfl
                  · exact p_ne hc1 rfl
                  · exact p_ne hc2 rfl
                  · exact p_ne hc3 rfl
                  · exact p_ne hc4 rfl
                  · exact p_ne hc5 rfl
                  · exact p_ne hc6 rfl)
                refine s_tableOut (pc := 1) (tgt := 56) dX12_mostFor_1 hout rfl ?_
                refine s_sipush (pc := 56) dX12_mostFor_56 (v := nI 9999) rfl ?_
                cases hf
                exact s_ireturn (pc := 59) dX12_mostFor_59 rfl rfl ⟨rfl, rfl, rfl, rfl, rfl⟩
def f_X12_set (n : Nat) (N : pN) (I : pI) (P : pR) (a0 : Nat) (x1 : Int32) (x2 : Int32) : Option (Int32 × pI) :=
  Option.bind (f_X12_isIn x1 (nI 0) (nI 6)) fun q1 =>
  (if q1 = 0 then
    some (nI 0, I)
  else
    Option.bind (f_X12_leastOf x1) fun q3 =>
    Option.bind (f_X12_mostFor x1) fun q5 =>
    Option.bind (f_X12_isIn x2 q3 q5) fun q7 =>
    (if q7 = 0 then
      some (nI 0, I)
    else
      Option.bind (P a0 0) fun q9 =>
      p_ck (p_ib N q9 ((nI 11) + x1)) <|
      p_let (p_u I q9 (Int32.toNatClampNeg ((nI 11) + x1)) x2) fun I13 =>
      (if (nI 2) ≤ x1 then
        some (nI 1, I13)
      else
        Option.bind (f_X12_forgets n N I13 P a0) fun q15 =>
        some (nI 1, q15))))
theorem c_X12_set {G : pG} {d : Nat} {n : Nat} {N : pN} {I : pI} {L : pL} {P : pR} {a0 : Nat} {x1 : Int32} {x2 : Int32} {qq : Int32 × pI} (hd : 1 ≤ d) (hW : WT N P) (ha0 : p_tp N a0 15) (hf : f_X12_set n N I P a0 x1 x2 = some qq) : MT G mX12_set d 0 0 [.ref a0, .int x1, .int x2] N I L P (p_R (some (.int qq.1)) N qq.2 L P) := by
  refine MT.of rfl (Nat.le_of_ble_eq_true rfl) ?_
  show SW G mX12_set (p_rm d 0 0) 0 0 0 0 (p_R (some (.int qq.1)) N qq.2 L P) 0 [(0, .ref a0), (1, .int x1), (2, .int x2)] [] N I L P
  unfold f_X12_set at hf
  refine s_iload_n (pc := 0) dX12_set_0 1 rfl rfl ?_
  refine s_iconst (pc := 1) dX12_set_1 (v := nI 0) rfl ?_
  refine s_bipush (pc := 2) dX12_set_2 (v := nI 6) rfl ?_
  obtain ⟨q1, h2, hf⟩ := p_bd hf
  refine y_callS1 (pc := 4) dX12_set_4 (c_X12_isIn (p_dd hd (by decide)) hW  h2) mk_X12_isIn mz_X12_isIn ml_X12_68 rfl rfl (Nat.le_of_ble_eq_true rfl) (p_d1 hd (by decide)) (Nat.le_of_ble_eq_true rfl) ?_
  refine s_if_eq (pc := 7) (tgt := 25) dX12_set_7 rfl (fun hc => ?_) (fun hc => ?_)
  · replace hf := p_ps hf hc
    refine s_iconst (pc := 25) dX12_set_25 (v := nI 0) rfl ?_
    cases hf
    exact s_ireturn (pc := 26) dX12_set_26 rfl rfl ⟨rfl, rfl, rfl, rfl, rfl⟩
  · replace hf := p_ng hf hc
    refine s_iload_n (pc := 10) dX12_set_10 2 rfl rfl ?_
    refine s_iload_n (pc := 11) dX12_set_11 1 rfl rfl ?_
    obtain ⟨q3, h4, hf⟩ := p_bd hf
    refine y_callS1 (pc := 12) dX12_set_12 (c_X12_leastOf (p_dd hd (by decide)) hW  h4) mk_X12_leastOf mz_X12_leastOf ml_X12_420 rfl rfl (Nat.le_of_ble_eq_true rfl) (p_d1 hd (by decide)) (Nat.le_of_ble_eq_true rfl) ?_
    refine s_iload_n (pc := 15) dX12_set_15 1 rfl rfl ?_
    obtain ⟨q5, h6, hf⟩ := p_bd hf
    refine y_callS1 (pc := 16) dX12_set_16 (c_X12_mostFor (p_dd hd (by decide)) hW  h6) mk_X12_mostFor mz_X12_mostFor ml_X12_423 rfl rfl (Nat.le_of_ble_eq_true rfl) (p_d1 hd (by decide)) (Nat.le_of_ble_eq_true rfl) ?_
    obtain ⟨q7, h8, hf⟩ := p_bd hf
    refine y_callS1 (pc := 19) dX12_set_19 (c_X12_isIn (p_dd hd (by decide)) hW  h8) mk_X12_isIn mz_X12_isIn ml_X12_68 rfl rfl (Nat.le_of_ble_eq_true rfl) (p_d1 hd (by decide)) (Nat.le_of_ble_eq_true rfl) ?_
    refine s_if_ne (pc := 22) (tgt := 27) dX12_set_22 rfl (fun hc => ?_) (fun hc => ?_)
    · replace hf := p_ng hf hc
      refine s_aload_n (pc := 27) dX12_set_27 0 rfl rfl ?_
      obtain ⟨q9, h10, hf⟩ := p_bd hf
      have t11 : p_tp N q9 0 := WT.get hW ha0 h10
      refine x_getR (pc := 28) dX12_set_28 fl_X12_7 rfl ha0 h10 ?_
      refine s_bipush (pc := 31) dX12_set_31 (v := nI 11) rfl ?_
      refine s_iload_n (pc := 33) dX12_set_33 1 rfl rfl ?_
      refine s_iadd (pc := 34) dX12_set_34 ?_
      refine s_iload_n (pc := 35) dX12_set_35 2 rfl rfl ?_
      obtain ⟨c12, hf⟩ := p_ckx hf
      refine x_iast (pc := 36) dX12_set_36 t11 c12 ?_
      refine s_nmI (fun I13 e14 => ?_)
      replace hf := p_lx hf e14
      refine s_iload_n (pc := 37) dX12_set_37 1 rfl rfl ?_
      refine s_iconst (pc := 38) dX12_set_38 (v := nI 2) rfl ?_
      refine s_icmp_ge (pc := 39) (tgt := 46) dX12_set_39 rfl (fun hc => ?_) (fun hc => ?_)
      · replace hf := p_ps hf hc
        refine s_iconst (pc := 46) dX12_set_46 (v := nI 1) rfl ?_
        cases hf
        exact s_ireturn (pc := 47) dX12_set_47 rfl rfl ⟨rfl, rfl, rfl, rfl, rfl⟩
      · replace hf := p_ng hf hc
        refine s_aload_n (pc := 42) dX12_set_42 0 rfl rfl ?_
        obtain ⟨q15, h16, hf⟩ := p_bd hf
        refine y_callV0 (pc := 43) dX12_set_43 (c_X12_forgets (p_dd hd (by decide)) hW ha0 h16) mk_X12_forgets mv_X12_forgets ml_X12_65 rfl rfl (Nat.le_of_ble_eq_true rfl) ha0 rfl (p_d1 hd (by decide)) (Nat.le_of_ble_eq_true rfl) ?_
        refine s_iconst (pc := 46) dX12_set_46 (v := nI 1) rfl ?_
        cases hf
        exact s_ireturn (pc := 47) dX12_set_47 rfl rfl ⟨rfl, rfl, rfl, rfl, rfl⟩
    · replace hf := p_ps hf hc
      refine s_iconst (pc := 25) dX12_set_25 (v := nI 0) rfl ?_
      cases hf
      exact s_ireturn (pc := 26) dX12_set_26 rfl rfl ⟨rfl, rfl, rfl, rfl, rfl⟩
def f_X12_wall (N : pN) (I : pI) (P : pR) (a0 : Nat) (x1 : Int32) (x2 : Int32) : Option Int32 :=
  Option.bind (f_X12_isOf N I P a0 x1 (nI 0)) fun q1 =>
  (if q1 = 0 then
    some (-2)
  else
    Option.bind (f_X12_isIn x2 (nI 0) (nI 6)) fun q3 =>
    (if q3 = 0 then
      some (-2)
    else
      Option.bind (f_X12_wallOf N I P a0 x1 x2) fun q5 =>
      some q5))
theorem c_X12_wall {G : pG} {d : Nat} {N : pN} {I : pI} {L : pL} {P : pR} {a0 : Nat} {x1 : Int32} {x2 : Int32} {qq : Int32} (hd : 2 ≤ d) (hW : WT N P) (ha0 : p_tp N a0 15) (hf : f_X12_wall N I P a0 x1 x2 = some qq) : MT G mX12_wall d 0 0 [.ref a0, .int x1, .int x2] N I L P (p_R (some (.int qq)) N I L P) := by
  refine MT.of rfl (Nat.le_of_ble_eq_true rfl) ?_
  show SW G mX12_wall (p_rm d 0 0) 0 0 0 0 (p_R (some (.int qq)) N I L P) 0 [(0, .ref a0), (1, .int x1), (2, .int x2)] [] N I L P
  unfold f_X12_wall at hf
  refine s_aload_n (pc := 0) dX12_wall_0 0 rfl rfl ?_
  refine s_iload_n (pc := 1) dX12_wall_1 1 rfl rfl ?_
  refine s_iconst (pc := 2) dX12_wall_2 (v := nI 0) rfl ?_
  obtain ⟨q1, h2, hf⟩ := p_bd hf
  refine y_callV1 (pc := 3) dX12_wall_3 (c_X12_isOf (p_dd hd (by decide)) hW ha0 h2) mk_X12_isOf mv_X12_isOf ml_X12_80 rfl rfl (Nat.le_of_ble_eq_true rfl) ha0 rfl (p_d1 hd (by decide)) (Nat.le_of_ble_eq_true rfl) ?_
  refine s_if_eq (pc := 6) (tgt := 28) dX12_wall_6 rfl (fun hc => ?_) (fun hc => ?_)
  · replace hf := p_ps hf hc
    refine s_bipush (pc := 28) dX12_wall_28 (v := (-2)) rfl ?_
    cases hf
    exact s_ireturn (pc := 30) dX12_wall_30 rfl rfl ⟨rfl, rfl, rfl, rfl, rfl⟩
  · replace hf := p_ng hf hc
    refine s_iload_n (pc := 9) dX12_wall_9 2 rfl rfl ?_
    refine s_iconst (pc := 10) dX12_wall_10 (v := nI 0) rfl ?_
    refine s_bipush (pc := 11) dX12_wall_11 (v := nI 6) rfl ?_
    obtain ⟨q3, h4, hf⟩ := p_bd hf
    refine y_callS1 (pc := 13) dX12_wall_13 (c_X12_isIn (p_dd hd (by decide)) hW  h4) mk_X12_isIn mz_X12_isIn ml_X12_68 rfl rfl (Nat.le_of_ble_eq_true rfl) (p_d1 hd (by decide)) (Nat.le_of_ble_eq_true rfl) ?_
    refine s_if_eq (pc := 16) (tgt := 28) dX12_wall_16 rfl (fun hc => ?_) (fun hc => ?_)
    · replace hf := p_ps hf hc
      refine s_bipush (pc := 28) dX12_wall_28 (v := (-2)) rfl ?_
      cases hf
      exact s_ireturn (pc := 30) dX12_wall_30 rfl rfl ⟨rfl, rfl, rfl, rfl, rfl⟩
    · replace hf := p_ng hf hc
      refine s_aload_n (pc := 19) dX12_wall_19 0 rfl rfl ?_
      refine s_iload_n (pc := 20) dX12_wall_20 1 rfl rfl ?_
      refine s_iload_n (pc := 21) dX12_wall_21 2 rfl rfl ?_
      obtain ⟨q5, h6, hf⟩ := p_bd hf
      refine y_callV1 (pc := 22) dX12_wall_22 (c_X12_wallOf (p_dd hd (by decide)) hW ha0 h6) mk_X12_wallOf mv_X12_wallOf ml_X12_72 rfl rfl (Nat.le_of_ble_eq_true rfl) ha0 rfl (p_d1 hd (by decide)) (Nat.le_of_ble_eq_true rfl) ?_
      refine s_goto (pc := 25) (tgt := 30) dX12_wall_25 rfl ?_
      cases hf
      exact s_ireturn (pc := 30) dX12_wall_30 rfl rfl ⟨rfl, rfl, rfl, rfl, rfl⟩
def f_X12_sender (N : pN) (I : pI) (P : pR) (a0 : Nat) (x1 : Int32) (x2 : Int32) : Option Int32 :=
  Option.bind (f_X12_isOf N I P a0 x1 (nI 1)) fun q1 =>
  (if q1 = 0 then
    some (-2)
  else
    Option.bind (f_X12_isIn x2 (nI 0) (nI 5)) fun q3 =>
    (if q3 = 0 then
      some (-2)
    else
      Option.bind (f_X12_senderOf N I P a0 x1 x2) fun q5 =>
      some q5))
theorem c_X12_sender {G : pG} {d : Nat} {N : pN} {I : pI} {L : pL} {P : pR} {a0 : Nat} {x1 : Int32} {x2 : Int32} {qq : Int32} (hd : 2 ≤ d) (hW : WT N P) (ha0 : p_tp N a0 15) (hf : f_X12_sender N I P a0 x1 x2 = some qq) : MT G mX12_sender d 0 0 [.ref a0, .int x1, .int x2] N I L P (p_R (some (.int qq)) N I L P) := by
  refine MT.of rfl (Nat.le_of_ble_eq_true rfl) ?_
  show SW G mX12_sender (p_rm d 0 0) 0 0 0 0 (p_R (some (.int qq)) N I L P) 0 [(0, .ref a0), (1, .int x1), (2, .int x2)] [] N I L P
  unfold f_X12_sender at hf
  refine s_aload_n (pc := 0) dX12_sender_0 0 rfl rfl ?_
  refine s_iload_n (pc := 1) dX12_sender_1 1 rfl rfl ?_
  refine s_iconst (pc := 2) dX12_sender_2 (v := nI 1) rfl ?_
  obtain ⟨q1, h2, hf⟩ := p_bd hf
  refine y_callV1 (pc := 3) dX12_sender_3 (c_X12_isOf (p_dd hd (by decide)) hW ha0 h2) mk_X12_isOf mv_X12_isOf ml_X12_80 rfl rfl (Nat.le_of_ble_eq_true rfl) ha0 rfl (p_d1 hd (by decide)) (Nat.le_of_ble_eq_true rfl) ?_
  refine s_if_eq (pc := 6) (tgt := 27) dX12_sender_6 rfl (fun hc => ?_) (fun hc => ?_)
  · replace hf := p_ps hf hc
    refine s_bipush (pc := 27) dX12_sender_27 (v := (-2)) rfl ?_
    cases hf
    exact s_ireturn (pc := 29) dX12_sender_29 rfl rfl ⟨rfl, rfl, rfl, rfl, rfl⟩
  · replace hf := p_ng hf hc
    refine s_iload_n (pc := 9) dX12_sender_9 2 rfl rfl ?_
    refine s_iconst (pc := 10) dX12_sender_10 (v := nI 0) rfl ?_
    refine s_iconst (pc := 11) dX12_sender_11 (v := nI 5) rfl ?_
    obtain ⟨q3, h4, hf⟩ := p_bd hf
    refine y_callS1 (pc := 12) dX12_sender_12 (c_X12_isIn (p_dd hd (by decide)) hW  h4) mk_X12_isIn mz_X12_isIn ml_X12_68 rfl rfl (Nat.le_of_ble_eq_true rfl) (p_d1 hd (by decide)) (Nat.le_of_ble_eq_true rfl) ?_
    refine s_if_eq (pc := 15) (tgt := 27) dX12_sender_15 rfl (fun hc => ?_) (fun hc => ?_)
    · replace hf := p_ps hf hc
      refine s_bipush (pc := 27) dX12_sender_27 (v := (-2)) rfl ?_
      cases hf
      exact s_ireturn (pc := 29) dX12_sender_29 rfl rfl ⟨rfl, rfl, rfl, rfl, rfl⟩
    · replace hf := p_ng hf hc
      refine s_aload_n (pc := 18) dX12_sender_18 0 rfl rfl ?_
      refine s_iload_n (pc := 19) dX12_sender_19 1 rfl rfl ?_
      refine s_iload_n (pc := 20) dX12_sender_20 2 rfl rfl ?_
      obtain ⟨q5, h6, hf⟩ := p_bd hf
      refine y_callV1 (pc := 21) dX12_sender_21 (c_X12_senderOf (p_dd hd (by decide)) hW ha0 h6) mk_X12_senderOf mv_X12_senderOf ml_X12_83 rfl rfl (Nat.le_of_ble_eq_true rfl) ha0 rfl (p_d1 hd (by decide)) (Nat.le_of_ble_eq_true rfl) ?_
      refine s_goto (pc := 24) (tgt := 29) dX12_sender_24 rfl ?_
      cases hf
      exact s_ireturn (pc := 29) dX12_sender_29 rfl rfl ⟨rfl, rfl, rfl, rfl, rfl⟩
