def f_X4_columnOf (x0 : Int32) : Option Int32 :=
  some ((nI 2) + ((nI 4) * x0))
theorem c_X4_columnOf {G : pG} {d : Nat} {N : pN} {I : pI} {L : pL} {P : pR} {x0 : Int32} {qq : Int32} (hd : 0 ≤ d) (hW : WT N P) (hf : f_X4_columnOf x0 = some qq) : MT G mX4_columnOf d 0 0 [.int x0] N I L P (p_R (some (.int qq)) N I L P) := by
  refine MT.of rfl (Nat.le_of_ble_eq_true rfl) ?_
  show SW G mX4_columnOf (p_rm d 0 0) 0 0 0 0 (p_R (some (.int qq)) N I L P) 0 [(0, .int x0)] [] N I L P
  unfold f_X4_columnOf at hf
  refine s_iconst (pc := 0) dX4_columnOf_0 (v := nI 2) rfl ?_
  refine s_iconst (pc := 1) dX4_columnOf_1 (v := nI 4) rfl ?_
  refine s_iload_n (pc := 2) dX4_columnOf_2 0 rfl rfl ?_
  refine s_imul (pc := 3) dX4_columnOf_3 ?_
  refine s_iadd (pc := 4) dX4_columnOf_4 ?_
  cases hf
  exact s_ireturn (pc := 5) dX4_columnOf_5 rfl rfl ⟨rfl, rfl, rfl, rfl, rfl⟩
def B_X1_isAlone_15 (N : pN) (I : pI) (P : pR) (x2 : Int32) (a0 : Nat) (x1 : Int32) (rec0 : Int32 → Option Int32) (s0 : Int32) : Option Int32 :=
  Option.bind (P a0 0) fun q9 =>
  Option.bind (P q9 2) fun q12 =>
  Option.bind (f_X8_size I q12) fun q15 =>
  (if q15 ≤ s0 then
    some (nI 1)
  else
    Option.bind (P a0 0) fun q17 =>
    Option.bind (P q17 2) fun q20 =>
    Option.bind (f_X8_get N I P q20 s0 (nI 2)) fun q23 =>
    p_let (α := Int32) ((if q23 = x2 then
      nI 1
    else
      nI 0)) fun t25 =>
    (if s0 = x1 then
      rec0 (s0 + nI 1)
    else
      (if t25 = 0 then
        rec0 (s0 + nI 1)
      else
        Option.bind (P a0 0) fun q27 =>
        Option.bind (f_X7_senderStands N I P q27 s0) fun q30 =>
        (if q30 = 0 then
          rec0 (s0 + nI 1)
        else
          some (nI 0)))))
def f_X1_isAlone (n : Nat) (N : pN) (I : pI) (P : pR) (a0 : Nat) (x1 : Int32) : Option Int32 :=
  Option.bind (P a0 0) fun q1 =>
  Option.bind (P q1 2) fun q4 =>
  Option.bind (f_X8_get N I P q4 x1 (nI 2)) fun q7 =>
  p_it (B_X1_isAlone_15 N I P q7 a0 x1) n (nI 0)
theorem c_X1_isAlone {G : pG} {d : Nat} {n : Nat} {N : pN} {I : pI} {L : pL} {P : pR} {a0 : Nat} {x1 : Int32} {qq : Int32} (hd : 2 ≤ d) (hW : WT N P) (ha0 : p_tp N a0 4) (hf : f_X1_isAlone n N I P a0 x1 = some qq) : MT G mX1_isAlone d 0 0 [.ref a0, .int x1] N I L P (p_R (some (.int qq)) N I L P) := by
  refine MT.of rfl (Nat.le_of_ble_eq_true rfl) ?_
  show SW G mX1_isAlone (p_rm d 0 0) 0 0 0 0 (p_R (some (.int qq)) N I L P) 0 [(0, .ref a0), (1, .int x1)] [] N I L P
  unfold f_X1_isAlone at hf
  refine s_aload_n (pc := 0) dX1_isAlone_0 0 rfl rfl ?_
  obtain ⟨q1, h2, hf⟩ := p_bd hf
  have t3 : p_tp N q1 10 := WT.get hW ha0 h2
  refine x_getR (pc := 1) dX1_isAlone_1 fl_X1_22 rfl ha0 h2 ?_
  obtain ⟨q4, h5, hf⟩ := p_bd hf
  have t6 : p_tp N q4 11 := WT.get hW t3 h5
  refine x_getR (pc := 4) dX1_isAlone_4 fl_X1_93 rfl t3 h5 ?_
  refine s_iload_n (pc := 7) dX1_isAlone_7 1 rfl rfl ?_
  refine s_iconst (pc := 8) dX1_isAlone_8 (v := nI 2) rfl ?_
  obtain ⟨q7, h8, hf⟩ := p_bd hf
  refine y_callV1 (pc := 9) dX1_isAlone_9 (c_X8_get (p_dd hd (by decide)) hW t6 h8) mk_X8_get mv_X8_get ml_X1_42 rfl rfl (Nat.le_of_ble_eq_true rfl) t6 rfl (p_d1 hd (by decide)) (Nat.le_of_ble_eq_true rfl) ?_
  refine s_istore_n (pc := 12) (lo' := [(2, .int q7), (0, .ref a0), (1, .int x1)]) dX1_isAlone_12 rfl (Nat.le_of_ble_eq_true rfl) rfl ?_
  refine s_iconst (pc := 13) dX1_isAlone_13 (v := nI 0) rfl ?_
  refine s_istore_n (pc := 14) (lo' := [(3, .int (nI 0)), (2, .int q7), (0, .ref a0), (1, .int x1)]) dX1_isAlone_14 rfl (Nat.le_of_ble_eq_true rfl) rfl ?_
  have k32 : ∀ (k : Nat) (s0 : Int32), p_it (B_X1_isAlone_15 N I P q7 a0 x1) k s0 = some qq → (SW G mX1_isAlone (p_rm d 0 0) 0 0 0 0 (p_R (some (.int qq)) N I L P) 15 [(2, .int q7), (0, .ref a0), (1, .int x1), (3, .int s0)] [] N I L P) := p_it_ind (C := fun (s0 : Int32) => SW G mX1_isAlone (p_rm d 0 0) 0 0 0 0 (p_R (some (.int qq)) N I L P) 15 [(2, .int q7), (0, .ref a0), (1, .int x1), (3, .int s0)] [] N I L P) (by
    intro rec0 hrec0 s0 hf
    unfold B_X1_isAlone_15 at hf
    refine s_iload_n (pc := 15) dX1_isAlone_15 3 rfl rfl ?_
    refine s_aload_n (pc := 16) dX1_isAlone_16 1 rfl rfl ?_
    obtain ⟨q33, h34, hf⟩ := p_bd hf
    have t35 : p_tp N q33 10 := WT.get hW ha0 h34
    refine x_getR (pc := 17) dX1_isAlone_17 fl_X1_22 rfl ha0 h34 ?_
    obtain ⟨q36, h37, hf⟩ := p_bd hf
    have t38 : p_tp N q36 11 := WT.get hW t35 h37
    refine x_getR (pc := 20) dX1_isAlone_20 fl_X1_93 rfl t35 h37 ?_
    obtain ⟨q39, h40, hf⟩ := p_bd hf
    refine y_callV1 (pc := 23) dX1_isAlone_23 (c_X8_size (p_dd hd (by decide)) hW t38 h40) mk_X8_size mv_X8_size ml_X1_36 rfl rfl (Nat.le_of_ble_eq_true rfl) t38 rfl (p_d1 hd (by decide)) (Nat.le_of_ble_eq_true rfl) ?_
    refine s_icmp_ge (pc := 26) (tgt := 81) dX1_isAlone_26 rfl (fun hc => ?_) (fun hc => ?_)
    · replace hf := p_ps hf hc
      refine s_iconst (pc := 81) dX1_isAlone_81 (v := nI 1) rfl ?_
      cases hf
      exact s_ireturn (pc := 82) dX1_isAlone_82 rfl rfl ⟨rfl, rfl, rfl, rfl, rfl⟩
    · replace hf := p_ng hf hc
      refine s_aload_n (pc := 29) dX1_isAlone_29 1 rfl rfl ?_
      obtain ⟨q41, h42, hf⟩ := p_bd hf
      have t43 : p_tp N q41 10 := WT.get hW ha0 h42
      refine x_getR (pc := 30) dX1_isAlone_30 fl_X1_22 rfl ha0 h42 ?_
      obtain ⟨q44, h45, hf⟩ := p_bd hf
      have t46 : p_tp N q44 11 := WT.get hW t43 h45
      refine x_getR (pc := 33) dX1_isAlone_33 fl_X1_93 rfl t43 h45 ?_
      refine s_iload_n (pc := 36) dX1_isAlone_36 3 rfl rfl ?_
      refine s_iconst (pc := 37) dX1_isAlone_37 (v := nI 2) rfl ?_
      obtain ⟨q47, h48, hf⟩ := p_bd hf
      refine y_callV1 (pc := 38) dX1_isAlone_38 (c_X8_get (p_dd hd (by decide)) hW t46 h48) mk_X8_get mv_X8_get ml_X1_42 rfl rfl (Nat.le_of_ble_eq_true rfl) t46 rfl (p_d1 hd (by decide)) (Nat.le_of_ble_eq_true rfl) ?_
      refine s_iload_n (pc := 41) dX1_isAlone_41 0 rfl rfl ?_
      obtain ⟨t49, hg, hf⟩ := p_lx2 hf
      have k50 : SW G mX1_isAlone (p_rm d 0 0) 0 0 0 0 (p_R (some (.int qq)) N I L P) 50 [(2, .int q7), (0, .ref a0), (1, .int x1), (3, .int s0)] [.int t49] N I L P := by
        refine s_istore (pc := 50) (lo' := [(4, .int t49), (2, .int q7), (0, .ref a0), (1, .int x1), (3, .int s0)]) dX1_isAlone_50 (Nat.le_of_ble_eq_true rfl) rfl ?_
        refine s_iload_n (pc := 52) dX1_isAlone_52 4 rfl rfl ?_
        refine s_iload_n (pc := 53) dX1_isAlone_53 3 rfl rfl ?_
        refine s_icmp_eq (pc := 54) (tgt := 75) dX1_isAlone_54 rfl (fun hc => ?_) (fun hc => ?_)
        · replace hf := p_ps hf hc
          refine s_iinc (pc := 75) (lo' := [(3, .int (s0 + nI 1)), (4, .int t49), (2, .int q7), (0, .ref a0), (1, .int x1)]) dX1_isAlone_75 4 rfl (v := s0 + nI 1) rfl (Nat.le_of_ble_eq_true rfl) rfl ?_
          refine s_goto (pc := 78) (tgt := 15) dX1_isAlone_78 rfl ?_
          exact s_lo [2, 3, 4, 0] rfl (hrec0 (s0 + nI 1) hf)
        · replace hf := p_ng hf hc
          refine s_iload (pc := 57) dX1_isAlone_57 0 rfl ?_
          refine s_if_eq (pc := 59) (tgt := 75) dX1_isAlone_59 rfl (fun hc => ?_) (fun hc => ?_)
          · replace hf := p_ps hf hc
            refine s_iinc (pc := 75) (lo' := [(3, .int (s0 + nI 1)), (4, .int t49), (2, .int q7), (0, .ref a0), (1, .int x1)]) dX1_isAlone_75 4 rfl (v := s0 + nI 1) rfl (Nat.le_of_ble_eq_true rfl) rfl ?_
            refine s_goto (pc := 78) (tgt := 15) dX1_isAlone_78 rfl ?_
            exact s_lo [2, 3, 4, 0] rfl (hrec0 (s0 + nI 1) hf)
          · replace hf := p_ng hf hc
            refine s_aload_n (pc := 62) dX1_isAlone_62 2 rfl rfl ?_
            obtain ⟨q51, h52, hf⟩ := p_bd hf
            have t53 : p_tp N q51 10 := WT.get hW ha0 h52
            refine x_getR (pc := 63) dX1_isAlone_63 fl_X1_22 rfl ha0 h52 ?_
            refine s_iload_n (pc := 66) dX1_isAlone_66 4 rfl rfl ?_
            obtain ⟨q54, h55, hf⟩ := p_bd hf
            refine y_callV1 (pc := 67) dX1_isAlone_67 (c_X7_senderStands (p_dd hd (by decide)) hW t53 h55) mk_X7_senderStands mv_X7_senderStands ml_X1_63 rfl rfl (Nat.le_of_ble_eq_true rfl) t53 rfl (p_d1 hd (by decide)) (Nat.le_of_ble_eq_true rfl) ?_
            refine s_if_eq (pc := 70) (tgt := 75) dX1_isAlone_70 rfl (fun hc => ?_) (fun hc => ?_)
            · replace hf := p_ps hf hc
              refine s_iinc (pc := 75) (lo' := [(3, .int (s0 + nI 1)), (4, .int t49), (2, .int q7), (0, .ref a0), (1, .int x1)]) dX1_isAlone_75 4 rfl (v := s0 + nI 1) rfl (Nat.le_of_ble_eq_true rfl) rfl ?_
              refine s_goto (pc := 78) (tgt := 15) dX1_isAlone_78 rfl ?_
              exact s_lo [2, 3, 4, 0] rfl (hrec0 (s0 + nI 1) hf)
            · replace hf := p_ng hf hc
              refine s_iconst (pc := 73) dX1_isAlone_73 (v := nI 0) rfl ?_
              cases hf
              exact s_ireturn (pc := 74) dX1_isAlone_74 rfl rfl ⟨rfl, rfl, rfl, rfl, rfl⟩
      replace hf := hg.symm
      refine s_icmp_ne (pc := 42) (tgt := 49) dX1_isAlone_42 rfl (fun hc => ?_) (fun hc => ?_)
      · replace hf := p_ng hf hc
        refine s_iconst (pc := 49) dX1_isAlone_49 (v := nI 0) rfl ?_
        cases hf
        exact s_lo [0, 1, 2, 3] rfl (k50)
      · replace hf := p_ps hf hc
        refine s_iconst (pc := 45) dX1_isAlone_45 (v := nI 1) rfl ?_
        refine s_goto (pc := 46) (tgt := 50) dX1_isAlone_46 rfl ?_
        cases hf
        exact s_lo [0, 1, 2, 3] rfl (k50))
  exact s_lo [1, 2, 3, 0] rfl (k32 n (nI 0) hf)
def f_X1_valueOf (N : pN) (I : pI) (P : pR) (a0 : Nat) (x1 : Int32) (x2 : Int32) (x3 : Int32) : Option Int32 :=
  (if x1 = nI 1 then
    Option.bind (P a0 0) fun q39 =>
    Option.bind (P q39 2) fun q42 =>
    Option.bind (f_X8_get N I P q42 x2 (nI 2)) fun q45 =>
    some q45
  else
    (if x1 = nI 2 then
      Option.bind (P a0 0) fun q31 =>
      Option.bind (P q31 2) fun q34 =>
      Option.bind (f_X8_get N I P q34 x2 (nI 3)) fun q37 =>
      some q37
    else
      (if x1 = nI 3 then
        Option.bind (P a0 0) fun q23 =>
        Option.bind (P q23 2) fun q26 =>
        Option.bind (f_X8_get N I P q26 x2 (nI 0)) fun q29 =>
        some q29
      else
        (if x1 = nI 4 then
          Option.bind (P a0 0) fun q15 =>
          Option.bind (P q15 2) fun q18 =>
          Option.bind (f_X8_get N I P q18 x2 (nI 1)) fun q21 =>
          some q21
        else
          (if x1 = nI 5 then
            some x3
          else
            (if x2 < 0 then
              some (nI 0)
            else
              Option.bind (P a0 2) fun q8 =>
              (if (nI (N.2 q8).2) ≤ x2 then
                some (nI 0)
              else
                Option.bind (P a0 2) fun q11 =>
                p_ck (p_ib N q11 x2) <|
                some (I q11 (Int32.toNatClampNeg x2)))))))))
theorem c_X1_valueOf {G : pG} {d : Nat} {N : pN} {I : pI} {L : pL} {P : pR} {a0 : Nat} {x1 : Int32} {x2 : Int32} {x3 : Int32} {qq : Int32} (hd : 1 ≤ d) (hW : WT N P) (ha0 : p_tp N a0 4) (hf : f_X1_valueOf N I P a0 x1 x2 x3 = some qq) : MT G mX1_valueOf d 0 0 [.ref a0, .int x1, .int x2, .int x3] N I L P (p_R (some (.int qq)) N I L P) := by
  refine MT.of rfl (Nat.le_of_ble_eq_true rfl) ?_
  show SW G mX1_valueOf (p_rm d 0 0) 0 0 0 0 (p_R (some (.int qq)) N I L P) 0 [(0, .ref a0), (1, .int x1), (2, .int x2), (3, .int x3)] [] N I L P
  unfold f_X1_valueOf at hf
  refine s_iload_n (pc := 0) dX1_valueOf_0 1 rfl rfl ?_
  by_cases hc0 : x1 = nI 1
  · replace hf := p_ps hf hc0
    refine s_tableIn (pc := 1) (tgt := 36) (off := 35) dX1_valueOf_1 (by rw [hc0]; decide) (by rw [hc0]; decide) (by rw [hc0]; rfl) rfl ?_
    refine s_aload_n (pc := 36) dX1_valueOf_36 0 rfl rfl ?_
    obtain ⟨q39, h40, hf⟩ := p_bd hf
    have t41 : p_tp N q39 10 := WT.get hW ha0 h40
    refine x_getR (pc := 37) dX1_valueOf_37 fl_X1_22 rfl ha0 h40 ?_
    obtain ⟨q42, h43, hf⟩ := p_bd hf
    have t44 : p_tp N q42 11 := WT.get hW t41 h43
    refine x_getR (pc := 40) dX1_valueOf_40 fl_X1_93 rfl t41 h43 ?_
    refine s_iload_n (pc := 43) dX1_valueOf_43 2 rfl rfl ?_
    refine s_iconst (pc := 44) dX1_valueOf_44 (v := nI 2) rfl ?_
    obtain ⟨q45, h46, hf⟩ := p_bd hf
    refine y_callV1 (pc := 45) dX1_valueOf_45 (c_X8_get (p_dd hd (by decide)) hW t44 h46) mk_X8_get mv_X8_get ml_X1_42 rfl rfl (Nat.le_of_ble_eq_true rfl) t44 rfl (p_d1 hd (by decide)) (Nat.le_of_ble_eq_true rfl) ?_
    cases hf
    exact s_ireturn (pc := 48) dX1_valueOf_48 rfl rfl ⟨rfl, rfl, rfl, rfl, rfl⟩
  · replace hf := p_ng hf hc0
    by_cases hc1 : x1 = nI 2
    · replace hf := p_ps hf hc1
      refine s_tableIn (pc := 1) (tgt := 49) (off := 48) dX1_valueOf_1 (by rw [hc1]; decide) (by rw [hc1]; decide) (by rw [hc1]; rfl) rfl ?_
      refine s_aload_n (pc := 49) dX1_valueOf_49 0 rfl rfl ?_
      obtain ⟨q31, h32, hf⟩ := p_bd hf
      have t33 : p_tp N q31 10 := WT.get hW ha0 h32
      refine x_getR (pc := 50) dX1_valueOf_50 fl_X1_22 rfl ha0 h32 ?_
      obtain ⟨q34, h35, hf⟩ := p_bd hf
      have t36 : p_tp N q34 11 := WT.get hW t33 h35
      refine x_getR (pc := 53) dX1_valueOf_53 fl_X1_93 rfl t33 h35 ?_
      refine s_iload_n (pc := 56) dX1_valueOf_56 2 rfl rfl ?_
      refine s_iconst (pc := 57) dX1_valueOf_57 (v := nI 3) rfl ?_
      obtain ⟨q37, h38, hf⟩ := p_bd hf
      refine y_callV1 (pc := 58) dX1_valueOf_58 (c_X8_get (p_dd hd (by decide)) hW t36 h38) mk_X8_get mv_X8_get ml_X1_42 rfl rfl (Nat.le_of_ble_eq_true rfl) t36 rfl (p_d1 hd (by decide)) (Nat.le_of_ble_eq_true rfl) ?_
      cases hf
      exact s_ireturn (pc := 61) dX1_valueOf_61 rfl rfl ⟨rfl, rfl, rfl, rfl, rfl⟩
    · replace hf := p_ng hf hc1
      by_cases hc2 : x1 = nI 3
      · replace hf := p_ps hf hc2
        refine s_tableIn (pc := 1) (tgt := 62) (off := 61) dX1_valueOf_1 (by rw [hc2]; decide) (by rw [hc2]; decide) (by rw [hc2]; rfl) rfl ?_
        refine s_aload_n (pc := 62) dX1_valueOf_62 0 rfl rfl ?_
        obtain ⟨q23, h24, hf⟩ := p_bd hf
        have t25 : p_tp N q23 10 := WT.get hW ha0 h24
        refine x_getR (pc := 63) dX1_valueOf_63 fl_X1_22 rfl ha0 h24 ?_
        obtain ⟨q26, h27, hf⟩ := p_bd hf
        have t28 : p_tp N q26 11 := WT.get hW t25 h27
        refine x_getR (pc := 66) dX1_valueOf_66 fl_X1_93 rfl t25 h27 ?_
        refine s_iload_n (pc := 69) dX1_valueOf_69 2 rfl rfl ?_
        refine s_iconst (pc := 70) dX1_valueOf_70 (v := nI 0) rfl ?_
        obtain ⟨q29, h30, hf⟩ := p_bd hf
        refine y_callV1 (pc := 71) dX1_valueOf_71 (c_X8_get (p_dd hd (by decide)) hW t28 h30) mk_X8_get mv_X8_get ml_X1_42 rfl rfl (Nat.le_of_ble_eq_true rfl) t28 rfl (p_d1 hd (by decide)) (Nat.le_of_ble_eq_true rfl) ?_
        cases hf
        exact s_ireturn (pc := 74) dX1_valueOf_74 rfl rfl ⟨rfl, rfl, rfl, rfl, rfl⟩
      · replace hf := p_ng hf hc2
        by_cases hc3 : x1 = nI 4
        · replace hf := p_ps hf hc3
          refine s_tableIn (pc := 1) (tgt := 75) (off := 74) dX1_valueOf_1 (by rw [hc3]; decide) (by rw [hc3]; decide) (by rw [hc3]; rfl) rfl ?_
          refine s_aload_n (pc := 75) dX1_valueOf_75 0 rfl rfl ?_
          obtain ⟨q15, h16, hf⟩ := p_bd hf
          have t17 : p_tp N q15 10 := WT.get hW ha0 h16
          refine x_getR (pc := 76) dX1_valueOf_76 fl_X1_22 rfl ha0 h16 ?_
          obtain ⟨q18, h19, hf⟩ := p_bd hf
          have t20 : p_tp N q18 11 := WT.get hW t17 h19
          refine x_getR (pc := 79) dX1_valueOf_79 fl_X1_93 rfl t17 h19 ?_
          refine s_iload_n (pc := 82) dX1_valueOf_82 2 rfl rfl ?_
          refine s_iconst (pc := 83) dX1_valueOf_83 (v := nI 1) rfl ?_
          obtain ⟨q21, h22, hf⟩ := p_bd hf
          refine y_callV1 (pc := 84) dX1_valueOf_84 (c_X8_get (p_dd hd (by decide)) hW t20 h22) mk_X8_get mv_X8_get ml_X1_42 rfl rfl (Nat.le_of_ble_eq_true rfl) t20 rfl (p_d1 hd (by decide)) (Nat.le_of_ble_eq_true rfl) ?_
          cases hf
          exact s_ireturn (pc := 87) dX1_valueOf_87 rfl rfl ⟨rfl, rfl, rfl, rfl, rfl⟩
        · replace hf := p_ng hf hc3
          by_cases hc4 : x1 = nI 5
          · replace hf := p_ps hf hc4
            refine s_tableIn (pc := 1) (tgt := 88) (off := 87) dX1_valueOf_1 (by rw [hc4]; decide) (by rw [hc4]; decide) (by rw [hc4]; rfl) rfl ?_
            refine s_iload_n (pc := 88) dX1_valueOf_88 3 rfl rfl ?_
            cases hf
            exact s_ireturn (pc := 89) dX1_valueOf_89 rfl rfl ⟨rfl, rfl, rfl, rfl, rfl⟩
          · replace hf := p_ng hf hc4
            have hout : x1.toInt < 1 ∨ 5 < x1.toInt := p_out (fun i h1 h2 => by
              have hh : i = 1 ∨ i = 2 ∨ i = 3 ∨ i = 4 ∨ i = 5 := by omega
              rcases hh with rfl | rfl | rfl | rfl | rfl
              · exact p_ne hc0 rfl
              · exact p_ne hc1 rfl
              · exact p_ne hc2 rfl
              · exact p_ne hc3 rfl
              · exact p_ne hc4 rfl)
            refine s_tableOut (pc := 1) (tgt := 90) dX1_valueOf_1 hout rfl ?_
            refine s_iload_n (pc := 90) dX1_valueOf_90 2 rfl rfl ?_
            refine s_if_lt (pc := 91) (tgt := 112) dX1_valueOf_91 rfl (fun hc => ?_) (fun hc => ?_)
            · replace hf := p_ps hf hc
              refine s_iconst (pc := 112) dX1_valueOf_112 (v := nI 0) rfl ?_
              cases hf
              exact s_ireturn (pc := 113) dX1_valueOf_113 rfl rfl ⟨rfl, rfl, rfl, rfl, rfl⟩
            · replace hf := p_ng hf hc
              refine s_iload_n (pc := 94) dX1_valueOf_94 2 rfl rfl ?_
              refine s_aload_n (pc := 95) dX1_valueOf_95 0 rfl rfl ?_
              obtain ⟨q8, h9, hf⟩ := p_bd hf
              have t10 : p_tp N q8 0 := WT.get hW ha0 h9
              refine x_getR (pc := 96) dX1_valueOf_96 fl_X1_9 rfl ha0 h9 ?_
              refine x_alen (pc := 99) dX1_valueOf_99 t10 (Nat.le_of_ble_eq_true rfl) ?_
              refine s_icmp_ge (pc := 100) (tgt := 112) dX1_valueOf_100 rfl (fun hc => ?_) (fun hc => ?_)
              · replace hf := p_ps hf hc
                refine s_iconst (pc := 112) dX1_valueOf_112 (v := nI 0) rfl ?_
                cases hf
                exact s_ireturn (pc := 113) dX1_valueOf_113 rfl rfl ⟨rfl, rfl, rfl, rfl, rfl⟩
              · replace hf := p_ng hf hc
                refine s_aload_n (pc := 103) dX1_valueOf_103 0 rfl rfl ?_
                obtain ⟨q11, h12, hf⟩ := p_bd hf
                have t13 : p_tp N q11 0 := WT.get hW ha0 h12
                refine x_getR (pc := 104) dX1_valueOf_104 fl_X1_9 rfl ha0 h12 ?_
                refine s_iload_n (pc := 107) dX1_valueOf_107 2 rfl rfl ?_
                obtain ⟨c14, hf⟩ := p_ckx hf
                refine x_iald (pc := 108) dX1_valueOf_108 t13 c14 ?_
                refine s_goto (pc := 109) (tgt := 113) dX1_valueOf_109 rfl ?_
                cases hf
                exact s_ireturn (pc := 113) dX1_valueOf_113 rfl rfl ⟨rfl, rfl, rfl, rfl, rfl⟩
def f_X1_holds (n : Nat) (N : pN) (I : pI) (P : pR) (a0 : Nat) (x1 : Int32) (x2 : Int32) (x3 : Int32) (x4 : Int32) : Option Int32 :=
  Option.bind (P a0 0) fun q1 =>
  Option.bind (P q1 7) fun q4 =>
  Option.bind (f_X8_get N I P q4 x1 (x2 + (nI 1))) fun q7 =>
  (if q7 = 0 then
    Option.bind (f_X1_isAlone n N I P a0 x3) fun q27 =>
    p_ck (decide (q27 = 0 ∨ q27 = 1)) <|
    some q27
  else
    Option.bind (f_X1_valueOf N I P a0 q7 x3 x4) fun q9 =>
    Option.bind (P a0 0) fun q11 =>
    Option.bind (P q11 7) fun q14 =>
    Option.bind (f_X8_get N I P q14 x1 (x2 + (nI 3))) fun q17 =>
    Option.bind (P a0 0) fun q19 =>
    Option.bind (P q19 7) fun q22 =>
    Option.bind (f_X8_get N I P q22 x1 (x2 + (nI 2))) fun q25 =>
    (if q25 = nI 60 then
      (if q17 ≤ q9 then
        some (nI 0)
      else
        some (nI 1))
    else
      (if q25 = nI 62 then
        (if q9 ≤ q17 then
          some (nI 0)
        else
          some (nI 1))
      else
        (if q9 = q17 then
          some (nI 1)
        else
          some (nI 0)))))
theorem c_X1_holds {G : pG} {d : Nat} {n : Nat} {N : pN} {I : pI} {L : pL} {P : pR} {a0 : Nat} {x1 : Int32} {x2 : Int32} {x3 : Int32} {x4 : Int32} {qq : Int32} (hd : 3 ≤ d) (hW : WT N P) (ha0 : p_tp N a0 4) (hf : f_X1_holds n N I P a0 x1 x2 x3 x4 = some qq) : MT G mX1_holds d 0 0 [.ref a0, .int x1, .int x2, .int x3, .int x4] N I L P (p_R (some (.int qq)) N I L P) := by
  refine MT.of rfl (Nat.le_of_ble_eq_true rfl) ?_
  show SW G mX1_holds (p_rm d 0 0) 0 0 0 0 (p_R (some (.int qq)) N I L P) 0 [(0, .ref a0), (1, .int x1), (2, .int x2), (3, .int x3), (4, .int x4)] [] N I L P
  unfold f_X1_holds at hf
  refine s_aload_n (pc := 0) dX1_holds_0 0 rfl rfl ?_
  obtain ⟨q1, h2, hf⟩ := p_bd hf
  have t3 : p_tp N q1 10 := WT.get hW ha0 h2
  refine x_getR (pc := 1) dX1_holds_1 fl_X1_22 rfl ha0 h2 ?_
  obtain ⟨q4, h5, hf⟩ := p_bd hf
  have t6 : p_tp N q4 11 := WT.get hW t3 h5
  refine x_getR (pc := 4) dX1_holds_4 fl_X1_70 rfl t3 h5 ?_
  refine s_iload_n (pc := 7) dX1_holds_7 1 rfl rfl ?_
  refine s_iload_n (pc := 8) dX1_holds_8 2 rfl rfl ?_
  refine s_iconst (pc := 9) dX1_holds_9 (v := nI 1) rfl ?_
  refine s_iadd (pc := 10) dX1_holds_10 ?_
  obtain ⟨q7, h8, hf⟩ := p_bd hf
  refine y_callV1 (pc := 11) dX1_holds_11 (c_X8_get (p_dd hd (by decide)) hW t6 h8) mk_X8_get mv_X8_get ml_X1_42 rfl rfl (Nat.le_of_ble_eq_true rfl) t6 rfl (p_d1 hd (by decide)) (Nat.le_of_ble_eq_true rfl) ?_
  refine s_istore (pc := 14) (lo' := [(5, .int q7), (0, .ref a0), (1, .int x1), (2, .int x2), (3, .int x3), (4, .int x4)]) dX1_holds_14 (Nat.le_of_ble_eq_true rfl) rfl ?_
  refine s_iload (pc := 16) dX1_holds_16 0 rfl ?_
  refine s_if_ne (pc := 18) (tgt := 27) dX1_holds_18 rfl (fun hc => ?_) (fun hc => ?_)
  · replace hf := p_ng hf hc
    refine s_aload_n (pc := 27) dX1_holds_27 1 rfl rfl ?_
    refine s_iload (pc := 28) dX1_holds_28 0 rfl ?_
    refine s_iload_n (pc := 30) dX1_holds_30 4 rfl rfl ?_
    refine s_iload (pc := 31) dX1_holds_31 5 rfl ?_
    obtain ⟨q9, h10, hf⟩ := p_bd hf
    refine y_callV1 (pc := 33) dX1_holds_33 (c_X1_valueOf (p_dd hd (by decide)) hW ha0 h10) mk_X1_valueOf mv_X1_valueOf ml_X1_90 rfl rfl (Nat.le_of_ble_eq_true rfl) ha0 rfl (p_d1 hd (by decide)) (Nat.le_of_ble_eq_true rfl) ?_
    refine s_istore (pc := 36) (lo' := [(6, .int q9), (5, .int q7), (0, .ref a0), (1, .int x1), (2, .int x2), (3, .int x3), (4, .int x4)]) dX1_holds_36 (Nat.le_of_ble_eq_true rfl) rfl ?_
    refine s_aload_n (pc := 38) dX1_holds_38 2 rfl rfl ?_
    obtain ⟨q11, h12, hf⟩ := p_bd hf
    have t13 : p_tp N q11 10 := WT.get hW ha0 h12
    refine x_getR (pc := 39) dX1_holds_39 fl_X1_22 rfl ha0 h12 ?_
    obtain ⟨q14, h15, hf⟩ := p_bd hf
    have t16 : p_tp N q14 11 := WT.get hW t13 h15
    refine x_getR (pc := 42) dX1_holds_42 fl_X1_70 rfl t13 h15 ?_
    refine s_iload_n (pc := 45) dX1_holds_45 3 rfl rfl ?_
    refine s_iload_n (pc := 46) dX1_holds_46 4 rfl rfl ?_
    refine s_iconst (pc := 47) dX1_holds_47 (v := nI 3) rfl ?_
    refine s_iadd (pc := 48) dX1_holds_48 ?_
    obtain ⟨q17, h18, hf⟩ := p_bd hf
    refine y_callV1 (pc := 49) dX1_holds_49 (c_X8_get (p_dd hd (by decide)) hW t16 h18) mk_X8_get mv_X8_get ml_X1_42 rfl rfl (Nat.le_of_ble_eq_true rfl) t16 rfl (p_d1 hd (by decide)) (Nat.le_of_ble_eq_true rfl) ?_
    refine s_istore (pc := 52) (lo' := [(7, .int q17), (6, .int q9), (5, .int q7), (0, .ref a0), (1, .int x1), (2, .int x2), (3, .int x3), (4, .int x4)]) dX1_holds_52 (Nat.le_of_ble_eq_true rfl) rfl ?_
    refine s_aload_n (pc := 54) dX1_holds_54 3 rfl rfl ?_
    obtain ⟨q19, h20, hf⟩ := p_bd hf
    have t21 : p_tp N q19 10 := WT.get hW ha0 h20
    refine x_getR (pc := 55) dX1_holds_55 fl_X1_22 rfl ha0 h20 ?_
    obtain ⟨q22, h23, hf⟩ := p_bd hf
    have t24 : p_tp N q22 11 := WT.get hW t21 h23
    refine x_getR (pc := 58) dX1_holds_58 fl_X1_70 rfl t21 h23 ?_
    refine s_iload_n (pc := 61) dX1_holds_61 4 rfl rfl ?_
    refine s_iload_n (pc := 62) dX1_holds_62 5 rfl rfl ?_
    refine s_iconst (pc := 63) dX1_holds_63 (v := nI 2) rfl ?_
    refine s_iadd (pc := 64) dX1_holds_64 ?_
    obtain ⟨q25, h26, hf⟩ := p_bd hf
    refine y_callV1 (pc := 65) dX1_holds_65 (c_X8_get (p_dd hd (by decide)) hW t24 h26) mk_X8_get mv_X8_get ml_X1_42 rfl rfl (Nat.le_of_ble_eq_true rfl) t24 rfl (p_d1 hd (by decide)) (Nat.le_of_ble_eq_true rfl) ?_
    by_cases hc0 : q25 = nI 60
    · replace hf := p_ps hf hc0
      refine s_lookup (pc := 68) (tgt := 96) (off := 28) dX1_holds_68 (by decide) (by rw [hc0]; rfl) rfl ?_
      refine s_iload (pc := 96) dX1_holds_96 1 rfl ?_
      refine s_iload (pc := 98) dX1_holds_98 0 rfl ?_
      refine s_icmp_ge (pc := 100) (tgt := 107) dX1_holds_100 rfl (fun hc => ?_) (fun hc => ?_)
      · replace hf := p_ps hf hc
        refine s_iconst (pc := 107) dX1_holds_107 (v := nI 0) rfl ?_
        cases hf
        exact s_ireturn (pc := 108) dX1_holds_108 rfl rfl ⟨rfl, rfl, rfl, rfl, rfl⟩
      · replace hf := p_ng hf hc
        refine s_iconst (pc := 103) dX1_holds_103 (v := nI 1) rfl ?_
        refine s_goto (pc := 104) (tgt := 108) dX1_holds_104 rfl ?_
        cases hf
        exact s_ireturn (pc := 108) dX1_holds_108 rfl rfl ⟨rfl, rfl, rfl, rfl, rfl⟩
    · replace hf := p_ng hf hc0
      by_cases hc1 : q25 = nI 62
      · replace hf := p_ps hf hc1
        refine s_lookup (pc := 68) (tgt := 109) (off := 41) dX1_holds_68 (by decide) (by rw [hc1]; rfl) rfl ?_
        refine s_iload (pc := 109) dX1_holds_109 1 rfl ?_
        refine s_iload (pc := 111) dX1_holds_111 0 rfl ?_
        refine s_icmp_le (pc := 113) (tgt := 120) dX1_holds_113 rfl (fun hc => ?_) (fun hc => ?_)
        · replace hf := p_ps hf hc
          refine s_iconst (pc := 120) dX1_holds_120 (v := nI 0) rfl ?_
          cases hf
          exact s_ireturn (pc := 121) dX1_holds_121 rfl rfl ⟨rfl, rfl, rfl, rfl, rfl⟩
        · replace hf := p_ng hf hc
          refine s_iconst (pc := 116) dX1_holds_116 (v := nI 1) rfl ?_
          refine s_goto (pc := 117) (tgt := 121) dX1_holds_117 rfl ?_
          cases hf
          exact s_ireturn (pc := 121) dX1_holds_121 rfl rfl ⟨rfl, rfl, rfl, rfl, rfl⟩
      · replace hf := p_ng hf hc1
        refine s_lookup (pc := 68) (tgt := 122) (off := 54) dX1_holds_68 (by decide) (by simp [Op.lookupswitch.offset, p_ne hc0 (i := 60) rfl, (p_ne hc0 (i := 60) rfl).symm, p_ne hc1 (i := 62) rfl, (p_ne hc1 (i := 62) rfl).symm]) rfl ?_
        refine s_iload (pc := 122) dX1_holds_122 1 rfl ?_
        refine s_iload (pc := 124) dX1_holds_124 0 rfl ?_
        refine s_icmp_ne (pc := 126) (tgt := 133) dX1_holds_126 rfl (fun hc => ?_) (fun hc => ?_)
        · replace hf := p_ng hf hc
          refine s_iconst (pc := 133) dX1_holds_133 (v := nI 0) rfl ?_
          cases hf
          exact s_ireturn (pc := 134) dX1_holds_134 rfl rfl ⟨rfl, rfl, rfl, rfl, rfl⟩
        · replace hf := p_ps hf hc
          refine s_iconst (pc := 129) dX1_holds_129 (v := nI 1) rfl ?_
          refine s_goto (pc := 130) (tgt := 134) dX1_holds_130 rfl ?_
          cases hf
          exact s_ireturn (pc := 134) dX1_holds_134 rfl rfl ⟨rfl, rfl, rfl, rfl, rfl⟩
  · replace hf := p_ps hf hc
    refine s_aload_n (pc := 21) dX1_holds_21 1 rfl rfl ?_
    refine s_iload_n (pc := 22) dX1_holds_22 4 rfl rfl ?_
    obtain ⟨q27, h28, hf⟩ := p_bd hf
    refine y_callV1 (pc := 23) dX1_holds_23 (c_X1_isAlone (p_dd hd (by decide)) hW ha0 h28) mk_X1_isAlone mv_X1_isAlone ml_X1_87 rfl rfl (Nat.le_of_ble_eq_true rfl) ha0 rfl (p_d1 hd (by decide)) (Nat.le_of_ble_eq_true rfl) ?_
    obtain ⟨c29, hf⟩ := p_ckx hf
    cases hf
    exact s_ireturn (pc := 26) dX1_holds_26 rfl (p_nr (of_decide_eq_true c29)) ⟨rfl, rfl, rfl, rfl, rfl⟩
def B_X1_isFitting_17 (n : Nat) (N : pN) (I : pI) (P : pR) (x4 : Int32) (a0 : Nat) (x1 : Int32) (x2 : Int32) (x3 : Int32) (rec0 : Int32 → Option Int32) (s0 : Int32) : Option Int32 :=
  (if x4 ≤ s0 then
    some (nI 1)
  else
    Option.bind (f_X4_columnOf s0) fun q9 =>
    Option.bind (P a0 0) fun q11 =>
    Option.bind (P q11 7) fun q14 =>
    Option.bind (f_X8_get N I P q14 x1 (q9 + (nI 0))) fun q17 =>
    p_let (α := Int32) ((if q17 = (nI 1) then
      nI 1
    else
      nI 0)) fun t19 =>
    Option.bind (f_X1_holds n N I P a0 x1 q9 x2 x3) fun q21 =>
    (if q21 = t19 then
      some (nI 0)
    else
      rec0 (s0 + nI 1)))
def f_X1_isFitting (n : Nat) (N : pN) (I : pI) (P : pR) (a0 : Nat) (x1 : Int32) (x2 : Int32) (x3 : Int32) : Option Int32 :=
  Option.bind (P a0 0) fun q1 =>
  Option.bind (P q1 7) fun q4 =>
  Option.bind (f_X8_get N I P q4 x1 (nI 1)) fun q7 =>
  p_it (B_X1_isFitting_17 n N I P q7 a0 x1 x2 x3) n (nI 0)
theorem c_X1_isFitting {G : pG} {d : Nat} {n : Nat} {N : pN} {I : pI} {L : pL} {P : pR} {a0 : Nat} {x1 : Int32} {x2 : Int32} {x3 : Int32} {qq : Int32} (hd : 4 ≤ d) (hW : WT N P) (ha0 : p_tp N a0 4) (hf : f_X1_isFitting n N I P a0 x1 x2 x3 = some qq) : MT G mX1_isFitting d 0 0 [.ref a0, .int x1, .int x2, .int x3] N I L P (p_R (some (.int qq)) N I L P) := by
  refine MT.of rfl (Nat.le_of_ble_eq_true rfl) ?_
  show SW G mX1_isFitting (p_rm d 0 0) 0 0 0 0 (p_R (some (.int qq)) N I L P) 0 [(0, .ref a0), (1, .int x1), (2, .int x2), (3, .int x3)] [] N I L P
  unfold f_X1_isFitting at hf
  refine s_aload_n (pc := 0) dX1_isFitting_0 0 rfl rfl ?_
  obtain ⟨q1, h2, hf⟩ := p_bd hf
  have t3 : p_tp N q1 10 := WT.get hW ha0 h2
  refine x_getR (pc := 1) dX1_isFitting_1 fl_X1_22 rfl ha0 h2 ?_
  obtain ⟨q4, h5, hf⟩ := p_bd hf
  have t6 : p_tp N q4 11 := WT.get hW t3 h5
  refine x_getR (pc := 4) dX1_isFitting_4 fl_X1_70 rfl t3 h5 ?_
  refine s_iload_n (pc := 7) dX1_isFitting_7 1 rfl rfl ?_
  refine s_iconst (pc := 8) dX1_isFitting_8 (v := nI 1) rfl ?_
  obtain ⟨q7, h8, hf⟩ := p_bd hf
  refine y_callV1 (pc := 9) dX1_isFitting_9 (c_X8_get (p_dd hd (by decide)) hW t6 h8) mk_X8_get mv_X8_get ml_X1_42 rfl rfl (Nat.le_of_ble_eq_true rfl) t6 rfl (p_d1 hd (by decide)) (Nat.le_of_ble_eq_true rfl) ?_
  refine s_istore (pc := 12) (lo' := [(4, .int q7), (0, .ref a0), (1, .int x1), (2, .int x2), (3, .int x3)]) dX1_isFitting_12 (Nat.le_of_ble_eq_true rfl) rfl ?_
  refine s_iconst (pc := 14) dX1_isFitting_14 (v := nI 0) rfl ?_
  refine s_istore (pc := 15) (lo' := [(5, .int (nI 0)), (4, .int q7), (0, .ref a0), (1, .int x1), (2, .int x2), (3, .int x3)]) dX1_isFitting_15 (Nat.le_of_ble_eq_true rfl) rfl ?_
  have k23 : ∀ (k : Nat) (s0 : Int32), p_it (B_X1_isFitting_17 n N I P q7 a0 x1 x2 x3) k s0 = some qq → (SW G mX1_isFitting (p_rm d 0 0) 0 0 0 0 (p_R (some (.int qq)) N I L P) 17 [(4, .int q7), (0, .ref a0), (1, .int x1), (2, .int x2), (3, .int x3), (5, .int s0)] [] N I L P) := p_it_ind (C := fun (s0 : Int32) => SW G mX1_isFitting (p_rm d 0 0) 0 0 0 0 (p_R (some (.int qq)) N I L P) 17 [(4, .int q7), (0, .ref a0), (1, .int x1), (2, .int x2), (3, .int x3), (5, .int s0)] [] N I L P) (by
    intro rec0 hrec0 s0 hf
    unfold B_X1_isFitting_17 at hf
    refine s_iload (pc := 17) dX1_isFitting_17 5 rfl ?_
    refine s_iload (pc := 19) dX1_isFitting_19 0 rfl ?_
    refine s_icmp_ge (pc := 21) (tgt := 79) dX1_isFitting_21 rfl (fun hc => ?_) (fun hc => ?_)
    · replace hf := p_ps hf hc
      refine s_iconst (pc := 79) dX1_isFitting_79 (v := nI 1) rfl ?_
      cases hf
      exact s_ireturn (pc := 80) dX1_isFitting_80 rfl rfl ⟨rfl, rfl, rfl, rfl, rfl⟩
    · replace hf := p_ng hf hc
      refine s_iload (pc := 24) dX1_isFitting_24 5 rfl ?_
      obtain ⟨q24, h25, hf⟩ := p_bd hf
      refine y_callS1 (pc := 26) dX1_isFitting_26 (c_X4_columnOf (p_dd hd (by decide)) hW  h25) mk_X4_columnOf mz_X4_columnOf ml_X1_79 rfl rfl (Nat.le_of_ble_eq_true rfl) (p_d1 hd (by decide)) (Nat.le_of_ble_eq_true rfl) ?_
      refine s_istore (pc := 29) (lo' := [(6, .int q24), (4, .int q7), (0, .ref a0), (1, .int x1), (2, .int x2), (3, .int x3), (5, .int s0)]) dX1_isFitting_29 (Nat.le_of_ble_eq_true rfl) rfl ?_
      refine s_aload_n (pc := 31) dX1_isFitting_31 2 rfl rfl ?_
      obtain ⟨q26, h27, hf⟩ := p_bd hf
      have t28 : p_tp N q26 10 := WT.get hW ha0 h27
      refine x_getR (pc := 32) dX1_isFitting_32 fl_X1_22 rfl ha0 h27 ?_
      obtain ⟨q29, h30, hf⟩ := p_bd hf
      have t31 : p_tp N q29 11 := WT.get hW t28 h30
      refine x_getR (pc := 35) dX1_isFitting_35 fl_X1_70 rfl t28 h30 ?_
      refine s_iload_n (pc := 38) dX1_isFitting_38 3 rfl rfl ?_
      refine s_iload (pc := 39) dX1_isFitting_39 0 rfl ?_
      refine s_iconst (pc := 41) dX1_isFitting_41 (v := nI 0) rfl ?_
      refine s_iadd (pc := 42) dX1_isFitting_42 ?_
      obtain ⟨q32, h33, hf⟩ := p_bd hf
      refine y_callV1 (pc := 43) dX1_isFitting_43 (c_X8_get (p_dd hd (by decide)) hW t31 h33) mk_X8_get mv_X8_get ml_X1_42 rfl rfl (Nat.le_of_ble_eq_true rfl) t31 rfl (p_d1 hd (by decide)) (Nat.le_of_ble_eq_true rfl) ?_
      refine s_iconst (pc := 46) dX1_isFitting_46 (v := nI 1) rfl ?_
      obtain ⟨t34, hg, hf⟩ := p_lx2 hf
      have k35 : SW G mX1_isFitting (p_rm d 0 0) 0 0 0 0 (p_R (some (.int qq)) N I L P) 55 [(6, .int q24), (4, .int q7), (0, .ref a0), (1, .int x1), (2, .int x2), (3, .int x3), (5, .int s0)] [.int t34] N I L P := by
        refine s_istore (pc := 55) (lo' := [(7, .int t34), (6, .int q24), (4, .int q7), (0, .ref a0), (1, .int x1), (2, .int x2), (3, .int x3), (5, .int s0)]) dX1_isFitting_55 (Nat.le_of_ble_eq_true rfl) rfl ?_
        refine s_aload_n (pc := 57) dX1_isFitting_57 3 rfl rfl ?_
        refine s_iload_n (pc := 58) dX1_isFitting_58 4 rfl rfl ?_
        refine s_iload (pc := 59) dX1_isFitting_59 1 rfl ?_
        refine s_iload_n (pc := 61) dX1_isFitting_61 5 rfl rfl ?_
        refine s_iload_n (pc := 62) dX1_isFitting_62 6 rfl rfl ?_
        obtain ⟨q36, h37, hf⟩ := p_bd hf
        refine y_callV1 (pc := 63) dX1_isFitting_63 (c_X1_holds (p_dd hd (by decide)) hW ha0 h37) mk_X1_holds mv_X1_holds ml_X1_83 rfl rfl (Nat.le_of_ble_eq_true rfl) ha0 rfl (p_d1 hd (by decide)) (Nat.le_of_ble_eq_true rfl) ?_
        refine s_iload (pc := 66) dX1_isFitting_66 0 rfl ?_
        refine s_icmp_ne (pc := 68) (tgt := 73) dX1_isFitting_68 rfl (fun hc => ?_) (fun hc => ?_)
        · replace hf := p_ng hf hc
          refine s_iinc (pc := 73) (lo' := [(5, .int (s0 + nI 1)), (7, .int t34), (6, .int q24), (4, .int q7), (0, .ref a0), (1, .int x1), (2, .int x2), (3, .int x3)]) dX1_isFitting_73 7 rfl (v := s0 + nI 1) rfl (Nat.le_of_ble_eq_true rfl) rfl ?_
          refine s_goto (pc := 76) (tgt := 17) dX1_isFitting_76 rfl ?_
          exact s_lo [3, 4, 5, 6, 7, 0] rfl (hrec0 (s0 + nI 1) hf)
        · replace hf := p_ps hf hc
          refine s_iconst (pc := 71) dX1_isFitting_71 (v := nI 0) rfl ?_
          cases hf
          exact s_ireturn (pc := 72) dX1_isFitting_72 rfl rfl ⟨rfl, rfl, rfl, rfl, rfl⟩
      replace hf := hg.symm
      refine s_icmp_ne (pc := 47) (tgt := 54) dX1_isFitting_47 rfl (fun hc => ?_) (fun hc => ?_)
      · replace hf := p_ng hf hc
        refine s_iconst (pc := 54) dX1_isFitting_54 (v := nI 0) rfl ?_
        cases hf
        exact s_lo [0, 1, 2, 3, 4, 5, 6] rfl (k35)
      · replace hf := p_ps hf hc
        refine s_iconst (pc := 50) dX1_isFitting_50 (v := nI 1) rfl ?_
        refine s_goto (pc := 51) (tgt := 55) dX1_isFitting_51 rfl ?_
        cases hf
        exact s_lo [0, 1, 2, 3, 4, 5, 6] rfl (k35))
  exact s_lo [1, 2, 3, 4, 5, 0] rfl (k23 n (nI 0) hf)
def B_X1_lineFor_2 (n : Nat) (N : pN) (I : pI) (P : pR) (a0 : Nat) (x1 : Int32) (x2 : Int32) (rec0 : Int32 → Option Int32) (s0 : Int32) : Option Int32 :=
  Option.bind (P a0 0) fun q1 =>
  Option.bind (P q1 7) fun q4 =>
  Option.bind (f_X8_size I q4) fun q7 =>
  (if q7 ≤ s0 then
    some (-1)
  else
    Option.bind (f_X1_isFitting n N I P a0 s0 x1 x2) fun q9 =>
    (if q9 = 0 then
      rec0 (s0 + nI 1)
    else
      some s0))
def f_X1_lineFor (n : Nat) (N : pN) (I : pI) (P : pR) (a0 : Nat) (x1 : Int32) (x2 : Int32) : Option Int32 :=
  p_it (B_X1_lineFor_2 n N I P a0 x1 x2) n (nI 0)
theorem c_X1_lineFor {G : pG} {d : Nat} {n : Nat} {N : pN} {I : pI} {L : pL} {P : pR} {a0 : Nat} {x1 : Int32} {x2 : Int32} {qq : Int32} (hd : 5 ≤ d) (hW : WT N P) (ha0 : p_tp N a0 4) (hf : f_X1_lineFor n N I P a0 x1 x2 = some qq) : MT G mX1_lineFor d 0 0 [.ref a0, .int x1, .int x2] N I L P (p_R (some (.int qq)) N I L P) := by
  refine MT.of rfl (Nat.le_of_ble_eq_true rfl) ?_
  show SW G mX1_lineFor (p_rm d 0 0) 0 0 0 0 (p_R (some (.int qq)) N I L P) 0 [(0, .ref a0), (1, .int x1), (2, .int x2)] [] N I L P
  unfold f_X1_lineFor at hf
  refine s_iconst (pc := 0) dX1_lineFor_0 (v := nI 0) rfl ?_
  refine s_istore_n (pc := 1) (lo' := [(3, .int (nI 0)), (0, .ref a0), (1, .int x1), (2, .int x2)]) dX1_lineFor_1 rfl (Nat.le_of_ble_eq_true rfl) rfl ?_
  have k11 : ∀ (k : Nat) (s0 : Int32), p_it (B_X1_lineFor_2 n N I P a0 x1 x2) k s0 = some qq → (SW G mX1_lineFor (p_rm d 0 0) 0 0 0 0 (p_R (some (.int qq)) N I L P) 2 [(0, .ref a0), (1, .int x1), (2, .int x2), (3, .int s0)] [] N I L P) := p_it_ind (C := fun (s0 : Int32) => SW G mX1_lineFor (p_rm d 0 0) 0 0 0 0 (p_R (some (.int qq)) N I L P) 2 [(0, .ref a0), (1, .int x1), (2, .int x2), (3, .int s0)] [] N I L P) (by
    intro rec0 hrec0 s0 hf
    unfold B_X1_lineFor_2 at hf
    refine s_iload_n (pc := 2) dX1_lineFor_2 3 rfl rfl ?_
    refine s_aload_n (pc := 3) dX1_lineFor_3 0 rfl rfl ?_
    obtain ⟨q12, h13, hf⟩ := p_bd hf
    have t14 : p_tp N q12 10 := WT.get hW ha0 h13
    refine x_getR (pc := 4) dX1_lineFor_4 fl_X1_22 rfl ha0 h13 ?_
    obtain ⟨q15, h16, hf⟩ := p_bd hf
    have t17 : p_tp N q15 11 := WT.get hW t14 h16
    refine x_getR (pc := 7) dX1_lineFor_7 fl_X1_70 rfl t14 h16 ?_
    obtain ⟨q18, h19, hf⟩ := p_bd hf
    refine y_callV1 (pc := 10) dX1_lineFor_10 (c_X8_size (p_dd hd (by decide)) hW t17 h19) mk_X8_size mv_X8_size ml_X1_36 rfl rfl (Nat.le_of_ble_eq_true rfl) t17 rfl (p_d1 hd (by decide)) (Nat.le_of_ble_eq_true rfl) ?_
    refine s_icmp_ge (pc := 13) (tgt := 34) dX1_lineFor_13 rfl (fun hc => ?_) (fun hc => ?_)
    · replace hf := p_ps hf hc
      refine s_iconst (pc := 34) dX1_lineFor_34 (v := (-1)) rfl ?_
      cases hf
      exact s_ireturn (pc := 35) dX1_lineFor_35 rfl rfl ⟨rfl, rfl, rfl, rfl, rfl⟩
    · replace hf := p_ng hf hc
      refine s_aload_n (pc := 16) dX1_lineFor_16 0 rfl rfl ?_
      refine s_iload_n (pc := 17) dX1_lineFor_17 3 rfl rfl ?_
      refine s_iload_n (pc := 18) dX1_lineFor_18 1 rfl rfl ?_
      refine s_iload_n (pc := 19) dX1_lineFor_19 2 rfl rfl ?_
      obtain ⟨q20, h21, hf⟩ := p_bd hf
      refine y_callV1 (pc := 20) dX1_lineFor_20 (c_X1_isFitting (p_dd hd (by decide)) hW ha0 h21) mk_X1_isFitting mv_X1_isFitting ml_X1_75 rfl rfl (Nat.le_of_ble_eq_true rfl) ha0 rfl (p_d1 hd (by decide)) (Nat.le_of_ble_eq_true rfl) ?_
      refine s_if_eq (pc := 23) (tgt := 28) dX1_lineFor_23 rfl (fun hc => ?_) (fun hc => ?_)
      · replace hf := p_ps hf hc
        refine s_iinc (pc := 28) (lo' := [(3, .int (s0 + nI 1)), (0, .ref a0), (1, .int x1), (2, .int x2)]) dX1_lineFor_28 3 rfl (v := s0 + nI 1) rfl (Nat.le_of_ble_eq_true rfl) rfl ?_
        refine s_goto (pc := 31) (tgt := 2) dX1_lineFor_31 rfl ?_
        exact s_lo [1, 2, 3, 0] rfl (hrec0 (s0 + nI 1) hf)
      · replace hf := p_ng hf hc
        refine s_iload_n (pc := 26) dX1_lineFor_26 3 rfl rfl ?_
        cases hf
        exact s_ireturn (pc := 27) dX1_lineFor_27 rfl rfl ⟨rfl, rfl, rfl, rfl, rfl⟩)
  exact s_lo [1, 2, 3, 0] rfl (k11 n (nI 0) hf)
def B_X1_findBreach_32 (n : Nat) (N : pN) (P : pR) (a0 : Nat) (x1 : Int32) (rec1 : (Int32 × pI) → Option pI) (s1 : Int32 × pI) : Option pI :=
  (if (nI 6) ≤ s1.1 then
    some s1.2
  else
    (if (s1.2 a0 3) = (-1) then
      Option.bind (P a0 0) fun q11 =>
      Option.bind (f_X7_senderStands N s1.2 P q11 s1.1) fun q14 =>
      Option.bind (α := Int32) ((if q14 = 0 then
        some (-1)
      else
        Option.bind (f_X1_lineFor n N s1.2 P a0 s1.1 x1) fun q18 =>
        some q18)) fun t16 =>
      Option.bind (P a0 0) fun q20 =>
      Option.bind (P q20 7) fun q23 =>
      Option.bind (f_X8_get N s1.2 P q23 t16 (nI 0)) fun q26 =>
      Option.bind (α := pI) ((if q26 = (nI 1) then
        p_let (p_u s1.2 a0 3 x1) fun I30 =>
        p_let (p_u I30 a0 4 s1.1) fun I32 =>
        some I32
      else
        some s1.2)) fun t28 =>
      rec1 (s1.1 + nI 1, t28)
    else
      some s1.2))
def B_X1_findBreach_16 (n : Nat) (N : pN) (P : pR) (a0 : Nat) (rec0 : (Int32 × pI) → Option pI) (s0 : Int32 × pI) : Option pI :=
  (if (nI 24) ≤ s0.1 then
    some s0.2
  else
    (if (s0.2 a0 3) = (-1) then
      Option.bind (p_it (B_X1_findBreach_32 n N P a0 s0.1) n (nI 0, s0.2)) fun t9 =>
      rec0 (s0.1 + nI 1, t9)
    else
      some s0.2))
def f_X1_findBreach (n : Nat) (N : pN) (I : pI) (L : pL) (P : pR) (a0 : Nat) : Option (pI × pL) :=
  p_let (p_u I a0 3 (-1)) fun I1 =>
  p_let (p_u I1 a0 4 (-1)) fun I3 =>
  Option.bind (f_X1_hearSenders n N I3 L P a0) fun q5 =>
  Option.bind (p_it (B_X1_findBreach_16 n N P a0) n (nI 0, q5.1)) fun t7 =>
  some (t7, q5.2)
theorem c_X1_findBreach {G : pG} {d : Nat} {n : Nat} {N : pN} {I : pI} {L : pL} {P : pR} {a0 : Nat} {qq : pI × pL} (hd : 6 ≤ d) (hW : WT N P) (ha0 : p_tp N a0 4) (hf : f_X1_findBreach n N I L P a0 = some qq) : MT G mX1_findBreach d 0 0 [.ref a0] N I L P (p_R none N qq.1 qq.2 P) := by
  refine MT.of rfl (Nat.le_of_ble_eq_true rfl) ?_
  show SW G mX1_findBreach (p_rm d 0 0) 0 0 0 0 (p_R none N qq.1 qq.2 P) 0 [(0, .ref a0)] [] N I L P
  unfold f_X1_findBreach at hf
  refine s_aload_n (pc := 0) dX1_findBreach_0 0 rfl rfl ?_
  refine s_iconst (pc := 1) dX1_findBreach_1 (v := (-1)) rfl ?_
  refine x_putI (pc := 2) dX1_findBreach_2 fl_X1_15 (Or.inl rfl) rfl ha0 ?_
  refine s_nmI (fun I1 e2 => ?_)
  replace hf := p_lx hf e2
  refine s_aload_n (pc := 5) dX1_findBreach_5 0 rfl rfl ?_
  refine s_iconst (pc := 6) dX1_findBreach_6 (v := (-1)) rfl ?_
  refine x_putI (pc := 7) dX1_findBreach_7 fl_X1_19 (Or.inl rfl) rfl ha0 ?_
  refine s_nmI (fun I3 e4 => ?_)
  replace hf := p_lx hf e4
  refine s_aload_n (pc := 10) dX1_findBreach_10 0 rfl rfl ?_
  obtain ⟨q5, h6, hf⟩ := p_bd hf
  refine y_callV0 (pc := 11) dX1_findBreach_11 (c_X1_hearSenders (p_dd hd (by decide)) hW ha0 h6) mk_X1_hearSenders mv_X1_hearSenders ml_X1_60 rfl rfl (Nat.le_of_ble_eq_true rfl) ha0 rfl (p_d1 hd (by decide)) (Nat.le_of_ble_eq_true rfl) ?_
  refine s_iconst (pc := 14) dX1_findBreach_14 (v := nI 0) rfl ?_
  refine s_istore_n (pc := 15) (lo' := [(1, .int (nI 0)), (0, .ref a0)]) dX1_findBreach_15 rfl (Nat.le_of_ble_eq_true rfl) rfl ?_
  obtain ⟨t7, hg, hf⟩ := p_bd hf
  have k8 : SW G mX1_findBreach (p_rm d 0 0) 0 0 0 0 (p_R none N qq.1 qq.2 P) 106 [] [] N t7 q5.2 P := by
    cases hf
    exact s_return (pc := 106) dX1_findBreach_106 rfl ⟨rfl, rfl, rfl, rfl, rfl⟩
  replace hf := hg
  have k58 : ∀ (k : Nat) (s0 : Int32 × pI), p_it (B_X1_findBreach_16 n N P a0) k s0 = some t7 → (SW G mX1_findBreach (p_rm d 0 0) 0 0 0 0 (p_R none N qq.1 qq.2 P) 16 [(0, .ref a0), (1, .int s0.1)] [] N s0.2 q5.2 P) := p_it_ind (C := fun (s0 : Int32 × pI) => SW G mX1_findBreach (p_rm d 0 0) 0 0 0 0 (p_R none N qq.1 qq.2 P) 16 [(0, .ref a0), (1, .int s0.1)] [] N s0.2 q5.2 P) (by
    intro rec0 hrec0 s0 hf
    unfold B_X1_findBreach_16 at hf
    refine s_iload_n (pc := 16) dX1_findBreach_16 1 rfl rfl ?_
    refine s_bipush (pc := 17) dX1_findBreach_17 (v := nI 24) rfl ?_
    refine s_icmp_ge (pc := 19) (tgt := 106) dX1_findBreach_19 rfl (fun hc => ?_) (fun hc => ?_)
    · replace hf := p_ps hf hc
      cases hf
      exact s_lo [] rfl (k8)
    · replace hf := p_ng hf hc
      refine s_aload_n (pc := 22) dX1_findBreach_22 0 rfl rfl ?_
      refine x_getI (pc := 23) dX1_findBreach_23 fl_X1_15 rfl ha0 ?_
      refine s_iconst (pc := 26) dX1_findBreach_26 (v := (-1)) rfl ?_
      refine s_icmp_ne (pc := 27) (tgt := 106) dX1_findBreach_27 rfl (fun hc => ?_) (fun hc => ?_)
      · replace hf := p_ng hf hc
        cases hf
        exact s_lo [] rfl (k8)
      · replace hf := p_ps hf hc
        refine s_iconst (pc := 30) dX1_findBreach_30 (v := nI 0) rfl ?_
        refine s_istore_n (pc := 31) (lo' := [(2, .int (nI 0)), (0, .ref a0), (1, .int s0.1)]) dX1_findBreach_31 rfl (Nat.le_of_ble_eq_true rfl) rfl ?_
        obtain ⟨t59, hg, hf⟩ := p_bd hf
        have k60 : SW G mX1_findBreach (p_rm d 0 0) 0 0 0 0 (p_R none N qq.1 qq.2 P) 100 [(0, .ref a0), (1, .int s0.1)] [] N t59 q5.2 P := by
          refine s_iinc (pc := 100) (lo' := [(1, .int (s0.1 + nI 1)), (0, .ref a0)]) dX1_findBreach_100 1 rfl (v := s0.1 + nI 1) rfl (Nat.le_of_ble_eq_true rfl) rfl ?_
          refine s_goto (pc := 103) (tgt := 16) dX1_findBreach_103 rfl ?_
          exact s_lo [1, 0] rfl (hrec0 (s0.1 + nI 1, t59) hf)
        replace hf := hg
        have k61 : ∀ (k : Nat) (s1 : Int32 × pI), p_it (B_X1_findBreach_32 n N P a0 s0.1) k s1 = some t59 → (SW G mX1_findBreach (p_rm d 0 0) 0 0 0 0 (p_R none N qq.1 qq.2 P) 32 [(0, .ref a0), (1, .int s0.1), (2, .int s1.1)] [] N s1.2 q5.2 P) := p_it_ind (C := fun (s1 : Int32 × pI) => SW G mX1_findBreach (p_rm d 0 0) 0 0 0 0 (p_R none N qq.1 qq.2 P) 32 [(0, .ref a0), (1, .int s0.1), (2, .int s1.1)] [] N s1.2 q5.2 P) (by
          intro rec1 hrec1 s1 hf
          unfold B_X1_findBreach_32 at hf
          refine s_iload_n (pc := 32) dX1_findBreach_32 2 rfl rfl ?_
          refine s_bipush (pc := 33) dX1_findBreach_33 (v := nI 6) rfl ?_
          refine s_icmp_ge (pc := 35) (tgt := 100) dX1_findBreach_35 rfl (fun hc => ?_) (fun hc => ?_)
          · replace hf := p_ps hf hc
            cases hf
            exact s_lo [0, 1] rfl (k60)
          · replace hf := p_ng hf hc
            refine s_aload_n (pc := 38) dX1_findBreach_38 0 rfl rfl ?_
            refine x_getI (pc := 39) dX1_findBreach_39 fl_X1_15 rfl ha0 ?_
            refine s_iconst (pc := 42) dX1_findBreach_42 (v := (-1)) rfl ?_
            refine s_icmp_ne (pc := 43) (tgt := 100) dX1_findBreach_43 rfl (fun hc => ?_) (fun hc => ?_)
            · replace hf := p_ng hf hc
              cases hf
              exact s_lo [0, 1] rfl (k60)
            · replace hf := p_ps hf hc
              refine s_aload_n (pc := 46) dX1_findBreach_46 0 rfl rfl ?_
              obtain ⟨q62, h63, hf⟩ := p_bd hf
              have t64 : p_tp N q62 10 := WT.get hW ha0 h63
              refine x_getR (pc := 47) dX1_findBreach_47 fl_X1_22 rfl ha0 h63 ?_
              refine s_iload_n (pc := 50) dX1_findBreach_50 2 rfl rfl ?_
              obtain ⟨q65, h66, hf⟩ := p_bd hf
              refine y_callV1 (pc := 51) dX1_findBreach_51 (c_X7_senderStands (p_dd hd (by decide)) hW t64 h66) mk_X7_senderStands mv_X7_senderStands ml_X1_63 rfl rfl (Nat.le_of_ble_eq_true rfl) t64 rfl (p_d1 hd (by decide)) (Nat.le_of_ble_eq_true rfl) ?_
              obtain ⟨t67, hg, hf⟩ := p_bd hf
              have k68 : SW G mX1_findBreach (p_rm d 0 0) 0 0 0 0 (p_R none N qq.1 qq.2 P) 67 [(0, .ref a0), (1, .int s0.1), (2, .int s1.1)] [.int t67] N s1.2 q5.2 P := by
                refine s_istore_n (pc := 67) (lo' := [(3, .int t67), (0, .ref a0), (1, .int s0.1), (2, .int s1.1)]) dX1_findBreach_67 rfl (Nat.le_of_ble_eq_true rfl) rfl ?_
                refine s_aload_n (pc := 68) dX1_findBreach_68 1 rfl rfl ?_
                obtain ⟨q71, h72, hf⟩ := p_bd hf
                have t73 : p_tp N q71 10 := WT.get hW ha0 h72
                refine x_getR (pc := 69) dX1_findBreach_69 fl_X1_22 rfl ha0 h72 ?_
                obtain ⟨q74, h75, hf⟩ := p_bd hf
                have t76 : p_tp N q74 11 := WT.get hW t73 h75
                refine x_getR (pc := 72) dX1_findBreach_72 fl_X1_70 rfl t73 h75 ?_
                refine s_iload_n (pc := 75) dX1_findBreach_75 0 rfl rfl ?_
                refine s_iconst (pc := 76) dX1_findBreach_76 (v := nI 0) rfl ?_
                obtain ⟨q77, h78, hf⟩ := p_bd hf
                refine y_callV1 (pc := 77) dX1_findBreach_77 (c_X8_get (p_dd hd (by decide)) hW t76 h78) mk_X8_get mv_X8_get ml_X1_42 rfl rfl (Nat.le_of_ble_eq_true rfl) t76 rfl (p_d1 hd (by decide)) (Nat.le_of_ble_eq_true rfl) ?_
                refine s_iconst (pc := 80) dX1_findBreach_80 (v := nI 1) rfl ?_
                obtain ⟨t79, hg, hf⟩ := p_bd hf
                have k80 : SW G mX1_findBreach (p_rm d 0 0) 0 0 0 0 (p_R none N qq.1 qq.2 P) 94 [(0, .ref a0), (1, .int s0.1), (2, .int s1.1)] [] N t79 q5.2 P := by
                  refine s_iinc (pc := 94) (lo' := [(2, .int (s1.1 + nI 1)), (0, .ref a0), (1, .int s0.1)]) dX1_findBreach_94 2 rfl (v := s1.1 + nI 1) rfl (Nat.le_of_ble_eq_true rfl) rfl ?_
                  refine s_goto (pc := 97) (tgt := 32) dX1_findBreach_97 rfl ?_
                  exact s_lo [1, 2, 0] rfl (hrec1 (s1.1 + nI 1, t79) hf)
                replace hf := hg
                refine s_icmp_ne (pc := 81) (tgt := 94) dX1_findBreach_81 rfl (fun hc => ?_) (fun hc => ?_)
                · replace hf := p_ng hf hc
                  cases hf
                  exact s_lo [1, 2, 3] rfl (k80)
                · replace hf := p_ps hf hc
                  refine s_aload_n (pc := 84) dX1_findBreach_84 1 rfl rfl ?_
                  refine s_iload_n (pc := 85) dX1_findBreach_85 2 rfl rfl ?_
                  refine x_putI (pc := 86) dX1_findBreach_86 fl_X1_15 (Or.inl rfl) rfl ha0 ?_
                  refine s_nmI (fun I81 e82 => ?_)
                  replace hf := p_lx hf e82
                  refine s_aload_n (pc := 89) dX1_findBreach_89 1 rfl rfl ?_
                  refine s_iload_n (pc := 90) dX1_findBreach_90 3 rfl rfl ?_
                  refine x_putI (pc := 91) dX1_findBreach_91 fl_X1_19 (Or.inl rfl) rfl ha0 ?_
                  refine s_nmI (fun I83 e84 => ?_)
                  replace hf := p_lx hf e84
                  cases hf
                  exact s_lo [1, 2, 3] rfl (k80)
              replace hf := hg
              refine s_if_eq (pc := 54) (tgt := 66) dX1_findBreach_54 rfl (fun hc => ?_) (fun hc => ?_)
              · replace hf := p_ps hf hc
                refine s_iconst (pc := 66) dX1_findBreach_66 (v := (-1)) rfl ?_
                cases hf
                exact s_lo [0, 1, 2] rfl (k68)
              · replace hf := p_ng hf hc
                refine s_aload_n (pc := 57) dX1_findBreach_57 0 rfl rfl ?_
                refine s_iload_n (pc := 58) dX1_findBreach_58 2 rfl rfl ?_
                refine s_iload_n (pc := 59) dX1_findBreach_59 1 rfl rfl ?_
                obtain ⟨q69, h70, hf⟩ := p_bd hf
                refine y_callV1 (pc := 60) dX1_findBreach_60 (c_X1_lineFor (p_dd hd (by decide)) hW ha0 h70) mk_X1_lineFor mv_X1_lineFor ml_X1_67 rfl rfl (Nat.le_of_ble_eq_true rfl) ha0 rfl (p_d1 hd (by decide)) (Nat.le_of_ble_eq_true rfl) ?_
                refine s_goto (pc := 63) (tgt := 67) dX1_findBreach_63 rfl ?_
                cases hf
                exact s_lo [0, 1, 2] rfl (k68))
        exact s_lo [1, 2, 0] rfl (k61 n (nI 0, s0.2) hf))
  exact s_lo [1, 0] rfl (k58 n (nI 0, q5.1) hf)
def f_X7_setting (N : pN) (I : pI) (P : pR) (a0 : Nat) (x1 : Int32) : Option Int32 :=
  Option.bind (P a0 6) fun q1 =>
  Option.bind (f_X8_get N I P q1 x1 (nI 0)) fun q4 =>
  some q4
theorem c_X7_setting {G : pG} {d : Nat} {N : pN} {I : pI} {L : pL} {P : pR} {a0 : Nat} {x1 : Int32} {qq : Int32} (hd : 1 ≤ d) (hW : WT N P) (ha0 : p_tp N a0 10) (hf : f_X7_setting N I P a0 x1 = some qq) : MT G mX7_setting d 0 0 [.ref a0, .int x1] N I L P (p_R (some (.int qq)) N I L P) := by
  refine MT.of rfl (Nat.le_of_ble_eq_true rfl) ?_
  show SW G mX7_setting (p_rm d 0 0) 0 0 0 0 (p_R (some (.int qq)) N I L P) 0 [(0, .ref a0), (1, .int x1)] [] N I L P
  unfold f_X7_setting at hf
  refine s_aload_n (pc := 0) dX7_setting_0 0 rfl rfl ?_
  obtain ⟨q1, h2, hf⟩ := p_bd hf
  have t3 : p_tp N q1 11 := WT.get hW ha0 h2
  refine x_getR (pc := 1) dX7_setting_1 fl_X7_39 rfl ha0 h2 ?_
  refine s_iload_n (pc := 4) dX7_setting_4 1 rfl rfl ?_
  refine s_iconst (pc := 5) dX7_setting_5 (v := nI 0) rfl ?_
  obtain ⟨q4, h5, hf⟩ := p_bd hf
  refine y_callV1 (pc := 6) dX7_setting_6 (c_X8_get (p_dd hd (by decide)) hW t3 h5) mk_X8_get mv_X8_get ml_X7_75 rfl rfl (Nat.le_of_ble_eq_true rfl) t3 rfl (p_d1 hd (by decide)) (Nat.le_of_ble_eq_true rfl) ?_
  cases hf
  exact s_ireturn (pc := 9) dX7_setting_9 rfl rfl ⟨rfl, rfl, rfl, rfl, rfl⟩
def B_X2_build_23 (N : pN) (P : pR) (a1 : Nat) (rec0 : ((Option Nat) × pI) → Option pI) (s0 : (Option Nat) × pI) : Option pI :=
  p_cs s0.1 (some s0.2) fun q12 =>
  Option.bind (f_X0_build N s0.2 P q12 a1) fun q15 =>
  rec0 (P q12 1, q15)
def f_X2_build (n : Nat) (N : pN) (I : pI) (P : pR) (a0 : Nat) (a1 : Nat) : Option pI :=
  Option.bind (f_X7_setting N I P a1 (nI 0)) fun q1 =>
  p_let (p_u I a0 10 q1) fun I3 =>
  Option.bind (f_X7_setting N I3 P a1 (nI 1)) fun q5 =>
  p_let (p_u I3 a0 11 q5) fun I7 =>
  Option.bind (p_it (B_X2_build_23 N P a1) n (P a0 0, I7)) fun t9 =>
  some t9
theorem c_X2_build {G : pG} {d : Nat} {n : Nat} {N : pN} {I : pI} {L : pL} {P : pR} {a0 : Nat} {a1 : Nat} {qq : pI} (hd : 3 ≤ d) (hW : WT N P) (ha0 : p_tp N a0 5) (ha1 : p_tp N a1 10) (hf : f_X2_build n N I P a0 a1 = some qq) : MT G mX2_build d 0 0 [.ref a0, .ref a1] N I L P (p_R none N qq L P) := by
  refine MT.of rfl (Nat.le_of_ble_eq_true rfl) ?_
  show SW G mX2_build (p_rm d 0 0) 0 0 0 0 (p_R none N qq L P) 0 [(0, .ref a0), (1, .ref a1)] [] N I L P
  unfold f_X2_build at hf
  refine s_aload_n (pc := 0) dX2_build_0 0 rfl rfl ?_
  refine s_aload_n (pc := 1) dX2_build_1 1 rfl rfl ?_
  refine s_iconst (pc := 2) dX2_build_2 (v := nI 0) rfl ?_
  obtain ⟨q1, h2, hf⟩ := p_bd hf
  refine y_callV1 (pc := 3) dX2_build_3 (c_X7_setting (p_dd hd (by decide)) hW ha1 h2) mk_X7_setting mv_X7_setting ml_X2_71 rfl rfl (Nat.le_of_ble_eq_true rfl) ha1 rfl (p_d1 hd (by decide)) (Nat.le_of_ble_eq_true rfl) ?_
  refine x_putI (pc := 6) dX2_build_6 fl_X2_49 (Or.inl rfl) rfl ha0 ?_
  refine s_nmI (fun I3 e4 => ?_)
  replace hf := p_lx hf e4
  refine s_aload_n (pc := 9) dX2_build_9 0 rfl rfl ?_
  refine s_aload_n (pc := 10) dX2_build_10 1 rfl rfl ?_
  refine s_iconst (pc := 11) dX2_build_11 (v := nI 1) rfl ?_
  obtain ⟨q5, h6, hf⟩ := p_bd hf
  refine y_callV1 (pc := 12) dX2_build_12 (c_X7_setting (p_dd hd (by decide)) hW ha1 h6) mk_X7_setting mv_X7_setting ml_X2_71 rfl rfl (Nat.le_of_ble_eq_true rfl) ha1 rfl (p_d1 hd (by decide)) (Nat.le_of_ble_eq_true rfl) ?_
  refine x_putI (pc := 15) dX2_build_15 fl_X2_53 (Or.inl rfl) rfl ha0 ?_
  refine s_nmI (fun I7 e8 => ?_)
  replace hf := p_lx hf e8
  refine s_aload_n (pc := 18) dX2_build_18 0 rfl rfl ?_
  refine x_getQ (pc := 19) dX2_build_19 fl_X2_67 rfl ha0 ?_
  refine x_astoreQ_n (pc := 22) (lo' := [(2, va_rf (P a0 0)), (0, .ref a0), (1, .ref a1)]) dX2_build_22 rfl (Nat.le_of_ble_eq_true rfl) rfl ?_
  obtain ⟨t9, hg, hf⟩ := p_bd hf
  have k10 : SW G mX2_build (p_rm d 0 0) 0 0 0 0 (p_R none N qq L P) 40 [] [] N t9 L P := by
    cases hf
    exact s_return (pc := 40) dX2_build_40 rfl ⟨rfl, rfl, rfl, rfl, rfl⟩
  replace hf := hg
  have k18 : ∀ (k : Nat) (s0 : (Option Nat) × pI), p_it (B_X2_build_23 N P a1) k s0 = some t9 → ((∀ q, s0.1 = some q → p_tp N q 3) → SW G mX2_build (p_rm d 0 0) 0 0 0 0 (p_R none N qq L P) 23 [(1, .ref a1), (2, va_rf s0.1)] [] N s0.2 L P) := p_it_ind (C := fun (s0 : (Option Nat) × pI) => (∀ q, s0.1 = some q → p_tp N q 3) → SW G mX2_build (p_rm d 0 0) 0 0 0 0 (p_R none N qq L P) 23 [(1, .ref a1), (2, va_rf s0.1)] [] N s0.2 L P) (by
    intro rec0 hrec0 s0 hf y17
    unfold B_X2_build_23 at hf
    refine x_aloadQ_n (pc := 23) dX2_build_23 1 rfl rfl ?_
    refine y_ifnull (pc := 24) (tgt := 40) dX2_build_24 rfl (fun hc => ?_) (fun q19 h20 => ?_)
    · replace hf := p_cs_n hf hc
      cases hf
      exact s_lo [] rfl (k10)
    · have t21 : p_tp N q19 3 := y17 q19 h20
      replace hf := p_cs_s hf h20
      have hz : va_rf s0.1 = .ref q19 := by rw [h20]; rfl
      rw [hz]
      refine s_aload_n (pc := 27) dX2_build_27 1 rfl rfl ?_
      refine s_aload_n (pc := 28) dX2_build_28 0 rfl rfl ?_
      obtain ⟨q22, h23, hf⟩ := p_bd hf
      refine y_callV0 (pc := 29) dX2_build_29 (c_X0_build (p_dd hd (by decide)) hW t21 ha1 h23) mk_X0_build mv_X0_build ml_X2_77 rfl rfl (Nat.le_of_ble_eq_true rfl) t21 rfl (p_d1 hd (by decide)) (Nat.le_of_ble_eq_true rfl) ?_
      refine s_aload_n (pc := 32) dX2_build_32 1 rfl rfl ?_
      refine x_getQ (pc := 33) dX2_build_33 fl_X2_81 rfl t21 ?_
      refine x_astoreQ_n (pc := 36) (lo' := [(2, va_rf (P q19 1)), (1, .ref a1)]) dX2_build_36 rfl (Nat.le_of_ble_eq_true rfl) rfl ?_
      refine s_goto (pc := 37) (tgt := 23) dX2_build_37 rfl ?_
      exact s_lo [1, 0] rfl (hrec0 (P q19 1, q22) hf (fun _ hq => WT.get hW t21 hq)))
  exact s_lo [2, 0] rfl (k18 n (P a0 0, I7) hf (fun _ hq => WT.get hW ha0 hq))
def f_X2_signOf (x0 : Int64) (x2 : Int64) (x4 : Int64) : Option Int32 :=
  (if 0 ≤ ((x4 - x2) - (x0 * x0)) then
    p_let (((x4 - x2) - (x0 * x0)) * ((x4 - x2) - (x0 * x0))) fun v1 =>
    (if v1 ≤ (((4 * x0) * x0) * x2) then
      (if (((4 * x0) * x0) * x2) ≤ v1 then
        some (nI 0)
      else
        some (nI 1))
    else
      some (-1))
  else
    some (nI 1))
theorem c_X2_signOf {G : pG} {d : Nat} {N : pN} {I : pI} {L : pL} {P : pR} {x0 : Int64} {x2 : Int64} {x4 : Int64} {qq : Int32} (hd : 0 ≤ d) (hW : WT N P) (hf : f_X2_signOf x0 x2 x4 = some qq) : MT G mX2_signOf d 0 0 [.long x0, .long x2, .long x4] N I L P (p_R (some (.int qq)) N I L P) := by
  refine MT.of rfl (Nat.le_of_ble_eq_true rfl) ?_
  show SW G mX2_signOf (p_rm d 0 0) 0 0 0 0 (p_R (some (.int qq)) N I L P) 0 [(0, .long x0), (2, .long x2), (4, .long x4)] [] N I L P
  unfold f_X2_signOf at hf
  refine s_lload (pc := 0) dX2_signOf_0 2 rfl ?_
  refine s_lload_n (pc := 2) dX2_signOf_2 1 rfl rfl ?_
  refine s_lsub (pc := 3) dX2_signOf_3 ?_
  refine s_lload_n (pc := 4) dX2_signOf_4 0 rfl rfl ?_
  refine s_lload_n (pc := 5) dX2_signOf_5 0 rfl rfl ?_
  refine s_lmul (pc := 6) dX2_signOf_6 ?_
  refine s_lsub (pc := 7) dX2_signOf_7 ?_
  refine s_lstore (pc := 8) (lo' := [(6, .long ((x4 - x2) - (x0 * x0))), (0, .long x0), (2, .long x2), (4, .long x4)]) dX2_signOf_8 (Nat.le_of_ble_eq_true rfl) rfl ?_
  refine s_lload (pc := 10) dX2_signOf_10 0 rfl ?_
  refine s_lconst (pc := 12) dX2_signOf_12 (v := 0) rfl ?_
  refine x_lcmp_ge (pc := 13) (tgt := 19) dX2_signOf_13 dX2_signOf_14 rfl (fun hc => ?_) (fun hc => ?_)
  · replace hf := p_ps hf hc
    refine s_ldc2 (pc := 19) kl_X2_186 dX2_signOf_19 ?_
    refine s_lload_n (pc := 22) dX2_signOf_22 1 rfl rfl ?_
    refine s_lmul (pc := 23) dX2_signOf_23 ?_
    refine s_lload_n (pc := 24) dX2_signOf_24 1 rfl rfl ?_
    refine s_lmul (pc := 25) dX2_signOf_25 ?_
    refine s_lload_n (pc := 26) dX2_signOf_26 2 rfl rfl ?_
    refine s_lmul (pc := 27) dX2_signOf_27 ?_
    refine s_lstore (pc := 28) (lo' := [(8, .long (((4 * x0) * x0) * x2)), (6, .long ((x4 - x2) - (x0 * x0))), (0, .long x0), (2, .long x2), (4, .long x4)]) dX2_signOf_28 (Nat.le_of_ble_eq_true rfl) rfl ?_
    refine s_lload (pc := 30) dX2_signOf_30 1 rfl ?_
    refine s_lload (pc := 32) dX2_signOf_32 1 rfl ?_
    refine s_lmul (pc := 34) dX2_signOf_34 ?_
    refine s_topl (fun v1 e2 => ?_)
    replace hf := p_lx hf e2
    refine s_lstore (pc := 35) (lo' := [(10, .long v1), (8, .long (((4 * x0) * x0) * x2)), (6, .long ((x4 - x2) - (x0 * x0))), (0, .long x0), (2, .long x2), (4, .long x4)]) dX2_signOf_35 (Nat.le_of_ble_eq_true rfl) rfl ?_
    refine s_lload (pc := 37) dX2_signOf_37 1 rfl ?_
    refine s_lload (pc := 39) dX2_signOf_39 0 rfl ?_
    refine x_lcmp_ge (pc := 41) (tgt := 49) dX2_signOf_41 dX2_signOf_42 rfl (fun hc => ?_) (fun hc => ?_)
    · replace hf := p_ps hf hc
      refine s_lload (pc := 49) dX2_signOf_49 1 rfl ?_
      refine s_lload (pc := 51) dX2_signOf_51 0 rfl ?_
      refine x_lcmp_le (pc := 53) (tgt := 61) dX2_signOf_53 dX2_signOf_54 rfl (fun hc => ?_) (fun hc => ?_)
      · replace hf := p_ps hf hc
        refine s_iconst (pc := 61) dX2_signOf_61 (v := nI 0) rfl ?_
        cases hf
        exact s_ireturn (pc := 62) dX2_signOf_62 rfl rfl ⟨rfl, rfl, rfl, rfl, rfl⟩
      · replace hf := p_ng hf hc
        refine s_iconst (pc := 57) dX2_signOf_57 (v := nI 1) rfl ?_
        refine s_goto (pc := 58) (tgt := 62) dX2_signOf_58 rfl ?_
        cases hf
        exact s_ireturn (pc := 62) dX2_signOf_62 rfl rfl ⟨rfl, rfl, rfl, rfl, rfl⟩
    · replace hf := p_ng hf hc
      refine s_iconst (pc := 45) dX2_signOf_45 (v := (-1)) rfl ?_
      refine s_goto (pc := 46) (tgt := 62) dX2_signOf_46 rfl ?_
      cases hf
      exact s_ireturn (pc := 62) dX2_signOf_62 rfl rfl ⟨rfl, rfl, rfl, rfl, rfl⟩
  · replace hf := p_ng hf hc
    refine s_iconst (pc := 17) dX2_signOf_17 (v := nI 1) rfl ?_
    cases hf
    exact s_ireturn (pc := 18) dX2_signOf_18 rfl rfl ⟨rfl, rfl, rfl, rfl, rfl⟩
def f_X2_orderOfLengths (x0 : Int64) (x2 : Int64) (x4 : Int64) (x6 : Int64) : Option Int32 :=
  (if 0 ≤ (((x0 + x2) - x4) - x6) then
    Option.bind (f_X2_signOf (((x0 + x2) - x4) - x6) ((4 * x0) * x2) ((4 * x4) * x6)) fun q1 =>
    some q1
  else
    Option.bind (f_X2_signOf (-(((x0 + x2) - x4) - x6)) ((4 * x4) * x6) ((4 * x0) * x2)) fun q3 =>
    some (-q3))
theorem c_X2_orderOfLengths {G : pG} {d : Nat} {N : pN} {I : pI} {L : pL} {P : pR} {x0 : Int64} {x2 : Int64} {x4 : Int64} {x6 : Int64} {qq : Int32} (hd : 1 ≤ d) (hW : WT N P) (hf : f_X2_orderOfLengths x0 x2 x4 x6 = some qq) : MT G mX2_orderOfLengths d 0 0 [.long x0, .long x2, .long x4, .long x6] N I L P (p_R (some (.int qq)) N I L P) := by
  refine MT.of rfl (Nat.le_of_ble_eq_true rfl) ?_
  show SW G mX2_orderOfLengths (p_rm d 0 0) 0 0 0 0 (p_R (some (.int qq)) N I L P) 0 [(0, .long x0), (2, .long x2), (4, .long x4), (6, .long x6)] [] N I L P
  unfold f_X2_orderOfLengths at hf
  refine s_lload_n (pc := 0) dX2_orderOfLengths_0 0 rfl rfl ?_
  refine s_lload_n (pc := 1) dX2_orderOfLengths_1 1 rfl rfl ?_
  refine s_ladd (pc := 2) dX2_orderOfLengths_2 ?_
  refine s_lload (pc := 3) dX2_orderOfLengths_3 2 rfl ?_
  refine s_lsub (pc := 5) dX2_orderOfLengths_5 ?_
  refine s_lload (pc := 6) dX2_orderOfLengths_6 3 rfl ?_
  refine s_lsub (pc := 8) dX2_orderOfLengths_8 ?_
  refine s_lstore (pc := 9) (lo' := [(8, .long (((x0 + x2) - x4) - x6)), (0, .long x0), (2, .long x2), (4, .long x4), (6, .long x6)]) dX2_orderOfLengths_9 (Nat.le_of_ble_eq_true rfl) rfl ?_
  refine s_lload (pc := 11) dX2_orderOfLengths_11 0 rfl ?_
  refine s_lconst (pc := 13) dX2_orderOfLengths_13 (v := 0) rfl ?_
  refine x_lcmp_ge (pc := 14) (tgt := 44) dX2_orderOfLengths_14 dX2_orderOfLengths_15 rfl (fun hc => ?_) (fun hc => ?_)
  · replace hf := p_ps hf hc
    refine s_lload (pc := 44) dX2_orderOfLengths_44 0 rfl ?_
    refine s_ldc2 (pc := 46) kl_X2_186 dX2_orderOfLengths_46 ?_
    refine s_lload_n (pc := 49) dX2_orderOfLengths_49 1 rfl rfl ?_
    refine s_lmul (pc := 50) dX2_orderOfLengths_50 ?_
    refine s_lload_n (pc := 51) dX2_orderOfLengths_51 2 rfl rfl ?_
    refine s_lmul (pc := 52) dX2_orderOfLengths_52 ?_
    refine s_ldc2 (pc := 53) kl_X2_186 dX2_orderOfLengths_53 ?_
    refine s_lload (pc := 56) dX2_orderOfLengths_56 3 rfl ?_
    refine s_lmul (pc := 58) dX2_orderOfLengths_58 ?_
    refine s_lload (pc := 59) dX2_orderOfLengths_59 4 rfl ?_
    refine s_lmul (pc := 61) dX2_orderOfLengths_61 ?_
    obtain ⟨q1, h2, hf⟩ := p_bd hf
    refine y_callS1 (pc := 62) dX2_orderOfLengths_62 (c_X2_signOf (p_dd hd (by decide)) hW  h2) mk_X2_signOf mz_X2_signOf ml_X2_188 rfl rfl (Nat.le_of_ble_eq_true rfl) (p_d1 hd (by decide)) (Nat.le_of_ble_eq_true rfl) ?_
    cases hf
    exact s_ireturn (pc := 65) dX2_orderOfLengths_65 rfl rfl ⟨rfl, rfl, rfl, rfl, rfl⟩
  · replace hf := p_ng hf hc
    refine s_lload (pc := 18) dX2_orderOfLengths_18 0 rfl ?_
    refine s_lneg (pc := 20) dX2_orderOfLengths_20 ?_
    refine s_ldc2 (pc := 21) kl_X2_186 dX2_orderOfLengths_21 ?_
    refine s_lload (pc := 24) dX2_orderOfLengths_24 3 rfl ?_
    refine s_lmul (pc := 26) dX2_orderOfLengths_26 ?_
    refine s_lload (pc := 27) dX2_orderOfLengths_27 4 rfl ?_
    refine s_lmul (pc := 29) dX2_orderOfLengths_29 ?_
    refine s_ldc2 (pc := 30) kl_X2_186 dX2_orderOfLengths_30 ?_
    refine s_lload_n (pc := 33) dX2_orderOfLengths_33 1 rfl rfl ?_
    refine s_lmul (pc := 34) dX2_orderOfLengths_34 ?_
    refine s_lload_n (pc := 35) dX2_orderOfLengths_35 2 rfl rfl ?_
    refine s_lmul (pc := 36) dX2_orderOfLengths_36 ?_
    obtain ⟨q3, h4, hf⟩ := p_bd hf
    refine y_callS1 (pc := 37) dX2_orderOfLengths_37 (c_X2_signOf (p_dd hd (by decide)) hW  h4) mk_X2_signOf mz_X2_signOf ml_X2_188 rfl rfl (Nat.le_of_ble_eq_true rfl) (p_d1 hd (by decide)) (Nat.le_of_ble_eq_true rfl) ?_
    refine s_ineg (pc := 40) dX2_orderOfLengths_40 ?_
    refine s_goto (pc := 41) (tgt := 65) dX2_orderOfLengths_41 rfl ?_
    cases hf
    exact s_ireturn (pc := 65) dX2_orderOfLengths_65 rfl rfl ⟨rfl, rfl, rfl, rfl, rfl⟩
def f_X2_isLonger (N : pN) (I : pI) (P : pR) (a0 : Nat) (x1 : Int32) (x2 : Int32) : Option Int32 :=
  Option.bind (P a0 8) fun q1 =>
  Option.bind (f_X8_get N I P q1 x1 (nI 3)) fun q4 =>
  Option.bind (P a0 8) fun q6 =>
  Option.bind (f_X8_get N I P q6 x1 (nI 4)) fun q9 =>
  Option.bind (P a0 8) fun q11 =>
  Option.bind (f_X8_get N I P q11 x2 (nI 3)) fun q14 =>
  Option.bind (P a0 8) fun q16 =>
  Option.bind (f_X8_get N I P q16 x2 (nI 4)) fun q19 =>
  Option.bind (f_X2_orderOfLengths (Int32.toInt64 q4) (Int32.toInt64 q9) (Int32.toInt64 q14) (Int32.toInt64 q19)) fun q21 =>
  (if q21 ≤ 0 then
    some (nI 0)
  else
    some (nI 1))
theorem c_X2_isLonger {G : pG} {d : Nat} {N : pN} {I : pI} {L : pL} {P : pR} {a0 : Nat} {x1 : Int32} {x2 : Int32} {qq : Int32} (hd : 2 ≤ d) (hW : WT N P) (ha0 : p_tp N a0 5) (hf : f_X2_isLonger N I P a0 x1 x2 = some qq) : MT G mX2_isLonger d 0 0 [.ref a0, .int x1, .int x2] N I L P (p_R (some (.int qq)) N I L P) := by
  refine MT.of rfl (Nat.le_of_ble_eq_true rfl) ?_
  show SW G mX2_isLonger (p_rm d 0 0) 0 0 0 0 (p_R (some (.int qq)) N I L P) 0 [(0, .ref a0), (1, .int x1), (2, .int x2)] [] N I L P
  unfold f_X2_isLonger at hf
  refine s_aload_n (pc := 0) dX2_isLonger_0 0 rfl rfl ?_
  obtain ⟨q1, h2, hf⟩ := p_bd hf
  have t3 : p_tp N q1 11 := WT.get hW ha0 h2
  refine x_getR (pc := 1) dX2_isLonger_1 fl_X2_41 rfl ha0 h2 ?_
  refine s_iload_n (pc := 4) dX2_isLonger_4 1 rfl rfl ?_
  refine s_iconst (pc := 5) dX2_isLonger_5 (v := nI 3) rfl ?_
  obtain ⟨q4, h5, hf⟩ := p_bd hf
  refine y_callV1 (pc := 6) dX2_isLonger_6 (c_X8_get (p_dd hd (by decide)) hW t3 h5) mk_X8_get mv_X8_get ml_X2_88 rfl rfl (Nat.le_of_ble_eq_true rfl) t3 rfl (p_d1 hd (by decide)) (Nat.le_of_ble_eq_true rfl) ?_
  refine s_i2l (pc := 9) dX2_isLonger_9 ?_
  refine s_aload_n (pc := 10) dX2_isLonger_10 0 rfl rfl ?_
  obtain ⟨q6, h7, hf⟩ := p_bd hf
  have t8 : p_tp N q6 11 := WT.get hW ha0 h7
  refine x_getR (pc := 11) dX2_isLonger_11 fl_X2_41 rfl ha0 h7 ?_
  refine s_iload_n (pc := 14) dX2_isLonger_14 1 rfl rfl ?_
  refine s_iconst (pc := 15) dX2_isLonger_15 (v := nI 4) rfl ?_
  obtain ⟨q9, h10, hf⟩ := p_bd hf
  refine y_callV1 (pc := 16) dX2_isLonger_16 (c_X8_get (p_dd hd (by decide)) hW t8 h10) mk_X8_get mv_X8_get ml_X2_88 rfl rfl (Nat.le_of_ble_eq_true rfl) t8 rfl (p_d1 hd (by decide)) (Nat.le_of_ble_eq_true rfl) ?_
  refine s_i2l (pc := 19) dX2_isLonger_19 ?_
  refine s_aload_n (pc := 20) dX2_isLonger_20 0 rfl rfl ?_
  obtain ⟨q11, h12, hf⟩ := p_bd hf
  have t13 : p_tp N q11 11 := WT.get hW ha0 h12
  refine x_getR (pc := 21) dX2_isLonger_21 fl_X2_41 rfl ha0 h12 ?_
  refine s_iload_n (pc := 24) dX2_isLonger_24 2 rfl rfl ?_
  refine s_iconst (pc := 25) dX2_isLonger_25 (v := nI 3) rfl ?_
  obtain ⟨q14, h15, hf⟩ := p_bd hf
  refine y_callV1 (pc := 26) dX2_isLonger_26 (c_X8_get (p_dd hd (by decide)) hW t13 h15) mk_X8_get mv_X8_get ml_X2_88 rfl rfl (Nat.le_of_ble_eq_true rfl) t13 rfl (p_d1 hd (by decide)) (Nat.le_of_ble_eq_true rfl) ?_
  refine s_i2l (pc := 29) dX2_isLonger_29 ?_
  refine s_aload_n (pc := 30) dX2_isLonger_30 0 rfl rfl ?_
  obtain ⟨q16, h17, hf⟩ := p_bd hf
  have t18 : p_tp N q16 11 := WT.get hW ha0 h17
  refine x_getR (pc := 31) dX2_isLonger_31 fl_X2_41 rfl ha0 h17 ?_
  refine s_iload_n (pc := 34) dX2_isLonger_34 2 rfl rfl ?_
  refine s_iconst (pc := 35) dX2_isLonger_35 (v := nI 4) rfl ?_
  obtain ⟨q19, h20, hf⟩ := p_bd hf
  refine y_callV1 (pc := 36) dX2_isLonger_36 (c_X8_get (p_dd hd (by decide)) hW t18 h20) mk_X8_get mv_X8_get ml_X2_88 rfl rfl (Nat.le_of_ble_eq_true rfl) t18 rfl (p_d1 hd (by decide)) (Nat.le_of_ble_eq_true rfl) ?_
  refine s_i2l (pc := 39) dX2_isLonger_39 ?_
  obtain ⟨q21, h22, hf⟩ := p_bd hf
  refine y_callS1 (pc := 40) dX2_isLonger_40 (c_X2_orderOfLengths (p_dd hd (by decide)) hW  h22) mk_X2_orderOfLengths mz_X2_orderOfLengths ml_X2_178 rfl rfl (Nat.le_of_ble_eq_true rfl) (p_d1 hd (by decide)) (Nat.le_of_ble_eq_true rfl) ?_
  refine s_if_le (pc := 43) (tgt := 50) dX2_isLonger_43 rfl (fun hc => ?_) (fun hc => ?_)
  · replace hf := p_ps hf hc
    refine s_iconst (pc := 50) dX2_isLonger_50 (v := nI 0) rfl ?_
    cases hf
    exact s_ireturn (pc := 51) dX2_isLonger_51 rfl rfl ⟨rfl, rfl, rfl, rfl, rfl⟩
  · replace hf := p_ng hf hc
    refine s_iconst (pc := 46) dX2_isLonger_46 (v := nI 1) rfl ?_
    refine s_goto (pc := 47) (tgt := 51) dX2_isLonger_47 rfl ?_
    cases hf
    exact s_ireturn (pc := 51) dX2_isLonger_51 rfl rfl ⟨rfl, rfl, rfl, rfl, rfl⟩
def B_X2_sort_31 (N : pN) (P : pR) (x2 : Int32) (a0 : Nat) (rec1 : (Int32 × pI) → Option (Int32 × pI)) (s1 : Int32 × pI) : Option (Int32 × pI) :=
  (if s1.1 ≤ 0 then
    some (s1.1, s1.2)
  else
    Option.bind (P a0 9) fun q19 =>
    p_ck (p_ib N q19 (s1.1 - (nI 1))) <|
    Option.bind (f_X2_isLonger N s1.2 P a0 (s1.2 q19 (Int32.toNatClampNeg (s1.1 - (nI 1)))) x2) fun q23 =>
    (if q23 = 0 then
      some (s1.1, s1.2)
    else
      Option.bind (P a0 9) fun q25 =>
      Option.bind (P a0 9) fun q28 =>
      p_ck (p_ib N q28 (s1.1 - (nI 1))) <|
      p_ck (p_ib N q25 s1.1) <|
      p_let (p_u s1.2 q25 (Int32.toNatClampNeg s1.1) (s1.2 q28 (Int32.toNatClampNeg (s1.1 - (nI 1))))) fun I33 =>
      rec1 (s1.1 + (-1), I33)))
def B_X2_sort_2 (n : Nat) (N : pN) (P : pR) (a0 : Nat) (rec0 : (Int32 × pI) → Option pI) (s0 : Int32 × pI) : Option pI :=
  Option.bind (P a0 8) fun q3 =>
  Option.bind (f_X8_size s0.2 q3) fun q6 =>
  (if q6 ≤ s0.1 then
    some s0.2
  else
    Option.bind (P a0 9) fun q8 =>
    (if (nI (N.2 q8).2) ≤ s0.1 then
      some s0.2
    else
      Option.bind (P a0 9) fun q11 =>
      p_ck (p_ib N q11 s0.1) <|
      p_let (s0.2 q11 (Int32.toNatClampNeg s0.1)) fun v15 =>
      Option.bind (p_it (B_X2_sort_31 N P v15 a0) n (s0.1, s0.2)) fun t17 =>
      Option.bind (P a0 9) fun q52 =>
      p_ck (p_ib N q52 t17.1) <|
      p_let (p_u t17.2 q52 (Int32.toNatClampNeg t17.1) v15) fun I56 =>
      rec0 (s0.1 + nI 1, I56)))
def f_X2_sort (n : Nat) (N : pN) (I : pI) (P : pR) (a0 : Nat) : Option pI :=
  Option.bind (p_it (B_X2_sort_2 n N P a0) n (nI 1, I)) fun t1 =>
  some t1
theorem c_X2_sort {G : pG} {d : Nat} {n : Nat} {N : pN} {I : pI} {L : pL} {P : pR} {a0 : Nat} {qq : pI} (hd : 3 ≤ d) (hW : WT N P) (ha0 : p_tp N a0 5) (hf : f_X2_sort n N I P a0 = some qq) : MT G mX2_sort d 0 0 [.ref a0] N I L P (p_R none N qq L P) := by
  refine MT.of rfl (Nat.le_of_ble_eq_true rfl) ?_
  show SW G mX2_sort (p_rm d 0 0) 0 0 0 0 (p_R none N qq L P) 0 [(0, .ref a0)] [] N I L P
  unfold f_X2_sort at hf
  refine s_iconst (pc := 0) dX2_sort_0 (v := nI 1) rfl ?_
  refine s_istore_n (pc := 1) (lo' := [(1, .int (nI 1)), (0, .ref a0)]) dX2_sort_1 rfl (Nat.le_of_ble_eq_true rfl) rfl ?_
  obtain ⟨t1, hg, hf⟩ := p_bd hf
  have k2 : SW G mX2_sort (p_rm d 0 0) 0 0 0 0 (p_R none N qq L P) 84 [] [] N t1 L P := by
    cases hf
    exact s_return (pc := 84) dX2_sort_84 rfl ⟨rfl, rfl, rfl, rfl, rfl⟩
  replace hf := hg
  have k58 : ∀ (k : Nat) (s0 : Int32 × pI), p_it (B_X2_sort_2 n N P a0) k s0 = some t1 → (SW G mX2_sort (p_rm d 0 0) 0 0 0 0 (p_R none N qq L P) 2 [(0, .ref a0), (1, .int s0.1)] [] N s0.2 L P) := p_it_ind (C := fun (s0 : Int32 × pI) => SW G mX2_sort (p_rm d 0 0) 0 0 0 0 (p_R none N qq L P) 2 [(0, .ref a0), (1, .int s0.1)] [] N s0.2 L P) (by
    intro rec0 hrec0 s0 hf
    unfold B_X2_sort_2 at hf
    refine s_iload_n (pc := 2) dX2_sort_2 1 rfl rfl ?_
    refine s_aload_n (pc := 3) dX2_sort_3 0 rfl rfl ?_
    obtain ⟨q59, h60, hf⟩ := p_bd hf
    have t61 : p_tp N q59 11 := WT.get hW ha0 h60
    refine x_getR (pc := 4) dX2_sort_4 fl_X2_41 rfl ha0 h60 ?_
    obtain ⟨q62, h63, hf⟩ := p_bd hf
    refine y_callV1 (pc := 7) dX2_sort_7 (c_X8_size (p_dd hd (by decide)) hW t61 h63) mk_X8_size mv_X8_size ml_X2_98 rfl rfl (Nat.le_of_ble_eq_true rfl) t61 rfl (p_d1 hd (by decide)) (Nat.le_of_ble_eq_true rfl) ?_
    refine s_icmp_ge (pc := 10) (tgt := 84) dX2_sort_10 rfl (fun hc => ?_) (fun hc => ?_)
    · replace hf := p_ps hf hc
      cases hf
      exact s_lo [] rfl (k2)
    · replace hf := p_ng hf hc
      refine s_iload_n (pc := 13) dX2_sort_13 1 rfl rfl ?_
      refine s_aload_n (pc := 14) dX2_sort_14 0 rfl rfl ?_
      obtain ⟨q64, h65, hf⟩ := p_bd hf
      have t66 : p_tp N q64 0 := WT.get hW ha0 h65
      refine x_getR (pc := 15) dX2_sort_15 fl_X2_45 rfl ha0 h65 ?_
      refine x_alen (pc := 18) dX2_sort_18 t66 (Nat.le_of_ble_eq_true rfl) ?_
      refine s_icmp_ge (pc := 19) (tgt := 84) dX2_sort_19 rfl (fun hc => ?_) (fun hc => ?_)
      · replace hf := p_ps hf hc
        cases hf
        exact s_lo [] rfl (k2)
      · replace hf := p_ng hf hc
        refine s_aload_n (pc := 22) dX2_sort_22 0 rfl rfl ?_
        obtain ⟨q67, h68, hf⟩ := p_bd hf
        have t69 : p_tp N q67 0 := WT.get hW ha0 h68
        refine x_getR (pc := 23) dX2_sort_23 fl_X2_45 rfl ha0 h68 ?_
        refine s_iload_n (pc := 26) dX2_sort_26 1 rfl rfl ?_
        obtain ⟨c70, hf⟩ := p_ckx hf
        refine x_iald (pc := 27) dX2_sort_27 t69 c70 ?_
        refine s_topi (fun v71 e72 => ?_)
        replace hf := p_lx hf e72
        refine s_istore_n (pc := 28) (lo' := [(2, .int v71), (0, .ref a0), (1, .int s0.1)]) dX2_sort_28 rfl (Nat.le_of_ble_eq_true rfl) rfl ?_
        refine s_iload_n (pc := 29) dX2_sort_29 2 rfl rfl ?_
        refine s_istore_n (pc := 30) (lo' := [(3, .int s0.1), (2, .int v71), (0, .ref a0), (1, .int s0.1)]) dX2_sort_30 rfl (Nat.le_of_ble_eq_true rfl) rfl ?_
        obtain ⟨t73, hg, hf⟩ := p_bd hf
        have k74 : SW G mX2_sort (p_rm d 0 0) 0 0 0 0 (p_R none N qq L P) 71 [(2, .int v71), (0, .ref a0), (1, .int s0.1), (3, .int t73.1)] [] N t73.2 L P := by
          refine s_aload_n (pc := 71) dX2_sort_71 1 rfl rfl ?_
          obtain ⟨q92, h93, hf⟩ := p_bd hf
          have t94 : p_tp N q92 0 := WT.get hW ha0 h93
          refine x_getR (pc := 72) dX2_sort_72 fl_X2_45 rfl ha0 h93 ?_
          refine s_iload_n (pc := 75) dX2_sort_75 3 rfl rfl ?_
          refine s_iload_n (pc := 76) dX2_sort_76 0 rfl rfl ?_
          obtain ⟨c95, hf⟩ := p_ckx hf
          refine x_iast (pc := 77) dX2_sort_77 t94 c95 ?_
          refine s_nmI (fun I96 e97 => ?_)
          replace hf := p_lx hf e97
          refine s_iinc (pc := 78) (lo' := [(1, .int (s0.1 + nI 1)), (2, .int v71), (0, .ref a0), (3, .int t73.1)]) dX2_sort_78 2 rfl (v := s0.1 + nI 1) rfl (Nat.le_of_ble_eq_true rfl) rfl ?_
          refine s_goto (pc := 81) (tgt := 2) dX2_sort_81 rfl ?_
          exact s_lo [2, 0] rfl (hrec0 (s0.1 + nI 1, I96) hf)
        replace hf := hg
        have k75 : ∀ (k : Nat) (s1 : Int32 × pI), p_it (B_X2_sort_31 N P v71 a0) k s1 = some t73 → (SW G mX2_sort (p_rm d 0 0) 0 0 0 0 (p_R none N qq L P) 31 [(2, .int v71), (0, .ref a0), (1, .int s0.1), (3, .int s1.1)] [] N s1.2 L P) := p_it_ind (C := fun (s1 : Int32 × pI) => SW G mX2_sort (p_rm d 0 0) 0 0 0 0 (p_R none N qq L P) 31 [(2, .int v71), (0, .ref a0), (1, .int s0.1), (3, .int s1.1)] [] N s1.2 L P) (by
          intro rec1 hrec1 s1 hf
          unfold B_X2_sort_31 at hf
          refine s_iload_n (pc := 31) dX2_sort_31 3 rfl rfl ?_
          refine s_if_le (pc := 32) (tgt := 71) dX2_sort_32 rfl (fun hc => ?_) (fun hc => ?_)
          · replace hf := p_ps hf hc
            cases hf
            exact s_lo [0, 1, 2, 3] rfl (k74)
          · replace hf := p_ng hf hc
            refine s_aload_n (pc := 35) dX2_sort_35 1 rfl rfl ?_
            refine s_aload_n (pc := 36) dX2_sort_36 1 rfl rfl ?_
            obtain ⟨q76, h77, hf⟩ := p_bd hf
            have t78 : p_tp N q76 0 := WT.get hW ha0 h77
            refine x_getR (pc := 37) dX2_sort_37 fl_X2_45 rfl ha0 h77 ?_
            refine s_iload_n (pc := 40) dX2_sort_40 3 rfl rfl ?_
            refine s_iconst (pc := 41) dX2_sort_41 (v := nI 1) rfl ?_
            refine s_isub (pc := 42) dX2_sort_42 ?_
            obtain ⟨c79, hf⟩ := p_ckx hf
            refine x_iald (pc := 43) dX2_sort_43 t78 c79 ?_
            refine s_iload_n (pc := 44) dX2_sort_44 0 rfl rfl ?_
            obtain ⟨q80, h81, hf⟩ := p_bd hf
            refine y_callV1 (pc := 45) dX2_sort_45 (c_X2_isLonger (p_dd hd (by decide)) hW ha0 h81) mk_X2_isLonger mv_X2_isLonger ml_X2_174 rfl rfl (Nat.le_of_ble_eq_true rfl) ha0 rfl (p_d1 hd (by decide)) (Nat.le_of_ble_eq_true rfl) ?_
            refine s_if_eq (pc := 48) (tgt := 71) dX2_sort_48 rfl (fun hc => ?_) (fun hc => ?_)
            · replace hf := p_ps hf hc
              cases hf
              exact s_lo [0, 1, 2, 3] rfl (k74)
            · replace hf := p_ng hf hc
              refine s_aload_n (pc := 51) dX2_sort_51 1 rfl rfl ?_
              obtain ⟨q82, h83, hf⟩ := p_bd hf
              have t84 : p_tp N q82 0 := WT.get hW ha0 h83
              refine x_getR (pc := 52) dX2_sort_52 fl_X2_45 rfl ha0 h83 ?_
              refine s_iload_n (pc := 55) dX2_sort_55 3 rfl rfl ?_
              refine s_aload_n (pc := 56) dX2_sort_56 1 rfl rfl ?_
              obtain ⟨q85, h86, hf⟩ := p_bd hf
              have t87 : p_tp N q85 0 := WT.get hW ha0 h86
              refine x_getR (pc := 57) dX2_sort_57 fl_X2_45 rfl ha0 h86 ?_
              refine s_iload_n (pc := 60) dX2_sort_60 3 rfl rfl ?_
              refine s_iconst (pc := 61) dX2_sort_61 (v := nI 1) rfl ?_
              refine s_isub (pc := 62) dX2_sort_62 ?_
              obtain ⟨c88, hf⟩ := p_ckx hf
              refine x_iald (pc := 63) dX2_sort_63 t87 c88 ?_
              obtain ⟨c89, hf⟩ := p_ckx hf
              refine x_iast (pc := 64) dX2_sort_64 t84 c89 ?_
              refine s_nmI (fun I90 e91 => ?_)
              replace hf := p_lx hf e91
              refine s_iinc (pc := 65) (lo' := [(3, .int (s1.1 + (-1))), (2, .int v71), (0, .ref a0), (1, .int s0.1)]) dX2_sort_65 3 rfl (v := s1.1 + (-1)) rfl (Nat.le_of_ble_eq_true rfl) rfl ?_
              refine s_goto (pc := 68) (tgt := 31) dX2_sort_68 rfl ?_
              exact s_lo [1, 2, 3, 0] rfl (hrec1 (s1.1 + (-1), I90) hf))
        exact s_lo [1, 2, 3, 0] rfl (k75 n (s0.1, s0.2) hf))
  exact s_lo [1, 0] rfl (k58 n (nI 1, I) hf)
def f_X2_sawTarget (N : pN) (I : pI) (P : pR) (a0 : Nat) : Option Int32 :=
  Option.bind (P a0 8) fun q1 =>
  Option.bind (f_X8_size I q1) fun q4 =>
  (if q4 ≤ 0 then
    some (nI 0)
  else
    Option.bind (P a0 8) fun q6 =>
    Option.bind (f_X8_get N I P q6 (nI 0) (nI 0)) fun q9 =>
    (if q9 = 0 then
      some (nI 1)
    else
      some (nI 0)))
theorem c_X2_sawTarget {G : pG} {d : Nat} {N : pN} {I : pI} {L : pL} {P : pR} {a0 : Nat} {qq : Int32} (hd : 1 ≤ d) (hW : WT N P) (ha0 : p_tp N a0 5) (hf : f_X2_sawTarget N I P a0 = some qq) : MT G mX2_sawTarget d 0 0 [.ref a0] N I L P (p_R (some (.int qq)) N I L P) := by
  refine MT.of rfl (Nat.le_of_ble_eq_true rfl) ?_
  show SW G mX2_sawTarget (p_rm d 0 0) 0 0 0 0 (p_R (some (.int qq)) N I L P) 0 [(0, .ref a0)] [] N I L P
  unfold f_X2_sawTarget at hf
  refine s_aload_n (pc := 0) dX2_sawTarget_0 0 rfl rfl ?_
  obtain ⟨q1, h2, hf⟩ := p_bd hf
  have t3 : p_tp N q1 11 := WT.get hW ha0 h2
  refine x_getR (pc := 1) dX2_sawTarget_1 fl_X2_41 rfl ha0 h2 ?_
  obtain ⟨q4, h5, hf⟩ := p_bd hf
  refine y_callV1 (pc := 4) dX2_sawTarget_4 (c_X8_size (p_dd hd (by decide)) hW t3 h5) mk_X8_size mv_X8_size ml_X2_98 rfl rfl (Nat.le_of_ble_eq_true rfl) t3 rfl (p_d1 hd (by decide)) (Nat.le_of_ble_eq_true rfl) ?_
  refine s_if_le (pc := 7) (tgt := 26) dX2_sawTarget_7 rfl (fun hc => ?_) (fun hc => ?_)
  · replace hf := p_ps hf hc
    refine s_iconst (pc := 26) dX2_sawTarget_26 (v := nI 0) rfl ?_
    cases hf
    exact s_ireturn (pc := 27) dX2_sawTarget_27 rfl rfl ⟨rfl, rfl, rfl, rfl, rfl⟩
  · replace hf := p_ng hf hc
    refine s_aload_n (pc := 10) dX2_sawTarget_10 0 rfl rfl ?_
    obtain ⟨q6, h7, hf⟩ := p_bd hf
    have t8 : p_tp N q6 11 := WT.get hW ha0 h7
    refine x_getR (pc := 11) dX2_sawTarget_11 fl_X2_41 rfl ha0 h7 ?_
    refine s_iconst (pc := 14) dX2_sawTarget_14 (v := nI 0) rfl ?_
    refine s_iconst (pc := 15) dX2_sawTarget_15 (v := nI 0) rfl ?_
    obtain ⟨q9, h10, hf⟩ := p_bd hf
    refine y_callV1 (pc := 16) dX2_sawTarget_16 (c_X8_get (p_dd hd (by decide)) hW t8 h10) mk_X8_get mv_X8_get ml_X2_88 rfl rfl (Nat.le_of_ble_eq_true rfl) t8 rfl (p_d1 hd (by decide)) (Nat.le_of_ble_eq_true rfl) ?_
    refine s_if_ne (pc := 19) (tgt := 26) dX2_sawTarget_19 rfl (fun hc => ?_) (fun hc => ?_)
    · replace hf := p_ng hf hc
      refine s_iconst (pc := 26) dX2_sawTarget_26 (v := nI 0) rfl ?_
      cases hf
      exact s_ireturn (pc := 27) dX2_sawTarget_27 rfl rfl ⟨rfl, rfl, rfl, rfl, rfl⟩
    · replace hf := p_ps hf hc
      refine s_iconst (pc := 22) dX2_sawTarget_22 (v := nI 1) rfl ?_
      refine s_goto (pc := 23) (tgt := 27) dX2_sawTarget_23 rfl ?_
      cases hf
      exact s_ireturn (pc := 27) dX2_sawTarget_27 rfl rfl ⟨rfl, rfl, rfl, rfl, rfl⟩
def f_X2_size (I : pI) (P : pR) (a0 : Nat) : Option Int32 :=
  Option.bind (P a0 8) fun q1 =>
  Option.bind (f_X8_size I q1) fun q4 =>
  some q4
theorem c_X2_size {G : pG} {d : Nat} {N : pN} {I : pI} {L : pL} {P : pR} {a0 : Nat} {qq : Int32} (hd : 1 ≤ d) (hW : WT N P) (ha0 : p_tp N a0 5) (hf : f_X2_size I P a0 = some qq) : MT G mX2_size d 0 0 [.ref a0] N I L P (p_R (some (.int qq)) N I L P) := by
  refine MT.of rfl (Nat.le_of_ble_eq_true rfl) ?_
  show SW G mX2_size (p_rm d 0 0) 0 0 0 0 (p_R (some (.int qq)) N I L P) 0 [(0, .ref a0)] [] N I L P
  unfold f_X2_size at hf
  refine s_aload_n (pc := 0) dX2_size_0 0 rfl rfl ?_
  obtain ⟨q1, h2, hf⟩ := p_bd hf
  have t3 : p_tp N q1 11 := WT.get hW ha0 h2
  refine x_getR (pc := 1) dX2_size_1 fl_X2_41 rfl ha0 h2 ?_
  obtain ⟨q4, h5, hf⟩ := p_bd hf
  refine y_callV1 (pc := 4) dX2_size_4 (c_X8_size (p_dd hd (by decide)) hW t3 h5) mk_X8_size mv_X8_size ml_X2_98 rfl rfl (Nat.le_of_ble_eq_true rfl) t3 rfl (p_d1 hd (by decide)) (Nat.le_of_ble_eq_true rfl) ?_
  cases hf
  exact s_ireturn (pc := 7) dX2_size_7 rfl rfl ⟨rfl, rfl, rfl, rfl, rfl⟩
def f_X2_tell (N : pN) (I : pI) (P : pR) (a0 : Nat) (x1 : Int32) (x2 : Int32) : Option Int32 :=
  (if x1 < 0 then
    some (-2)
  else
    Option.bind (P a0 9) fun q1 =>
    (if (nI (N.2 q1).2) ≤ x1 then
      some (-2)
    else
      Option.bind (P a0 8) fun q4 =>
      Option.bind (P a0 9) fun q7 =>
      p_ck (p_ib N q7 x1) <|
      Option.bind (f_X8_get N I P q4 (I q7 (Int32.toNatClampNeg x1)) x2) fun q11 =>
      some q11))
theorem c_X2_tell {G : pG} {d : Nat} {N : pN} {I : pI} {L : pL} {P : pR} {a0 : Nat} {x1 : Int32} {x2 : Int32} {qq : Int32} (hd : 1 ≤ d) (hW : WT N P) (ha0 : p_tp N a0 5) (hf : f_X2_tell N I P a0 x1 x2 = some qq) : MT G mX2_tell d 0 0 [.ref a0, .int x1, .int x2] N I L P (p_R (some (.int qq)) N I L P) := by
  refine MT.of rfl (Nat.le_of_ble_eq_true rfl) ?_
  show SW G mX2_tell (p_rm d 0 0) 0 0 0 0 (p_R (some (.int qq)) N I L P) 0 [(0, .ref a0), (1, .int x1), (2, .int x2)] [] N I L P
  unfold f_X2_tell at hf
  refine s_iload_n (pc := 0) dX2_tell_0 1 rfl rfl ?_
  refine s_if_lt (pc := 1) (tgt := 30) dX2_tell_1 rfl (fun hc => ?_) (fun hc => ?_)
  · replace hf := p_ps hf hc
    refine s_bipush (pc := 30) dX2_tell_30 (v := (-2)) rfl ?_
    cases hf
    exact s_ireturn (pc := 32) dX2_tell_32 rfl rfl ⟨rfl, rfl, rfl, rfl, rfl⟩
  · replace hf := p_ng hf hc
    refine s_iload_n (pc := 4) dX2_tell_4 1 rfl rfl ?_
    refine s_aload_n (pc := 5) dX2_tell_5 0 rfl rfl ?_
    obtain ⟨q1, h2, hf⟩ := p_bd hf
    have t3 : p_tp N q1 0 := WT.get hW ha0 h2
    refine x_getR (pc := 6) dX2_tell_6 fl_X2_45 rfl ha0 h2 ?_
    refine x_alen (pc := 9) dX2_tell_9 t3 (Nat.le_of_ble_eq_true rfl) ?_
    refine s_icmp_ge (pc := 10) (tgt := 30) dX2_tell_10 rfl (fun hc => ?_) (fun hc => ?_)
    · replace hf := p_ps hf hc
      refine s_bipush (pc := 30) dX2_tell_30 (v := (-2)) rfl ?_
      cases hf
      exact s_ireturn (pc := 32) dX2_tell_32 rfl rfl ⟨rfl, rfl, rfl, rfl, rfl⟩
    · replace hf := p_ng hf hc
      refine s_aload_n (pc := 13) dX2_tell_13 0 rfl rfl ?_
      obtain ⟨q4, h5, hf⟩ := p_bd hf
      have t6 : p_tp N q4 11 := WT.get hW ha0 h5
      refine x_getR (pc := 14) dX2_tell_14 fl_X2_41 rfl ha0 h5 ?_
      refine s_aload_n (pc := 17) dX2_tell_17 0 rfl rfl ?_
      obtain ⟨q7, h8, hf⟩ := p_bd hf
      have t9 : p_tp N q7 0 := WT.get hW ha0 h8
      refine x_getR (pc := 18) dX2_tell_18 fl_X2_45 rfl ha0 h8 ?_
      refine s_iload_n (pc := 21) dX2_tell_21 1 rfl rfl ?_
      obtain ⟨c10, hf⟩ := p_ckx hf
      refine x_iald (pc := 22) dX2_tell_22 t9 c10 ?_
      refine s_iload_n (pc := 23) dX2_tell_23 2 rfl rfl ?_
      obtain ⟨q11, h12, hf⟩ := p_bd hf
      refine y_callV1 (pc := 24) dX2_tell_24 (c_X8_get (p_dd hd (by decide)) hW t6 h12) mk_X8_get mv_X8_get ml_X2_88 rfl rfl (Nat.le_of_ble_eq_true rfl) t6 rfl (p_d1 hd (by decide)) (Nat.le_of_ble_eq_true rfl) ?_
      refine s_goto (pc := 27) (tgt := 32) dX2_tell_27 rfl ?_
      cases hf
      exact s_ireturn (pc := 32) dX2_tell_32 rfl rfl ⟨rfl, rfl, rfl, rfl, rfl⟩
def f_X2_lateness (n : Nat) (N : pN) (I : pI) (P : pR) (a0 : Nat) (x1 : Int32) : Option Int32 :=
  Option.bind (f_X2_tell N I P a0 x1 (nI 3)) fun q1 =>
  Option.bind (f_X2_rootOf n ((nI 10000) * q1)) fun q3 =>
  Option.bind (f_X2_tell N I P a0 x1 (nI 4)) fun q5 =>
  Option.bind (f_X2_rootOf n ((nI 10000) * q5)) fun q7 =>
  some (q3 + q7)
theorem c_X2_lateness {G : pG} {d : Nat} {n : Nat} {N : pN} {I : pI} {L : pL} {P : pR} {a0 : Nat} {x1 : Int32} {qq : Int32} (hd : 2 ≤ d) (hW : WT N P) (ha0 : p_tp N a0 5) (hf : f_X2_lateness n N I P a0 x1 = some qq) : MT G mX2_lateness d 0 0 [.ref a0, .int x1] N I L P (p_R (some (.int qq)) N I L P) := by
  refine MT.of rfl (Nat.le_of_ble_eq_true rfl) ?_
  show SW G mX2_lateness (p_rm d 0 0) 0 0 0 0 (p_R (some (.int qq)) N I L P) 0 [(0, .ref a0), (1, .int x1)] [] N I L P
  unfold f_X2_lateness at hf
  refine s_sipush (pc := 0) dX2_lateness_0 (v := nI 10000) rfl ?_
  refine s_aload_n (pc := 3) dX2_lateness_3 0 rfl rfl ?_
  refine s_iload_n (pc := 4) dX2_lateness_4 1 rfl rfl ?_
  refine s_iconst (pc := 5) dX2_lateness_5 (v := nI 3) rfl ?_
  obtain ⟨q1, h2, hf⟩ := p_bd hf
  refine y_callV1 (pc := 6) dX2_lateness_6 (c_X2_tell (p_dd hd (by decide)) hW ha0 h2) mk_X2_tell mv_X2_tell ml_X2_182 rfl rfl (Nat.le_of_ble_eq_true rfl) ha0 rfl (p_d1 hd (by decide)) (Nat.le_of_ble_eq_true rfl) ?_
  refine s_imul (pc := 9) dX2_lateness_9 ?_
  obtain ⟨q3, h4, hf⟩ := p_bd hf
  refine y_callS1 (pc := 10) dX2_lateness_10 (c_X2_rootOf (p_dd hd (by decide)) hW  h4) mk_X2_rootOf mz_X2_rootOf ml_X2_152 rfl rfl (Nat.le_of_ble_eq_true rfl) (p_d1 hd (by decide)) (Nat.le_of_ble_eq_true rfl) ?_
  refine s_sipush (pc := 13) dX2_lateness_13 (v := nI 10000) rfl ?_
  refine s_aload_n (pc := 16) dX2_lateness_16 0 rfl rfl ?_
  refine s_iload_n (pc := 17) dX2_lateness_17 1 rfl rfl ?_
  refine s_iconst (pc := 18) dX2_lateness_18 (v := nI 4) rfl ?_
  obtain ⟨q5, h6, hf⟩ := p_bd hf
  refine y_callV1 (pc := 19) dX2_lateness_19 (c_X2_tell (p_dd hd (by decide)) hW ha0 h6) mk_X2_tell mv_X2_tell ml_X2_182 rfl rfl (Nat.le_of_ble_eq_true rfl) ha0 rfl (p_d1 hd (by decide)) (Nat.le_of_ble_eq_true rfl) ?_
  refine s_imul (pc := 22) dX2_lateness_22 ?_
  obtain ⟨q7, h8, hf⟩ := p_bd hf
  refine y_callS1 (pc := 23) dX2_lateness_23 (c_X2_rootOf (p_dd hd (by decide)) hW  h8) mk_X2_rootOf mz_X2_rootOf ml_X2_152 rfl rfl (Nat.le_of_ble_eq_true rfl) (p_d1 hd (by decide)) (Nat.le_of_ble_eq_true rfl) ?_
  refine s_iadd (pc := 26) dX2_lateness_26 ?_
  cases hf
  exact s_ireturn (pc := 27) dX2_lateness_27 rfl rfl ⟨rfl, rfl, rfl, rfl, rfl⟩
def f_X3_forget (I : pI) (a0 : Nat) : Option pI :=
  p_let (p_u I a0 6 ((I a0 6) + (nI 1))) fun I1 =>
  p_let (p_u I1 a0 7 (-1)) fun I3 =>
  some I3
theorem c_X3_forget {G : pG} {d : Nat} {N : pN} {I : pI} {L : pL} {P : pR} {a0 : Nat} {qq : pI} (hd : 0 ≤ d) (hW : WT N P) (ha0 : p_tp N a0 6) (hf : f_X3_forget I a0 = some qq) : MT G mX3_forget d 0 0 [.ref a0] N I L P (p_R none N qq L P) := by
  refine MT.of rfl (Nat.le_of_ble_eq_true rfl) ?_
  show SW G mX3_forget (p_rm d 0 0) 0 0 0 0 (p_R none N qq L P) 0 [(0, .ref a0)] [] N I L P
  unfold f_X3_forget at hf
  refine s_aload_n (pc := 0) dX3_forget_0 0 rfl rfl ?_
  refine s_dup (pc := 1) dX3_forget_1 rfl ?_
  refine x_getI (pc := 2) dX3_forget_2 fl_X3_24 rfl ha0 ?_
  refine s_iconst (pc := 5) dX3_forget_5 (v := nI 1) rfl ?_
  refine s_iadd (pc := 6) dX3_forget_6 ?_
  refine x_putI (pc := 7) dX3_forget_7 fl_X3_24 (Or.inl rfl) rfl ha0 ?_
  refine s_nmI (fun I1 e2 => ?_)
  replace hf := p_lx hf e2
  refine s_aload_n (pc := 10) dX3_forget_10 0 rfl rfl ?_
  refine s_iconst (pc := 11) dX3_forget_11 (v := (-1)) rfl ?_
  refine x_putI (pc := 12) dX3_forget_12 fl_X3_28 (Or.inl rfl) rfl ha0 ?_
  refine s_nmI (fun I3 e4 => ?_)
  replace hf := p_lx hf e4
  cases hf
  exact s_return (pc := 15) dX3_forget_15 rfl ⟨rfl, rfl, rfl, rfl, rfl⟩
def f_X3_siteSignal (n : Nat) (N : pN) (I : pI) (L : pL) (P : pR) (a0 : Nat) (x1 : Int32) (x2 : Int32) : Option (Int32 × pI × pL) :=
  Option.bind (P a0 0) fun q1 =>
  Option.bind (P q1 3) fun q4 =>
  Option.bind (f_X8_has I q4 x1) fun q7 =>
  (if q7 = 0 then
    some ((-1), I, L)
  else
    Option.bind (P a0 0) fun q9 =>
    Option.bind (P q9 4) fun q12 =>
    Option.bind (f_X8_has I q12 x2) fun q15 =>
    (if q15 = 0 then
      some ((-1), I, L)
    else
      Option.bind (f_X3_keyOf (nI 6) (nI 0) (nI 0)) fun q17 =>
      (if ((q17 + (x1 * (nI 8))) + x2) < 0 then
        some ((-1), I, L)
      else
        Option.bind (P a0 2) fun q19 =>
        (if (nI (N.2 q19).2) ≤ ((q17 + (x1 * (nI 8))) + x2) then
          some ((-1), I, L)
        else
          Option.bind (P a0 3) fun q22 =>
          (if ((q17 + (x1 * (nI 8))) + x2) < (nI (N.2 q22).2) then
            Option.bind (P a0 3) fun q25 =>
            p_ck (p_ib N q25 ((q17 + (x1 * (nI 8))) + x2)) <|
            Option.bind (α := pI × pL) ((if (I q25 (Int32.toNatClampNeg ((q17 + (x1 * (nI 8))) + x2))) = (I a0 6) then
              some (I, L)
            else
              Option.bind (P a0 0) fun q31 =>
              Option.bind (P q31 4) fun q34 =>
              Option.bind (f_X8_get N I P q34 x2 (nI 0)) fun q37 =>
              Option.bind (P a0 0) fun q39 =>
              Option.bind (P q39 4) fun q42 =>
              Option.bind (f_X8_get N I P q42 x2 (nI 1)) fun q45 =>
              Option.bind (P a0 2) fun q47 =>
              Option.bind (P a0 1) fun q50 =>
              Option.bind (P a0 0) fun q53 =>
              Option.bind (P q53 3) fun q56 =>
              Option.bind (f_X2_search n N I L P q50 q56 x1 (nI 2) q37 q45) fun q59 =>
              p_ck (p_ib N q47 ((q17 + (x1 * (nI 8))) + x2)) <|
              p_let (p_u q59.2.1 q47 (Int32.toNatClampNeg ((q17 + (x1 * (nI 8))) + x2)) q59.1) fun I62 =>
              Option.bind (P a0 3) fun q64 =>
              p_ck (p_ib N q64 ((q17 + (x1 * (nI 8))) + x2)) <|
              p_let (p_u I62 q64 (Int32.toNatClampNeg ((q17 + (x1 * (nI 8))) + x2)) (I62 a0 6)) fun I68 =>
              p_let (p_u I68 a0 7 (-1)) fun I70 =>
              some (I70, q59.2.2))) fun t29 =>
            Option.bind (P a0 2) fun q72 =>
            p_ck (p_ib N q72 ((q17 + (x1 * (nI 8))) + x2)) <|
            some (t29.1 q72 (Int32.toNatClampNeg ((q17 + (x1 * (nI 8))) + x2)), t29.1, t29.2)
          else
            some ((-1), I, L))))))
theorem c_X3_siteSignal {G : pG} {d : Nat} {n : Nat} {N : pN} {I : pI} {L : pL} {P : pR} {a0 : Nat} {x1 : Int32} {x2 : Int32} {qq : Int32 × pI × pL} (hd : 4 ≤ d) (hW : WT N P) (ha0 : p_tp N a0 6) (hf : f_X3_siteSignal n N I L P a0 x1 x2 = some qq) : MT G mX3_siteSignal d 0 0 [.ref a0, .int x1, .int x2] N I L P (p_R (some (.int qq.1)) N qq.2.1 qq.2.2 P) := by
  refine MT.of rfl (Nat.le_of_ble_eq_true rfl) ?_
  show SW G mX3_siteSignal (p_rm d 0 0) 0 0 0 0 (p_R (some (.int qq.1)) N qq.2.1 qq.2.2 P) 0 [(0, .ref a0), (1, .int x1), (2, .int x2)] [] N I L P
  unfold f_X3_siteSignal at hf
  refine s_aload_n (pc := 0) dX3_siteSignal_0 0 rfl rfl ?_
  obtain ⟨q1, h2, hf⟩ := p_bd hf
  have t3 : p_tp N q1 10 := WT.get hW ha0 h2
  refine x_getR (pc := 1) dX3_siteSignal_1 fl_X3_31 rfl ha0 h2 ?_
  obtain ⟨q4, h5, hf⟩ := p_bd hf
  have t6 : p_tp N q4 11 := WT.get hW t3 h5
  refine x_getR (pc := 4) dX3_siteSignal_4 fl_X3_63 rfl t3 h5 ?_
  refine s_iload_n (pc := 7) dX3_siteSignal_7 1 rfl rfl ?_
  obtain ⟨q7, h8, hf⟩ := p_bd hf
  refine y_callV1 (pc := 8) dX3_siteSignal_8 (c_X8_has (p_dd hd (by decide)) hW t6 h8) mk_X8_has mv_X8_has ml_X3_66 rfl rfl (Nat.le_of_ble_eq_true rfl) t6 rfl (p_d1 hd (by decide)) (Nat.le_of_ble_eq_true rfl) ?_
  refine s_if_eq (pc := 11) (tgt := 28) dX3_siteSignal_11 rfl (fun hc => ?_) (fun hc => ?_)
  · replace hf := p_ps hf hc
    refine s_iconst (pc := 28) dX3_siteSignal_28 (v := (-1)) rfl ?_
    cases hf
    exact s_ireturn (pc := 29) dX3_siteSignal_29 rfl rfl ⟨rfl, rfl, rfl, rfl, rfl⟩
  · replace hf := p_ng hf hc
    refine s_aload_n (pc := 14) dX3_siteSignal_14 0 rfl rfl ?_
    obtain ⟨q9, h10, hf⟩ := p_bd hf
    have t11 : p_tp N q9 10 := WT.get hW ha0 h10
    refine x_getR (pc := 15) dX3_siteSignal_15 fl_X3_31 rfl ha0 h10 ?_
    obtain ⟨q12, h13, hf⟩ := p_bd hf
    have t14 : p_tp N q12 11 := WT.get hW t11 h13
    refine x_getR (pc := 18) dX3_siteSignal_18 fl_X3_71 rfl t11 h13 ?_
    refine s_iload_n (pc := 21) dX3_siteSignal_21 2 rfl rfl ?_
    obtain ⟨q15, h16, hf⟩ := p_bd hf
    refine y_callV1 (pc := 22) dX3_siteSignal_22 (c_X8_has (p_dd hd (by decide)) hW t14 h16) mk_X8_has mv_X8_has ml_X3_66 rfl rfl (Nat.le_of_ble_eq_true rfl) t14 rfl (p_d1 hd (by decide)) (Nat.le_of_ble_eq_true rfl) ?_
    refine s_if_ne (pc := 25) (tgt := 30) dX3_siteSignal_25 rfl (fun hc => ?_) (fun hc => ?_)
    · replace hf := p_ng hf hc
      refine s_bipush (pc := 30) dX3_siteSignal_30 (v := nI 6) rfl ?_
      refine s_iconst (pc := 32) dX3_siteSignal_32 (v := nI 0) rfl ?_
      refine s_iconst (pc := 33) dX3_siteSignal_33 (v := nI 0) rfl ?_
      obtain ⟨q17, h18, hf⟩ := p_bd hf
      refine y_callS1 (pc := 34) dX3_siteSignal_34 (c_X3_keyOf (p_dd hd (by decide)) hW  h18) mk_X3_keyOf mz_X3_keyOf ml_X3_49 rfl rfl (Nat.le_of_ble_eq_true rfl) (p_d1 hd (by decide)) (Nat.le_of_ble_eq_true rfl) ?_
      refine s_iload_n (pc := 37) dX3_siteSignal_37 1 rfl rfl ?_
      refine s_bipush (pc := 38) dX3_siteSignal_38 (v := nI 8) rfl ?_
      refine s_imul (pc := 40) dX3_siteSignal_40 ?_
      refine s_iadd (pc := 41) dX3_siteSignal_41 ?_
      refine s_iload_n (pc := 42) dX3_siteSignal_42 2 rfl rfl ?_
      refine s_iadd (pc := 43) dX3_siteSignal_43 ?_
      refine s_istore_n (pc := 44) (lo' := [(3, .int ((q17 + (x1 * (nI 8))) + x2)), (0, .ref a0), (1, .int x1), (2, .int x2)]) dX3_siteSignal_44 rfl (Nat.le_of_ble_eq_true rfl) rfl ?_
      refine s_iload_n (pc := 45) dX3_siteSignal_45 0 rfl rfl ?_
      refine s_if_lt (pc := 46) (tgt := 67) dX3_siteSignal_46 rfl (fun hc => ?_) (fun hc => ?_)
      · replace hf := p_ps hf hc
        refine s_iconst (pc := 67) dX3_siteSignal_67 (v := (-1)) rfl ?_
        cases hf
        exact s_ireturn (pc := 68) dX3_siteSignal_68 rfl rfl ⟨rfl, rfl, rfl, rfl, rfl⟩
      · replace hf := p_ng hf hc
        refine s_iload_n (pc := 49) dX3_siteSignal_49 0 rfl rfl ?_
        refine s_aload_n (pc := 50) dX3_siteSignal_50 1 rfl rfl ?_
        obtain ⟨q19, h20, hf⟩ := p_bd hf
        have t21 : p_tp N q19 0 := WT.get hW ha0 h20
        refine x_getR (pc := 51) dX3_siteSignal_51 fl_X3_11 rfl ha0 h20 ?_
        refine x_alen (pc := 54) dX3_siteSignal_54 t21 (Nat.le_of_ble_eq_true rfl) ?_
        refine s_icmp_ge (pc := 55) (tgt := 67) dX3_siteSignal_55 rfl (fun hc => ?_) (fun hc => ?_)
        · replace hf := p_ps hf hc
          refine s_iconst (pc := 67) dX3_siteSignal_67 (v := (-1)) rfl ?_
          cases hf
          exact s_ireturn (pc := 68) dX3_siteSignal_68 rfl rfl ⟨rfl, rfl, rfl, rfl, rfl⟩
        · replace hf := p_ng hf hc
          refine s_iload_n (pc := 58) dX3_siteSignal_58 0 rfl rfl ?_
          refine s_aload_n (pc := 59) dX3_siteSignal_59 1 rfl rfl ?_
          obtain ⟨q22, h23, hf⟩ := p_bd hf
          have t24 : p_tp N q22 0 := WT.get hW ha0 h23
          refine x_getR (pc := 60) dX3_siteSignal_60 fl_X3_15 rfl ha0 h23 ?_
          refine x_alen (pc := 63) dX3_siteSignal_63 t24 (Nat.le_of_ble_eq_true rfl) ?_
          refine s_icmp_lt (pc := 64) (tgt := 69) dX3_siteSignal_64 rfl (fun hc => ?_) (fun hc => ?_)
          · replace hf := p_ps hf hc
            refine s_aload_n (pc := 69) dX3_siteSignal_69 1 rfl rfl ?_
            obtain ⟨q25, h26, hf⟩ := p_bd hf
            have t27 : p_tp N q25 0 := WT.get hW ha0 h26
            refine x_getR (pc := 70) dX3_siteSignal_70 fl_X3_15 rfl ha0 h26 ?_
            refine s_iload_n (pc := 73) dX3_siteSignal_73 0 rfl rfl ?_
            obtain ⟨c28, hf⟩ := p_ckx hf
            refine x_iald (pc := 74) dX3_siteSignal_74 t27 c28 ?_
            refine s_aload_n (pc := 75) dX3_siteSignal_75 1 rfl rfl ?_
            refine x_getI (pc := 76) dX3_siteSignal_76 fl_X3_24 rfl ha0 ?_
            obtain ⟨t29, hg, hf⟩ := p_bd hf
            have k30 : SW G mX3_siteSignal (p_rm d 0 0) 0 0 0 0 (p_R (some (.int qq.1)) N qq.2.1 qq.2.2 P) 151 [(3, .int ((q17 + (x1 * (nI 8))) + x2)), (0, .ref a0)] [] N t29.1 t29.2 P := by
              refine s_aload_n (pc := 151) dX3_siteSignal_151 1 rfl rfl ?_
              obtain ⟨q72, h73, hf⟩ := p_bd hf
              have t74 : p_tp N q72 0 := WT.get hW ha0 h73
              refine x_getR (pc := 152) dX3_siteSignal_152 fl_X3_11 rfl ha0 h73 ?_
              refine s_iload_n (pc := 155) dX3_siteSignal_155 0 rfl rfl ?_
              obtain ⟨c75, hf⟩ := p_ckx hf
              refine x_iald (pc := 156) dX3_siteSignal_156 t74 c75 ?_
              cases hf
              exact s_ireturn (pc := 157) dX3_siteSignal_157 rfl rfl ⟨rfl, rfl, rfl, rfl, rfl⟩
            replace hf := hg
            refine s_icmp_eq (pc := 79) (tgt := 151) dX3_siteSignal_79 rfl (fun hc => ?_) (fun hc => ?_)
            · replace hf := p_ps hf hc
              cases hf
              exact s_lo [0, 1] rfl (k30)
            · replace hf := p_ng hf hc
              refine s_aload_n (pc := 82) dX3_siteSignal_82 1 rfl rfl ?_
              obtain ⟨q31, h32, hf⟩ := p_bd hf
              have t33 : p_tp N q31 10 := WT.get hW ha0 h32
              refine x_getR (pc := 83) dX3_siteSignal_83 fl_X3_31 rfl ha0 h32 ?_
              obtain ⟨q34, h35, hf⟩ := p_bd hf
              have t36 : p_tp N q34 11 := WT.get hW t33 h35
              refine x_getR (pc := 86) dX3_siteSignal_86 fl_X3_71 rfl t33 h35 ?_
              refine s_iload_n (pc := 89) dX3_siteSignal_89 3 rfl rfl ?_
              refine s_iconst (pc := 90) dX3_siteSignal_90 (v := nI 0) rfl ?_
              obtain ⟨q37, h38, hf⟩ := p_bd hf
              refine y_callV1 (pc := 91) dX3_siteSignal_91 (c_X8_get (p_dd hd (by decide)) hW t36 h38) mk_X8_get mv_X8_get ml_X3_74 rfl rfl (Nat.le_of_ble_eq_true rfl) t36 rfl (p_d1 hd (by decide)) (Nat.le_of_ble_eq_true rfl) ?_
              refine s_istore (pc := 94) (lo' := [(4, .int q37), (3, .int ((q17 + (x1 * (nI 8))) + x2)), (0, .ref a0), (1, .int x1), (2, .int x2)]) dX3_siteSignal_94 (Nat.le_of_ble_eq_true rfl) rfl ?_
              refine s_aload_n (pc := 96) dX3_siteSignal_96 2 rfl rfl ?_
              obtain ⟨q39, h40, hf⟩ := p_bd hf
              have t41 : p_tp N q39 10 := WT.get hW ha0 h40
              refine x_getR (pc := 97) dX3_siteSignal_97 fl_X3_31 rfl ha0 h40 ?_
              obtain ⟨q42, h43, hf⟩ := p_bd hf
              have t44 : p_tp N q42 11 := WT.get hW t41 h43
              refine x_getR (pc := 100) dX3_siteSignal_100 fl_X3_71 rfl t41 h43 ?_
              refine s_iload_n (pc := 103) dX3_siteSignal_103 4 rfl rfl ?_
              refine s_iconst (pc := 104) dX3_siteSignal_104 (v := nI 1) rfl ?_
              obtain ⟨q45, h46, hf⟩ := p_bd hf
              refine y_callV1 (pc := 105) dX3_siteSignal_105 (c_X8_get (p_dd hd (by decide)) hW t44 h46) mk_X8_get mv_X8_get ml_X3_74 rfl rfl (Nat.le_of_ble_eq_true rfl) t44 rfl (p_d1 hd (by decide)) (Nat.le_of_ble_eq_true rfl) ?_
              refine s_istore (pc := 108) (lo' := [(5, .int q45), (4, .int q37), (3, .int ((q17 + (x1 * (nI 8))) + x2)), (0, .ref a0), (1, .int x1), (2, .int x2)]) dX3_siteSignal_108 (Nat.le_of_ble_eq_true rfl) rfl ?_
              refine s_aload_n (pc := 110) dX3_siteSignal_110 3 rfl rfl ?_
              obtain ⟨q47, h48, hf⟩ := p_bd hf
              have t49 : p_tp N q47 0 := WT.get hW ha0 h48
              refine x_getR (pc := 111) dX3_siteSignal_111 fl_X3_11 rfl ha0 h48 ?_
              refine s_iload_n (pc := 114) dX3_siteSignal_114 2 rfl rfl ?_
              refine s_aload_n (pc := 115) dX3_siteSignal_115 3 rfl rfl ?_
              obtain ⟨q50, h51, hf⟩ := p_bd hf
              have t52 : p_tp N q50 5 := WT.get hW ha0 h51
              refine x_getR (pc := 116) dX3_siteSignal_116 fl_X3_35 rfl ha0 h51 ?_
              refine s_aload_n (pc := 119) dX3_siteSignal_119 3 rfl rfl ?_
              obtain ⟨q53, h54, hf⟩ := p_bd hf
              have t55 : p_tp N q53 10 := WT.get hW ha0 h54
              refine x_getR (pc := 120) dX3_siteSignal_120 fl_X3_31 rfl ha0 h54 ?_
              obtain ⟨q56, h57, hf⟩ := p_bd hf
              have t58 : p_tp N q56 11 := WT.get hW t55 h57
              refine x_getR (pc := 123) dX3_siteSignal_123 fl_X3_63 rfl t55 h57 ?_
              refine s_iload_n (pc := 126) dX3_siteSignal_126 4 rfl rfl ?_
              refine s_iconst (pc := 127) dX3_siteSignal_127 (v := nI 2) rfl ?_
              refine s_iload (pc := 128) dX3_siteSignal_128 1 rfl ?_
              refine s_iload (pc := 130) dX3_siteSignal_130 0 rfl ?_
              obtain ⟨q59, h60, hf⟩ := p_bd hf
              refine y_callV1 (pc := 132) dX3_siteSignal_132 (c_X2_search (p_dd hd (by decide)) hW t52 t58 h60) mk_X2_search mv_X2_search ml_X3_57 rfl rfl (Nat.le_of_ble_eq_true rfl) t52 rfl (p_d1 hd (by decide)) (Nat.le_of_ble_eq_true rfl) ?_
              obtain ⟨c61, hf⟩ := p_ckx hf
              refine x_iast (pc := 135) dX3_siteSignal_135 t49 c61 ?_
              refine s_nmI (fun I62 e63 => ?_)
              replace hf := p_lx hf e63
              refine s_aload_n (pc := 136) dX3_siteSignal_136 3 rfl rfl ?_
              obtain ⟨q64, h65, hf⟩ := p_bd hf
              have t66 : p_tp N q64 0 := WT.get hW ha0 h65
              refine x_getR (pc := 137) dX3_siteSignal_137 fl_X3_15 rfl ha0 h65 ?_
              refine s_iload_n (pc := 140) dX3_siteSignal_140 2 rfl rfl ?_
              refine s_aload_n (pc := 141) dX3_siteSignal_141 3 rfl rfl ?_
              refine x_getI (pc := 142) dX3_siteSignal_142 fl_X3_24 rfl ha0 ?_
              obtain ⟨c67, hf⟩ := p_ckx hf
              refine x_iast (pc := 145) dX3_siteSignal_145 t66 c67 ?_
              refine s_nmI (fun I68 e69 => ?_)
              replace hf := p_lx hf e69
              refine s_aload_n (pc := 146) dX3_siteSignal_146 3 rfl rfl ?_
              refine s_iconst (pc := 147) dX3_siteSignal_147 (v := (-1)) rfl ?_
              refine x_putI (pc := 148) dX3_siteSignal_148 fl_X3_28 (Or.inl rfl) rfl ha0 ?_
              refine s_nmI (fun I70 e71 => ?_)
              replace hf := p_lx hf e71
              cases hf
              exact s_lo [2, 3] rfl (k30)
          · replace hf := p_ng hf hc
            refine s_iconst (pc := 67) dX3_siteSignal_67 (v := (-1)) rfl ?_
            cases hf
            exact s_ireturn (pc := 68) dX3_siteSignal_68 rfl rfl ⟨rfl, rfl, rfl, rfl, rfl⟩
    · replace hf := p_ps hf hc
      refine s_iconst (pc := 28) dX3_siteSignal_28 (v := (-1)) rfl ?_
      cases hf
      exact s_ireturn (pc := 29) dX3_siteSignal_29 rfl rfl ⟨rfl, rfl, rfl, rfl, rfl⟩
