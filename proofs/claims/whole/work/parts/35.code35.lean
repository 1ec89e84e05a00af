def B_X12_town_52 (n : Nat) (N : pN) (P : pR) (a0 : Nat) (rec0 : pI → Option pI) (s0 : pI) : Option pI :=
  (if (s0 a0 35) = 0 then
    (if (s0 a0 31) = 0 then
      some s0
    else
      Option.bind (f_X12_aTownLine n N s0 P a0) fun q45 =>
      rec0 q45)
  else
    some s0)
def B_X12_town_87 (n : Nat) (N : pN) (P : pR) (a0 : Nat) (rec0 : (Int32 × pI) → Option pI) (s0 : Int32 × pI) : Option pI :=
  (if (s0.2 a0 38) ≤ s0.1 then
    some s0.2
  else
    Option.bind (f_X12_comes n N s0.2 P a0 (6 * s0.1)) fun q56 =>
    rec0 (s0.1 + 1, q56))
def f_X12_town (n : Nat) (N : pN) (I : pI) (P : pR) (a0 : Nat) : Option (Int32 × pI) :=
  Option.bind (f_X12_reads n N I P a0) fun q1 =>
  Option.bind (P a0 37) fun q3 =>
  Option.bind (P a0 0) fun q6 =>
  p_ck (p_ib N q6 0) <|
  p_ck (p_ib N q3 1) <|
  p_let (p_u q1 q3 (Int32.toNatClampNeg 1) (q1 q6 (Int32.toNatClampNeg 0))) fun I11 =>
  Option.bind (P a0 37) fun q13 =>
  Option.bind (P a0 0) fun q16 =>
  p_ck (p_ib N q16 1) <|
  p_ck (p_ib N q13 2) <|
  p_let (p_u I11 q13 (Int32.toNatClampNeg 2) (I11 q16 (Int32.toNatClampNeg 1))) fun I21 =>
  Option.bind (P a0 37) fun q23 =>
  Option.bind (P a0 0) fun q26 =>
  p_ck (p_ib N q26 3) <|
  p_ck (p_ib N q23 3) <|
  p_let (p_u I21 q23 (Int32.toNatClampNeg 3) (I21 q26 (Int32.toNatClampNeg 3))) fun I31 =>
  Option.bind (P a0 37) fun q33 =>
  Option.bind (P a0 0) fun q36 =>
  p_ck (p_ib N q36 2) <|
  p_ck (p_ib N q33 4) <|
  p_let (p_u I31 q33 (Int32.toNatClampNeg 4) (I31 q36 (Int32.toNatClampNeg 2))) fun I41 =>
  Option.bind (p_it (B_X12_town_52 n N P a0) n I41) fun t43 =>
  Option.bind (P a0 0) fun q50 =>
  p_ck (p_ib N q50 9) <|
  (if (t43 q50 (Int32.toNatClampNeg 9)) = 0 then
    Option.bind (p_it (B_X12_town_87 n N P a0) n (0, t43)) fun t54 =>
    Option.bind (f_X12_forgets n N t54 P a0) fun q61 =>
    some (q61 a0 38, q61)
  else
    some ((-1), t43))
theorem c_X12_town {G : pG} {d : Nat} {n : Nat} {N : pN} {I : pI} {L : pL} {P : pR} {a0 : Nat} {qq : Int32 × pI} (hd : 6 ≤ d) (hW : WT N P) (ha0 : p_tp N a0 15) (hf : f_X12_town n N I P a0 = some qq) : MT G mX12_town d 0 0 [.ref a0] N I L P (p_R (some (.int qq.1)) N qq.2 L P) := by
  refine MT.of rfl (Nat.le_of_ble_eq_true rfl) ?_
  show SW G mX12_town (p_rm d 0 0) 0 0 0 0 (p_R (some (.int qq.1)) N qq.2 L P) 0 [(0, .ref a0)] [] N I L P
  unfold f_X12_town at hf
  refine s_aload_n (pc := 0) dX12_town_0 0 rfl rfl ?_
  obtain ⟨q1, h2, hf⟩ := p_bd hf
  refine y_callV0 (pc := 1) dX12_town_1 (c_X12_reads (p_dd hd (by decide)) hW ha0 h2) mk_X12_reads mv_X12_reads ml_X12_384 rfl rfl (Nat.le_of_ble_eq_true rfl) ha0 rfl (p_d1 hd (by decide)) (Nat.le_of_ble_eq_true rfl) ?_
  refine s_aload_n (pc := 4) dX12_town_4 0 rfl rfl ?_
  obtain ⟨q3, h4, hf⟩ := p_bd hf
  have t5 : p_tp N q3 0 := WT.get hW ha0 h4
  refine x_getR (pc := 5) dX12_town_5 fl_X12_56 rfl ha0 h4 ?_
  refine s_iconst (pc := 8) dX12_town_8 (v := 1) rfl ?_
  refine s_aload_n (pc := 9) dX12_town_9 0 rfl rfl ?_
  obtain ⟨q6, h7, hf⟩ := p_bd hf
  have t8 : p_tp N q6 0 := WT.get hW ha0 h7
  refine x_getR (pc := 10) dX12_town_10 fl_X12_7 rfl ha0 h7 ?_
  refine s_iconst (pc := 13) dX12_town_13 (v := 0) rfl ?_
  obtain ⟨c9, hf⟩ := p_ckx hf
  refine x_iald (pc := 14) dX12_town_14 t8 c9 ?_
  obtain ⟨c10, hf⟩ := p_ckx hf
  refine x_iast (pc := 15) dX12_town_15 t5 c10 ?_
  refine s_nmI (fun I11 e12 => ?_)
  replace hf := p_lx hf e12
  refine s_aload_n (pc := 16) dX12_town_16 0 rfl rfl ?_
  obtain ⟨q13, h14, hf⟩ := p_bd hf
  have t15 : p_tp N q13 0 := WT.get hW ha0 h14
  refine x_getR (pc := 17) dX12_town_17 fl_X12_56 rfl ha0 h14 ?_
  refine s_iconst (pc := 20) dX12_town_20 (v := 2) rfl ?_
  refine s_aload_n (pc := 21) dX12_town_21 0 rfl rfl ?_
  obtain ⟨q16, h17, hf⟩ := p_bd hf
  have t18 : p_tp N q16 0 := WT.get hW ha0 h17
  refine x_getR (pc := 22) dX12_town_22 fl_X12_7 rfl ha0 h17 ?_
  refine s_iconst (pc := 25) dX12_town_25 (v := 1) rfl ?_
  obtain ⟨c19, hf⟩ := p_ckx hf
  refine x_iald (pc := 26) dX12_town_26 t18 c19 ?_
  obtain ⟨c20, hf⟩ := p_ckx hf
  refine x_iast (pc := 27) dX12_town_27 t15 c20 ?_
  refine s_nmI (fun I21 e22 => ?_)
  replace hf := p_lx hf e22
  refine s_aload_n (pc := 28) dX12_town_28 0 rfl rfl ?_
  obtain ⟨q23, h24, hf⟩ := p_bd hf
  have t25 : p_tp N q23 0 := WT.get hW ha0 h24
  refine x_getR (pc := 29) dX12_town_29 fl_X12_56 rfl ha0 h24 ?_
  refine s_iconst (pc := 32) dX12_town_32 (v := 3) rfl ?_
  refine s_aload_n (pc := 33) dX12_town_33 0 rfl rfl ?_
  obtain ⟨q26, h27, hf⟩ := p_bd hf
  have t28 : p_tp N q26 0 := WT.get hW ha0 h27
  refine x_getR (pc := 34) dX12_town_34 fl_X12_7 rfl ha0 h27 ?_
  refine s_iconst (pc := 37) dX12_town_37 (v := 3) rfl ?_
  obtain ⟨c29, hf⟩ := p_ckx hf
  refine x_iald (pc := 38) dX12_town_38 t28 c29 ?_
  obtain ⟨c30, hf⟩ := p_ckx hf
  refine x_iast (pc := 39) dX12_town_39 t25 c30 ?_
  refine s_nmI (fun I31 e32 => ?_)
  replace hf := p_lx hf e32
  refine s_aload_n (pc := 40) dX12_town_40 0 rfl rfl ?_
  obtain ⟨q33, h34, hf⟩ := p_bd hf
  have t35 : p_tp N q33 0 := WT.get hW ha0 h34
  refine x_getR (pc := 41) dX12_town_41 fl_X12_56 rfl ha0 h34 ?_
  refine s_iconst (pc := 44) dX12_town_44 (v := 4) rfl ?_
  refine s_aload_n (pc := 45) dX12_town_45 0 rfl rfl ?_
  obtain ⟨q36, h37, hf⟩ := p_bd hf
  have t38 : p_tp N q36 0 := WT.get hW ha0 h37
  refine x_getR (pc := 46) dX12_town_46 fl_X12_7 rfl ha0 h37 ?_
  refine s_iconst (pc := 49) dX12_town_49 (v := 2) rfl ?_
  obtain ⟨c39, hf⟩ := p_ckx hf
  refine x_iald (pc := 50) dX12_town_50 t38 c39 ?_
  obtain ⟨c40, hf⟩ := p_ckx hf
  refine x_iast (pc := 51) dX12_town_51 t35 c40 ?_
  refine s_nmI (fun I41 e42 => ?_)
  replace hf := p_lx hf e42
  obtain ⟨t43, hg, hf⟩ := p_bd hf
  have k44 : SW G mX12_town (p_rm d 0 0) 0 0 0 0 (p_R (some (.int qq.1)) N qq.2 L P) 73 [(0, .ref a0)] [] N t43 L P := by
    refine s_aload_n (pc := 73) dX12_town_73 0 rfl rfl ?_
    obtain ⟨q50, h51, hf⟩ := p_bd hf
    have t52 : p_tp N q50 0 := WT.get hW ha0 h51
    refine x_getR (pc := 74) dX12_town_74 fl_X12_7 rfl ha0 h51 ?_
    refine s_bipush (pc := 77) dX12_town_77 (v := 9) rfl ?_
    obtain ⟨c53, hf⟩ := p_ckx hf
    refine x_iald (pc := 79) dX12_town_79 t52 c53 ?_
    refine s_if_eq (pc := 80) (tgt := 85) dX12_town_80 rfl (fun hc => ?_) (fun hc => ?_)
    · replace hf := p_ps hf hc
      refine s_iconst (pc := 85) dX12_town_85 (v := 0) rfl ?_
      refine s_istore_n (pc := 86) (lo' := [(1, .int 0), (0, .ref a0)]) dX12_town_86 rfl (Nat.le_of_ble_eq_true rfl) rfl ?_
      obtain ⟨t54, hg, hf⟩ := p_bd hf
      have k55 : SW G mX12_town (p_rm d 0 0) 0 0 0 0 (p_R (some (.int qq.1)) N qq.2 L P) 109 [(0, .ref a0)] [] N t54 L P := by
        refine s_aload_n (pc := 109) dX12_town_109 0 rfl rfl ?_
        obtain ⟨q61, h62, hf⟩ := p_bd hf
        refine y_callV0 (pc := 110) dX12_town_110 (c_X12_forgets (p_dd hd (by decide)) hW ha0 h62) mk_X12_forgets mv_X12_forgets ml_X12_65 rfl rfl (Nat.le_of_ble_eq_true rfl) ha0 rfl (p_d1 hd (by decide)) (Nat.le_of_ble_eq_true rfl) ?_
        refine s_aload_n (pc := 113) dX12_town_113 0 rfl rfl ?_
        refine x_getI (pc := 114) dX12_town_114 fl_X12_363 rfl ha0 ?_
        cases hf
        exact s_ireturn (pc := 117) dX12_town_117 rfl rfl ⟨rfl, rfl, rfl, rfl, rfl⟩
      replace hf := hg
      have k58 : ∀ (k : Nat) (s0 : Int32 × pI), p_it (B_X12_town_87 n N P a0) k s0 = some t54 → (SW G mX12_town (p_rm d 0 0) 0 0 0 0 (p_R (some (.int qq.1)) N qq.2 L P) 87 [(0, .ref a0), (1, .int s0.1)] [] N s0.2 L P) := p_it_ind (C := fun (s0 : Int32 × pI) => SW G mX12_town (p_rm d 0 0) 0 0 0 0 (p_R (some (.int qq.1)) N qq.2 L P) 87 [(0, .ref a0), (1, .int s0.1)] [] N s0.2 L P) (by
        intro rec0 hrec0 s0 hf
        unfold B_X12_town_87 at hf
        refine s_iload_n (pc := 87) dX12_town_87 1 rfl rfl ?_
        refine s_aload_n (pc := 88) dX12_town_88 0 rfl rfl ?_
        refine x_getI (pc := 89) dX12_town_89 fl_X12_363 rfl ha0 ?_
        refine s_icmp_ge (pc := 92) (tgt := 109) dX12_town_92 rfl (fun hc => ?_) (fun hc => ?_)
        · replace hf := p_ps hf hc
          cases hf
          exact s_lo [0] rfl (k55)
        · replace hf := p_ng hf hc
          refine s_aload_n (pc := 95) dX12_town_95 0 rfl rfl ?_
          refine s_bipush (pc := 96) dX12_town_96 (v := 6) rfl ?_
          refine s_iload_n (pc := 98) dX12_town_98 1 rfl rfl ?_
          refine s_imul (pc := 99) dX12_town_99 ?_
          obtain ⟨q59, h60, hf⟩ := p_bd hf
          refine y_callV0 (pc := 100) dX12_town_100 (c_X12_comes (p_dd hd (by decide)) hW ha0 h60) mk_X12_comes mv_X12_comes ml_X12_390 rfl rfl (Nat.le_of_ble_eq_true rfl) ha0 rfl (p_d1 hd (by decide)) (Nat.le_of_ble_eq_true rfl) ?_
          refine s_iinc (pc := 103) (lo' := [(1, .int (s0.1 + 1)), (0, .ref a0)]) dX12_town_103 1 rfl (v := s0.1 + 1) rfl (Nat.le_of_ble_eq_true rfl) rfl ?_
          refine s_goto (pc := 106) (tgt := 87) dX12_town_106 rfl ?_
          exact s_lo [1, 0] rfl (hrec0 (s0.1 + 1, q59) hf))
      exact s_lo [1, 0] rfl (k58 n (0, t43) hf)
    · replace hf := p_ng hf hc
      refine s_iconst (pc := 83) dX12_town_83 (v := -1) rfl ?_
      cases hf
      exact s_ireturn (pc := 84) dX12_town_84 rfl rfl ⟨rfl, rfl, rfl, rfl, rfl⟩
  replace hf := hg
  have k47 : ∀ (k : Nat) (s0 : pI), p_it (B_X12_town_52 n N P a0) k s0 = some t43 → (SW G mX12_town (p_rm d 0 0) 0 0 0 0 (p_R (some (.int qq.1)) N qq.2 L P) 52 [(0, .ref a0)] [] N s0 L P) := p_it_ind (C := fun (s0 : pI) => SW G mX12_town (p_rm d 0 0) 0 0 0 0 (p_R (some (.int qq.1)) N qq.2 L P) 52 [(0, .ref a0)] [] N s0 L P) (by
    intro rec0 hrec0 s0 hf
    unfold B_X12_town_52 at hf
    refine s_aload_n (pc := 52) dX12_town_52 0 rfl rfl ?_
    refine x_getI (pc := 53) dX12_town_53 fl_X12_354 rfl ha0 ?_
    refine s_if_ne (pc := 56) (tgt := 73) dX12_town_56 rfl (fun hc => ?_) (fun hc => ?_)
    · replace hf := p_ng hf hc
      cases hf
      exact s_lo [0] rfl (k44)
    · replace hf := p_ps hf hc
      refine s_aload_n (pc := 59) dX12_town_59 0 rfl rfl ?_
      refine x_getI (pc := 60) dX12_town_60 fl_X12_330 rfl ha0 ?_
      refine s_if_eq (pc := 63) (tgt := 73) dX12_town_63 rfl (fun hc => ?_) (fun hc => ?_)
      · replace hf := p_ps hf hc
        cases hf
        exact s_lo [0] rfl (k44)
      · replace hf := p_ng hf hc
        refine s_aload_n (pc := 66) dX12_town_66 0 rfl rfl ?_
        obtain ⟨q48, h49, hf⟩ := p_bd hf
        refine y_callV0 (pc := 67) dX12_town_67 (c_X12_aTownLine (p_dd hd (by decide)) hW ha0 h49) mk_X12_aTownLine mv_X12_aTownLine ml_X12_387 rfl rfl (Nat.le_of_ble_eq_true rfl) ha0 rfl (p_d1 hd (by decide)) (Nat.le_of_ble_eq_true rfl) ?_
        refine s_goto (pc := 70) (tgt := 52) dX12_town_70 rfl ?_
        exact s_lo [0] rfl (hrec0 q48 hf))
  exact s_lo [0] rfl (k47 n I41 hf)
def f_X12_aTest (n : Nat) (N : pN) (I : pI) (P : pR) (a0 : Nat) : Option pI :=
  Option.bind (P a0 40) fun q1 =>
  Option.bind (f_X12_takes n N I P a0 32) fun q4 =>
  p_let (α := Int32) ((if q4.1 = 0 then
    0
  else
    1)) fun t6 =>
  p_ck (p_ib N q1 0) <|
  p_let (p_u q4.2 q1 (Int32.toNatClampNeg 0) t6) fun I9 =>
  Option.bind (P a0 40) fun q11 =>
  p_ck (p_ib N q11 1) <|
  p_let (p_u I9 q11 (Int32.toNatClampNeg 1) (I9 a0 34)) fun I15 =>
  Option.bind (P a0 40) fun q17 =>
  p_ck (p_ib N q17 2) <|
  p_let (p_u I15 q17 (Int32.toNatClampNeg 2) 61) fun I21 =>
  Option.bind (P a0 40) fun q23 =>
  p_ck (p_ib N q23 3) <|
  p_let (p_u I21 q23 (Int32.toNatClampNeg 3) 1) fun I27 =>
  (if (I27 a0 35) = 0 then
    (if (I27 a0 31) = 3 then
      Option.bind (f_X12_isIn (I27 a0 34) 10 16) fun q33 =>
      (if q33 = 0 then
        Option.bind (f_X12_stops N I27 P a0) fun q63 =>
        some q63
      else
        Option.bind (f_X12_advance n N I27 P a0) fun q35 =>
        Option.bind (P a0 40) fun q37 =>
        p_ck (p_ib N q37 1) <|
        (if (q35 q37 (Int32.toNatClampNeg 1)) = 10 then
          some q35
        else
          Option.bind (P a0 40) fun q41 =>
          p_ck (p_ib N q41 2) <|
          p_let (p_u q35 q41 (Int32.toNatClampNeg 2) (q35 a0 33)) fun I45 =>
          (if (I45 a0 31) = 2 then
            (if (I45 a0 33) = 58 then
              Option.bind (f_X12_stops N I45 P a0) fun q49 =>
              some q49
            else
              (if (I45 a0 33) = 59 then
                Option.bind (f_X12_stops N I45 P a0) fun q61 =>
                some q61
              else
                Option.bind (f_X12_advance n N I45 P a0) fun q51 =>
                Option.bind (P a0 40) fun q53 =>
                Option.bind (f_X12_numbered n N q51 P a0) fun q56 =>
                p_ck (p_ib N q53 3) <|
                p_let (p_u q56.2 q53 (Int32.toNatClampNeg 3) q56.1) fun I59 =>
                some I59))
          else
            Option.bind (f_X12_stops N I45 P a0) fun q47 =>
            some q47)))
    else
      Option.bind (f_X12_stops N I27 P a0) fun q31 =>
      some q31)
  else
    Option.bind (f_X12_stops N I27 P a0) fun q29 =>
    some q29)
theorem c_X12_aTest {G : pG} {d : Nat} {n : Nat} {N : pN} {I : pI} {L : pL} {P : pR} {a0 : Nat} {qq : pI} (hd : 5 ≤ d) (hW : WT N P) (ha0 : p_tp N a0 15) (hf : f_X12_aTest n N I P a0 = some qq) : MT G mX12_aTest d 0 0 [.ref a0] N I L P (p_R none N qq L P) := by
  refine MT.of rfl (Nat.le_of_ble_eq_true rfl) ?_
  show SW G mX12_aTest (p_rm d 0 0) 0 0 0 0 (p_R none N qq L P) 0 [(0, .ref a0)] [] N I L P
  unfold f_X12_aTest at hf
  refine s_aload_n (pc := 0) dX12_aTest_0 0 rfl rfl ?_
  obtain ⟨q1, h2, hf⟩ := p_bd hf
  have t3 : p_tp N q1 0 := WT.get hW ha0 h2
  refine x_getR (pc := 1) dX12_aTest_1 fl_X12_62 rfl ha0 h2 ?_
  refine s_iconst (pc := 4) dX12_aTest_4 (v := 0) rfl ?_
  refine s_aload_n (pc := 5) dX12_aTest_5 0 rfl rfl ?_
  refine s_bipush (pc := 6) dX12_aTest_6 (v := 32) rfl ?_
  obtain ⟨q4, h5, hf⟩ := p_bd hf
  refine y_callV1 (pc := 8) dX12_aTest_8 (c_X12_takes (p_dd hd (by decide)) hW ha0 h5) mk_X12_takes mv_X12_takes ml_X12_393 rfl rfl (Nat.le_of_ble_eq_true rfl) ha0 rfl (p_d1 hd (by decide)) (Nat.le_of_ble_eq_true rfl) ?_
  obtain ⟨t6, hg, hf⟩ := p_lx2 hf
  have k7 : SW G mX12_aTest (p_rm d 0 0) 0 0 0 0 (p_R none N qq L P) 19 [(0, .ref a0)] [.int t6, .int 0, .ref q1] N q4.2 L P := by
    obtain ⟨c8, hf⟩ := p_ckx hf
    refine x_iast (pc := 19) dX12_aTest_19 t3 c8 ?_
    refine s_nmI (fun I9 e10 => ?_)
    replace hf := p_lx hf e10
    refine s_aload_n (pc := 20) dX12_aTest_20 0 rfl rfl ?_
    obtain ⟨q11, h12, hf⟩ := p_bd hf
    have t13 : p_tp N q11 0 := WT.get hW ha0 h12
    refine x_getR (pc := 21) dX12_aTest_21 fl_X12_62 rfl ha0 h12 ?_
    refine s_iconst (pc := 24) dX12_aTest_24 (v := 1) rfl ?_
    refine s_aload_n (pc := 25) dX12_aTest_25 0 rfl rfl ?_
    refine x_getI (pc := 26) dX12_aTest_26 fl_X12_339 rfl ha0 ?_
    obtain ⟨c14, hf⟩ := p_ckx hf
    refine x_iast (pc := 29) dX12_aTest_29 t13 c14 ?_
    refine s_nmI (fun I15 e16 => ?_)
    replace hf := p_lx hf e16
    refine s_aload_n (pc := 30) dX12_aTest_30 0 rfl rfl ?_
    obtain ⟨q17, h18, hf⟩ := p_bd hf
    have t19 : p_tp N q17 0 := WT.get hW ha0 h18
    refine x_getR (pc := 31) dX12_aTest_31 fl_X12_62 rfl ha0 h18 ?_
    refine s_iconst (pc := 34) dX12_aTest_34 (v := 2) rfl ?_
    refine s_bipush (pc := 35) dX12_aTest_35 (v := 61) rfl ?_
    obtain ⟨c20, hf⟩ := p_ckx hf
    refine x_iast (pc := 37) dX12_aTest_37 t19 c20 ?_
    refine s_nmI (fun I21 e22 => ?_)
    replace hf := p_lx hf e22
    refine s_aload_n (pc := 38) dX12_aTest_38 0 rfl rfl ?_
    obtain ⟨q23, h24, hf⟩ := p_bd hf
    have t25 : p_tp N q23 0 := WT.get hW ha0 h24
    refine x_getR (pc := 39) dX12_aTest_39 fl_X12_62 rfl ha0 h24 ?_
    refine s_iconst (pc := 42) dX12_aTest_42 (v := 3) rfl ?_
    refine s_iconst (pc := 43) dX12_aTest_43 (v := 1) rfl ?_
    obtain ⟨c26, hf⟩ := p_ckx hf
    refine x_iast (pc := 44) dX12_aTest_44 t25 c26 ?_
    refine s_nmI (fun I27 e28 => ?_)
    replace hf := p_lx hf e28
    refine s_aload_n (pc := 45) dX12_aTest_45 0 rfl rfl ?_
    refine x_getI (pc := 46) dX12_aTest_46 fl_X12_354 rfl ha0 ?_
    refine s_if_ne (pc := 49) (tgt := 74) dX12_aTest_49 rfl (fun hc => ?_) (fun hc => ?_)
    · replace hf := p_ng hf hc
      refine s_aload_n (pc := 74) dX12_aTest_74 0 rfl rfl ?_
      obtain ⟨q29, h30, hf⟩ := p_bd hf
      refine y_callV0 (pc := 75) dX12_aTest_75 (c_X12_stops (p_dd hd (by decide)) hW ha0 h30) mk_X12_stops mv_X12_stops ml_X12_360 rfl rfl (Nat.le_of_ble_eq_true rfl) ha0 rfl (p_d1 hd (by decide)) (Nat.le_of_ble_eq_true rfl) ?_
      cases hf
      exact s_return (pc := 78) dX12_aTest_78 rfl ⟨rfl, rfl, rfl, rfl, rfl⟩
    · replace hf := p_ps hf hc
      refine s_aload_n (pc := 52) dX12_aTest_52 0 rfl rfl ?_
      refine x_getI (pc := 53) dX12_aTest_53 fl_X12_330 rfl ha0 ?_
      refine s_iconst (pc := 56) dX12_aTest_56 (v := 3) rfl ?_
      refine s_icmp_ne (pc := 57) (tgt := 74) dX12_aTest_57 rfl (fun hc => ?_) (fun hc => ?_)
      · replace hf := p_ng hf hc
        refine s_aload_n (pc := 74) dX12_aTest_74 0 rfl rfl ?_
        obtain ⟨q31, h32, hf⟩ := p_bd hf
        refine y_callV0 (pc := 75) dX12_aTest_75 (c_X12_stops (p_dd hd (by decide)) hW ha0 h32) mk_X12_stops mv_X12_stops ml_X12_360 rfl rfl (Nat.le_of_ble_eq_true rfl) ha0 rfl (p_d1 hd (by decide)) (Nat.le_of_ble_eq_true rfl) ?_
        cases hf
        exact s_return (pc := 78) dX12_aTest_78 rfl ⟨rfl, rfl, rfl, rfl, rfl⟩
      · replace hf := p_ps hf hc
        refine s_aload_n (pc := 60) dX12_aTest_60 0 rfl rfl ?_
        refine x_getI (pc := 61) dX12_aTest_61 fl_X12_339 rfl ha0 ?_
        refine s_bipush (pc := 64) dX12_aTest_64 (v := 10) rfl ?_
        refine s_bipush (pc := 66) dX12_aTest_66 (v := 16) rfl ?_
        obtain ⟨q33, h34, hf⟩ := p_bd hf
        refine y_callS1 (pc := 68) dX12_aTest_68 (c_X12_isIn (p_dd hd (by decide)) hW  h34) mk_X12_isIn mz_X12_isIn ml_X12_68 rfl rfl (Nat.le_of_ble_eq_true rfl) (p_d1 hd (by decide)) (Nat.le_of_ble_eq_true rfl) ?_
        refine s_if_ne (pc := 71) (tgt := 79) dX12_aTest_71 rfl (fun hc => ?_) (fun hc => ?_)
        · replace hf := p_ng hf hc
          refine s_aload_n (pc := 79) dX12_aTest_79 0 rfl rfl ?_
          obtain ⟨q35, h36, hf⟩ := p_bd hf
          refine y_callV0 (pc := 80) dX12_aTest_80 (c_X12_advance (p_dd hd (by decide)) hW ha0 h36) mk_X12_advance mv_X12_advance ml_X12_357 rfl rfl (Nat.le_of_ble_eq_true rfl) ha0 rfl (p_d1 hd (by decide)) (Nat.le_of_ble_eq_true rfl) ?_
          refine s_aload_n (pc := 83) dX12_aTest_83 0 rfl rfl ?_
          obtain ⟨q37, h38, hf⟩ := p_bd hf
          have t39 : p_tp N q37 0 := WT.get hW ha0 h38
          refine x_getR (pc := 84) dX12_aTest_84 fl_X12_62 rfl ha0 h38 ?_
          refine s_iconst (pc := 87) dX12_aTest_87 (v := 1) rfl ?_
          obtain ⟨c40, hf⟩ := p_ckx hf
          refine x_iald (pc := 88) dX12_aTest_88 t39 c40 ?_
          refine s_bipush (pc := 89) dX12_aTest_89 (v := 10) rfl ?_
          refine s_icmp_ne (pc := 91) (tgt := 95) dX12_aTest_91 rfl (fun hc => ?_) (fun hc => ?_)
          · replace hf := p_ng hf hc
            refine s_aload_n (pc := 95) dX12_aTest_95 0 rfl rfl ?_
            obtain ⟨q41, h42, hf⟩ := p_bd hf
            have t43 : p_tp N q41 0 := WT.get hW ha0 h42
            refine x_getR (pc := 96) dX12_aTest_96 fl_X12_62 rfl ha0 h42 ?_
            refine s_iconst (pc := 99) dX12_aTest_99 (v := 2) rfl ?_
            refine s_aload_n (pc := 100) dX12_aTest_100 0 rfl rfl ?_
            refine x_getI (pc := 101) dX12_aTest_101 fl_X12_348 rfl ha0 ?_
            obtain ⟨c44, hf⟩ := p_ckx hf
            refine x_iast (pc := 104) dX12_aTest_104 t43 c44 ?_
            refine s_nmI (fun I45 e46 => ?_)
            replace hf := p_lx hf e46
            refine s_aload_n (pc := 105) dX12_aTest_105 0 rfl rfl ?_
            refine x_getI (pc := 106) dX12_aTest_106 fl_X12_330 rfl ha0 ?_
            refine s_iconst (pc := 109) dX12_aTest_109 (v := 2) rfl ?_
            refine s_icmp_ne (pc := 110) (tgt := 131) dX12_aTest_110 rfl (fun hc => ?_) (fun hc => ?_)
            · replace hf := p_ng hf hc
              refine s_aload_n (pc := 131) dX12_aTest_131 0 rfl rfl ?_
              obtain ⟨q47, h48, hf⟩ := p_bd hf
              refine y_callV0 (pc := 132) dX12_aTest_132 (c_X12_stops (p_dd hd (by decide)) hW ha0 h48) mk_X12_stops mv_X12_stops ml_X12_360 rfl rfl (Nat.le_of_ble_eq_true rfl) ha0 rfl (p_d1 hd (by decide)) (Nat.le_of_ble_eq_true rfl) ?_
              cases hf
              exact s_return (pc := 135) dX12_aTest_135 rfl ⟨rfl, rfl, rfl, rfl, rfl⟩
            · replace hf := p_ps hf hc
              refine s_aload_n (pc := 113) dX12_aTest_113 0 rfl rfl ?_
              refine x_getI (pc := 114) dX12_aTest_114 fl_X12_348 rfl ha0 ?_
              refine s_bipush (pc := 117) dX12_aTest_117 (v := 58) rfl ?_
              refine s_icmp_eq (pc := 119) (tgt := 131) dX12_aTest_119 rfl (fun hc => ?_) (fun hc => ?_)
              · replace hf := p_ps hf hc
                refine s_aload_n (pc := 131) dX12_aTest_131 0 rfl rfl ?_
                obtain ⟨q49, h50, hf⟩ := p_bd hf
                refine y_callV0 (pc := 132) dX12_aTest_132 (c_X12_stops (p_dd hd (by decide)) hW ha0 h50) mk_X12_stops mv_X12_stops ml_X12_360 rfl rfl (Nat.le_of_ble_eq_true rfl) ha0 rfl (p_d1 hd (by decide)) (Nat.le_of_ble_eq_true rfl) ?_
                cases hf
                exact s_return (pc := 135) dX12_aTest_135 rfl ⟨rfl, rfl, rfl, rfl, rfl⟩
              · replace hf := p_ng hf hc
                refine s_aload_n (pc := 122) dX12_aTest_122 0 rfl rfl ?_
                refine x_getI (pc := 123) dX12_aTest_123 fl_X12_348 rfl ha0 ?_
                refine s_bipush (pc := 126) dX12_aTest_126 (v := 59) rfl ?_
                refine s_icmp_ne (pc := 128) (tgt := 136) dX12_aTest_128 rfl (fun hc => ?_) (fun hc => ?_)
                · replace hf := p_ng hf hc
                  refine s_aload_n (pc := 136) dX12_aTest_136 0 rfl rfl ?_
                  obtain ⟨q51, h52, hf⟩ := p_bd hf
                  refine y_callV0 (pc := 137) dX12_aTest_137 (c_X12_advance (p_dd hd (by decide)) hW ha0 h52) mk_X12_advance mv_X12_advance ml_X12_357 rfl rfl (Nat.le_of_ble_eq_true rfl) ha0 rfl (p_d1 hd (by decide)) (Nat.le_of_ble_eq_true rfl) ?_
                  refine s_aload_n (pc := 140) dX12_aTest_140 0 rfl rfl ?_
                  obtain ⟨q53, h54, hf⟩ := p_bd hf
                  have t55 : p_tp N q53 0 := WT.get hW ha0 h54
                  refine x_getR (pc := 141) dX12_aTest_141 fl_X12_62 rfl ha0 h54 ?_
                  refine s_iconst (pc := 144) dX12_aTest_144 (v := 3) rfl ?_
                  refine s_aload_n (pc := 145) dX12_aTest_145 0 rfl rfl ?_
                  obtain ⟨q56, h57, hf⟩ := p_bd hf
                  refine y_callV1 (pc := 146) dX12_aTest_146 (c_X12_numbered (p_dd hd (by decide)) hW ha0 h57) mk_X12_numbered mv_X12_numbered ml_X12_369 rfl rfl (Nat.le_of_ble_eq_true rfl) ha0 rfl (p_d1 hd (by decide)) (Nat.le_of_ble_eq_true rfl) ?_
                  obtain ⟨c58, hf⟩ := p_ckx hf
                  refine x_iast (pc := 149) dX12_aTest_149 t55 c58 ?_
                  refine s_nmI (fun I59 e60 => ?_)
                  replace hf := p_lx hf e60
                  cases hf
                  exact s_return (pc := 150) dX12_aTest_150 rfl ⟨rfl, rfl, rfl, rfl, rfl⟩
                · replace hf := p_ps hf hc
                  refine s_aload_n (pc := 131) dX12_aTest_131 0 rfl rfl ?_
                  obtain ⟨q61, h62, hf⟩ := p_bd hf
                  refine y_callV0 (pc := 132) dX12_aTest_132 (c_X12_stops (p_dd hd (by decide)) hW ha0 h62) mk_X12_stops mv_X12_stops ml_X12_360 rfl rfl (Nat.le_of_ble_eq_true rfl) ha0 rfl (p_d1 hd (by decide)) (Nat.le_of_ble_eq_true rfl) ?_
                  cases hf
                  exact s_return (pc := 135) dX12_aTest_135 rfl ⟨rfl, rfl, rfl, rfl, rfl⟩
          · replace hf := p_ps hf hc
            cases hf
            exact s_return (pc := 94) dX12_aTest_94 rfl ⟨rfl, rfl, rfl, rfl, rfl⟩
        · replace hf := p_ps hf hc
          refine s_aload_n (pc := 74) dX12_aTest_74 0 rfl rfl ?_
          obtain ⟨q63, h64, hf⟩ := p_bd hf
          refine y_callV0 (pc := 75) dX12_aTest_75 (c_X12_stops (p_dd hd (by decide)) hW ha0 h64) mk_X12_stops mv_X12_stops ml_X12_360 rfl rfl (Nat.le_of_ble_eq_true rfl) ha0 rfl (p_d1 hd (by decide)) (Nat.le_of_ble_eq_true rfl) ?_
          cases hf
          exact s_return (pc := 78) dX12_aTest_78 rfl ⟨rfl, rfl, rfl, rfl, rfl⟩
  replace hf := hg.symm
  refine s_if_eq (pc := 11) (tgt := 18) dX12_aTest_11 rfl (fun hc => ?_) (fun hc => ?_)
  · replace hf := p_ps hf hc
    refine s_iconst (pc := 18) dX12_aTest_18 (v := 0) rfl ?_
    cases hf
    exact s_lo [0] rfl (k7)
  · replace hf := p_ng hf hc
    refine s_iconst (pc := 14) dX12_aTest_14 (v := 1) rfl ?_
    refine s_goto (pc := 15) (tgt := 19) dX12_aTest_15 rfl ?_
    cases hf
    exact s_lo [0] rfl (k7)
def f_X12_puts (N : pN) (I : pI) (P : pR) (a0 : Nat) (x1 : Int32) (x2 : Int32) : Option pI :=
  (if 16 ≤ (I a0 38) then
    some I
  else
    Option.bind (P a0 39) fun q1 =>
    p_ck (p_ib N q1 ((20 * (I a0 38)) + x1)) <|
    p_let (p_u I q1 (Int32.toNatClampNeg ((20 * (I a0 38)) + x1)) x2) fun I5 =>
    some I5)
theorem c_X12_puts {G : pG} {d : Nat} {N : pN} {I : pI} {L : pL} {P : pR} {a0 : Nat} {x1 : Int32} {x2 : Int32} {qq : pI} (hd : 0 ≤ d) (hW : WT N P) (ha0 : p_tp N a0 15) (hf : f_X12_puts N I P a0 x1 x2 = some qq) : MT G mX12_puts d 0 0 [.ref a0, .int x1, .int x2] N I L P (p_R none N qq L P) := by
  refine MT.of rfl (Nat.le_of_ble_eq_true rfl) ?_
  show SW G mX12_puts (p_rm d 0 0) 0 0 0 0 (p_R none N qq L P) 0 [(0, .ref a0), (1, .int x1), (2, .int x2)] [] N I L P
  unfold f_X12_puts at hf
  refine s_aload_n (pc := 0) dX12_puts_0 0 rfl rfl ?_
  refine x_getI (pc := 1) dX12_puts_1 fl_X12_363 rfl ha0 ?_
  refine s_bipush (pc := 4) dX12_puts_4 (v := 16) rfl ?_
  refine s_icmp_ge (pc := 6) (tgt := 24) dX12_puts_6 rfl (fun hc => ?_) (fun hc => ?_)
  · replace hf := p_ps hf hc
    cases hf
    exact s_return (pc := 24) dX12_puts_24 rfl ⟨rfl, rfl, rfl, rfl, rfl⟩
  · replace hf := p_ng hf hc
    refine s_aload_n (pc := 9) dX12_puts_9 0 rfl rfl ?_
    obtain ⟨q1, h2, hf⟩ := p_bd hf
    have t3 : p_tp N q1 0 := WT.get hW ha0 h2
    refine x_getR (pc := 10) dX12_puts_10 fl_X12_59 rfl ha0 h2 ?_
    refine s_bipush (pc := 13) dX12_puts_13 (v := 20) rfl ?_
    refine s_aload_n (pc := 15) dX12_puts_15 0 rfl rfl ?_
    refine x_getI (pc := 16) dX12_puts_16 fl_X12_363 rfl ha0 ?_
    refine s_imul (pc := 19) dX12_puts_19 ?_
    refine s_iload_n (pc := 20) dX12_puts_20 1 rfl rfl ?_
    refine s_iadd (pc := 21) dX12_puts_21 ?_
    refine s_iload_n (pc := 22) dX12_puts_22 2 rfl rfl ?_
    obtain ⟨c4, hf⟩ := p_ckx hf
    refine x_iast (pc := 23) dX12_puts_23 t3 c4 ?_
    refine s_nmI (fun I5 e6 => ?_)
    replace hf := p_lx hf e6
    cases hf
    exact s_return (pc := 24) dX12_puts_24 rfl ⟨rfl, rfl, rfl, rfl, rfl⟩
def B_X12_aLawLine_55 (N : pN) (P : pR) (a0 : Nat) (x1 : Int32) (rec1 : (Int32 × pI) → Option pI) (s1 : Int32 × pI) : Option pI :=
  (if 4 ≤ s1.1 then
    some s1.2
  else
    (if 4 ≤ x1 then
      some s1.2
    else
      Option.bind (P a0 40) fun q19 =>
      p_ck (p_ib N q19 s1.1) <|
      Option.bind (f_X12_puts N s1.2 P a0 ((1 + (4 * x1)) + s1.1) (s1.2 q19 (Int32.toNatClampNeg s1.1))) fun q23 =>
      rec1 (s1.1 + 1, q23)))
def B_X12_aLawLine_31 (n : Nat) (N : pN) (P : pR) (a0 : Nat) (rec0 : (Int32 × Int32 × pI) → Option (Int32 × pI)) (s0 : Int32 × Int32 × pI) : Option (Int32 × pI) :=
  (if s0.2.1 = 0 then
    some (s0.1, s0.2.2)
  else
    Option.bind (α := pI) ((if s0.1 ≤ 3 then
      some s0.2.2
    else
      Option.bind (f_X12_also N s0.2.2 P a0 5 (s0.2.2 a0 30)) fun q13 =>
      some q13)) fun t11 =>
    Option.bind (f_X12_aTest n N t11 P a0) fun q15 =>
    Option.bind (p_it (B_X12_aLawLine_55 N P a0 s0.1) n (0, q15)) fun t17 =>
    Option.bind (f_X12_takes n N t17 P a0 31) fun q32 =>
    rec0 (s0.1 + 1, q32.1, q32.2))
def f_X12_aLawLine (n : Nat) (N : pN) (I : pI) (P : pR) (a0 : Nat) : Option pI :=
  Option.bind (α := pI) ((if (I a0 38) < 16 then
    some I
  else
    Option.bind (f_X12_also N I P a0 5 (I a0 30)) fun q3 =>
    some q3)) fun t1 =>
  Option.bind (f_X12_takes n N t1 P a0 30) fun q5 =>
  Option.bind (α := Int32 × pI) ((if q5.1 = 0 then
    some (0, q5.2)
  else
    Option.bind (p_it (B_X12_aLawLine_31 n N P a0) n (0, 1, q5.2)) fun t9 =>
    Option.bind (f_X12_must n N t9.2 P a0 58) fun q52 =>
    some (t9.1, q52))) fun t7 =>
  (if (t7.2 a0 35) = 0 then
    (if (t7.2 a0 31) = 3 then
      Option.bind (f_X12_isIn (t7.2 a0 34) 20 21) fun q58 =>
      (if q58 = 0 then
        Option.bind (f_X12_stops N t7.2 P a0) fun q70 =>
        some q70
      else
        Option.bind (f_X12_puts N t7.2 P a0 17 (t7.2 a0 34)) fun q60 =>
        Option.bind (f_X12_advance n N q60 P a0) fun q62 =>
        Option.bind (f_X12_must n N q62 P a0 59) fun q64 =>
        Option.bind (f_X12_puts N q64 P a0 0 t7.1) fun q66 =>
        p_let (p_u q66 a0 38 ((q66 a0 38) + 1)) fun I68 =>
        some I68)
    else
      Option.bind (f_X12_stops N t7.2 P a0) fun q56 =>
      some q56)
  else
    Option.bind (f_X12_stops N t7.2 P a0) fun q54 =>
    some q54)
theorem c_X12_aLawLine {G : pG} {d : Nat} {n : Nat} {N : pN} {I : pI} {L : pL} {P : pR} {a0 : Nat} {qq : pI} (hd : 6 ≤ d) (hW : WT N P) (ha0 : p_tp N a0 15) (hf : f_X12_aLawLine n N I P a0 = some qq) : MT G mX12_aLawLine d 0 0 [.ref a0] N I L P (p_R none N qq L P) := by
  refine MT.of rfl (Nat.le_of_ble_eq_true rfl) ?_
  show SW G mX12_aLawLine (p_rm d 0 0) 0 0 0 0 (p_R none N qq L P) 0 [(0, .ref a0)] [] N I L P
  unfold f_X12_aLawLine at hf
  refine s_aload_n (pc := 0) dX12_aLawLine_0 0 rfl rfl ?_
  refine x_getI (pc := 1) dX12_aLawLine_1 fl_X12_363 rfl ha0 ?_
  refine s_bipush (pc := 4) dX12_aLawLine_4 (v := 16) rfl ?_
  obtain ⟨t1, hg, hf⟩ := p_bd hf
  have k2 : SW G mX12_aLawLine (p_rm d 0 0) 0 0 0 0 (p_R none N qq L P) 18 [(0, .ref a0)] [] N t1 L P := by
    refine s_iconst (pc := 18) dX12_aLawLine_18 (v := 0) rfl ?_
    refine s_istore_n (pc := 19) (lo' := [(1, .int 0), (0, .ref a0)]) dX12_aLawLine_19 rfl (Nat.le_of_ble_eq_true rfl) rfl ?_
    refine s_aload_n (pc := 20) dX12_aLawLine_20 1 rfl rfl ?_
    refine s_bipush (pc := 21) dX12_aLawLine_21 (v := 30) rfl ?_
    obtain ⟨q5, h6, hf⟩ := p_bd hf
    refine y_callV1 (pc := 23) dX12_aLawLine_23 (c_X12_takes (p_dd hd (by decide)) hW ha0 h6) mk_X12_takes mv_X12_takes ml_X12_393 rfl rfl (Nat.le_of_ble_eq_true rfl) ha0 rfl (p_d1 hd (by decide)) (Nat.le_of_ble_eq_true rfl) ?_
    obtain ⟨t7, hg, hf⟩ := p_bd hf
    have k8 : SW G mX12_aLawLine (p_rm d 0 0) 0 0 0 0 (p_R none N qq L P) 107 [(0, .ref a0), (1, .int t7.1)] [] N t7.2 L P := by
      refine s_aload_n (pc := 107) dX12_aLawLine_107 0 rfl rfl ?_
      refine x_getI (pc := 108) dX12_aLawLine_108 fl_X12_354 rfl ha0 ?_
      refine s_if_ne (pc := 111) (tgt := 136) dX12_aLawLine_111 rfl (fun hc => ?_) (fun hc => ?_)
      · replace hf := p_ng hf hc
        refine s_aload_n (pc := 136) dX12_aLawLine_136 0 rfl rfl ?_
        obtain ⟨q54, h55, hf⟩ := p_bd hf
        refine y_callV0 (pc := 137) dX12_aLawLine_137 (c_X12_stops (p_dd hd (by decide)) hW ha0 h55) mk_X12_stops mv_X12_stops ml_X12_360 rfl rfl (Nat.le_of_ble_eq_true rfl) ha0 rfl (p_d1 hd (by decide)) (Nat.le_of_ble_eq_true rfl) ?_
        cases hf
        exact s_return (pc := 140) dX12_aLawLine_140 rfl ⟨rfl, rfl, rfl, rfl, rfl⟩
      · replace hf := p_ps hf hc
        refine s_aload_n (pc := 114) dX12_aLawLine_114 0 rfl rfl ?_
        refine x_getI (pc := 115) dX12_aLawLine_115 fl_X12_330 rfl ha0 ?_
        refine s_iconst (pc := 118) dX12_aLawLine_118 (v := 3) rfl ?_
        refine s_icmp_ne (pc := 119) (tgt := 136) dX12_aLawLine_119 rfl (fun hc => ?_) (fun hc => ?_)
        · replace hf := p_ng hf hc
          refine s_aload_n (pc := 136) dX12_aLawLine_136 0 rfl rfl ?_
          obtain ⟨q56, h57, hf⟩ := p_bd hf
          refine y_callV0 (pc := 137) dX12_aLawLine_137 (c_X12_stops (p_dd hd (by decide)) hW ha0 h57) mk_X12_stops mv_X12_stops ml_X12_360 rfl rfl (Nat.le_of_ble_eq_true rfl) ha0 rfl (p_d1 hd (by decide)) (Nat.le_of_ble_eq_true rfl) ?_
          cases hf
          exact s_return (pc := 140) dX12_aLawLine_140 rfl ⟨rfl, rfl, rfl, rfl, rfl⟩
        · replace hf := p_ps hf hc
          refine s_aload_n (pc := 122) dX12_aLawLine_122 0 rfl rfl ?_
          refine x_getI (pc := 123) dX12_aLawLine_123 fl_X12_339 rfl ha0 ?_
          refine s_bipush (pc := 126) dX12_aLawLine_126 (v := 20) rfl ?_
          refine s_bipush (pc := 128) dX12_aLawLine_128 (v := 21) rfl ?_
          obtain ⟨q58, h59, hf⟩ := p_bd hf
          refine y_callS1 (pc := 130) dX12_aLawLine_130 (c_X12_isIn (p_dd hd (by decide)) hW  h59) mk_X12_isIn mz_X12_isIn ml_X12_68 rfl rfl (Nat.le_of_ble_eq_true rfl) (p_d1 hd (by decide)) (Nat.le_of_ble_eq_true rfl) ?_
          refine s_if_ne (pc := 133) (tgt := 141) dX12_aLawLine_133 rfl (fun hc => ?_) (fun hc => ?_)
          · replace hf := p_ng hf hc
            refine s_aload_n (pc := 141) dX12_aLawLine_141 0 rfl rfl ?_
            refine s_bipush (pc := 142) dX12_aLawLine_142 (v := 17) rfl ?_
            refine s_aload_n (pc := 144) dX12_aLawLine_144 0 rfl rfl ?_
            refine x_getI (pc := 145) dX12_aLawLine_145 fl_X12_339 rfl ha0 ?_
            obtain ⟨q60, h61, hf⟩ := p_bd hf
            refine y_callV0 (pc := 148) dX12_aLawLine_148 (c_X12_puts (p_dd hd (by decide)) hW ha0 h61) mk_X12_puts mv_X12_puts ml_X12_399 rfl rfl (Nat.le_of_ble_eq_true rfl) ha0 rfl (p_d1 hd (by decide)) (Nat.le_of_ble_eq_true rfl) ?_
            refine s_aload_n (pc := 151) dX12_aLawLine_151 0 rfl rfl ?_
            obtain ⟨q62, h63, hf⟩ := p_bd hf
            refine y_callV0 (pc := 152) dX12_aLawLine_152 (c_X12_advance (p_dd hd (by decide)) hW ha0 h63) mk_X12_advance mv_X12_advance ml_X12_357 rfl rfl (Nat.le_of_ble_eq_true rfl) ha0 rfl (p_d1 hd (by decide)) (Nat.le_of_ble_eq_true rfl) ?_
            refine s_aload_n (pc := 155) dX12_aLawLine_155 0 rfl rfl ?_
            refine s_bipush (pc := 156) dX12_aLawLine_156 (v := 59) rfl ?_
            obtain ⟨q64, h65, hf⟩ := p_bd hf
            refine y_callV0 (pc := 158) dX12_aLawLine_158 (c_X12_must (p_dd hd (by decide)) hW ha0 h65) mk_X12_must mv_X12_must ml_X12_378 rfl rfl (Nat.le_of_ble_eq_true rfl) ha0 rfl (p_d1 hd (by decide)) (Nat.le_of_ble_eq_true rfl) ?_
            refine s_aload_n (pc := 161) dX12_aLawLine_161 0 rfl rfl ?_
            refine s_iconst (pc := 162) dX12_aLawLine_162 (v := 0) rfl ?_
            refine s_iload_n (pc := 163) dX12_aLawLine_163 1 rfl rfl ?_
            obtain ⟨q66, h67, hf⟩ := p_bd hf
            refine y_callV0 (pc := 164) dX12_aLawLine_164 (c_X12_puts (p_dd hd (by decide)) hW ha0 h67) mk_X12_puts mv_X12_puts ml_X12_399 rfl rfl (Nat.le_of_ble_eq_true rfl) ha0 rfl (p_d1 hd (by decide)) (Nat.le_of_ble_eq_true rfl) ?_
            refine s_aload_n (pc := 167) dX12_aLawLine_167 0 rfl rfl ?_
            refine s_dup (pc := 168) dX12_aLawLine_168 rfl ?_
            refine x_getI (pc := 169) dX12_aLawLine_169 fl_X12_363 rfl ha0 ?_
            refine s_iconst (pc := 172) dX12_aLawLine_172 (v := 1) rfl ?_
            refine s_iadd (pc := 173) dX12_aLawLine_173 ?_
            refine x_putI (pc := 174) dX12_aLawLine_174 fl_X12_363 (Or.inl rfl) rfl ha0 ?_
            refine s_nmI (fun I68 e69 => ?_)
            replace hf := p_lx hf e69
            cases hf
            exact s_return (pc := 177) dX12_aLawLine_177 rfl ⟨rfl, rfl, rfl, rfl, rfl⟩
          · replace hf := p_ps hf hc
            refine s_aload_n (pc := 136) dX12_aLawLine_136 0 rfl rfl ?_
            obtain ⟨q70, h71, hf⟩ := p_bd hf
            refine y_callV0 (pc := 137) dX12_aLawLine_137 (c_X12_stops (p_dd hd (by decide)) hW ha0 h71) mk_X12_stops mv_X12_stops ml_X12_360 rfl rfl (Nat.le_of_ble_eq_true rfl) ha0 rfl (p_d1 hd (by decide)) (Nat.le_of_ble_eq_true rfl) ?_
            cases hf
            exact s_return (pc := 140) dX12_aLawLine_140 rfl ⟨rfl, rfl, rfl, rfl, rfl⟩
    replace hf := hg
    refine s_if_eq (pc := 26) (tgt := 107) dX12_aLawLine_26 rfl (fun hc => ?_) (fun hc => ?_)
    · replace hf := p_ps hf hc
      cases hf
      exact s_lo [1, 0] rfl (k8)
    · replace hf := p_ng hf hc
      refine s_iconst (pc := 29) dX12_aLawLine_29 (v := 1) rfl ?_
      refine s_istore_n (pc := 30) (lo' := [(2, .int 1), (1, .int 0), (0, .ref a0)]) dX12_aLawLine_30 rfl (Nat.le_of_ble_eq_true rfl) rfl ?_
      obtain ⟨t9, hg, hf⟩ := p_bd hf
      have k10 : SW G mX12_aLawLine (p_rm d 0 0) 0 0 0 0 (p_R none N qq L P) 101 [(0, .ref a0), (1, .int t9.1)] [] N t9.2 L P := by
        refine s_aload_n (pc := 101) dX12_aLawLine_101 0 rfl rfl ?_
        refine s_bipush (pc := 102) dX12_aLawLine_102 (v := 58) rfl ?_
        obtain ⟨q52, h53, hf⟩ := p_bd hf
        refine y_callV0 (pc := 104) dX12_aLawLine_104 (c_X12_must (p_dd hd (by decide)) hW ha0 h53) mk_X12_must mv_X12_must ml_X12_378 rfl rfl (Nat.le_of_ble_eq_true rfl) ha0 rfl (p_d1 hd (by decide)) (Nat.le_of_ble_eq_true rfl) ?_
        cases hf
        exact s_lo [0, 1] rfl (k8)
      replace hf := hg
      have k34 : ∀ (k : Nat) (s0 : Int32 × Int32 × pI), p_it (B_X12_aLawLine_31 n N P a0) k s0 = some t9 → (SW G mX12_aLawLine (p_rm d 0 0) 0 0 0 0 (p_R none N qq L P) 31 [(0, .ref a0), (1, .int s0.1), (2, .int s0.2.1)] [] N s0.2.2 L P) := p_it_ind (C := fun (s0 : Int32 × Int32 × pI) => SW G mX12_aLawLine (p_rm d 0 0) 0 0 0 0 (p_R none N qq L P) 31 [(0, .ref a0), (1, .int s0.1), (2, .int s0.2.1)] [] N s0.2.2 L P) (by
        intro rec0 hrec0 s0 hf
        unfold B_X12_aLawLine_31 at hf
        refine s_iload_n (pc := 31) dX12_aLawLine_31 2 rfl rfl ?_
        refine s_if_eq (pc := 32) (tgt := 101) dX12_aLawLine_32 rfl (fun hc => ?_) (fun hc => ?_)
        · replace hf := p_ps hf hc
          cases hf
          exact s_lo [0, 1] rfl (k10)
        · replace hf := p_ng hf hc
          refine s_iload_n (pc := 35) dX12_aLawLine_35 1 rfl rfl ?_
          refine s_iconst (pc := 36) dX12_aLawLine_36 (v := 3) rfl ?_
          obtain ⟨t35, hg, hf⟩ := p_bd hf
          have k36 : SW G mX12_aLawLine (p_rm d 0 0) 0 0 0 0 (p_R none N qq L P) 49 [(0, .ref a0), (1, .int s0.1)] [] N t35 L P := by
            refine s_aload_n (pc := 49) dX12_aLawLine_49 0 rfl rfl ?_
            obtain ⟨q39, h40, hf⟩ := p_bd hf
            refine y_callV0 (pc := 50) dX12_aLawLine_50 (c_X12_aTest (p_dd hd (by decide)) hW ha0 h40) mk_X12_aTest mv_X12_aTest ml_X12_396 rfl rfl (Nat.le_of_ble_eq_true rfl) ha0 rfl (p_d1 hd (by decide)) (Nat.le_of_ble_eq_true rfl) ?_
            refine s_iconst (pc := 53) dX12_aLawLine_53 (v := 0) rfl ?_
            refine s_istore_n (pc := 54) (lo' := [(3, .int 0), (0, .ref a0), (1, .int s0.1)]) dX12_aLawLine_54 rfl (Nat.le_of_ble_eq_true rfl) rfl ?_
            obtain ⟨t41, hg, hf⟩ := p_bd hf
            have k42 : SW G mX12_aLawLine (p_rm d 0 0) 0 0 0 0 (p_R none N qq L P) 88 [(0, .ref a0), (1, .int s0.1)] [] N t41 L P := by
              refine s_iinc (pc := 88) (lo' := [(1, .int (s0.1 + 1)), (0, .ref a0)]) dX12_aLawLine_88 1 rfl (v := s0.1 + 1) rfl (Nat.le_of_ble_eq_true rfl) rfl ?_
              refine s_aload_n (pc := 91) dX12_aLawLine_91 1 rfl rfl ?_
              refine s_bipush (pc := 92) dX12_aLawLine_92 (v := 31) rfl ?_
              obtain ⟨q50, h51, hf⟩ := p_bd hf
              refine y_callV1 (pc := 94) dX12_aLawLine_94 (c_X12_takes (p_dd hd (by decide)) hW ha0 h51) mk_X12_takes mv_X12_takes ml_X12_393 rfl rfl (Nat.le_of_ble_eq_true rfl) ha0 rfl (p_d1 hd (by decide)) (Nat.le_of_ble_eq_true rfl) ?_
              refine s_istore_n (pc := 97) (lo' := [(2, .int q50.1), (1, .int (s0.1 + 1)), (0, .ref a0)]) dX12_aLawLine_97 rfl (Nat.le_of_ble_eq_true rfl) rfl ?_
              refine s_goto (pc := 98) (tgt := 31) dX12_aLawLine_98 rfl ?_
              exact s_lo [2, 1, 0] rfl (hrec0 (s0.1 + 1, q50.1, q50.2) hf)
            replace hf := hg
            have k43 : ∀ (k : Nat) (s1 : Int32 × pI), p_it (B_X12_aLawLine_55 N P a0 s0.1) k s1 = some t41 → (SW G mX12_aLawLine (p_rm d 0 0) 0 0 0 0 (p_R none N qq L P) 55 [(0, .ref a0), (1, .int s0.1), (3, .int s1.1)] [] N s1.2 L P) := p_it_ind (C := fun (s1 : Int32 × pI) => SW G mX12_aLawLine (p_rm d 0 0) 0 0 0 0 (p_R none N qq L P) 55 [(0, .ref a0), (1, .int s0.1), (3, .int s1.1)] [] N s1.2 L P) (by
              intro rec1 hrec1 s1 hf
              unfold B_X12_aLawLine_55 at hf
              refine s_iload_n (pc := 55) dX12_aLawLine_55 2 rfl rfl ?_
              refine s_iconst (pc := 56) dX12_aLawLine_56 (v := 4) rfl ?_
              refine s_icmp_ge (pc := 57) (tgt := 88) dX12_aLawLine_57 rfl (fun hc => ?_) (fun hc => ?_)
              · replace hf := p_ps hf hc
                cases hf
                exact s_lo [0, 1] rfl (k42)
              · replace hf := p_ng hf hc
                refine s_iload_n (pc := 60) dX12_aLawLine_60 1 rfl rfl ?_
                refine s_iconst (pc := 61) dX12_aLawLine_61 (v := 4) rfl ?_
                refine s_icmp_ge (pc := 62) (tgt := 88) dX12_aLawLine_62 rfl (fun hc => ?_) (fun hc => ?_)
                · replace hf := p_ps hf hc
                  cases hf
                  exact s_lo [0, 1] rfl (k42)
                · replace hf := p_ng hf hc
                  refine s_aload_n (pc := 65) dX12_aLawLine_65 0 rfl rfl ?_
                  refine s_iconst (pc := 66) dX12_aLawLine_66 (v := 1) rfl ?_
                  refine s_iconst (pc := 67) dX12_aLawLine_67 (v := 4) rfl ?_
                  refine s_iload_n (pc := 68) dX12_aLawLine_68 1 rfl rfl ?_
                  refine s_imul (pc := 69) dX12_aLawLine_69 ?_
                  refine s_iadd (pc := 70) dX12_aLawLine_70 ?_
                  refine s_iload_n (pc := 71) dX12_aLawLine_71 2 rfl rfl ?_
                  refine s_iadd (pc := 72) dX12_aLawLine_72 ?_
                  refine s_aload_n (pc := 73) dX12_aLawLine_73 0 rfl rfl ?_
                  obtain ⟨q44, h45, hf⟩ := p_bd hf
                  have t46 : p_tp N q44 0 := WT.get hW ha0 h45
                  refine x_getR (pc := 74) dX12_aLawLine_74 fl_X12_62 rfl ha0 h45 ?_
                  refine s_iload_n (pc := 77) dX12_aLawLine_77 2 rfl rfl ?_
                  obtain ⟨c47, hf⟩ := p_ckx hf
                  refine x_iald (pc := 78) dX12_aLawLine_78 t46 c47 ?_
                  obtain ⟨q48, h49, hf⟩ := p_bd hf
                  refine y_callV0 (pc := 79) dX12_aLawLine_79 (c_X12_puts (p_dd hd (by decide)) hW ha0 h49) mk_X12_puts mv_X12_puts ml_X12_399 rfl rfl (Nat.le_of_ble_eq_true rfl) ha0 rfl (p_d1 hd (by decide)) (Nat.le_of_ble_eq_true rfl) ?_
                  refine s_iinc (pc := 82) (lo' := [(3, .int (s1.1 + 1)), (0, .ref a0), (1, .int s0.1)]) dX12_aLawLine_82 2 rfl (v := s1.1 + 1) rfl (Nat.le_of_ble_eq_true rfl) rfl ?_
                  refine s_goto (pc := 85) (tgt := 55) dX12_aLawLine_85 rfl ?_
                  exact s_lo [1, 2, 0] rfl (hrec1 (s1.1 + 1, q48) hf))
            exact s_lo [1, 2, 0] rfl (k43 n (0, q39) hf)
          replace hf := hg
          refine s_icmp_le (pc := 37) (tgt := 49) dX12_aLawLine_37 rfl (fun hc => ?_) (fun hc => ?_)
          · replace hf := p_ps hf hc
            cases hf
            exact s_lo [0, 1] rfl (k36)
          · replace hf := p_ng hf hc
            refine s_aload_n (pc := 40) dX12_aLawLine_40 0 rfl rfl ?_
            refine s_iconst (pc := 41) dX12_aLawLine_41 (v := 5) rfl ?_
            refine s_aload_n (pc := 42) dX12_aLawLine_42 0 rfl rfl ?_
            refine x_getI (pc := 43) dX12_aLawLine_43 fl_X12_327 rfl ha0 ?_
            obtain ⟨q37, h38, hf⟩ := p_bd hf
            refine y_callV0 (pc := 46) dX12_aLawLine_46 (c_X12_also (p_dd hd (by decide)) hW ha0 h38) mk_X12_also mv_X12_also ml_X12_375 rfl rfl (Nat.le_of_ble_eq_true rfl) ha0 rfl (p_d1 hd (by decide)) (Nat.le_of_ble_eq_true rfl) ?_
            cases hf
            exact s_lo [0, 1] rfl (k36))
      exact s_lo [2, 1, 0] rfl (k34 n (0, 1, q5.2) hf)
  replace hf := hg
  refine s_icmp_lt (pc := 6) (tgt := 18) dX12_aLawLine_6 rfl (fun hc => ?_) (fun hc => ?_)
  · replace hf := p_ps hf hc
    cases hf
    exact s_lo [0] rfl (k2)
  · replace hf := p_ng hf hc
    refine s_aload_n (pc := 9) dX12_aLawLine_9 0 rfl rfl ?_
    refine s_iconst (pc := 10) dX12_aLawLine_10 (v := 5) rfl ?_
    refine s_aload_n (pc := 11) dX12_aLawLine_11 0 rfl rfl ?_
    refine x_getI (pc := 12) dX12_aLawLine_12 fl_X12_327 rfl ha0 ?_
    obtain ⟨q3, h4, hf⟩ := p_bd hf
    refine y_callV0 (pc := 15) dX12_aLawLine_15 (c_X12_also (p_dd hd (by decide)) hW ha0 h4) mk_X12_also mv_X12_also ml_X12_375 rfl rfl (Nat.le_of_ble_eq_true rfl) ha0 rfl (p_d1 hd (by decide)) (Nat.le_of_ble_eq_true rfl) ?_
    cases hf
    exact s_lo [0] rfl (k2)
def B_X12_law_4 (n : Nat) (N : pN) (P : pR) (a0 : Nat) (rec0 : pI → Option pI) (s0 : pI) : Option pI :=
  (if (s0 a0 35) = 0 then
    (if (s0 a0 31) = 0 then
      some s0
    else
      Option.bind (f_X12_aLawLine n N s0 P a0) fun q5 =>
      rec0 q5)
  else
    some s0)
def B_X12_law_39 (N : pN) (P : pR) (a0 : Nat) (rec0 : (Int32 × pI) → Option pI) (s0 : Int32 × pI) : Option pI :=
  (if 320 ≤ s0.1 then
    some s0.2
  else
    Option.bind (P a0 0) fun q16 =>
    Option.bind (P a0 39) fun q19 =>
    p_ck (p_ib N q19 s0.1) <|
    p_ck (p_ib N q16 (340 + s0.1)) <|
    p_let (p_u s0.2 q16 (Int32.toNatClampNeg (340 + s0.1)) (s0.2 q19 (Int32.toNatClampNeg s0.1))) fun I24 =>
    rec0 (s0.1 + 1, I24))
def f_X12_law (n : Nat) (N : pN) (I : pI) (P : pR) (a0 : Nat) : Option (Int32 × pI) :=
  Option.bind (f_X12_reads n N I P a0) fun q1 =>
  Option.bind (p_it (B_X12_law_4 n N P a0) n q1) fun t3 =>
  Option.bind (P a0 0) fun q10 =>
  p_ck (p_ib N q10 9) <|
  (if (t3 q10 (Int32.toNatClampNeg 9)) = 0 then
    Option.bind (p_it (B_X12_law_39 N P a0) n (0, t3)) fun t14 =>
    Option.bind (P a0 0) fun q37 =>
    p_ck (p_ib N q37 6) <|
    p_let (p_u t14 q37 (Int32.toNatClampNeg 6) (t14 a0 38)) fun I41 =>
    some (I41 a0 38, I41)
  else
    some ((-1), t3))
theorem c_X12_law {G : pG} {d : Nat} {n : Nat} {N : pN} {I : pI} {L : pL} {P : pR} {a0 : Nat} {qq : Int32 × pI} (hd : 7 ≤ d) (hW : WT N P) (ha0 : p_tp N a0 15) (hf : f_X12_law n N I P a0 = some qq) : MT G mX12_law d 0 0 [.ref a0] N I L P (p_R (some (.int qq.1)) N qq.2 L P) := by
  refine MT.of rfl (Nat.le_of_ble_eq_true rfl) ?_
  show SW G mX12_law (p_rm d 0 0) 0 0 0 0 (p_R (some (.int qq.1)) N qq.2 L P) 0 [(0, .ref a0)] [] N I L P
  unfold f_X12_law at hf
  refine s_aload_n (pc := 0) dX12_law_0 0 rfl rfl ?_
  obtain ⟨q1, h2, hf⟩ := p_bd hf
  refine y_callV0 (pc := 1) dX12_law_1 (c_X12_reads (p_dd hd (by decide)) hW ha0 h2) mk_X12_reads mv_X12_reads ml_X12_384 rfl rfl (Nat.le_of_ble_eq_true rfl) ha0 rfl (p_d1 hd (by decide)) (Nat.le_of_ble_eq_true rfl) ?_
  obtain ⟨t3, hg, hf⟩ := p_bd hf
  have k4 : SW G mX12_law (p_rm d 0 0) 0 0 0 0 (p_R (some (.int qq.1)) N qq.2 L P) 25 [(0, .ref a0)] [] N t3 L P := by
    refine s_aload_n (pc := 25) dX12_law_25 0 rfl rfl ?_
    obtain ⟨q10, h11, hf⟩ := p_bd hf
    have t12 : p_tp N q10 0 := WT.get hW ha0 h11
    refine x_getR (pc := 26) dX12_law_26 fl_X12_7 rfl ha0 h11 ?_
    refine s_bipush (pc := 29) dX12_law_29 (v := 9) rfl ?_
    obtain ⟨c13, hf⟩ := p_ckx hf
    refine x_iald (pc := 31) dX12_law_31 t12 c13 ?_
    refine s_if_eq (pc := 32) (tgt := 37) dX12_law_32 rfl (fun hc => ?_) (fun hc => ?_)
    · replace hf := p_ps hf hc
      refine s_iconst (pc := 37) dX12_law_37 (v := 0) rfl ?_
      refine s_istore_n (pc := 38) (lo' := [(1, .int 0), (0, .ref a0)]) dX12_law_38 rfl (Nat.le_of_ble_eq_true rfl) rfl ?_
      obtain ⟨t14, hg, hf⟩ := p_bd hf
      have k15 : SW G mX12_law (p_rm d 0 0) 0 0 0 0 (p_R (some (.int qq.1)) N qq.2 L P) 68 [(0, .ref a0)] [] N t14 L P := by
        refine s_aload_n (pc := 68) dX12_law_68 0 rfl rfl ?_
        obtain ⟨q37, h38, hf⟩ := p_bd hf
        have t39 : p_tp N q37 0 := WT.get hW ha0 h38
        refine x_getR (pc := 69) dX12_law_69 fl_X12_7 rfl ha0 h38 ?_
        refine s_bipush (pc := 72) dX12_law_72 (v := 6) rfl ?_
        refine s_aload_n (pc := 74) dX12_law_74 0 rfl rfl ?_
        refine x_getI (pc := 75) dX12_law_75 fl_X12_363 rfl ha0 ?_
        obtain ⟨c40, hf⟩ := p_ckx hf
        refine x_iast (pc := 78) dX12_law_78 t39 c40 ?_
        refine s_nmI (fun I41 e42 => ?_)
        replace hf := p_lx hf e42
        refine s_aload_n (pc := 79) dX12_law_79 0 rfl rfl ?_
        refine x_getI (pc := 80) dX12_law_80 fl_X12_363 rfl ha0 ?_
        cases hf
        exact s_ireturn (pc := 83) dX12_law_83 rfl rfl ⟨rfl, rfl, rfl, rfl, rfl⟩
      replace hf := hg
      have k26 : ∀ (k : Nat) (s0 : Int32 × pI), p_it (B_X12_law_39 N P a0) k s0 = some t14 → (SW G mX12_law (p_rm d 0 0) 0 0 0 0 (p_R (some (.int qq.1)) N qq.2 L P) 39 [(0, .ref a0), (1, .int s0.1)] [] N s0.2 L P) := p_it_ind (C := fun (s0 : Int32 × pI) => SW G mX12_law (p_rm d 0 0) 0 0 0 0 (p_R (some (.int qq.1)) N qq.2 L P) 39 [(0, .ref a0), (1, .int s0.1)] [] N s0.2 L P) (by
        intro rec0 hrec0 s0 hf
        unfold B_X12_law_39 at hf
        refine s_iload_n (pc := 39) dX12_law_39 1 rfl rfl ?_
        refine s_sipush (pc := 40) dX12_law_40 (v := 320) rfl ?_
        refine s_icmp_ge (pc := 43) (tgt := 68) dX12_law_43 rfl (fun hc => ?_) (fun hc => ?_)
        · replace hf := p_ps hf hc
          cases hf
          exact s_lo [0] rfl (k15)
        · replace hf := p_ng hf hc
          refine s_aload_n (pc := 46) dX12_law_46 0 rfl rfl ?_
          obtain ⟨q27, h28, hf⟩ := p_bd hf
          have t29 : p_tp N q27 0 := WT.get hW ha0 h28
          refine x_getR (pc := 47) dX12_law_47 fl_X12_7 rfl ha0 h28 ?_
          refine s_sipush (pc := 50) dX12_law_50 (v := 340) rfl ?_
          refine s_iload_n (pc := 53) dX12_law_53 1 rfl rfl ?_
          refine s_iadd (pc := 54) dX12_law_54 ?_
          refine s_aload_n (pc := 55) dX12_law_55 0 rfl rfl ?_
          obtain ⟨q30, h31, hf⟩ := p_bd hf
          have t32 : p_tp N q30 0 := WT.get hW ha0 h31
          refine x_getR (pc := 56) dX12_law_56 fl_X12_59 rfl ha0 h31 ?_
          refine s_iload_n (pc := 59) dX12_law_59 1 rfl rfl ?_
          obtain ⟨c33, hf⟩ := p_ckx hf
          refine x_iald (pc := 60) dX12_law_60 t32 c33 ?_
          obtain ⟨c34, hf⟩ := p_ckx hf
          refine x_iast (pc := 61) dX12_law_61 t29 c34 ?_
          refine s_nmI (fun I35 e36 => ?_)
          replace hf := p_lx hf e36
          refine s_iinc (pc := 62) (lo' := [(1, .int (s0.1 + 1)), (0, .ref a0)]) dX12_law_62 1 rfl (v := s0.1 + 1) rfl (Nat.le_of_ble_eq_true rfl) rfl ?_
          refine s_goto (pc := 65) (tgt := 39) dX12_law_65 rfl ?_
          exact s_lo [1, 0] rfl (hrec0 (s0.1 + 1, I35) hf))
      exact s_lo [1, 0] rfl (k26 n (0, t3) hf)
    · replace hf := p_ng hf hc
      refine s_iconst (pc := 35) dX12_law_35 (v := -1) rfl ?_
      cases hf
      exact s_ireturn (pc := 36) dX12_law_36 rfl rfl ⟨rfl, rfl, rfl, rfl, rfl⟩
  replace hf := hg
  have k7 : ∀ (k : Nat) (s0 : pI), p_it (B_X12_law_4 n N P a0) k s0 = some t3 → (SW G mX12_law (p_rm d 0 0) 0 0 0 0 (p_R (some (.int qq.1)) N qq.2 L P) 4 [(0, .ref a0)] [] N s0 L P) := p_it_ind (C := fun (s0 : pI) => SW G mX12_law (p_rm d 0 0) 0 0 0 0 (p_R (some (.int qq.1)) N qq.2 L P) 4 [(0, .ref a0)] [] N s0 L P) (by
    intro rec0 hrec0 s0 hf
    unfold B_X12_law_4 at hf
    refine s_aload_n (pc := 4) dX12_law_4 0 rfl rfl ?_
    refine x_getI (pc := 5) dX12_law_5 fl_X12_354 rfl ha0 ?_
    refine s_if_ne (pc := 8) (tgt := 25) dX12_law_8 rfl (fun hc => ?_) (fun hc => ?_)
    · replace hf := p_ng hf hc
      cases hf
      exact s_lo [0] rfl (k4)
    · replace hf := p_ps hf hc
      refine s_aload_n (pc := 11) dX12_law_11 0 rfl rfl ?_
      refine x_getI (pc := 12) dX12_law_12 fl_X12_330 rfl ha0 ?_
      refine s_if_eq (pc := 15) (tgt := 25) dX12_law_15 rfl (fun hc => ?_) (fun hc => ?_)
      · replace hf := p_ps hf hc
        cases hf
        exact s_lo [0] rfl (k4)
      · replace hf := p_ng hf hc
        refine s_aload_n (pc := 18) dX12_law_18 0 rfl rfl ?_
        obtain ⟨q8, h9, hf⟩ := p_bd hf
        refine y_callV0 (pc := 19) dX12_law_19 (c_X12_aLawLine (p_dd hd (by decide)) hW ha0 h9) mk_X12_aLawLine mv_X12_aLawLine ml_X12_402 rfl rfl (Nat.le_of_ble_eq_true rfl) ha0 rfl (p_d1 hd (by decide)) (Nat.le_of_ble_eq_true rfl) ?_
        refine s_goto (pc := 22) (tgt := 4) dX12_law_22 rfl ?_
        exact s_lo [0] rfl (hrec0 q8 hf))
  exact s_lo [0] rfl (k7 n q1 hf)
def f_X12_fault (N : pN) (I : pI) (P : pR) (a0 : Nat) (x1 : Int32) : Option Int32 :=
  (if x1 = 0 then
    Option.bind (P a0 0) fun q5 =>
    p_ck (p_ib N q5 9) <|
    some (I q5 (Int32.toNatClampNeg 9))
  else
    (if x1 = 1 then
      Option.bind (P a0 0) fun q1 =>
      p_ck (p_ib N q1 10) <|
      some (I q1 (Int32.toNatClampNeg 10))
    else
      some (-1)))
theorem c_X12_fault {G : pG} {d : Nat} {N : pN} {I : pI} {L : pL} {P : pR} {a0 : Nat} {x1 : Int32} {qq : Int32} (hd : 0 ≤ d) (hW : WT N P) (ha0 : p_tp N a0 15) (hf : f_X12_fault N I P a0 x1 = some qq) : MT G mX12_fault d 0 0 [.ref a0, .int x1] N I L P (p_R (some (.int qq)) N I L P) := by
  refine MT.of rfl (Nat.le_of_ble_eq_true rfl) ?_
  show SW G mX12_fault (p_rm d 0 0) 0 0 0 0 (p_R (some (.int qq)) N I L P) 0 [(0, .ref a0), (1, .int x1)] [] N I L P
  unfold f_X12_fault at hf
  refine s_iload_n (pc := 0) dX12_fault_0 1 rfl rfl ?_
  refine s_if_ne (pc := 1) (tgt := 14) dX12_fault_1 rfl (fun hc => ?_) (fun hc => ?_)
  · replace hf := p_ng hf hc
    refine s_iload_n (pc := 14) dX12_fault_14 1 rfl rfl ?_
    refine s_iconst (pc := 15) dX12_fault_15 (v := 1) rfl ?_
    refine s_icmp_ne (pc := 16) (tgt := 29) dX12_fault_16 rfl (fun hc => ?_) (fun hc => ?_)
    · replace hf := p_ng hf hc
      refine s_iconst (pc := 29) dX12_fault_29 (v := -1) rfl ?_
      cases hf
      exact s_ireturn (pc := 30) dX12_fault_30 rfl rfl ⟨rfl, rfl, rfl, rfl, rfl⟩
    · replace hf := p_ps hf hc
      refine s_aload_n (pc := 19) dX12_fault_19 0 rfl rfl ?_
      obtain ⟨q1, h2, hf⟩ := p_bd hf
      have t3 : p_tp N q1 0 := WT.get hW ha0 h2
      refine x_getR (pc := 20) dX12_fault_20 fl_X12_7 rfl ha0 h2 ?_
      refine s_bipush (pc := 23) dX12_fault_23 (v := 10) rfl ?_
      obtain ⟨c4, hf⟩ := p_ckx hf
      refine x_iald (pc := 25) dX12_fault_25 t3 c4 ?_
      refine s_goto (pc := 26) (tgt := 30) dX12_fault_26 rfl ?_
      cases hf
      exact s_ireturn (pc := 30) dX12_fault_30 rfl rfl ⟨rfl, rfl, rfl, rfl, rfl⟩
  · replace hf := p_ps hf hc
    refine s_aload_n (pc := 4) dX12_fault_4 0 rfl rfl ?_
    obtain ⟨q5, h6, hf⟩ := p_bd hf
    have t7 : p_tp N q5 0 := WT.get hW ha0 h6
    refine x_getR (pc := 5) dX12_fault_5 fl_X12_7 rfl ha0 h6 ?_
    refine s_bipush (pc := 8) dX12_fault_8 (v := 9) rfl ?_
    obtain ⟨c8, hf⟩ := p_ckx hf
    refine x_iald (pc := 10) dX12_fault_10 t7 c8 ?_
    refine s_goto (pc := 11) (tgt := 30) dX12_fault_11 rfl ?_
    cases hf
    exact s_ireturn (pc := 30) dX12_fault_30 rfl rfl ⟨rfl, rfl, rfl, rfl, rfl⟩
def B_X12_isAlone_4 (N : pN) (I : pI) (P : pR) (a0 : Nat) (x1 : Int32) (rec0 : (Int32 × Int32) → Option Int32) (s0 : Int32 × Int32) : Option Int32 :=
  Option.bind (P a0 0) fun q3 =>
  p_ck (p_ib N q3 1) <|
  (if (I q3 (Int32.toNatClampNeg 1)) ≤ s0.2 then
    some s0.1
  else
    Option.bind (α := Int32) ((if s0.1 = 0 then
      some 0
    else
      (if s0.2 = x1 then
        some 1
      else
        Option.bind (f_X12_seesSender N I P a0 s0.2) fun q9 =>
        (if q9 = 0 then
          some 1
        else
          Option.bind (f_X12_senderOf N I P a0 s0.2 2) fun q11 =>
          Option.bind (f_X12_senderOf N I P a0 x1 2) fun q13 =>
          (if q11 = q13 then
            some 0
          else
            some 1))))) fun t7 =>
    rec0 (t7, s0.2 + 1))
def f_X12_isAlone (n : Nat) (N : pN) (I : pI) (P : pR) (a0 : Nat) (x1 : Int32) : Option Int32 :=
  Option.bind (p_it (B_X12_isAlone_4 N I P a0 x1) n (1, 0)) fun t1 =>
  p_ck (decide (t1 = 0 ∨ t1 = 1)) <|
  some t1
theorem c_X12_isAlone {G : pG} {d : Nat} {n : Nat} {N : pN} {I : pI} {L : pL} {P : pR} {a0 : Nat} {x1 : Int32} {qq : Int32} (hd : 3 ≤ d) (hW : WT N P) (ha0 : p_tp N a0 15) (hf : f_X12_isAlone n N I P a0 x1 = some qq) : MT G mX12_isAlone d 0 0 [.ref a0, .int x1] N I L P (p_R (some (.int qq)) N I L P) := by
  refine MT.of rfl (Nat.le_of_ble_eq_true rfl) ?_
  show SW G mX12_isAlone (p_rm d 0 0) 0 0 0 0 (p_R (some (.int qq)) N I L P) 0 [(0, .ref a0), (1, .int x1)] [] N I L P
  unfold f_X12_isAlone at hf
  refine s_iconst (pc := 0) dX12_isAlone_0 (v := 1) rfl ?_
  refine s_istore_n (pc := 1) (lo' := [(2, .int 1), (0, .ref a0), (1, .int x1)]) dX12_isAlone_1 rfl (Nat.le_of_ble_eq_true rfl) rfl ?_
  refine s_iconst (pc := 2) dX12_isAlone_2 (v := 0) rfl ?_
  refine s_istore_n (pc := 3) (lo' := [(3, .int 0), (2, .int 1), (0, .ref a0), (1, .int x1)]) dX12_isAlone_3 rfl (Nat.le_of_ble_eq_true rfl) rfl ?_
  obtain ⟨t1, hg, hf⟩ := p_bd hf
  have k2 : SW G mX12_isAlone (p_rm d 0 0) 0 0 0 0 (p_R (some (.int qq)) N I L P) 58 [(2, .int t1)] [] N I L P := by
    refine s_iload_n (pc := 58) dX12_isAlone_58 0 rfl rfl ?_
    obtain ⟨c28, hf⟩ := p_ckx hf
    cases hf
    exact s_ireturn (pc := 59) dX12_isAlone_59 rfl (p_nr (of_decide_eq_true c28)) ⟨rfl, rfl, rfl, rfl, rfl⟩
  replace hf := hg
  have k15 : ∀ (k : Nat) (s0 : Int32 × Int32), p_it (B_X12_isAlone_4 N I P a0 x1) k s0 = some t1 → (SW G mX12_isAlone (p_rm d 0 0) 0 0 0 0 (p_R (some (.int qq)) N I L P) 4 [(0, .ref a0), (1, .int x1), (2, .int s0.1), (3, .int s0.2)] [] N I L P) := p_it_ind (C := fun (s0 : Int32 × Int32) => SW G mX12_isAlone (p_rm d 0 0) 0 0 0 0 (p_R (some (.int qq)) N I L P) 4 [(0, .ref a0), (1, .int x1), (2, .int s0.1), (3, .int s0.2)] [] N I L P) (by
    intro rec0 hrec0 s0 hf
    unfold B_X12_isAlone_4 at hf
    refine s_iload_n (pc := 4) dX12_isAlone_4 3 rfl rfl ?_
    refine s_aload_n (pc := 5) dX12_isAlone_5 0 rfl rfl ?_
    obtain ⟨q16, h17, hf⟩ := p_bd hf
    have t18 : p_tp N q16 0 := WT.get hW ha0 h17
    refine x_getR (pc := 6) dX12_isAlone_6 fl_X12_7 rfl ha0 h17 ?_
    refine s_iconst (pc := 9) dX12_isAlone_9 (v := 1) rfl ?_
    obtain ⟨c19, hf⟩ := p_ckx hf
    refine x_iald (pc := 10) dX12_isAlone_10 t18 c19 ?_
    refine s_icmp_ge (pc := 11) (tgt := 58) dX12_isAlone_11 rfl (fun hc => ?_) (fun hc => ?_)
    · replace hf := p_ps hf hc
      cases hf
      exact s_lo [2] rfl (k2)
    · replace hf := p_ng hf hc
      refine s_iload_n (pc := 14) dX12_isAlone_14 2 rfl rfl ?_
      obtain ⟨t20, hg, hf⟩ := p_bd hf
      have k21 : SW G mX12_isAlone (p_rm d 0 0) 0 0 0 0 (p_R (some (.int qq)) N I L P) 51 [(0, .ref a0), (1, .int x1), (3, .int s0.2)] [.int t20] N I L P := by
        refine s_istore_n (pc := 51) (lo' := [(2, .int t20), (0, .ref a0), (1, .int x1), (3, .int s0.2)]) dX12_isAlone_51 rfl (Nat.le_of_ble_eq_true rfl) rfl ?_
        refine s_iinc (pc := 52) (lo' := [(3, .int (s0.2 + 1)), (2, .int t20), (0, .ref a0), (1, .int x1)]) dX12_isAlone_52 3 rfl (v := s0.2 + 1) rfl (Nat.le_of_ble_eq_true rfl) rfl ?_
        refine s_goto (pc := 55) (tgt := 4) dX12_isAlone_55 rfl ?_
        exact s_lo [2, 3, 1, 0] rfl (hrec0 (t20, s0.2 + 1) hf)
      replace hf := hg
      refine s_if_eq (pc := 15) (tgt := 50) dX12_isAlone_15 rfl (fun hc => ?_) (fun hc => ?_)
      · replace hf := p_ps hf hc
        refine s_iconst (pc := 50) dX12_isAlone_50 (v := 0) rfl ?_
        cases hf
        exact s_lo [0, 1, 3] rfl (k21)
      · replace hf := p_ng hf hc
        refine s_iload_n (pc := 18) dX12_isAlone_18 3 rfl rfl ?_
        refine s_iload_n (pc := 19) dX12_isAlone_19 1 rfl rfl ?_
        refine s_icmp_eq (pc := 20) (tgt := 46) dX12_isAlone_20 rfl (fun hc => ?_) (fun hc => ?_)
        · replace hf := p_ps hf hc
          refine s_iconst (pc := 46) dX12_isAlone_46 (v := 1) rfl ?_
          refine s_goto (pc := 47) (tgt := 51) dX12_isAlone_47 rfl ?_
          cases hf
          exact s_lo [0, 1, 3] rfl (k21)
        · replace hf := p_ng hf hc
          refine s_aload_n (pc := 23) dX12_isAlone_23 0 rfl rfl ?_
          refine s_iload_n (pc := 24) dX12_isAlone_24 3 rfl rfl ?_
          obtain ⟨q22, h23, hf⟩ := p_bd hf
          refine y_callV1 (pc := 25) dX12_isAlone_25 (c_X12_seesSender (p_dd hd (by decide)) hW ha0 h23) mk_X12_seesSender mv_X12_seesSender ml_X12_215 rfl rfl (Nat.le_of_ble_eq_true rfl) ha0 rfl (p_d1 hd (by decide)) (Nat.le_of_ble_eq_true rfl) ?_
          refine s_if_eq (pc := 28) (tgt := 46) dX12_isAlone_28 rfl (fun hc => ?_) (fun hc => ?_)
          · replace hf := p_ps hf hc
            refine s_iconst (pc := 46) dX12_isAlone_46 (v := 1) rfl ?_
            refine s_goto (pc := 47) (tgt := 51) dX12_isAlone_47 rfl ?_
            cases hf
            exact s_lo [0, 1, 3] rfl (k21)
          · replace hf := p_ng hf hc
            refine s_aload_n (pc := 31) dX12_isAlone_31 0 rfl rfl ?_
            refine s_iload_n (pc := 32) dX12_isAlone_32 3 rfl rfl ?_
            refine s_iconst (pc := 33) dX12_isAlone_33 (v := 2) rfl ?_
            obtain ⟨q24, h25, hf⟩ := p_bd hf
            refine y_callV1 (pc := 34) dX12_isAlone_34 (c_X12_senderOf (p_dd hd (by decide)) hW ha0 h25) mk_X12_senderOf mv_X12_senderOf ml_X12_83 rfl rfl (Nat.le_of_ble_eq_true rfl) ha0 rfl (p_d1 hd (by decide)) (Nat.le_of_ble_eq_true rfl) ?_
            refine s_aload_n (pc := 37) dX12_isAlone_37 0 rfl rfl ?_
            refine s_iload_n (pc := 38) dX12_isAlone_38 1 rfl rfl ?_
            refine s_iconst (pc := 39) dX12_isAlone_39 (v := 2) rfl ?_
            obtain ⟨q26, h27, hf⟩ := p_bd hf
            refine y_callV1 (pc := 40) dX12_isAlone_40 (c_X12_senderOf (p_dd hd (by decide)) hW ha0 h27) mk_X12_senderOf mv_X12_senderOf ml_X12_83 rfl rfl (Nat.le_of_ble_eq_true rfl) ha0 rfl (p_d1 hd (by decide)) (Nat.le_of_ble_eq_true rfl) ?_
            refine s_icmp_eq (pc := 43) (tgt := 50) dX12_isAlone_43 rfl (fun hc => ?_) (fun hc => ?_)
            · replace hf := p_ps hf hc
              refine s_iconst (pc := 50) dX12_isAlone_50 (v := 0) rfl ?_
              cases hf
              exact s_lo [0, 1, 3] rfl (k21)
            · replace hf := p_ng hf hc
              refine s_iconst (pc := 46) dX12_isAlone_46 (v := 1) rfl ?_
              refine s_goto (pc := 47) (tgt := 51) dX12_isAlone_47 rfl ?_
              cases hf
              exact s_lo [0, 1, 3] rfl (k21))
  exact s_lo [2, 3, 1, 0] rfl (k15 n (1, 0) hf)
def B_X12_greatest_4 (n : Nat) (N : pN) (P : pR) (a0 : Nat) (x1 : Int32) (rec0 : (Int32 × Int32 × pI × pL) → Option (Int32 × pI × pL)) (s0 : Int32 × Int32 × pI × pL) : Option (Int32 × pI × pL) :=
  Option.bind (P a0 0) fun q3 =>
  p_ck (p_ib N q3 3) <|
  (if (s0.2.2.1 q3 (Int32.toNatClampNeg 3)) ≤ s0.2.1 then
    some (s0.1, s0.2.2.1, s0.2.2.2)
  else
    Option.bind (P a0 0) fun q7 =>
    p_ck (p_ib N q7 (202 + (2 * s0.2.1))) <|
    Option.bind (P a0 0) fun q11 =>
    p_ck (p_ib N q11 ((202 + (2 * s0.2.1)) + 1)) <|
    Option.bind (f_X12_signalOf n N s0.2.2.1 s0.2.2.2 P a0 x1 (s0.2.2.1 q7 (Int32.toNatClampNeg (202 + (2 * s0.2.1)))) (s0.2.2.1 q11 (Int32.toNatClampNeg ((202 + (2 * s0.2.1)) + 1)))) fun q15 =>
    p_let (α := Int32) ((if q15.1 ≤ s0.1 then
      s0.1
    else
      q15.1)) fun t17 =>
    rec0 (t17, s0.2.1 + 1, q15.2.1, q15.2.2))
def f_X12_greatest (n : Nat) (N : pN) (I : pI) (L : pL) (P : pR) (a0 : Nat) (x1 : Int32) : Option (Int32 × pI × pL) :=
  Option.bind (p_it (B_X12_greatest_4 n N P a0 x1) n (0, 0, I, L)) fun t1 =>
  (if 9999 ≤ t1.1 then
    some (9999, t1.2.1, t1.2.2)
  else
    some (t1.1, t1.2.1, t1.2.2))
theorem c_X12_greatest {G : pG} {d : Nat} {n : Nat} {N : pN} {I : pI} {L : pL} {P : pR} {a0 : Nat} {x1 : Int32} {qq : Int32 × pI × pL} (hd : 8 ≤ d) (hW : WT N P) (ha0 : p_tp N a0 15) (hf : f_X12_greatest n N I L P a0 x1 = some qq) : MT G mX12_greatest d 0 0 [.ref a0, .int x1] N I L P (p_R (some (.int qq.1)) N qq.2.1 qq.2.2 P) := by
  refine MT.of rfl (Nat.le_of_ble_eq_true rfl) ?_
  show SW G mX12_greatest (p_rm d 0 0) 0 0 0 0 (p_R (some (.int qq.1)) N qq.2.1 qq.2.2 P) 0 [(0, .ref a0), (1, .int x1)] [] N I L P
  unfold f_X12_greatest at hf
  refine s_iconst (pc := 0) dX12_greatest_0 (v := 0) rfl ?_
  refine s_istore_n (pc := 1) (lo' := [(2, .int 0), (0, .ref a0), (1, .int x1)]) dX12_greatest_1 rfl (Nat.le_of_ble_eq_true rfl) rfl ?_
  refine s_iconst (pc := 2) dX12_greatest_2 (v := 0) rfl ?_
  refine s_istore_n (pc := 3) (lo' := [(3, .int 0), (2, .int 0), (0, .ref a0), (1, .int x1)]) dX12_greatest_3 rfl (Nat.le_of_ble_eq_true rfl) rfl ?_
  obtain ⟨t1, hg, hf⟩ := p_bd hf
  have k2 : SW G mX12_greatest (p_rm d 0 0) 0 0 0 0 (p_R (some (.int qq.1)) N qq.2.1 qq.2.2 P) 66 [(2, .int t1.1)] [] N t1.2.1 t1.2.2 P := by
    refine s_iload_n (pc := 66) dX12_greatest_66 0 rfl rfl ?_
    refine s_sipush (pc := 67) dX12_greatest_67 (v := 9999) rfl ?_
    refine s_icmp_ge (pc := 70) (tgt := 77) dX12_greatest_70 rfl (fun hc => ?_) (fun hc => ?_)
    · replace hf := p_ps hf hc
      refine s_sipush (pc := 77) dX12_greatest_77 (v := 9999) rfl ?_
      cases hf
      exact s_ireturn (pc := 80) dX12_greatest_80 rfl rfl ⟨rfl, rfl, rfl, rfl, rfl⟩
    · replace hf := p_ng hf hc
      refine s_iload_n (pc := 73) dX12_greatest_73 0 rfl rfl ?_
      refine s_goto (pc := 74) (tgt := 80) dX12_greatest_74 rfl ?_
      cases hf
      exact s_ireturn (pc := 80) dX12_greatest_80 rfl rfl ⟨rfl, rfl, rfl, rfl, rfl⟩
  replace hf := hg
  have k19 : ∀ (k : Nat) (s0 : Int32 × Int32 × pI × pL), p_it (B_X12_greatest_4 n N P a0 x1) k s0 = some t1 → (SW G mX12_greatest (p_rm d 0 0) 0 0 0 0 (p_R (some (.int qq.1)) N qq.2.1 qq.2.2 P) 4 [(0, .ref a0), (1, .int x1), (2, .int s0.1), (3, .int s0.2.1)] [] N s0.2.2.1 s0.2.2.2 P) := p_it_ind (C := fun (s0 : Int32 × Int32 × pI × pL) => SW G mX12_greatest (p_rm d 0 0) 0 0 0 0 (p_R (some (.int qq.1)) N qq.2.1 qq.2.2 P) 4 [(0, .ref a0), (1, .int x1), (2, .int s0.1), (3, .int s0.2.1)] [] N s0.2.2.1 s0.2.2.2 P) (by
    intro rec0 hrec0 s0 hf
    unfold B_X12_greatest_4 at hf
    refine s_iload_n (pc := 4) dX12_greatest_4 3 rfl rfl ?_
    refine s_aload_n (pc := 5) dX12_greatest_5 0 rfl rfl ?_
    obtain ⟨q20, h21, hf⟩ := p_bd hf
    have t22 : p_tp N q20 0 := WT.get hW ha0 h21
    refine x_getR (pc := 6) dX12_greatest_6 fl_X12_7 rfl ha0 h21 ?_
    refine s_iconst (pc := 9) dX12_greatest_9 (v := 3) rfl ?_
    obtain ⟨c23, hf⟩ := p_ckx hf
    refine x_iald (pc := 10) dX12_greatest_10 t22 c23 ?_
    refine s_icmp_ge (pc := 11) (tgt := 66) dX12_greatest_11 rfl (fun hc => ?_) (fun hc => ?_)
    · replace hf := p_ps hf hc
      cases hf
      exact s_lo [2] rfl (k2)
    · replace hf := p_ng hf hc
      refine s_aload_n (pc := 14) dX12_greatest_14 0 rfl rfl ?_
      refine s_iload_n (pc := 15) dX12_greatest_15 1 rfl rfl ?_
      refine s_aload_n (pc := 16) dX12_greatest_16 0 rfl rfl ?_
      obtain ⟨q24, h25, hf⟩ := p_bd hf
      have t26 : p_tp N q24 0 := WT.get hW ha0 h25
      refine x_getR (pc := 17) dX12_greatest_17 fl_X12_7 rfl ha0 h25 ?_
      refine s_sipush (pc := 20) dX12_greatest_20 (v := 202) rfl ?_
      refine s_iconst (pc := 23) dX12_greatest_23 (v := 2) rfl ?_
      refine s_iload_n (pc := 24) dX12_greatest_24 3 rfl rfl ?_
      refine s_imul (pc := 25) dX12_greatest_25 ?_
      refine s_iadd (pc := 26) dX12_greatest_26 ?_
      obtain ⟨c27, hf⟩ := p_ckx hf
      refine x_iald (pc := 27) dX12_greatest_27 t26 c27 ?_
      refine s_aload_n (pc := 28) dX12_greatest_28 0 rfl rfl ?_
      obtain ⟨q28, h29, hf⟩ := p_bd hf
      have t30 : p_tp N q28 0 := WT.get hW ha0 h29
      refine x_getR (pc := 29) dX12_greatest_29 fl_X12_7 rfl ha0 h29 ?_
      refine s_sipush (pc := 32) dX12_greatest_32 (v := 202) rfl ?_
      refine s_iconst (pc := 35) dX12_greatest_35 (v := 2) rfl ?_
      refine s_iload_n (pc := 36) dX12_greatest_36 3 rfl rfl ?_
      refine s_imul (pc := 37) dX12_greatest_37 ?_
      refine s_iadd (pc := 38) dX12_greatest_38 ?_
      refine s_iconst (pc := 39) dX12_greatest_39 (v := 1) rfl ?_
      refine s_iadd (pc := 40) dX12_greatest_40 ?_
      obtain ⟨c31, hf⟩ := p_ckx hf
      refine x_iald (pc := 41) dX12_greatest_41 t30 c31 ?_
      obtain ⟨q32, h33, hf⟩ := p_bd hf
      refine y_callV1 (pc := 42) dX12_greatest_42 (c_X12_signalOf (p_dd hd (by decide)) hW ha0 h33) mk_X12_signalOf mv_X12_signalOf ml_X12_244 rfl rfl (Nat.le_of_ble_eq_true rfl) ha0 rfl (p_d1 hd (by decide)) (Nat.le_of_ble_eq_true rfl) ?_
      refine s_istore (pc := 45) (lo' := [(4, .int q32.1), (0, .ref a0), (1, .int x1), (2, .int s0.1), (3, .int s0.2.1)]) dX12_greatest_45 (Nat.le_of_ble_eq_true rfl) rfl ?_
      refine s_iload (pc := 47) dX12_greatest_47 0 rfl ?_
      refine s_iload_n (pc := 49) dX12_greatest_49 3 rfl rfl ?_
      obtain ⟨t34, hg, hf⟩ := p_lx2 hf
      have k35 : SW G mX12_greatest (p_rm d 0 0) 0 0 0 0 (p_R (some (.int qq.1)) N qq.2.1 qq.2.2 P) 59 [(0, .ref a0), (1, .int x1), (3, .int s0.2.1)] [.int t34] N q32.2.1 q32.2.2 P := by
        refine s_istore_n (pc := 59) (lo' := [(2, .int t34), (0, .ref a0), (1, .int x1), (3, .int s0.2.1)]) dX12_greatest_59 rfl (Nat.le_of_ble_eq_true rfl) rfl ?_
        refine s_iinc (pc := 60) (lo' := [(3, .int (s0.2.1 + 1)), (2, .int t34), (0, .ref a0), (1, .int x1)]) dX12_greatest_60 3 rfl (v := s0.2.1 + 1) rfl (Nat.le_of_ble_eq_true rfl) rfl ?_
        refine s_goto (pc := 63) (tgt := 4) dX12_greatest_63 rfl ?_
        exact s_lo [2, 3, 1, 0] rfl (hrec0 (t34, s0.2.1 + 1, q32.2.1, q32.2.2) hf)
      replace hf := hg.symm
      refine s_icmp_le (pc := 50) (tgt := 58) dX12_greatest_50 rfl (fun hc => ?_) (fun hc => ?_)
      · replace hf := p_ps hf hc
        refine s_iload_n (pc := 58) dX12_greatest_58 3 rfl rfl ?_
        cases hf
        exact s_lo [1, 2, 4] rfl (k35)
      · replace hf := p_ng hf hc
        refine s_iload (pc := 53) dX12_greatest_53 0 rfl ?_
        refine s_goto (pc := 55) (tgt := 59) dX12_greatest_55 rfl ?_
        cases hf
        exact s_lo [1, 2, 4] rfl (k35))
  exact s_lo [2, 3, 1, 0] rfl (k19 n (0, 0, I, L) hf)
def f_X12_asked (n : Nat) (N : pN) (I : pI) (L : pL) (P : pR) (a0 : Nat) (x1 : Int32) (x2 : Int32) (x3 : Int32) : Option (Int32 × pI × pL) :=
  (if x1 = 10 then
    Option.bind (f_X12_isAlone n N I P a0 x2) fun q13 =>
    (if q13 = 0 then
      some (0, I, L)
    else
      some (1, I, L))
  else
    (if x1 = 11 then
      Option.bind (f_X12_senderOf N I P a0 x2 2) fun q11 =>
      some (q11, I, L)
    else
      (if x1 = 12 then
        Option.bind (f_X12_senderOf N I P a0 x2 3) fun q9 =>
        some (q9, I, L)
      else
        (if x1 = 13 then
          Option.bind (f_X12_senderOf N I P a0 x2 0) fun q7 =>
          some (q7, I, L)
        else
          (if x1 = 14 then
            Option.bind (f_X12_senderOf N I P a0 x2 1) fun q5 =>
            some (q5, I, L)
          else
            (if x1 = 15 then
              some (x3, I, L)
            else
              Option.bind (f_X12_greatest n N I L P a0 x2) fun q3 =>
              some (q3.1, q3.2.1, q3.2.2)))))))
theorem c_X12_asked {G : pG} {d : Nat} {n : Nat} {N : pN} {I : pI} {L : pL} {P : pR} {a0 : Nat} {x1 : Int32} {x2 : Int32} {x3 : Int32} {qq : Int32 × pI × pL} (hd : 9 ≤ d) (hW : WT N P) (ha0 : p_tp N a0 15) (hf : f_X12_asked n N I L P a0 x1 x2 x3 = some qq) : MT G mX12_asked d 0 0 [.ref a0, .int x1, .int x2, .int x3] N I L P (p_R (some (.int qq.1)) N qq.2.1 qq.2.2 P) := by
  refine MT.of rfl (Nat.le_of_ble_eq_true rfl) ?_
  show SW G mX12_asked (p_rm d 0 0) 0 0 0 0 (p_R (some (.int qq.1)) N qq.2.1 qq.2.2 P) 0 [(0, .ref a0), (1, .int x1), (2, .int x2), (3, .int x3)] [] N I L P
  unfold f_X12_asked at hf
  refine s_iload_n (pc := 0) dX12_asked_0 1 rfl rfl ?_
  by_cases hc0 : x1 = 10
  · replace hf := p_ps hf hc0
    refine s_tableIn (pc := 1) (tgt := 40) (off := 39) dX12_asked_1 (by rw [hc0]; decide) (by rw [hc0]; decide) (by rw [hc0]; rfl) rfl ?_
    refine s_aload_n (pc := 40) dX12_asked_40 0 rfl rfl ?_
    refine s_iload_n (pc := 41) dX12_asked_41 2 rfl rfl ?_
    obtain ⟨q13, h14, hf⟩ := p_bd hf
    refine y_callV1 (pc := 42) dX12_asked_42 (c_X12_isAlone (p_dd hd (by decide)) hW ha0 h14) mk_X12_isAlone mv_X12_isAlone ml_X12_405 rfl rfl (Nat.le_of_ble_eq_true rfl) ha0 rfl (p_d1 hd (by decide)) (Nat.le_of_ble_eq_true rfl) ?_
    refine s_if_eq (pc := 45) (tgt := 52) dX12_asked_45 rfl (fun hc => ?_) (fun hc => ?_)
    · replace hf := p_ps hf hc
      refine s_iconst (pc := 52) dX12_asked_52 (v := 0) rfl ?_
      cases hf
      exact s_ireturn (pc := 53) dX12_asked_53 rfl rfl ⟨rfl, rfl, rfl, rfl, rfl⟩
    · replace hf := p_ng hf hc
      refine s_iconst (pc := 48) dX12_asked_48 (v := 1) rfl ?_
      refine s_goto (pc := 49) (tgt := 53) dX12_asked_49 rfl ?_
      cases hf
      exact s_ireturn (pc := 53) dX12_asked_53 rfl rfl ⟨rfl, rfl, rfl, rfl, rfl⟩
  · replace hf := p_ng hf hc0
    by_cases hc1 : x1 = 11
    · replace hf := p_ps hf hc1
      refine s_tableIn (pc := 1) (tgt := 54) (off := 53) dX12_asked_1 (by rw [hc1]; decide) (by rw [hc1]; decide) (by rw [hc1]; rfl) rfl ?_
      refine s_aload_n (pc := 54) dX12_asked_54 0 rfl rfl ?_
      refine s_iload_n (pc := 55) dX12_asked_55 2 rfl rfl ?_
      refine s_iconst (pc := 56) dX12_asked_56 (v := 2) rfl ?_
      obtain ⟨q11, h12, hf⟩ := p_bd hf
      refine y_callV1 (pc := 57) dX12_asked_57 (c_X12_senderOf (p_dd hd (by decide)) hW ha0 h12) mk_X12_senderOf mv_X12_senderOf ml_X12_83 rfl rfl (Nat.le_of_ble_eq_true rfl) ha0 rfl (p_d1 hd (by decide)) (Nat.le_of_ble_eq_true rfl) ?_
      cases hf
      exact s_ireturn (pc := 60) dX12_asked_60 rfl rfl ⟨rfl, rfl, rfl, rfl, rfl⟩
    · replace hf := p_ng hf hc1
      by_cases hc2 : x1 = 12
      · replace hf := p_ps hf hc2
        refine s_tableIn (pc := 1) (tgt := 61) (off := 60) dX12_asked_1 (by rw [hc2]; decide) (by rw [hc2]; decide) (by rw [hc2]; rfl) rfl ?_
        refine s_aload_n (pc := 61) dX12_asked_61 0 rfl rfl ?_
        refine s_iload_n (pc := 62) dX12_asked_62 2 rfl rfl ?_
        refine s_iconst (pc := 63) dX12_asked_63 (v := 3) rfl ?_
        obtain ⟨q9, h10, hf⟩ := p_bd hf
        refine y_callV1 (pc := 64) dX12_asked_64 (c_X12_senderOf (p_dd hd (by decide)) hW ha0 h10) mk_X12_senderOf mv_X12_senderOf ml_X12_83 rfl rfl (Nat.le_of_ble_eq_true rfl) ha0 rfl (p_d1 hd (by decide)) (Nat.le_of_ble_eq_true rfl) ?_
        cases hf
        exact s_ireturn (pc := 67) dX12_asked_67 rfl rfl ⟨rfl, rfl, rfl, rfl, rfl⟩
      · replace hf := p_ng hf hc2
        by_cases hc3 : x1 = 13
        · replace hf := p_ps hf hc3
          refine s_tableIn (pc := 1) (tgt := 68) (off := 67) dX12_asked_1 (by rw [hc3]; decide) (by rw [hc3]; decide) (by rw [hc3]; rfl) rfl ?_
          refine s_aload_n (pc := 68) dX12_asked_68 0 rfl rfl ?_
          refine s_iload_n (pc := 69) dX12_asked_69 2 rfl rfl ?_
          refine s_iconst (pc := 70) dX12_asked_70 (v := 0) rfl ?_
          obtain ⟨q7, h8, hf⟩ := p_bd hf
          refine y_callV1 (pc := 71) dX12_asked_71 (c_X12_senderOf (p_dd hd (by decide)) hW ha0 h8) mk_X12_senderOf mv_X12_senderOf ml_X12_83 rfl rfl (Nat.le_of_ble_eq_true rfl) ha0 rfl (p_d1 hd (by decide)) (Nat.le_of_ble_eq_true rfl) ?_
          cases hf
          exact s_ireturn (pc := 74) dX12_asked_74 rfl rfl ⟨rfl, rfl, rfl, rfl, rfl⟩
        · replace hf := p_ng hf hc3
          by_cases hc4 : x1 = 14
          · replace hf := p_ps hf hc4
            refine s_tableIn (pc := 1) (tgt := 75) (off := 74) dX12_asked_1 (by rw [hc4]; decide) (by rw [hc4]; decide) (by rw [hc4]; rfl) rfl ?_
            refine s_aload_n (pc := 75) dX12_asked_75 0 rfl rfl ?_
            refine s_iload_n (pc := 76) dX12_asked_76 2 rfl rfl ?_
            refine s_iconst (pc := 77) dX12_asked_77 (v := 1) rfl ?_
            obtain ⟨q5, h6, hf⟩ := p_bd hf
            refine y_callV1 (pc := 78) dX12_asked_78 (c_X12_senderOf (p_dd hd (by decide)) hW ha0 h6) mk_X12_senderOf mv_X12_senderOf ml_X12_83 rfl rfl (Nat.le_of_ble_eq_true rfl) ha0 rfl (p_d1 hd (by decide)) (Nat.le_of_ble_eq_true rfl) ?_
            cases hf
            exact s_ireturn (pc := 81) dX12_asked_81 rfl rfl ⟨rfl, rfl, rfl, rfl, rfl⟩
          · replace hf := p_ng hf hc4
            by_cases hc5 : x1 = 15
            · replace hf := p_ps hf hc5
              refine s_tableIn (pc := 1) (tgt := 82) (off := 81) dX12_asked_1 (by rw [hc5]; decide) (by rw [hc5]; decide) (by rw [hc5]; rfl) rfl ?_
              refine s_iload_n (pc := 82) dX12_asked_82 3 rfl rfl ?_
              cases hf
              exact s_ireturn (pc := 83) dX12_asked_83 rfl rfl ⟨rfl, rfl, rfl, rfl, rfl⟩
            · replace hf := p_ng hf hc5
              have hout : x1.toInt < 10 ∨ 15 < x1.toInt := p_out (fun i h1 h2 => by
                have hh : i = 10 ∨ i = 11 ∨ i = 12 ∨ i = 13 ∨ i = 14 ∨ i = 15 := by omega
                rcases hh with rfl | rfl | rfl | rfl | rfl | rfl
                · exact p_ne hc0 rfl
                · exact p_ne hc1 rfl
                · exact p_ne hc2 rfl
                · exact p_ne hc3 rfl
                · exact p_ne hc4 rfl
                · exact p_ne hc5 rfl)
              refine s_tableOut (pc := 1) (tgt := 84) dX12_asked_1 hout rfl ?_
              refine s_aload_n (pc := 84) dX12_asked_84 0 rfl rfl ?_
              refine s_iload_n (pc := 85) dX12_asked_85 2 rfl rfl ?_
              obtain ⟨q3, h4, hf⟩ := p_bd hf
              refine y_callV1 (pc := 86) dX12_asked_86 (c_X12_greatest (p_dd hd (by decide)) hW ha0 h4) mk_X12_greatest mv_X12_greatest ml_X12_408 rfl rfl (Nat.le_of_ble_eq_true rfl) ha0 rfl (p_d1 hd (by decide)) (Nat.le_of_ble_eq_true rfl) ?_
              cases hf
              exact s_ireturn (pc := 89) dX12_asked_89 rfl rfl ⟨rfl, rfl, rfl, rfl, rfl⟩
def B_X12_holds_6 (n : Nat) (N : pN) (P : pR) (a0 : Nat) (x1 : Int32) (x2 : Int32) (x3 : Int32) (rec0 : (Int32 × Int32 × pI × pL) → Option (Int32 × pI × pL)) (s0 : Int32 × Int32 × pI × pL) : Option (Int32 × pI × pL) :=
  Option.bind (P a0 0) fun q3 =>
  p_ck (p_ib N q3 x1) <|
  (if (s0.2.2.1 q3 (Int32.toNatClampNeg x1)) ≤ s0.2.1 then
    some (s0.1, s0.2.2.1, s0.2.2.2)
  else
    (if s0.1 = 0 then
      some (s0.1, s0.2.2.1, s0.2.2.2)
    else
      Option.bind (P a0 0) fun q7 =>
      p_ck (p_ib N q7 (((x1 + 1) + (4 * s0.2.1)) + 1)) <|
      Option.bind (f_X12_asked n N s0.2.2.1 s0.2.2.2 P a0 (s0.2.2.1 q7 (Int32.toNatClampNeg (((x1 + 1) + (4 * s0.2.1)) + 1))) x2 x3) fun q11 =>
      Option.bind (P a0 0) fun q13 =>
      p_ck (p_ib N q13 (((x1 + 1) + (4 * s0.2.1)) + 3)) <|
      p_let (q11.2.1 q13 (Int32.toNatClampNeg (((x1 + 1) + (4 * s0.2.1)) + 3))) fun v17 =>
      Option.bind (P a0 0) fun q19 =>
      p_ck (p_ib N q19 (((x1 + 1) + (4 * s0.2.1)) + 2)) <|
      Option.bind (α := Int32) ((if (q11.2.1 q19 (Int32.toNatClampNeg (((x1 + 1) + (4 * s0.2.1)) + 2))) = 60 then
        (if v17 ≤ q11.1 then
          some 0
        else
          some 1)
      else
        Option.bind (P a0 0) fun q25 =>
        p_ck (p_ib N q25 (((x1 + 1) + (4 * s0.2.1)) + 2)) <|
        (if (q11.2.1 q25 (Int32.toNatClampNeg (((x1 + 1) + (4 * s0.2.1)) + 2))) = 62 then
          (if q11.1 ≤ v17 then
            some 0
          else
            some 1)
        else
          (if q11.1 = v17 then
            some 1
          else
            some 0)))) fun t23 =>
      Option.bind (P a0 0) fun q29 =>
      p_ck (p_ib N q29 ((x1 + 1) + (4 * s0.2.1))) <|
      p_let (α := Int32) ((if (q11.2.1 q29 (Int32.toNatClampNeg ((x1 + 1) + (4 * s0.2.1)))) = 1 then
        1
      else
        0)) fun t33 =>
      p_let (α := Int32) ((if t23 = t33 then
        0
      else
        1)) fun t35 =>
      rec0 (t35, s0.2.1 + 1, q11.2.1, q11.2.2)))
def f_X12_holds (n : Nat) (N : pN) (I : pI) (L : pL) (P : pR) (a0 : Nat) (x1 : Int32) (x2 : Int32) (x3 : Int32) : Option (Int32 × pI × pL) :=
  Option.bind (p_it (B_X12_holds_6 n N P a0 x1 x2 x3) n (1, 0, I, L)) fun t1 =>
  p_ck (decide (t1.1 = 0 ∨ t1.1 = 1)) <|
  some (t1.1, t1.2.1, t1.2.2)
theorem c_X12_holds {G : pG} {d : Nat} {n : Nat} {N : pN} {I : pI} {L : pL} {P : pR} {a0 : Nat} {x1 : Int32} {x2 : Int32} {x3 : Int32} {qq : Int32 × pI × pL} (hd : 10 ≤ d) (hW : WT N P) (ha0 : p_tp N a0 15) (hf : f_X12_holds n N I L P a0 x1 x2 x3 = some qq) : MT G mX12_holds d 0 0 [.ref a0, .int x1, .int x2, .int x3] N I L P (p_R (some (.int qq.1)) N qq.2.1 qq.2.2 P) := by
  refine MT.of rfl (Nat.le_of_ble_eq_true rfl) ?_
  show SW G mX12_holds (p_rm d 0 0) 0 0 0 0 (p_R (some (.int qq.1)) N qq.2.1 qq.2.2 P) 0 [(0, .ref a0), (1, .int x1), (2, .int x2), (3, .int x3)] [] N I L P
  unfold f_X12_holds at hf
  refine s_iconst (pc := 0) dX12_holds_0 (v := 1) rfl ?_
  refine s_istore (pc := 1) (lo' := [(4, .int 1), (0, .ref a0), (1, .int x1), (2, .int x2), (3, .int x3)]) dX12_holds_1 (Nat.le_of_ble_eq_true rfl) rfl ?_
  refine s_iconst (pc := 3) dX12_holds_3 (v := 0) rfl ?_
  refine s_istore (pc := 4) (lo' := [(5, .int 0), (4, .int 1), (0, .ref a0), (1, .int x1), (2, .int x2), (3, .int x3)]) dX12_holds_4 (Nat.le_of_ble_eq_true rfl) rfl ?_
  obtain ⟨t1, hg, hf⟩ := p_bd hf
  have k2 : SW G mX12_holds (p_rm d 0 0) 0 0 0 0 (p_R (some (.int qq.1)) N qq.2.1 qq.2.2 P) 166 [(4, .int t1.1)] [] N t1.2.1 t1.2.2 P := by
    refine s_iload (pc := 166) dX12_holds_166 0 rfl ?_
    obtain ⟨c72, hf⟩ := p_ckx hf
    cases hf
    exact s_ireturn (pc := 168) dX12_holds_168 rfl (p_nr (of_decide_eq_true c72)) ⟨rfl, rfl, rfl, rfl, rfl⟩
  replace hf := hg
  have k37 : ∀ (k : Nat) (s0 : Int32 × Int32 × pI × pL), p_it (B_X12_holds_6 n N P a0 x1 x2 x3) k s0 = some t1 → (SW G mX12_holds (p_rm d 0 0) 0 0 0 0 (p_R (some (.int qq.1)) N qq.2.1 qq.2.2 P) 6 [(0, .ref a0), (1, .int x1), (2, .int x2), (3, .int x3), (4, .int s0.1), (5, .int s0.2.1)] [] N s0.2.2.1 s0.2.2.2 P) := p_it_ind (C := fun (s0 : Int32 × Int32 × pI × pL) => SW G mX12_holds (p_rm d 0 0) 0 0 0 0 (p_R (some (.int qq.1)) N qq.2.1 qq.2.2 P) 6 [(0, .ref a0), (1, .int x1), (2, .int x2), (3, .int x3), (4, .int s0.1), (5, .int s0.2.1)] [] N s0.2.2.1 s0.2.2.2 P) (by
    intro rec0 hrec0 s0 hf
    unfold B_X12_holds_6 at hf
    refine s_iload (pc := 6) dX12_holds_6 5 rfl ?_
    refine s_aload_n (pc := 8) dX12_holds_8 0 rfl rfl ?_
    obtain ⟨q38, h39, hf⟩ := p_bd hf
    have t40 : p_tp N q38 0 := WT.get hW ha0 h39
    refine x_getR (pc := 9) dX12_holds_9 fl_X12_7 rfl ha0 h39 ?_
    refine s_iload_n (pc := 12) dX12_holds_12 1 rfl rfl ?_
    obtain ⟨c41, hf⟩ := p_ckx hf
    refine x_iald (pc := 13) dX12_holds_13 t40 c41 ?_
    refine s_icmp_ge (pc := 14) (tgt := 166) dX12_holds_14 rfl (fun hc => ?_) (fun hc => ?_)
    · replace hf := p_ps hf hc
      cases hf
      exact s_lo [4] rfl (k2)
    · replace hf := p_ng hf hc
      refine s_iload (pc := 17) dX12_holds_17 4 rfl ?_
      refine s_if_eq (pc := 19) (tgt := 166) dX12_holds_19 rfl (fun hc => ?_) (fun hc => ?_)
      · replace hf := p_ps hf hc
        cases hf
        exact s_lo [4] rfl (k2)
      · replace hf := p_ng hf hc
        refine s_iload_n (pc := 22) dX12_holds_22 1 rfl rfl ?_
        refine s_iconst (pc := 23) dX12_holds_23 (v := 1) rfl ?_
        refine s_iadd (pc := 24) dX12_holds_24 ?_
        refine s_iconst (pc := 25) dX12_holds_25 (v := 4) rfl ?_
        refine s_iload (pc := 26) dX12_holds_26 5 rfl ?_
        refine s_imul (pc := 28) dX12_holds_28 ?_
        refine s_iadd (pc := 29) dX12_holds_29 ?_
        refine s_istore (pc := 30) (lo' := [(6, .int ((x1 + 1) + (4 * s0.2.1))), (0, .ref a0), (1, .int x1), (2, .int x2), (3, .int x3), (4, .int s0.1), (5, .int s0.2.1)]) dX12_holds_30 (Nat.le_of_ble_eq_true rfl) rfl ?_
        refine s_aload_n (pc := 32) dX12_holds_32 1 rfl rfl ?_
        refine s_aload_n (pc := 33) dX12_holds_33 1 rfl rfl ?_
        obtain ⟨q42, h43, hf⟩ := p_bd hf
        have t44 : p_tp N q42 0 := WT.get hW ha0 h43
        refine x_getR (pc := 34) dX12_holds_34 fl_X12_7 rfl ha0 h43 ?_
        refine s_iload (pc := 37) dX12_holds_37 0 rfl ?_
        refine s_iconst (pc := 39) dX12_holds_39 (v := 1) rfl ?_
        refine s_iadd (pc := 40) dX12_holds_40 ?_
        obtain ⟨c45, hf⟩ := p_ckx hf
        refine x_iald (pc := 41) dX12_holds_41 t44 c45 ?_
        refine s_iload_n (pc := 42) dX12_holds_42 3 rfl rfl ?_
        refine s_iload_n (pc := 43) dX12_holds_43 4 rfl rfl ?_
        obtain ⟨q46, h47, hf⟩ := p_bd hf
        refine y_callV1 (pc := 44) dX12_holds_44 (c_X12_asked (p_dd hd (by decide)) hW ha0 h47) mk_X12_asked mv_X12_asked ml_X12_411 rfl rfl (Nat.le_of_ble_eq_true rfl) ha0 rfl (p_d1 hd (by decide)) (Nat.le_of_ble_eq_true rfl) ?_
        refine s_istore (pc := 47) (lo' := [(7, .int q46.1), (6, .int ((x1 + 1) + (4 * s0.2.1))), (0, .ref a0), (1, .int x1), (2, .int x2), (3, .int x3), (4, .int s0.1), (5, .int s0.2.1)]) dX12_holds_47 (Nat.le_of_ble_eq_true rfl) rfl ?_
        refine s_aload_n (pc := 49) dX12_holds_49 2 rfl rfl ?_
        obtain ⟨q48, h49, hf⟩ := p_bd hf
        have t50 : p_tp N q48 0 := WT.get hW ha0 h49
        refine x_getR (pc := 50) dX12_holds_50 fl_X12_7 rfl ha0 h49 ?_
        refine s_iload (pc := 53) dX12_holds_53 1 rfl ?_
        refine s_iconst (pc := 55) dX12_holds_55 (v := 3) rfl ?_
        refine s_iadd (pc := 56) dX12_holds_56 ?_
        obtain ⟨c51, hf⟩ := p_ckx hf
        refine x_iald (pc := 57) dX12_holds_57 t50 c51 ?_
        refine s_topi (fun v52 e53 => ?_)
        replace hf := p_lx hf e53
        refine s_istore (pc := 58) (lo' := [(8, .int v52), (7, .int q46.1), (6, .int ((x1 + 1) + (4 * s0.2.1))), (0, .ref a0), (1, .int x1), (2, .int x2), (3, .int x3), (4, .int s0.1), (5, .int s0.2.1)]) dX12_holds_58 (Nat.le_of_ble_eq_true rfl) rfl ?_
        refine s_aload_n (pc := 60) dX12_holds_60 3 rfl rfl ?_
        obtain ⟨q54, h55, hf⟩ := p_bd hf
        have t56 : p_tp N q54 0 := WT.get hW ha0 h55
        refine x_getR (pc := 61) dX12_holds_61 fl_X12_7 rfl ha0 h55 ?_
        refine s_iload (pc := 64) dX12_holds_64 2 rfl ?_
        refine s_iconst (pc := 66) dX12_holds_66 (v := 2) rfl ?_
        refine s_iadd (pc := 67) dX12_holds_67 ?_
        obtain ⟨c57, hf⟩ := p_ckx hf
        refine x_iald (pc := 68) dX12_holds_68 t56 c57 ?_
        refine s_bipush (pc := 69) dX12_holds_69 (v := 60) rfl ?_
        obtain ⟨t58, hg, hf⟩ := p_bd hf
        have k59 : SW G mX12_holds (p_rm d 0 0) 0 0 0 0 (p_R (some (.int qq.1)) N qq.2.1 qq.2.2 P) 130 [(6, .int ((x1 + 1) + (4 * s0.2.1))), (0, .ref a0), (1, .int x1), (2, .int x2), (3, .int x3), (5, .int s0.2.1)] [.int t58] N q46.2.1 q46.2.2 P := by
          refine s_istore (pc := 130) (lo' := [(9, .int t58), (6, .int ((x1 + 1) + (4 * s0.2.1))), (0, .ref a0), (1, .int x1), (2, .int x2), (3, .int x3), (5, .int s0.2.1)]) dX12_holds_130 (Nat.le_of_ble_eq_true rfl) rfl ?_
          refine s_iload (pc := 132) dX12_holds_132 0 rfl ?_
          refine s_aload_n (pc := 134) dX12_holds_134 2 rfl rfl ?_
          obtain ⟨q64, h65, hf⟩ := p_bd hf
          have t66 : p_tp N q64 0 := WT.get hW ha0 h65
          refine x_getR (pc := 135) dX12_holds_135 fl_X12_7 rfl ha0 h65 ?_
          refine s_iload (pc := 138) dX12_holds_138 1 rfl ?_
          obtain ⟨c67, hf⟩ := p_ckx hf
          refine x_iald (pc := 140) dX12_holds_140 t66 c67 ?_
          refine s_iconst (pc := 141) dX12_holds_141 (v := 1) rfl ?_
          obtain ⟨t68, hg, hf⟩ := p_lx2 hf
          have k69 : SW G mX12_holds (p_rm d 0 0) 0 0 0 0 (p_R (some (.int qq.1)) N qq.2.1 qq.2.2 P) 150 [(0, .ref a0), (1, .int x1), (2, .int x2), (3, .int x3), (5, .int s0.2.1)] [.int t68, .int t58] N q46.2.1 q46.2.2 P := by
            obtain ⟨t70, hg, hf⟩ := p_lx2 hf
            have k71 : SW G mX12_holds (p_rm d 0 0) 0 0 0 0 (p_R (some (.int qq.1)) N qq.2.1 qq.2.2 P) 158 [(0, .ref a0), (1, .int x1), (2, .int x2), (3, .int x3), (5, .int s0.2.1)] [.int t70] N q46.2.1 q46.2.2 P := by
              refine s_istore (pc := 158) (lo' := [(4, .int t70), (0, .ref a0), (1, .int x1), (2, .int x2), (3, .int x3), (5, .int s0.2.1)]) dX12_holds_158 (Nat.le_of_ble_eq_true rfl) rfl ?_
              refine s_iinc (pc := 160) (lo' := [(5, .int (s0.2.1 + 1)), (4, .int t70), (0, .ref a0), (1, .int x1), (2, .int x2), (3, .int x3)]) dX12_holds_160 5 rfl (v := s0.2.1 + 1) rfl (Nat.le_of_ble_eq_true rfl) rfl ?_
              refine s_goto (pc := 163) (tgt := 6) dX12_holds_163 rfl ?_
              exact s_lo [2, 3, 4, 5, 1, 0] rfl (hrec0 (t70, s0.2.1 + 1, q46.2.1, q46.2.2) hf)
            replace hf := hg.symm
            refine s_icmp_eq (pc := 150) (tgt := 157) dX12_holds_150 rfl (fun hc => ?_) (fun hc => ?_)
            · replace hf := p_ps hf hc
              refine s_iconst (pc := 157) dX12_holds_157 (v := 0) rfl ?_
              cases hf
              exact s_lo [0, 1, 2, 3, 4] rfl (k71)
            · replace hf := p_ng hf hc
              refine s_iconst (pc := 153) dX12_holds_153 (v := 1) rfl ?_
              refine s_goto (pc := 154) (tgt := 158) dX12_holds_154 rfl ?_
              cases hf
              exact s_lo [0, 1, 2, 3, 4] rfl (k71)
          replace hf := hg.symm
          refine s_icmp_ne (pc := 142) (tgt := 149) dX12_holds_142 rfl (fun hc => ?_) (fun hc => ?_)
          · replace hf := p_ng hf hc
            refine s_iconst (pc := 149) dX12_holds_149 (v := 0) rfl ?_
            cases hf
            exact s_lo [2, 3, 4, 5, 6] rfl (k69)
          · replace hf := p_ps hf hc
            refine s_iconst (pc := 145) dX12_holds_145 (v := 1) rfl ?_
            refine s_goto (pc := 146) (tgt := 150) dX12_holds_146 rfl ?_
            cases hf
            exact s_lo [2, 3, 4, 5, 6] rfl (k69)
        replace hf := hg
        refine s_icmp_ne (pc := 71) (tgt := 89) dX12_holds_71 rfl (fun hc => ?_) (fun hc => ?_)
        · replace hf := p_ng hf hc
          refine s_aload_n (pc := 89) dX12_holds_89 3 rfl rfl ?_
          obtain ⟨q60, h61, hf⟩ := p_bd hf
          have t62 : p_tp N q60 0 := WT.get hW ha0 h61
          refine x_getR (pc := 90) dX12_holds_90 fl_X12_7 rfl ha0 h61 ?_
          refine s_iload (pc := 93) dX12_holds_93 2 rfl ?_
          refine s_iconst (pc := 95) dX12_holds_95 (v := 2) rfl ?_
          refine s_iadd (pc := 96) dX12_holds_96 ?_
          obtain ⟨c63, hf⟩ := p_ckx hf
          refine x_iald (pc := 97) dX12_holds_97 t62 c63 ?_
          refine s_bipush (pc := 98) dX12_holds_98 (v := 62) rfl ?_
          refine s_icmp_ne (pc := 100) (tgt := 118) dX12_holds_100 rfl (fun hc => ?_) (fun hc => ?_)
          · replace hf := p_ng hf hc
            refine s_iload (pc := 118) dX12_holds_118 1 rfl ?_
            refine s_iload (pc := 120) dX12_holds_120 0 rfl ?_
            refine s_icmp_ne (pc := 122) (tgt := 129) dX12_holds_122 rfl (fun hc => ?_) (fun hc => ?_)
            · replace hf := p_ng hf hc
              refine s_iconst (pc := 129) dX12_holds_129 (v := 0) rfl ?_
              cases hf
              exact s_lo [2, 3, 4, 5, 6, 8] rfl (k59)
            · replace hf := p_ps hf hc
              refine s_iconst (pc := 125) dX12_holds_125 (v := 1) rfl ?_
              refine s_goto (pc := 126) (tgt := 130) dX12_holds_126 rfl ?_
              cases hf
              exact s_lo [2, 3, 4, 5, 6, 8] rfl (k59)
          · replace hf := p_ps hf hc
            refine s_iload (pc := 103) dX12_holds_103 1 rfl ?_
            refine s_iload (pc := 105) dX12_holds_105 0 rfl ?_
            refine s_icmp_le (pc := 107) (tgt := 114) dX12_holds_107 rfl (fun hc => ?_) (fun hc => ?_)
            · replace hf := p_ps hf hc
              refine s_iconst (pc := 114) dX12_holds_114 (v := 0) rfl ?_
              refine s_goto (pc := 115) (tgt := 130) dX12_holds_115 rfl ?_
              cases hf
              exact s_lo [2, 3, 4, 5, 6, 8] rfl (k59)
            · replace hf := p_ng hf hc
              refine s_iconst (pc := 110) dX12_holds_110 (v := 1) rfl ?_
              refine s_goto (pc := 111) (tgt := 130) dX12_holds_111 rfl ?_
              cases hf
              exact s_lo [2, 3, 4, 5, 6, 8] rfl (k59)
        · replace hf := p_ps hf hc
          refine s_iload (pc := 74) dX12_holds_74 1 rfl ?_
          refine s_iload (pc := 76) dX12_holds_76 0 rfl ?_
          refine s_icmp_ge (pc := 78) (tgt := 85) dX12_holds_78 rfl (fun hc => ?_) (fun hc => ?_)
          · replace hf := p_ps hf hc
            refine s_iconst (pc := 85) dX12_holds_85 (v := 0) rfl ?_
            refine s_goto (pc := 86) (tgt := 130) dX12_holds_86 rfl ?_
            cases hf
            exact s_lo [2, 3, 4, 5, 6, 8] rfl (k59)
          · replace hf := p_ng hf hc
            refine s_iconst (pc := 81) dX12_holds_81 (v := 1) rfl ?_
            refine s_goto (pc := 82) (tgt := 130) dX12_holds_82 rfl ?_
            cases hf
            exact s_lo [2, 3, 4, 5, 6, 8] rfl (k59))
  exact s_lo [2, 3, 4, 5, 1, 0] rfl (k37 n (1, 0, I, L) hf)
