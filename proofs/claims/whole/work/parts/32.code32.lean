def f_X12_cover (n : Nat) (N : pN) (I : pI) (L : pL) (P : pR) (a0 : Nat) (x1 : Int32) : Option (Int32 × pI × pL) :=
  Option.bind (f_X12_isIn x1 0 2) fun q1 =>
  (if q1 = 0 then
    some ((-1), I, L)
  else
    Option.bind (f_X12_covers n N I L P a0) fun q3 =>
    (if q3.1 = 0 then
      some ((-1), q3.2.1, q3.2.2)
    else
      (if x1 = 0 then
        some (q3.2.1 a0 23, q3.2.1, q3.2.2)
      else
        (if x1 = 1 then
          some (q3.2.1 a0 24, q3.2.1, q3.2.2)
        else
          some (q3.2.1 a0 25, q3.2.1, q3.2.2)))))
theorem c_X12_cover {G : pG} {d : Nat} {n : Nat} {N : pN} {I : pI} {L : pL} {P : pR} {a0 : Nat} {x1 : Int32} {qq : Int32 × pI × pL} (hd : 9 ≤ d) (hW : WT N P) (ha0 : p_tp N a0 15) (hf : f_X12_cover n N I L P a0 x1 = some qq) : MT G mX12_cover d 0 0 [.ref a0, .int x1] N I L P (p_R (some (.int qq.1)) N qq.2.1 qq.2.2 P) := by
  refine MT.of rfl (Nat.le_of_ble_eq_true rfl) ?_
  show SW G mX12_cover (p_rm d 0 0) 0 0 0 0 (p_R (some (.int qq.1)) N qq.2.1 qq.2.2 P) 0 [(0, .ref a0), (1, .int x1)] [] N I L P
  unfold f_X12_cover at hf
  refine s_iload_n (pc := 0) dX12_cover_0 1 rfl rfl ?_
  refine s_iconst (pc := 1) dX12_cover_1 (v := 0) rfl ?_
  refine s_iconst (pc := 2) dX12_cover_2 (v := 2) rfl ?_
  obtain ⟨q1, h2, hf⟩ := p_bd hf
  refine y_callS1 (pc := 3) dX12_cover_3 (c_X12_isIn (p_dd hd (by decide)) hW  h2) mk_X12_isIn mz_X12_isIn ml_X12_68 rfl rfl (Nat.le_of_ble_eq_true rfl) (p_d1 hd (by decide)) (Nat.le_of_ble_eq_true rfl) ?_
  refine s_if_eq (pc := 6) (tgt := 46) dX12_cover_6 rfl (fun hc => ?_) (fun hc => ?_)
  · replace hf := p_ps hf hc
    refine s_iconst (pc := 46) dX12_cover_46 (v := -1) rfl ?_
    cases hf
    exact s_ireturn (pc := 47) dX12_cover_47 rfl rfl ⟨rfl, rfl, rfl, rfl, rfl⟩
  · replace hf := p_ng hf hc
    refine s_aload_n (pc := 9) dX12_cover_9 0 rfl rfl ?_
    obtain ⟨q3, h4, hf⟩ := p_bd hf
    refine y_callV1 (pc := 10) dX12_cover_10 (c_X12_covers (p_dd hd (by decide)) hW ha0 h4) mk_X12_covers mv_X12_covers ml_X12_269 rfl rfl (Nat.le_of_ble_eq_true rfl) ha0 rfl (p_d1 hd (by decide)) (Nat.le_of_ble_eq_true rfl) ?_
    refine s_if_eq (pc := 13) (tgt := 46) dX12_cover_13 rfl (fun hc => ?_) (fun hc => ?_)
    · replace hf := p_ps hf hc
      refine s_iconst (pc := 46) dX12_cover_46 (v := -1) rfl ?_
      cases hf
      exact s_ireturn (pc := 47) dX12_cover_47 rfl rfl ⟨rfl, rfl, rfl, rfl, rfl⟩
    · replace hf := p_ng hf hc
      refine s_iload_n (pc := 16) dX12_cover_16 1 rfl rfl ?_
      refine s_if_ne (pc := 17) (tgt := 27) dX12_cover_17 rfl (fun hc => ?_) (fun hc => ?_)
      · replace hf := p_ng hf hc
        refine s_iload_n (pc := 27) dX12_cover_27 1 rfl rfl ?_
        refine s_iconst (pc := 28) dX12_cover_28 (v := 1) rfl ?_
        refine s_icmp_ne (pc := 29) (tgt := 39) dX12_cover_29 rfl (fun hc => ?_) (fun hc => ?_)
        · replace hf := p_ng hf hc
          refine s_aload_n (pc := 39) dX12_cover_39 0 rfl rfl ?_
          refine x_getI (pc := 40) dX12_cover_40 fl_X12_266 rfl ha0 ?_
          refine s_goto (pc := 43) (tgt := 47) dX12_cover_43 rfl ?_
          cases hf
          exact s_ireturn (pc := 47) dX12_cover_47 rfl rfl ⟨rfl, rfl, rfl, rfl, rfl⟩
        · replace hf := p_ps hf hc
          refine s_aload_n (pc := 32) dX12_cover_32 0 rfl rfl ?_
          refine x_getI (pc := 33) dX12_cover_33 fl_X12_263 rfl ha0 ?_
          refine s_goto (pc := 36) (tgt := 47) dX12_cover_36 rfl ?_
          cases hf
          exact s_ireturn (pc := 47) dX12_cover_47 rfl rfl ⟨rfl, rfl, rfl, rfl, rfl⟩
      · replace hf := p_ps hf hc
        refine s_aload_n (pc := 20) dX12_cover_20 0 rfl rfl ?_
        refine x_getI (pc := 21) dX12_cover_21 fl_X12_260 rfl ha0 ?_
        refine s_goto (pc := 24) (tgt := 47) dX12_cover_24 rfl ?_
        cases hf
        exact s_ireturn (pc := 47) dX12_cover_47 rfl rfl ⟨rfl, rfl, rfl, rfl, rfl⟩
def B_X12_clashes_5 (n : Nat) (N : pN) (P : pR) (a0 : Nat) (x1 : Int32) (x2 : Int32) (rec0 : (Int32 × Int32 × pI × pL) → Option (Int32 × pI × pL)) (s0 : Int32 × Int32 × pI × pL) : Option (Int32 × pI × pL) :=
  Option.bind (P a0 0) fun q3 =>
  p_ck (p_ib N q3 3) <|
  (if (s0.2.2.1 q3 (Int32.toNatClampNeg 3)) ≤ s0.2.1 then
    some (s0.1, s0.2.2.1, s0.2.2.2)
  else
    (if s0.1 = 0 then
      Option.bind (P a0 0) fun q7 =>
      p_ck (p_ib N q7 (202 + (2 * s0.2.1))) <|
      p_let (s0.2.2.1 q7 (Int32.toNatClampNeg (202 + (2 * s0.2.1)))) fun v11 =>
      Option.bind (P a0 0) fun q13 =>
      p_ck (p_ib N q13 ((202 + (2 * s0.2.1)) + 1)) <|
      p_let (s0.2.2.1 q13 (Int32.toNatClampNeg ((202 + (2 * s0.2.1)) + 1))) fun v17 =>
      Option.bind (f_X12_signalOf n N s0.2.2.1 s0.2.2.2 P a0 x1 v11 v17) fun q19 =>
      Option.bind (P a0 0) fun q21 =>
      p_ck (p_ib N q21 15) <|
      Option.bind (α := Int32 × pI × pL) ((if q19.1 < (q19.2.1 q21 (Int32.toNatClampNeg 15)) then
        some (0, q19.2.1, q19.2.2)
      else
        Option.bind (f_X12_signalOf n N q19.2.1 q19.2.2 P a0 x2 v11 v17) fun q27 =>
        Option.bind (P a0 0) fun q29 =>
        p_ck (p_ib N q29 15) <|
        (if q27.1 < (q27.2.1 q29 (Int32.toNatClampNeg 15)) then
          some (0, q27.2.1, q27.2.2)
        else
          some (1, q27.2.1, q27.2.2)))) fun t25 =>
      rec0 (t25.1, s0.2.1 + 1, t25.2.1, t25.2.2)
    else
      some (s0.1, s0.2.2.1, s0.2.2.2)))
def f_X12_clashes (n : Nat) (N : pN) (I : pI) (L : pL) (P : pR) (a0 : Nat) (x1 : Int32) (x2 : Int32) : Option (Int32 × pI × pL) :=
  Option.bind (p_it (B_X12_clashes_5 n N P a0 x1 x2) n (0, 0, I, L)) fun t1 =>
  p_ck (decide (t1.1 = 0 ∨ t1.1 = 1)) <|
  some (t1.1, t1.2.1, t1.2.2)
theorem c_X12_clashes {G : pG} {d : Nat} {n : Nat} {N : pN} {I : pI} {L : pL} {P : pR} {a0 : Nat} {x1 : Int32} {x2 : Int32} {qq : Int32 × pI × pL} (hd : 8 ≤ d) (hW : WT N P) (ha0 : p_tp N a0 15) (hf : f_X12_clashes n N I L P a0 x1 x2 = some qq) : MT G mX12_clashes d 0 0 [.ref a0, .int x1, .int x2] N I L P (p_R (some (.int qq.1)) N qq.2.1 qq.2.2 P) := by
  refine MT.of rfl (Nat.le_of_ble_eq_true rfl) ?_
  show SW G mX12_clashes (p_rm d 0 0) 0 0 0 0 (p_R (some (.int qq.1)) N qq.2.1 qq.2.2 P) 0 [(0, .ref a0), (1, .int x1), (2, .int x2)] [] N I L P
  unfold f_X12_clashes at hf
  refine s_iconst (pc := 0) dX12_clashes_0 (v := 0) rfl ?_
  refine s_istore_n (pc := 1) dX12_clashes_1 rfl (Nat.le_of_ble_eq_true rfl) rfl ?_
  refine s_iconst (pc := 2) dX12_clashes_2 (v := 0) rfl ?_
  refine s_istore (pc := 3) dX12_clashes_3 (Nat.le_of_ble_eq_true rfl) rfl ?_
  obtain ⟨t1, hg, hf⟩ := p_bd hf
  have k2 : SW G mX12_clashes (p_rm d 0 0) 0 0 0 0 (p_R (some (.int qq.1)) N qq.2.1 qq.2.2 P) 102 [(3, .int t1.1)] [] N t1.2.1 t1.2.2 P := by
    refine s_iload_n (pc := 102) dX12_clashes_102 0 rfl rfl ?_
    obtain ⟨c64, hf⟩ := p_ckx hf
    cases hf
    exact s_ireturn (pc := 103) dX12_clashes_103 rfl (p_nr (of_decide_eq_true c64)) ⟨rfl, rfl, rfl, rfl, rfl⟩
  replace hf := hg
  have k33 : ∀ (k : Nat) (s0 : Int32 × Int32 × pI × pL), p_it (B_X12_clashes_5 n N P a0 x1 x2) k s0 = some t1 → (SW G mX12_clashes (p_rm d 0 0) 0 0 0 0 (p_R (some (.int qq.1)) N qq.2.1 qq.2.2 P) 5 [(0, .ref a0), (1, .int x1), (2, .int x2), (3, .int s0.1), (4, .int s0.2.1)] [] N s0.2.2.1 s0.2.2.2 P) := p_it_ind (C := fun (s0 : Int32 × Int32 × pI × pL) => SW G mX12_clashes (p_rm d 0 0) 0 0 0 0 (p_R (some (.int qq.1)) N qq.2.1 qq.2.2 P) 5 [(0, .ref a0), (1, .int x1), (2, .int x2), (3, .int s0.1), (4, .int s0.2.1)] [] N s0.2.2.1 s0.2.2.2 P) (by
    intro rec0 hrec0 s0 hf
    unfold B_X12_clashes_5 at hf
    refine s_iload (pc := 5) dX12_clashes_5 4 rfl ?_
    refine s_aload_n (pc := 7) dX12_clashes_7 0 rfl rfl ?_
    obtain ⟨q34, h35, hf⟩ := p_bd hf
    have t36 : p_tp N q34 0 := WT.get hW ha0 h35
    refine x_getR (pc := 8) dX12_clashes_8 fl_X12_7 rfl ha0 h35 ?_
    refine s_iconst (pc := 11) dX12_clashes_11 (v := 3) rfl ?_
    obtain ⟨c37, hf⟩ := p_ckx hf
    refine x_iald (pc := 12) dX12_clashes_12 t36 c37 ?_
    refine s_icmp_ge (pc := 13) (tgt := 102) dX12_clashes_13 rfl (fun hc => ?_) (fun hc => ?_)
    · replace hf := p_ps hf hc
      cases hf
      exact s_lo [3] rfl (k2)
    · replace hf := p_ng hf hc
      refine s_iload_n (pc := 16) dX12_clashes_16 3 rfl rfl ?_
      refine s_if_ne (pc := 17) (tgt := 102) dX12_clashes_17 rfl (fun hc => ?_) (fun hc => ?_)
      · replace hf := p_ng hf hc
        cases hf
        exact s_lo [3] rfl (k2)
      · replace hf := p_ps hf hc
        refine s_aload_n (pc := 20) dX12_clashes_20 0 rfl rfl ?_
        obtain ⟨q38, h39, hf⟩ := p_bd hf
        have t40 : p_tp N q38 0 := WT.get hW ha0 h39
        refine x_getR (pc := 21) dX12_clashes_21 fl_X12_7 rfl ha0 h39 ?_
        refine s_sipush (pc := 24) dX12_clashes_24 (v := 202) rfl ?_
        refine s_iconst (pc := 27) dX12_clashes_27 (v := 2) rfl ?_
        refine s_iload (pc := 28) dX12_clashes_28 4 rfl ?_
        refine s_imul (pc := 30) dX12_clashes_30 ?_
        refine s_iadd (pc := 31) dX12_clashes_31 ?_
        obtain ⟨c41, hf⟩ := p_ckx hf
        refine x_iald (pc := 32) dX12_clashes_32 t40 c41 ?_
        refine s_topi (fun v42 e43 => ?_)
        replace hf := p_lx hf e43
        refine s_istore (pc := 33) dX12_clashes_33 (Nat.le_of_ble_eq_true rfl) rfl ?_
        refine s_aload_n (pc := 35) dX12_clashes_35 1 rfl rfl ?_
        obtain ⟨q44, h45, hf⟩ := p_bd hf
        have t46 : p_tp N q44 0 := WT.get hW ha0 h45
        refine x_getR (pc := 36) dX12_clashes_36 fl_X12_7 rfl ha0 h45 ?_
        refine s_sipush (pc := 39) dX12_clashes_39 (v := 202) rfl ?_
        refine s_iconst (pc := 42) dX12_clashes_42 (v := 2) rfl ?_
        refine s_iload (pc := 43) dX12_clashes_43 5 rfl ?_
        refine s_imul (pc := 45) dX12_clashes_45 ?_
        refine s_iadd (pc := 46) dX12_clashes_46 ?_
        refine s_iconst (pc := 47) dX12_clashes_47 (v := 1) rfl ?_
        refine s_iadd (pc := 48) dX12_clashes_48 ?_
        obtain ⟨c47, hf⟩ := p_ckx hf
        refine x_iald (pc := 49) dX12_clashes_49 t46 c47 ?_
        refine s_topi (fun v48 e49 => ?_)
        replace hf := p_lx hf e49
        refine s_istore (pc := 50) dX12_clashes_50 (Nat.le_of_ble_eq_true rfl) rfl ?_
        refine s_aload_n (pc := 52) dX12_clashes_52 2 rfl rfl ?_
        refine s_iload_n (pc := 53) dX12_clashes_53 3 rfl rfl ?_
        refine s_iload (pc := 54) dX12_clashes_54 1 rfl ?_
        refine s_iload (pc := 56) dX12_clashes_56 0 rfl ?_
        obtain ⟨q50, h51, hf⟩ := p_bd hf
        refine y_callV1 (pc := 58) dX12_clashes_58 (c_X12_signalOf (p_dd hd (by decide)) hW ha0 h51) mk_X12_signalOf mv_X12_signalOf ml_X12_244 rfl rfl (Nat.le_of_ble_eq_true rfl) ha0 rfl (p_d1 hd (by decide)) (Nat.le_of_ble_eq_true rfl) ?_
        refine s_aload_n (pc := 61) dX12_clashes_61 2 rfl rfl ?_
        obtain ⟨q52, h53, hf⟩ := p_bd hf
        have t54 : p_tp N q52 0 := WT.get hW ha0 h53
        refine x_getR (pc := 62) dX12_clashes_62 fl_X12_7 rfl ha0 h53 ?_
        refine s_bipush (pc := 65) dX12_clashes_65 (v := 15) rfl ?_
        obtain ⟨c55, hf⟩ := p_ckx hf
        refine x_iald (pc := 67) dX12_clashes_67 t54 c55 ?_
        obtain ⟨t56, hg, hf⟩ := p_bd hf
        have k57 : SW G mX12_clashes (p_rm d 0 0) 0 0 0 0 (p_R (some (.int qq.1)) N qq.2.1 qq.2.2 P) 95 [(0, .ref a0), (1, .int x1), (2, .int x2), (4, .int s0.2.1)] [.int t56.1] N t56.2.1 t56.2.2 P := by
          refine s_istore_n (pc := 95) dX12_clashes_95 rfl (Nat.le_of_ble_eq_true rfl) rfl ?_
          refine s_iinc (pc := 96) dX12_clashes_96 4 rfl (v := s0.2.1 + 1) rfl (Nat.le_of_ble_eq_true rfl) rfl ?_
          refine s_goto (pc := 99) (tgt := 5) dX12_clashes_99 rfl ?_
          exact s_lo [2, 3, 4, 1, 0] rfl (hrec0 _ hf)
        replace hf := hg
        refine s_icmp_lt (pc := 68) (tgt := 94) dX12_clashes_68 rfl (fun hc => ?_) (fun hc => ?_)
        · replace hf := p_ps hf hc
          refine s_iconst (pc := 94) dX12_clashes_94 (v := 0) rfl ?_
          cases hf
          exact s_lo [2, 3, 4, 6] rfl (k57)
        · replace hf := p_ng hf hc
          refine s_aload_n (pc := 71) dX12_clashes_71 2 rfl rfl ?_
          refine s_iload_n (pc := 72) dX12_clashes_72 4 rfl rfl ?_
          refine s_iload (pc := 73) dX12_clashes_73 1 rfl ?_
          refine s_iload (pc := 75) dX12_clashes_75 0 rfl ?_
          obtain ⟨q58, h59, hf⟩ := p_bd hf
          refine y_callV1 (pc := 77) dX12_clashes_77 (c_X12_signalOf (p_dd hd (by decide)) hW ha0 h59) mk_X12_signalOf mv_X12_signalOf ml_X12_244 rfl rfl (Nat.le_of_ble_eq_true rfl) ha0 rfl (p_d1 hd (by decide)) (Nat.le_of_ble_eq_true rfl) ?_
          refine s_aload_n (pc := 80) dX12_clashes_80 2 rfl rfl ?_
          obtain ⟨q60, h61, hf⟩ := p_bd hf
          have t62 : p_tp N q60 0 := WT.get hW ha0 h61
          refine x_getR (pc := 81) dX12_clashes_81 fl_X12_7 rfl ha0 h61 ?_
          refine s_bipush (pc := 84) dX12_clashes_84 (v := 15) rfl ?_
          obtain ⟨c63, hf⟩ := p_ckx hf
          refine x_iald (pc := 86) dX12_clashes_86 t62 c63 ?_
          refine s_icmp_lt (pc := 87) (tgt := 94) dX12_clashes_87 rfl (fun hc => ?_) (fun hc => ?_)
          · replace hf := p_ps hf hc
            refine s_iconst (pc := 94) dX12_clashes_94 (v := 0) rfl ?_
            cases hf
            exact s_lo [2, 3, 4, 6] rfl (k57)
          · replace hf := p_ng hf hc
            refine s_iconst (pc := 90) dX12_clashes_90 (v := 1) rfl ?_
            refine s_goto (pc := 91) (tgt := 95) dX12_clashes_91 rfl ?_
            cases hf
            exact s_lo [2, 3, 4, 6] rfl (k57))
  exact s_lo [2, 3, 4, 1, 0] rfl (k33 _ _ hf)
def f_X12_clash (n : Nat) (N : pN) (I : pI) (L : pL) (P : pR) (a0 : Nat) (x1 : Int32) (x2 : Int32) : Option (Int32 × pI × pL) :=
  (if x1 = x2 then
    some (0, I, L)
  else
    Option.bind (f_X12_seesSender N I P a0 x1) fun q1 =>
    (if q1 = 0 then
      some (0, I, L)
    else
      Option.bind (f_X12_seesSender N I P a0 x2) fun q3 =>
      (if q3 = 0 then
        some (0, I, L)
      else
        Option.bind (f_X12_clashes n N I L P a0 x1 x2) fun q5 =>
        (if q5.1 = 0 then
          some (0, q5.2.1, q5.2.2)
        else
          some (1, q5.2.1, q5.2.2)))))
theorem c_X12_clash {G : pG} {d : Nat} {n : Nat} {N : pN} {I : pI} {L : pL} {P : pR} {a0 : Nat} {x1 : Int32} {x2 : Int32} {qq : Int32 × pI × pL} (hd : 9 ≤ d) (hW : WT N P) (ha0 : p_tp N a0 15) (hf : f_X12_clash n N I L P a0 x1 x2 = some qq) : MT G mX12_clash d 0 0 [.ref a0, .int x1, .int x2] N I L P (p_R (some (.int qq.1)) N qq.2.1 qq.2.2 P) := by
  refine MT.of rfl (Nat.le_of_ble_eq_true rfl) ?_
  show SW G mX12_clash (p_rm d 0 0) 0 0 0 0 (p_R (some (.int qq.1)) N qq.2.1 qq.2.2 P) 0 [(0, .ref a0), (1, .int x1), (2, .int x2)] [] N I L P
  unfold f_X12_clash at hf
  refine s_iload_n (pc := 0) dX12_clash_0 1 rfl rfl ?_
  refine s_iload_n (pc := 1) dX12_clash_1 2 rfl rfl ?_
  refine s_icmp_eq (pc := 2) (tgt := 34) dX12_clash_2 rfl (fun hc => ?_) (fun hc => ?_)
  · replace hf := p_ps hf hc
    refine s_iconst (pc := 34) dX12_clash_34 (v := 0) rfl ?_
    cases hf
    exact s_ireturn (pc := 35) dX12_clash_35 rfl rfl ⟨rfl, rfl, rfl, rfl, rfl⟩
  · replace hf := p_ng hf hc
    refine s_aload_n (pc := 5) dX12_clash_5 0 rfl rfl ?_
    refine s_iload_n (pc := 6) dX12_clash_6 1 rfl rfl ?_
    obtain ⟨q1, h2, hf⟩ := p_bd hf
    refine y_callV1 (pc := 7) dX12_clash_7 (c_X12_seesSender (p_dd hd (by decide)) hW ha0 h2) mk_X12_seesSender mv_X12_seesSender ml_X12_215 rfl rfl (Nat.le_of_ble_eq_true rfl) ha0 rfl (p_d1 hd (by decide)) (Nat.le_of_ble_eq_true rfl) ?_
    refine s_if_eq (pc := 10) (tgt := 34) dX12_clash_10 rfl (fun hc => ?_) (fun hc => ?_)
    · replace hf := p_ps hf hc
      refine s_iconst (pc := 34) dX12_clash_34 (v := 0) rfl ?_
      cases hf
      exact s_ireturn (pc := 35) dX12_clash_35 rfl rfl ⟨rfl, rfl, rfl, rfl, rfl⟩
    · replace hf := p_ng hf hc
      refine s_aload_n (pc := 13) dX12_clash_13 0 rfl rfl ?_
      refine s_iload_n (pc := 14) dX12_clash_14 2 rfl rfl ?_
      obtain ⟨q3, h4, hf⟩ := p_bd hf
      refine y_callV1 (pc := 15) dX12_clash_15 (c_X12_seesSender (p_dd hd (by decide)) hW ha0 h4) mk_X12_seesSender mv_X12_seesSender ml_X12_215 rfl rfl (Nat.le_of_ble_eq_true rfl) ha0 rfl (p_d1 hd (by decide)) (Nat.le_of_ble_eq_true rfl) ?_
      refine s_if_eq (pc := 18) (tgt := 34) dX12_clash_18 rfl (fun hc => ?_) (fun hc => ?_)
      · replace hf := p_ps hf hc
        refine s_iconst (pc := 34) dX12_clash_34 (v := 0) rfl ?_
        cases hf
        exact s_ireturn (pc := 35) dX12_clash_35 rfl rfl ⟨rfl, rfl, rfl, rfl, rfl⟩
      · replace hf := p_ng hf hc
        refine s_aload_n (pc := 21) dX12_clash_21 0 rfl rfl ?_
        refine s_iload_n (pc := 22) dX12_clash_22 1 rfl rfl ?_
        refine s_iload_n (pc := 23) dX12_clash_23 2 rfl rfl ?_
        obtain ⟨q5, h6, hf⟩ := p_bd hf
        refine y_callV1 (pc := 24) dX12_clash_24 (c_X12_clashes (p_dd hd (by decide)) hW ha0 h6) mk_X12_clashes mv_X12_clashes ml_X12_273 rfl rfl (Nat.le_of_ble_eq_true rfl) ha0 rfl (p_d1 hd (by decide)) (Nat.le_of_ble_eq_true rfl) ?_
        refine s_if_eq (pc := 27) (tgt := 34) dX12_clash_27 rfl (fun hc => ?_) (fun hc => ?_)
        · replace hf := p_ps hf hc
          refine s_iconst (pc := 34) dX12_clash_34 (v := 0) rfl ?_
          cases hf
          exact s_ireturn (pc := 35) dX12_clash_35 rfl rfl ⟨rfl, rfl, rfl, rfl, rfl⟩
        · replace hf := p_ng hf hc
          refine s_iconst (pc := 30) dX12_clash_30 (v := 1) rfl ?_
          refine s_goto (pc := 31) (tgt := 35) dX12_clash_31 rfl ?_
          cases hf
          exact s_ireturn (pc := 35) dX12_clash_35 rfl rfl ⟨rfl, rfl, rfl, rfl, rfl⟩
def B_X12_isApart_4 (N : pN) (I : pI) (P : pR) (a0 : Nat) (x1 : Int32) (rec0 : (Int32 × Int32) → Option Int32) (s0 : Int32 × Int32) : Option Int32 :=
  (if x1 ≤ s0.2 then
    some s0.1
  else
    (if s0.1 = 0 then
      some s0.1
    else
      Option.bind (P a0 27) fun q3 =>
      p_ck (p_ib N q3 ((6 * x1) + s0.2)) <|
      Option.bind (α := Int32) ((if (I q3 (Int32.toNatClampNeg ((6 * x1) + s0.2))) = 0 then
        some 1
      else
        Option.bind (P a0 26) fun q9 =>
        p_ck (p_ib N q9 s0.2) <|
        Option.bind (P a0 26) fun q13 =>
        p_ck (p_ib N q13 x1) <|
        (if (I q9 (Int32.toNatClampNeg s0.2)) = (I q13 (Int32.toNatClampNeg x1)) then
          some 0
        else
          some 1))) fun t7 =>
      rec0 (t7, s0.2 + 1)))
def f_X12_isApart (n : Nat) (N : pN) (I : pI) (P : pR) (a0 : Nat) (x1 : Int32) : Option Int32 :=
  Option.bind (p_it (B_X12_isApart_4 N I P a0 x1) n (1, 0)) fun t1 =>
  p_ck (decide (t1 = 0 ∨ t1 = 1)) <|
  some t1
theorem c_X12_isApart {G : pG} {d : Nat} {n : Nat} {N : pN} {I : pI} {L : pL} {P : pR} {a0 : Nat} {x1 : Int32} {qq : Int32} (hd : 0 ≤ d) (hW : WT N P) (ha0 : p_tp N a0 15) (hf : f_X12_isApart n N I P a0 x1 = some qq) : MT G mX12_isApart d 0 0 [.ref a0, .int x1] N I L P (p_R (some (.int qq)) N I L P) := by
  refine MT.of rfl (Nat.le_of_ble_eq_true rfl) ?_
  show SW G mX12_isApart (p_rm d 0 0) 0 0 0 0 (p_R (some (.int qq)) N I L P) 0 [(0, .ref a0), (1, .int x1)] [] N I L P
  unfold f_X12_isApart at hf
  refine s_iconst (pc := 0) dX12_isApart_0 (v := 1) rfl ?_
  refine s_istore_n (pc := 1) dX12_isApart_1 rfl (Nat.le_of_ble_eq_true rfl) rfl ?_
  refine s_iconst (pc := 2) dX12_isApart_2 (v := 0) rfl ?_
  refine s_istore_n (pc := 3) dX12_isApart_3 rfl (Nat.le_of_ble_eq_true rfl) rfl ?_
  obtain ⟨t1, hg, hf⟩ := p_bd hf
  have k2 : SW G mX12_isApart (p_rm d 0 0) 0 0 0 0 (p_R (some (.int qq)) N I L P) 54 [(2, .int t1)] [] N I L P := by
    refine s_iload_n (pc := 54) dX12_isApart_54 0 rfl rfl ?_
    obtain ⟨c32, hf⟩ := p_ckx hf
    cases hf
    exact s_ireturn (pc := 55) dX12_isApart_55 rfl (p_nr (of_decide_eq_true c32)) ⟨rfl, rfl, rfl, rfl, rfl⟩
  replace hf := hg
  have k17 : ∀ (k : Nat) (s0 : Int32 × Int32), p_it (B_X12_isApart_4 N I P a0 x1) k s0 = some t1 → (SW G mX12_isApart (p_rm d 0 0) 0 0 0 0 (p_R (some (.int qq)) N I L P) 4 [(0, .ref a0), (1, .int x1), (2, .int s0.1), (3, .int s0.2)] [] N I L P) := p_it_ind (C := fun (s0 : Int32 × Int32) => SW G mX12_isApart (p_rm d 0 0) 0 0 0 0 (p_R (some (.int qq)) N I L P) 4 [(0, .ref a0), (1, .int x1), (2, .int s0.1), (3, .int s0.2)] [] N I L P) (by
    intro rec0 hrec0 s0 hf
    unfold B_X12_isApart_4 at hf
    refine s_iload_n (pc := 4) dX12_isApart_4 3 rfl rfl ?_
    refine s_iload_n (pc := 5) dX12_isApart_5 1 rfl rfl ?_
    refine s_icmp_ge (pc := 6) (tgt := 54) dX12_isApart_6 rfl (fun hc => ?_) (fun hc => ?_)
    · replace hf := p_ps hf hc
      cases hf
      exact s_lo [2] rfl (k2)
    · replace hf := p_ng hf hc
      refine s_iload_n (pc := 9) dX12_isApart_9 2 rfl rfl ?_
      refine s_if_eq (pc := 10) (tgt := 54) dX12_isApart_10 rfl (fun hc => ?_) (fun hc => ?_)
      · replace hf := p_ps hf hc
        cases hf
        exact s_lo [2] rfl (k2)
      · replace hf := p_ng hf hc
        refine s_aload_n (pc := 13) dX12_isApart_13 0 rfl rfl ?_
        obtain ⟨q18, h19, hf⟩ := p_bd hf
        have t20 : p_tp N q18 1 := WT.get hW ha0 h19
        refine x_getR (pc := 14) dX12_isApart_14 fl_X12_50 rfl ha0 h19 ?_
        refine s_bipush (pc := 17) dX12_isApart_17 (v := 6) rfl ?_
        refine s_iload_n (pc := 19) dX12_isApart_19 1 rfl rfl ?_
        refine s_imul (pc := 20) dX12_isApart_20 ?_
        refine s_iload_n (pc := 21) dX12_isApart_21 3 rfl rfl ?_
        refine s_iadd (pc := 22) dX12_isApart_22 ?_
        obtain ⟨c21, hf⟩ := p_ckx hf
        refine x_zald (pc := 23) dX12_isApart_23 t20 c21 ?_
        obtain ⟨t22, hg, hf⟩ := p_bd hf
        have k23 : SW G mX12_isApart (p_rm d 0 0) 0 0 0 0 (p_R (some (.int qq)) N I L P) 47 [(0, .ref a0), (1, .int x1), (3, .int s0.2)] [.int t22] N I L P := by
          refine s_istore_n (pc := 47) dX12_isApart_47 rfl (Nat.le_of_ble_eq_true rfl) rfl ?_
          refine s_iinc (pc := 48) dX12_isApart_48 3 rfl (v := s0.2 + 1) rfl (Nat.le_of_ble_eq_true rfl) rfl ?_
          refine s_goto (pc := 51) (tgt := 4) dX12_isApart_51 rfl ?_
          exact s_lo [2, 3, 1, 0] rfl (hrec0 _ hf)
        replace hf := hg
        refine s_if_eq (pc := 24) (tgt := 42) dX12_isApart_24 rfl (fun hc => ?_) (fun hc => ?_)
        · replace hf := p_ps hf hc
          refine s_iconst (pc := 42) dX12_isApart_42 (v := 1) rfl ?_
          refine s_goto (pc := 43) (tgt := 47) dX12_isApart_43 rfl ?_
          cases hf
          exact s_lo [0, 1, 3] rfl (k23)
        · replace hf := p_ng hf hc
          refine s_aload_n (pc := 27) dX12_isApart_27 0 rfl rfl ?_
          obtain ⟨q24, h25, hf⟩ := p_bd hf
          have t26 : p_tp N q24 0 := WT.get hW ha0 h25
          refine x_getR (pc := 28) dX12_isApart_28 fl_X12_47 rfl ha0 h25 ?_
          refine s_iload_n (pc := 31) dX12_isApart_31 3 rfl rfl ?_
          obtain ⟨c27, hf⟩ := p_ckx hf
          refine x_iald (pc := 32) dX12_isApart_32 t26 c27 ?_
          refine s_aload_n (pc := 33) dX12_isApart_33 0 rfl rfl ?_
          obtain ⟨q28, h29, hf⟩ := p_bd hf
          have t30 : p_tp N q28 0 := WT.get hW ha0 h29
          refine x_getR (pc := 34) dX12_isApart_34 fl_X12_47 rfl ha0 h29 ?_
          refine s_iload_n (pc := 37) dX12_isApart_37 1 rfl rfl ?_
          obtain ⟨c31, hf⟩ := p_ckx hf
          refine x_iald (pc := 38) dX12_isApart_38 t30 c31 ?_
          refine s_icmp_eq (pc := 39) (tgt := 46) dX12_isApart_39 rfl (fun hc => ?_) (fun hc => ?_)
          · replace hf := p_ps hf hc
            refine s_iconst (pc := 46) dX12_isApart_46 (v := 0) rfl ?_
            cases hf
            exact s_lo [0, 1, 3] rfl (k23)
          · replace hf := p_ng hf hc
            refine s_iconst (pc := 42) dX12_isApart_42 (v := 1) rfl ?_
            refine s_goto (pc := 43) (tgt := 47) dX12_isApart_43 rfl ?_
            cases hf
            exact s_lo [0, 1, 3] rfl (k23))
  exact s_lo [2, 3, 1, 0] rfl (k17 _ _ hf)
def B_X12_colours_12 (N : pN) (P : pR) (x2 : Int32) (a0 : Nat) (rec0 : (Int32 × pI) → Option pI) (s0 : Int32 × pI) : Option pI :=
  (if x2 ≤ s0.1 then
    some s0.2
  else
    Option.bind (P a0 26) fun q9 =>
    p_ck (p_ib N q9 s0.1) <|
    p_let (p_u s0.2 q9 (Int32.toNatClampNeg s0.1) (-1)) fun I13 =>
    rec0 (s0.1 + 1, I13))
def B_X12_colours_32 (n : Nat) (N : pN) (P : pR) (x2 : Int32) (a0 : Nat) (x1 : Int32) (rec0 : (Int32 × pI) → Option (Int32 × pI)) (s0 : Int32 × pI) : Option (Int32 × pI) :=
  (if s0.1 < 0 then
    some (s0.1, s0.2)
  else
    (if x2 ≤ s0.1 then
      some (s0.1, s0.2)
    else
      Option.bind (f_X12_seesSender N s0.2 P a0 s0.1) fun q24 =>
      (if q24 = 0 then
        Option.bind (P a0 26) fun q45 =>
        p_ck (p_ib N q45 s0.1) <|
        p_ck (p_ib N q45 s0.1) <|
        p_let (p_u s0.2 q45 (Int32.toNatClampNeg s0.1) ((s0.2 q45 (Int32.toNatClampNeg s0.1)) + 1)) fun I50 =>
        Option.bind (P a0 26) fun q52 =>
        p_ck (p_ib N q52 s0.1) <|
        (if (I50 q52 (Int32.toNatClampNeg s0.1)) ≤ 0 then
          rec0 (s0.1 + 1, I50)
        else
          Option.bind (P a0 26) fun q56 =>
          p_ck (p_ib N q56 s0.1) <|
          p_let (p_u I50 q56 (Int32.toNatClampNeg s0.1) (-1)) fun I60 =>
          rec0 (s0.1 + (-1), I60))
      else
        Option.bind (P a0 26) fun q26 =>
        p_ck (p_ib N q26 s0.1) <|
        p_ck (p_ib N q26 s0.1) <|
        p_let (p_u s0.2 q26 (Int32.toNatClampNeg s0.1) ((s0.2 q26 (Int32.toNatClampNeg s0.1)) + 1)) fun I31 =>
        Option.bind (P a0 26) fun q33 =>
        p_ck (p_ib N q33 s0.1) <|
        (if (I31 q33 (Int32.toNatClampNeg s0.1)) = x1 then
          Option.bind (P a0 26) fun q39 =>
          p_ck (p_ib N q39 s0.1) <|
          p_let (p_u I31 q39 (Int32.toNatClampNeg s0.1) (-1)) fun I43 =>
          rec0 (s0.1 + (-1), I43)
        else
          Option.bind (f_X12_isApart n N I31 P a0 s0.1) fun q37 =>
          (if q37 = 0 then
            rec0 (s0.1, I31)
          else
            rec0 (s0.1 + 1, I31))))))
def f_X12_colours (n : Nat) (N : pN) (I : pI) (P : pR) (a0 : Nat) (x1 : Int32) : Option (Int32 × pI) :=
  Option.bind (P a0 0) fun q1 =>
  p_ck (p_ib N q1 1) <|
  p_let (I q1 (Int32.toNatClampNeg 1)) fun v5 =>
  Option.bind (p_it (B_X12_colours_12 N P v5 a0) n (0, I)) fun t7 =>
  Option.bind (p_it (B_X12_colours_32 n N P v5 a0 x1) n (0, t7)) fun t22 =>
  (if t22.1 = v5 then
    some (1, t22.2)
  else
    some (0, t22.2))
theorem c_X12_colours {G : pG} {d : Nat} {n : Nat} {N : pN} {I : pI} {L : pL} {P : pR} {a0 : Nat} {x1 : Int32} {qq : Int32 × pI} (hd : 3 ≤ d) (hW : WT N P) (ha0 : p_tp N a0 15) (hf : f_X12_colours n N I P a0 x1 = some qq) : MT G mX12_colours d 0 0 [.ref a0, .int x1] N I L P (p_R (some (.int qq.1)) N qq.2 L P) := by
  refine MT.of rfl (Nat.le_of_ble_eq_true rfl) ?_
  show SW G mX12_colours (p_rm d 0 0) 0 0 0 0 (p_R (some (.int qq.1)) N qq.2 L P) 0 [(0, .ref a0), (1, .int x1)] [] N I L P
  unfold f_X12_colours at hf
  refine s_aload_n (pc := 0) dX12_colours_0 0 rfl rfl ?_
  obtain ⟨q1, h2, hf⟩ := p_bd hf
  have t3 : p_tp N q1 0 := WT.get hW ha0 h2
  refine x_getR (pc := 1) dX12_colours_1 fl_X12_7 rfl ha0 h2 ?_
  refine s_iconst (pc := 4) dX12_colours_4 (v := 1) rfl ?_
  obtain ⟨c4, hf⟩ := p_ckx hf
  refine x_iald (pc := 5) dX12_colours_5 t3 c4 ?_
  refine s_topi (fun v5 e6 => ?_)
  replace hf := p_lx hf e6
  refine s_istore_n (pc := 6) dX12_colours_6 rfl (Nat.le_of_ble_eq_true rfl) rfl ?_
  refine s_iconst (pc := 7) dX12_colours_7 (v := 0) rfl ?_
  refine s_istore_n (pc := 8) dX12_colours_8 rfl (Nat.le_of_ble_eq_true rfl) rfl ?_
  refine s_iconst (pc := 9) dX12_colours_9 (v := 0) rfl ?_
  refine s_istore (pc := 10) dX12_colours_10 (Nat.le_of_ble_eq_true rfl) rfl ?_
  obtain ⟨t7, hg, hf⟩ := p_bd hf
  have k8 : SW G mX12_colours (p_rm d 0 0) 0 0 0 0 (p_R (some (.int qq.1)) N qq.2 L P) 32 [(3, .int 0), (2, .int v5), (0, .ref a0), (1, .int x1)] [] N t7 L P := by
    obtain ⟨t22, hg, hf⟩ := p_bd hf
    have k23 : SW G mX12_colours (p_rm d 0 0) 0 0 0 0 (p_R (some (.int qq.1)) N qq.2 L P) 134 [(2, .int v5), (3, .int t22.1)] [] N t22.2 L P := by
      refine s_iload_n (pc := 134) dX12_colours_134 1 rfl rfl ?_
      refine s_iload_n (pc := 135) dX12_colours_135 0 rfl rfl ?_
      refine s_icmp_ne (pc := 136) (tgt := 143) dX12_colours_136 rfl (fun hc => ?_) (fun hc => ?_)
      · replace hf := p_ng hf hc
        refine s_iconst (pc := 143) dX12_colours_143 (v := 0) rfl ?_
        cases hf
        exact s_ireturn (pc := 144) dX12_colours_144 rfl rfl ⟨rfl, rfl, rfl, rfl, rfl⟩
      · replace hf := p_ps hf hc
        refine s_iconst (pc := 139) dX12_colours_139 (v := 1) rfl ?_
        refine s_goto (pc := 140) (tgt := 144) dX12_colours_140 rfl ?_
        cases hf
        exact s_ireturn (pc := 144) dX12_colours_144 rfl rfl ⟨rfl, rfl, rfl, rfl, rfl⟩
    replace hf := hg
    have k62 : ∀ (k : Nat) (s0 : Int32 × pI), p_it (B_X12_colours_32 n N P v5 a0 x1) k s0 = some t22 → (SW G mX12_colours (p_rm d 0 0) 0 0 0 0 (p_R (some (.int qq.1)) N qq.2 L P) 32 [(2, .int v5), (0, .ref a0), (1, .int x1), (3, .int s0.1)] [] N s0.2 L P) := p_it_ind (C := fun (s0 : Int32 × pI) => SW G mX12_colours (p_rm d 0 0) 0 0 0 0 (p_R (some (.int qq.1)) N qq.2 L P) 32 [(2, .int v5), (0, .ref a0), (1, .int x1), (3, .int s0.1)] [] N s0.2 L P) (by
      intro rec0 hrec0 s0 hf
      unfold B_X12_colours_32 at hf
      refine s_iload_n (pc := 32) dX12_colours_32 3 rfl rfl ?_
      refine s_if_lt (pc := 33) (tgt := 134) dX12_colours_33 rfl (fun hc => ?_) (fun hc => ?_)
      · replace hf := p_ps hf hc
        cases hf
        exact s_lo [0, 3] rfl (k23)
      · replace hf := p_ng hf hc
        refine s_iload_n (pc := 36) dX12_colours_36 3 rfl rfl ?_
        refine s_iload_n (pc := 37) dX12_colours_37 0 rfl rfl ?_
        refine s_icmp_ge (pc := 38) (tgt := 134) dX12_colours_38 rfl (fun hc => ?_) (fun hc => ?_)
        · replace hf := p_ps hf hc
          cases hf
          exact s_lo [0, 3] rfl (k23)
        · replace hf := p_ng hf hc
          refine s_aload_n (pc := 41) dX12_colours_41 1 rfl rfl ?_
          refine s_iload_n (pc := 42) dX12_colours_42 3 rfl rfl ?_
          obtain ⟨q63, h64, hf⟩ := p_bd hf
          refine y_callV1 (pc := 43) dX12_colours_43 (c_X12_seesSender (p_dd hd (by decide)) hW ha0 h64) mk_X12_seesSender mv_X12_seesSender ml_X12_215 rfl rfl (Nat.le_of_ble_eq_true rfl) ha0 rfl (p_d1 hd (by decide)) (Nat.le_of_ble_eq_true rfl) ?_
          refine s_if_ne (pc := 46) (tgt := 87) dX12_colours_46 rfl (fun hc => ?_) (fun hc => ?_)
          · replace hf := p_ng hf hc
            refine s_aload_n (pc := 87) dX12_colours_87 1 rfl rfl ?_
            obtain ⟨q65, h66, hf⟩ := p_bd hf
            have t67 : p_tp N q65 0 := WT.get hW ha0 h66
            refine x_getR (pc := 88) dX12_colours_88 fl_X12_47 rfl ha0 h66 ?_
            refine s_iload_n (pc := 91) dX12_colours_91 3 rfl rfl ?_
            refine s_dup2_11 (pc := 92) dX12_colours_92 rfl rfl ?_
            obtain ⟨c68, hf⟩ := p_ckx hf
            refine x_iald (pc := 93) dX12_colours_93 t67 c68 ?_
            refine s_iconst (pc := 94) dX12_colours_94 (v := 1) rfl ?_
            refine s_iadd (pc := 95) dX12_colours_95 ?_
            obtain ⟨c69, hf⟩ := p_ckx hf
            refine x_iast (pc := 96) dX12_colours_96 t67 c69 ?_
            refine s_nmI (fun I70 e71 => ?_)
            replace hf := p_lx hf e71
            refine s_aload_n (pc := 97) dX12_colours_97 1 rfl rfl ?_
            obtain ⟨q72, h73, hf⟩ := p_bd hf
            have t74 : p_tp N q72 0 := WT.get hW ha0 h73
            refine x_getR (pc := 98) dX12_colours_98 fl_X12_47 rfl ha0 h73 ?_
            refine s_iload_n (pc := 101) dX12_colours_101 3 rfl rfl ?_
            obtain ⟨c75, hf⟩ := p_ckx hf
            refine x_iald (pc := 102) dX12_colours_102 t74 c75 ?_
            refine s_iload_n (pc := 103) dX12_colours_103 2 rfl rfl ?_
            refine s_icmp_ne (pc := 104) (tgt := 120) dX12_colours_104 rfl (fun hc => ?_) (fun hc => ?_)
            · replace hf := p_ng hf hc
              refine s_aload_n (pc := 120) dX12_colours_120 1 rfl rfl ?_
              refine s_iload_n (pc := 121) dX12_colours_121 3 rfl rfl ?_
              obtain ⟨q76, h77, hf⟩ := p_bd hf
              refine y_callV1 (pc := 122) dX12_colours_122 (c_X12_isApart (p_dd hd (by decide)) hW ha0 h77) mk_X12_isApart mv_X12_isApart ml_X12_276 rfl rfl (Nat.le_of_ble_eq_true rfl) ha0 rfl (p_d1 hd (by decide)) (Nat.le_of_ble_eq_true rfl) ?_
              refine s_if_eq (pc := 125) (tgt := 32) dX12_colours_125 rfl (fun hc => ?_) (fun hc => ?_)
              · replace hf := p_ps hf hc
                exact s_lo [0, 1, 2, 3] rfl (hrec0 _ hf)
              · replace hf := p_ng hf hc
                refine s_iinc (pc := 128) dX12_colours_128 3 rfl (v := s0.1 + 1) rfl (Nat.le_of_ble_eq_true rfl) rfl ?_
                refine s_goto (pc := 131) (tgt := 32) dX12_colours_131 rfl ?_
                exact s_lo [1, 2, 3, 0] rfl (hrec0 _ hf)
            · replace hf := p_ps hf hc
              refine s_aload_n (pc := 107) dX12_colours_107 1 rfl rfl ?_
              obtain ⟨q78, h79, hf⟩ := p_bd hf
              have t80 : p_tp N q78 0 := WT.get hW ha0 h79
              refine x_getR (pc := 108) dX12_colours_108 fl_X12_47 rfl ha0 h79 ?_
              refine s_iload_n (pc := 111) dX12_colours_111 3 rfl rfl ?_
              refine s_iconst (pc := 112) dX12_colours_112 (v := -1) rfl ?_
              obtain ⟨c81, hf⟩ := p_ckx hf
              refine x_iast (pc := 113) dX12_colours_113 t80 c81 ?_
              refine s_nmI (fun I82 e83 => ?_)
              replace hf := p_lx hf e83
              refine s_iinc (pc := 114) dX12_colours_114 3 rfl (v := s0.1 + (-1)) rfl (Nat.le_of_ble_eq_true rfl) rfl ?_
              refine s_goto (pc := 117) (tgt := 32) dX12_colours_117 rfl ?_
              exact s_lo [1, 2, 3, 0] rfl (hrec0 _ hf)
          · replace hf := p_ps hf hc
            refine s_aload_n (pc := 49) dX12_colours_49 1 rfl rfl ?_
            obtain ⟨q84, h85, hf⟩ := p_bd hf
            have t86 : p_tp N q84 0 := WT.get hW ha0 h85
            refine x_getR (pc := 50) dX12_colours_50 fl_X12_47 rfl ha0 h85 ?_
            refine s_iload_n (pc := 53) dX12_colours_53 3 rfl rfl ?_
            refine s_dup2_11 (pc := 54) dX12_colours_54 rfl rfl ?_
            obtain ⟨c87, hf⟩ := p_ckx hf
            refine x_iald (pc := 55) dX12_colours_55 t86 c87 ?_
            refine s_iconst (pc := 56) dX12_colours_56 (v := 1) rfl ?_
            refine s_iadd (pc := 57) dX12_colours_57 ?_
            obtain ⟨c88, hf⟩ := p_ckx hf
            refine x_iast (pc := 58) dX12_colours_58 t86 c88 ?_
            refine s_nmI (fun I89 e90 => ?_)
            replace hf := p_lx hf e90
            refine s_aload_n (pc := 59) dX12_colours_59 1 rfl rfl ?_
            obtain ⟨q91, h92, hf⟩ := p_bd hf
            have t93 : p_tp N q91 0 := WT.get hW ha0 h92
            refine x_getR (pc := 60) dX12_colours_60 fl_X12_47 rfl ha0 h92 ?_
            refine s_iload_n (pc := 63) dX12_colours_63 3 rfl rfl ?_
            obtain ⟨c94, hf⟩ := p_ckx hf
            refine x_iald (pc := 64) dX12_colours_64 t93 c94 ?_
            refine s_if_le (pc := 65) (tgt := 81) dX12_colours_65 rfl (fun hc => ?_) (fun hc => ?_)
            · replace hf := p_ps hf hc
              refine s_iinc (pc := 81) dX12_colours_81 3 rfl (v := s0.1 + 1) rfl (Nat.le_of_ble_eq_true rfl) rfl ?_
              refine s_goto (pc := 84) (tgt := 32) dX12_colours_84 rfl ?_
              exact s_lo [1, 2, 3, 0] rfl (hrec0 _ hf)
            · replace hf := p_ng hf hc
              refine s_aload_n (pc := 68) dX12_colours_68 1 rfl rfl ?_
              obtain ⟨q95, h96, hf⟩ := p_bd hf
              have t97 : p_tp N q95 0 := WT.get hW ha0 h96
              refine x_getR (pc := 69) dX12_colours_69 fl_X12_47 rfl ha0 h96 ?_
              refine s_iload_n (pc := 72) dX12_colours_72 3 rfl rfl ?_
              refine s_iconst (pc := 73) dX12_colours_73 (v := -1) rfl ?_
              obtain ⟨c98, hf⟩ := p_ckx hf
              refine x_iast (pc := 74) dX12_colours_74 t97 c98 ?_
              refine s_nmI (fun I99 e100 => ?_)
              replace hf := p_lx hf e100
              refine s_iinc (pc := 75) dX12_colours_75 3 rfl (v := s0.1 + (-1)) rfl (Nat.le_of_ble_eq_true rfl) rfl ?_
              refine s_goto (pc := 78) (tgt := 32) dX12_colours_78 rfl ?_
              exact s_lo [1, 2, 3, 0] rfl (hrec0 _ hf))
    exact s_lo [1, 2, 3, 0] rfl (k62 _ _ hf)
  replace hf := hg
  have k15 : ∀ (k : Nat) (s0 : Int32 × pI), p_it (B_X12_colours_12 N P v5 a0) k s0 = some t7 → (SW G mX12_colours (p_rm d 0 0) 0 0 0 0 (p_R (some (.int qq.1)) N qq.2 L P) 12 [(3, .int 0), (2, .int v5), (0, .ref a0), (1, .int x1), (4, .int s0.1)] [] N s0.2 L P) := p_it_ind (C := fun (s0 : Int32 × pI) => SW G mX12_colours (p_rm d 0 0) 0 0 0 0 (p_R (some (.int qq.1)) N qq.2 L P) 12 [(3, .int 0), (2, .int v5), (0, .ref a0), (1, .int x1), (4, .int s0.1)] [] N s0.2 L P) (by
    intro rec0 hrec0 s0 hf
    unfold B_X12_colours_12 at hf
    refine s_iload (pc := 12) dX12_colours_12 4 rfl ?_
    refine s_iload_n (pc := 14) dX12_colours_14 1 rfl rfl ?_
    refine s_icmp_ge (pc := 15) (tgt := 32) dX12_colours_15 rfl (fun hc => ?_) (fun hc => ?_)
    · replace hf := p_ps hf hc
      cases hf
      exact s_lo [0, 1, 2, 3] rfl (k8)
    · replace hf := p_ng hf hc
      refine s_aload_n (pc := 18) dX12_colours_18 2 rfl rfl ?_
      obtain ⟨q16, h17, hf⟩ := p_bd hf
      have t18 : p_tp N q16 0 := WT.get hW ha0 h17
      refine x_getR (pc := 19) dX12_colours_19 fl_X12_47 rfl ha0 h17 ?_
      refine s_iload (pc := 22) dX12_colours_22 4 rfl ?_
      refine s_iconst (pc := 24) dX12_colours_24 (v := -1) rfl ?_
      obtain ⟨c19, hf⟩ := p_ckx hf
      refine x_iast (pc := 25) dX12_colours_25 t18 c19 ?_
      refine s_nmI (fun I20 e21 => ?_)
      replace hf := p_lx hf e21
      refine s_iinc (pc := 26) dX12_colours_26 4 rfl (v := s0.1 + 1) rfl (Nat.le_of_ble_eq_true rfl) rfl ?_
      refine s_goto (pc := 29) (tgt := 12) dX12_colours_29 rfl ?_
      exact s_lo [1, 2, 3, 4, 0] rfl (hrec0 _ hf))
  exact s_lo [1, 2, 3, 4, 0] rfl (k15 _ _ hf)
def B_X12_colouring_32 (n : Nat) (N : pN) (P : pR) (a0 : Nat) (x2 : Int32) (rec1 : (Int32 × pI × pL) → Option (pI × pL)) (s1 : Int32 × pI × pL) : Option (pI × pL) :=
  (if x2 ≤ s1.1 then
    some (s1.2.1, s1.2.2)
  else
    Option.bind (P a0 27) fun q13 =>
    Option.bind (f_X12_seesSender N s1.2.1 P a0 x2) fun q16 =>
    Option.bind (α := Int32 × pI × pL) ((if q16 = 0 then
      some (0, s1.2.1, s1.2.2)
    else
      Option.bind (f_X12_seesSender N s1.2.1 P a0 s1.1) fun q20 =>
      (if q20 = 0 then
        some (0, s1.2.1, s1.2.2)
      else
        Option.bind (f_X12_clashes n N s1.2.1 s1.2.2 P a0 x2 s1.1) fun q22 =>
        (if q22.1 = 0 then
          some (0, q22.2.1, q22.2.2)
        else
          some (1, q22.2.1, q22.2.2))))) fun t18 =>
    p_ck (p_ib N q13 ((6 * x2) + s1.1)) <|
    p_ck (decide (t18.1 = 0 ∨ t18.1 = 1)) <|
    p_let (p_u t18.2.1 q13 (Int32.toNatClampNeg ((6 * x2) + s1.1)) t18.1) fun I26 =>
    rec1 (s1.1 + 1, I26, t18.2.2))
def B_X12_colouring_4 (n : Nat) (N : pN) (P : pR) (a0 : Nat) (rec0 : (Int32 × Int32 × pI × pL) → Option (Int32 × pI × pL)) (s0 : Int32 × Int32 × pI × pL) : Option (Int32 × pI × pL) :=
  Option.bind (P a0 0) fun q3 =>
  p_ck (p_ib N q3 1) <|
  (if (s0.2.2.1 q3 (Int32.toNatClampNeg 1)) ≤ s0.2.1 then
    some (s0.1, s0.2.2.1, s0.2.2.2)
  else
    Option.bind (f_X12_seesSender N s0.2.2.1 P a0 s0.2.1) fun q7 =>
    p_let (α := Int32) ((if q7 = 0 then
      0
    else
      1)) fun t9 =>
    Option.bind (p_it (B_X12_colouring_32 n N P a0 s0.2.1) n (0, s0.2.2.1, s0.2.2.2)) fun t11 =>
    rec0 (s0.1 + t9, s0.2.1 + 1, t11.1, t11.2))
def B_X12_colouring_98 (n : Nat) (N : pN) (P : pR) (a0 : Nat) (rec0 : (Int32 × pI) → Option (Int32 × pI)) (s0 : Int32 × pI) : Option (Int32 × pI) :=
  Option.bind (f_X12_colours n N s0.2 P a0 s0.1) fun q73 =>
  (if q73.1 = 0 then
    rec0 (s0.1 + 1, q73.2)
  else
    some (s0.1, q73.2))
def f_X12_colouring (n : Nat) (N : pN) (I : pI) (L : pL) (P : pR) (a0 : Nat) : Option (Int32 × pI × pL) :=
  Option.bind (p_it (B_X12_colouring_4 n N P a0) n (0, 0, I, L)) fun t1 =>
  (if t1.1 = 0 then
    some (0, t1.2.1, t1.2.2)
  else
    Option.bind (p_it (B_X12_colouring_98 n N P a0) n (1, t1.2.1)) fun t71 =>
    some (t71.1, t71.2, t1.2.2))
theorem c_X12_colouring {G : pG} {d : Nat} {n : Nat} {N : pN} {I : pI} {L : pL} {P : pR} {a0 : Nat} {qq : Int32 × pI × pL} (hd : 9 ≤ d) (hW : WT N P) (ha0 : p_tp N a0 15) (hf : f_X12_colouring n N I L P a0 = some qq) : MT G mX12_colouring d 0 0 [.ref a0] N I L P (p_R (some (.int qq.1)) N qq.2.1 qq.2.2 P) := by
  refine MT.of rfl (Nat.le_of_ble_eq_true rfl) ?_
  show SW G mX12_colouring (p_rm d 0 0) 0 0 0 0 (p_R (some (.int qq.1)) N qq.2.1 qq.2.2 P) 0 [(0, .ref a0)] [] N I L P
  unfold f_X12_colouring at hf
  refine s_iconst (pc := 0) dX12_colouring_0 (v := 0) rfl ?_
  refine s_istore_n (pc := 1) dX12_colouring_1 rfl (Nat.le_of_ble_eq_true rfl) rfl ?_
  refine s_iconst (pc := 2) dX12_colouring_2 (v := 0) rfl ?_
  refine s_istore_n (pc := 3) dX12_colouring_3 rfl (Nat.le_of_ble_eq_true rfl) rfl ?_
  obtain ⟨t1, hg, hf⟩ := p_bd hf
  have k2 : SW G mX12_colouring (p_rm d 0 0) 0 0 0 0 (p_R (some (.int qq.1)) N qq.2.1 qq.2.2 P) 90 [(0, .ref a0), (1, .int t1.1)] [] N t1.2.1 t1.2.2 P := by
    refine s_iload_n (pc := 90) dX12_colouring_90 1 rfl rfl ?_
    refine s_if_ne (pc := 91) (tgt := 96) dX12_colouring_91 rfl (fun hc => ?_) (fun hc => ?_)
    · replace hf := p_ng hf hc
      refine s_iconst (pc := 96) dX12_colouring_96 (v := 1) rfl ?_
      refine s_istore_n (pc := 97) dX12_colouring_97 rfl (Nat.le_of_ble_eq_true rfl) rfl ?_
      obtain ⟨t71, hg, hf⟩ := p_bd hf
      have k72 : SW G mX12_colouring (p_rm d 0 0) 0 0 0 0 (p_R (some (.int qq.1)) N qq.2.1 qq.2.2 P) 112 [(2, .int t71.1)] [] N t71.2 t1.2.2 P := by
        refine s_iload_n (pc := 112) dX12_colouring_112 0 rfl rfl ?_
        cases hf
        exact s_ireturn (pc := 113) dX12_colouring_113 rfl rfl ⟨rfl, rfl, rfl, rfl, rfl⟩
      replace hf := hg
      have k75 : ∀ (k : Nat) (s0 : Int32 × pI), p_it (B_X12_colouring_98 n N P a0) k s0 = some t71 → (SW G mX12_colouring (p_rm d 0 0) 0 0 0 0 (p_R (some (.int qq.1)) N qq.2.1 qq.2.2 P) 98 [(0, .ref a0), (2, .int s0.1)] [] N s0.2 t1.2.2 P) := p_it_ind (C := fun (s0 : Int32 × pI) => SW G mX12_colouring (p_rm d 0 0) 0 0 0 0 (p_R (some (.int qq.1)) N qq.2.1 qq.2.2 P) 98 [(0, .ref a0), (2, .int s0.1)] [] N s0.2 t1.2.2 P) (by
        intro rec0 hrec0 s0 hf
        unfold B_X12_colouring_98 at hf
        refine s_aload_n (pc := 98) dX12_colouring_98 0 rfl rfl ?_
        refine s_iload_n (pc := 99) dX12_colouring_99 1 rfl rfl ?_
        obtain ⟨q76, h77, hf⟩ := p_bd hf
        refine y_callV1 (pc := 100) dX12_colouring_100 (c_X12_colours (p_dd hd (by decide)) hW ha0 h77) mk_X12_colours mv_X12_colours ml_X12_279 rfl rfl (Nat.le_of_ble_eq_true rfl) ha0 rfl (p_d1 hd (by decide)) (Nat.le_of_ble_eq_true rfl) ?_
        refine s_if_ne (pc := 103) (tgt := 112) dX12_colouring_103 rfl (fun hc => ?_) (fun hc => ?_)
        · replace hf := p_ng hf hc
          cases hf
          exact s_lo [1] rfl (k72)
        · replace hf := p_ps hf hc
          refine s_iinc (pc := 106) dX12_colouring_106 1 rfl (v := s0.1 + 1) rfl (Nat.le_of_ble_eq_true rfl) rfl ?_
          refine s_goto (pc := 109) (tgt := 98) dX12_colouring_109 rfl ?_
          exact s_lo [1, 0] rfl (hrec0 _ hf))
      exact s_lo [1, 0] rfl (k75 _ _ hf)
    · replace hf := p_ps hf hc
      refine s_iconst (pc := 94) dX12_colouring_94 (v := 0) rfl ?_
      cases hf
      exact s_ireturn (pc := 95) dX12_colouring_95 rfl rfl ⟨rfl, rfl, rfl, rfl, rfl⟩
  replace hf := hg
  have k44 : ∀ (k : Nat) (s0 : Int32 × Int32 × pI × pL), p_it (B_X12_colouring_4 n N P a0) k s0 = some t1 → (SW G mX12_colouring (p_rm d 0 0) 0 0 0 0 (p_R (some (.int qq.1)) N qq.2.1 qq.2.2 P) 4 [(0, .ref a0), (1, .int s0.1), (2, .int s0.2.1)] [] N s0.2.2.1 s0.2.2.2 P) := p_it_ind (C := fun (s0 : Int32 × Int32 × pI × pL) => SW G mX12_colouring (p_rm d 0 0) 0 0 0 0 (p_R (some (.int qq.1)) N qq.2.1 qq.2.2 P) 4 [(0, .ref a0), (1, .int s0.1), (2, .int s0.2.1)] [] N s0.2.2.1 s0.2.2.2 P) (by
    intro rec0 hrec0 s0 hf
    unfold B_X12_colouring_4 at hf
    refine s_iload_n (pc := 4) dX12_colouring_4 2 rfl rfl ?_
    refine s_aload_n (pc := 5) dX12_colouring_5 0 rfl rfl ?_
    obtain ⟨q45, h46, hf⟩ := p_bd hf
    have t47 : p_tp N q45 0 := WT.get hW ha0 h46
    refine x_getR (pc := 6) dX12_colouring_6 fl_X12_7 rfl ha0 h46 ?_
    refine s_iconst (pc := 9) dX12_colouring_9 (v := 1) rfl ?_
    obtain ⟨c48, hf⟩ := p_ckx hf
    refine x_iald (pc := 10) dX12_colouring_10 t47 c48 ?_
    refine s_icmp_ge (pc := 11) (tgt := 90) dX12_colouring_11 rfl (fun hc => ?_) (fun hc => ?_)
    · replace hf := p_ps hf hc
      cases hf
      exact s_lo [0, 1] rfl (k2)
    · replace hf := p_ng hf hc
      refine s_iload_n (pc := 14) dX12_colouring_14 1 rfl rfl ?_
      refine s_aload_n (pc := 15) dX12_colouring_15 0 rfl rfl ?_
      refine s_iload_n (pc := 16) dX12_colouring_16 2 rfl rfl ?_
      obtain ⟨q49, h50, hf⟩ := p_bd hf
      refine y_callV1 (pc := 17) dX12_colouring_17 (c_X12_seesSender (p_dd hd (by decide)) hW ha0 h50) mk_X12_seesSender mv_X12_seesSender ml_X12_215 rfl rfl (Nat.le_of_ble_eq_true rfl) ha0 rfl (p_d1 hd (by decide)) (Nat.le_of_ble_eq_true rfl) ?_
      obtain ⟨t51, hg, hf⟩ := p_lx2 hf
      have k52 : SW G mX12_colouring (p_rm d 0 0) 0 0 0 0 (p_R (some (.int qq.1)) N qq.2.1 qq.2.2 P) 28 [(0, .ref a0), (2, .int s0.2.1)] [.int t51, .int s0.1] N s0.2.2.1 s0.2.2.2 P := by
        refine s_iadd (pc := 28) dX12_colouring_28 ?_
        refine s_istore_n (pc := 29) dX12_colouring_29 rfl (Nat.le_of_ble_eq_true rfl) rfl ?_
        refine s_iconst (pc := 30) dX12_colouring_30 (v := 0) rfl ?_
        refine s_istore_n (pc := 31) dX12_colouring_31 rfl (Nat.le_of_ble_eq_true rfl) rfl ?_
        obtain ⟨t53, hg, hf⟩ := p_bd hf
        have k54 : SW G mX12_colouring (p_rm d 0 0) 0 0 0 0 (p_R (some (.int qq.1)) N qq.2.1 qq.2.2 P) 84 [(1, .int (s0.1 + t51)), (0, .ref a0), (2, .int s0.2.1)] [] N t53.1 t53.2 P := by
          refine s_iinc (pc := 84) dX12_colouring_84 2 rfl (v := s0.2.1 + 1) rfl (Nat.le_of_ble_eq_true rfl) rfl ?_
          refine s_goto (pc := 87) (tgt := 4) dX12_colouring_87 rfl ?_
          exact s_lo [2, 1, 0] rfl (hrec0 _ hf)
        replace hf := hg
        have k55 : ∀ (k : Nat) (s1 : Int32 × pI × pL), p_it (B_X12_colouring_32 n N P a0 s0.2.1) k s1 = some t53 → (SW G mX12_colouring (p_rm d 0 0) 0 0 0 0 (p_R (some (.int qq.1)) N qq.2.1 qq.2.2 P) 32 [(1, .int (s0.1 + t51)), (0, .ref a0), (2, .int s0.2.1), (3, .int s1.1)] [] N s1.2.1 s1.2.2 P) := p_it_ind (C := fun (s1 : Int32 × pI × pL) => SW G mX12_colouring (p_rm d 0 0) 0 0 0 0 (p_R (some (.int qq.1)) N qq.2.1 qq.2.2 P) 32 [(1, .int (s0.1 + t51)), (0, .ref a0), (2, .int s0.2.1), (3, .int s1.1)] [] N s1.2.1 s1.2.2 P) (by
          intro rec1 hrec1 s1 hf
          unfold B_X12_colouring_32 at hf
          refine s_iload_n (pc := 32) dX12_colouring_32 3 rfl rfl ?_
          refine s_iload_n (pc := 33) dX12_colouring_33 2 rfl rfl ?_
          refine s_icmp_ge (pc := 34) (tgt := 84) dX12_colouring_34 rfl (fun hc => ?_) (fun hc => ?_)
          · replace hf := p_ps hf hc
            cases hf
            exact s_lo [0, 1, 2] rfl (k54)
          · replace hf := p_ng hf hc
            refine s_aload_n (pc := 37) dX12_colouring_37 1 rfl rfl ?_
            obtain ⟨q56, h57, hf⟩ := p_bd hf
            have t58 : p_tp N q56 1 := WT.get hW ha0 h57
            refine x_getR (pc := 38) dX12_colouring_38 fl_X12_50 rfl ha0 h57 ?_
            refine s_bipush (pc := 41) dX12_colouring_41 (v := 6) rfl ?_
            refine s_iload_n (pc := 43) dX12_colouring_43 2 rfl rfl ?_
            refine s_imul (pc := 44) dX12_colouring_44 ?_
            refine s_iload_n (pc := 45) dX12_colouring_45 3 rfl rfl ?_
            refine s_iadd (pc := 46) dX12_colouring_46 ?_
            refine s_aload_n (pc := 47) dX12_colouring_47 1 rfl rfl ?_
            refine s_iload_n (pc := 48) dX12_colouring_48 2 rfl rfl ?_
            obtain ⟨q59, h60, hf⟩ := p_bd hf
            refine y_callV1 (pc := 49) dX12_colouring_49 (c_X12_seesSender (p_dd hd (by decide)) hW ha0 h60) mk_X12_seesSender mv_X12_seesSender ml_X12_215 rfl rfl (Nat.le_of_ble_eq_true rfl) ha0 rfl (p_d1 hd (by decide)) (Nat.le_of_ble_eq_true rfl) ?_
            obtain ⟨t61, hg, hf⟩ := p_bd hf
            have k62 : SW G mX12_colouring (p_rm d 0 0) 0 0 0 0 (p_R (some (.int qq.1)) N qq.2.1 qq.2.2 P) 77 [(1, .int (s0.1 + t51)), (0, .ref a0), (2, .int s0.2.1), (3, .int s1.1)] [.int t61.1, .int ((6 * s0.2.1) + s1.1), .ref q56] N t61.2.1 t61.2.2 P := by
              obtain ⟨c67, hf⟩ := p_ckx hf
              obtain ⟨c68, hf⟩ := p_ckx hf
              refine x_zast (pc := 77) dX12_colouring_77 t58 c67 (of_decide_eq_true c68) ?_
              refine s_nmI (fun I69 e70 => ?_)
              replace hf := p_lx hf e70
              refine s_iinc (pc := 78) dX12_colouring_78 3 rfl (v := s1.1 + 1) rfl (Nat.le_of_ble_eq_true rfl) rfl ?_
              refine s_goto (pc := 81) (tgt := 32) dX12_colouring_81 rfl ?_
              exact s_lo [1, 2, 3, 0] rfl (hrec1 _ hf)
            replace hf := hg
            refine s_if_eq (pc := 52) (tgt := 76) dX12_colouring_52 rfl (fun hc => ?_) (fun hc => ?_)
            · replace hf := p_ps hf hc
              refine s_iconst (pc := 76) dX12_colouring_76 (v := 0) rfl ?_
              cases hf
              exact s_lo [0, 1, 2, 3] rfl (k62)
            · replace hf := p_ng hf hc
              refine s_aload_n (pc := 55) dX12_colouring_55 1 rfl rfl ?_
              refine s_iload_n (pc := 56) dX12_colouring_56 3 rfl rfl ?_
              obtain ⟨q63, h64, hf⟩ := p_bd hf
              refine y_callV1 (pc := 57) dX12_colouring_57 (c_X12_seesSender (p_dd hd (by decide)) hW ha0 h64) mk_X12_seesSender mv_X12_seesSender ml_X12_215 rfl rfl (Nat.le_of_ble_eq_true rfl) ha0 rfl (p_d1 hd (by decide)) (Nat.le_of_ble_eq_true rfl) ?_
              refine s_if_eq (pc := 60) (tgt := 76) dX12_colouring_60 rfl (fun hc => ?_) (fun hc => ?_)
              · replace hf := p_ps hf hc
                refine s_iconst (pc := 76) dX12_colouring_76 (v := 0) rfl ?_
                cases hf
                exact s_lo [0, 1, 2, 3] rfl (k62)
              · replace hf := p_ng hf hc
                refine s_aload_n (pc := 63) dX12_colouring_63 1 rfl rfl ?_
                refine s_iload_n (pc := 64) dX12_colouring_64 2 rfl rfl ?_
                refine s_iload_n (pc := 65) dX12_colouring_65 3 rfl rfl ?_
                obtain ⟨q65, h66, hf⟩ := p_bd hf
                refine y_callV1 (pc := 66) dX12_colouring_66 (c_X12_clashes (p_dd hd (by decide)) hW ha0 h66) mk_X12_clashes mv_X12_clashes ml_X12_273 rfl rfl (Nat.le_of_ble_eq_true rfl) ha0 rfl (p_d1 hd (by decide)) (Nat.le_of_ble_eq_true rfl) ?_
                refine s_if_eq (pc := 69) (tgt := 76) dX12_colouring_69 rfl (fun hc => ?_) (fun hc => ?_)
                · replace hf := p_ps hf hc
                  refine s_iconst (pc := 76) dX12_colouring_76 (v := 0) rfl ?_
                  cases hf
                  exact s_lo [0, 1, 2, 3] rfl (k62)
                · replace hf := p_ng hf hc
                  refine s_iconst (pc := 72) dX12_colouring_72 (v := 1) rfl ?_
                  refine s_goto (pc := 73) (tgt := 77) dX12_colouring_73 rfl ?_
                  cases hf
                  exact s_lo [0, 1, 2, 3] rfl (k62))
        exact s_lo [1, 2, 3, 0] rfl (k55 _ _ hf)
      replace hf := hg.symm
      refine s_if_eq (pc := 20) (tgt := 27) dX12_colouring_20 rfl (fun hc => ?_) (fun hc => ?_)
      · replace hf := p_ps hf hc
        refine s_iconst (pc := 27) dX12_colouring_27 (v := 0) rfl ?_
        cases hf
        exact s_lo [0, 2] rfl (k52)
      · replace hf := p_ng hf hc
        refine s_iconst (pc := 23) dX12_colouring_23 (v := 1) rfl ?_
        refine s_goto (pc := 24) (tgt := 28) dX12_colouring_24 rfl ?_
        cases hf
        exact s_lo [0, 2] rfl (k52))
  exact s_lo [2, 1, 0] rfl (k44 _ _ hf)
def f_X12_colour (n : Nat) (N : pN) (I : pI) (L : pL) (P : pR) (a0 : Nat) (x1 : Int32) : Option (Int32 × pI × pL) :=
  Option.bind (f_X12_seesSender N I P a0 x1) fun q1 =>
  (if q1 = 0 then
    some ((-1), I, L)
  else
    Option.bind (f_X12_colouring n N I L P a0) fun q3 =>
    (if q3.1 = 0 then
      some ((-1), q3.2.1, q3.2.2)
    else
      Option.bind (P a0 26) fun q5 =>
      p_ck (p_ib N q5 x1) <|
      some (q3.2.1 q5 (Int32.toNatClampNeg x1), q3.2.1, q3.2.2)))
theorem c_X12_colour {G : pG} {d : Nat} {n : Nat} {N : pN} {I : pI} {L : pL} {P : pR} {a0 : Nat} {x1 : Int32} {qq : Int32 × pI × pL} (hd : 10 ≤ d) (hW : WT N P) (ha0 : p_tp N a0 15) (hf : f_X12_colour n N I L P a0 x1 = some qq) : MT G mX12_colour d 0 0 [.ref a0, .int x1] N I L P (p_R (some (.int qq.1)) N qq.2.1 qq.2.2 P) := by
  refine MT.of rfl (Nat.le_of_ble_eq_true rfl) ?_
  show SW G mX12_colour (p_rm d 0 0) 0 0 0 0 (p_R (some (.int qq.1)) N qq.2.1 qq.2.2 P) 0 [(0, .ref a0), (1, .int x1)] [] N I L P
  unfold f_X12_colour at hf
  refine s_aload_n (pc := 0) dX12_colour_0 0 rfl rfl ?_
  refine s_iload_n (pc := 1) dX12_colour_1 1 rfl rfl ?_
  obtain ⟨q1, h2, hf⟩ := p_bd hf
  refine y_callV1 (pc := 2) dX12_colour_2 (c_X12_seesSender (p_dd hd (by decide)) hW ha0 h2) mk_X12_seesSender mv_X12_seesSender ml_X12_215 rfl rfl (Nat.le_of_ble_eq_true rfl) ha0 rfl (p_d1 hd (by decide)) (Nat.le_of_ble_eq_true rfl) ?_
  refine s_if_eq (pc := 5) (tgt := 15) dX12_colour_5 rfl (fun hc => ?_) (fun hc => ?_)
  · replace hf := p_ps hf hc
    refine s_iconst (pc := 15) dX12_colour_15 (v := -1) rfl ?_
    cases hf
    exact s_ireturn (pc := 16) dX12_colour_16 rfl rfl ⟨rfl, rfl, rfl, rfl, rfl⟩
  · replace hf := p_ng hf hc
    refine s_aload_n (pc := 8) dX12_colour_8 0 rfl rfl ?_
    obtain ⟨q3, h4, hf⟩ := p_bd hf
    refine y_callV1 (pc := 9) dX12_colour_9 (c_X12_colouring (p_dd hd (by decide)) hW ha0 h4) mk_X12_colouring mv_X12_colouring ml_X12_282 rfl rfl (Nat.le_of_ble_eq_true rfl) ha0 rfl (p_d1 hd (by decide)) (Nat.le_of_ble_eq_true rfl) ?_
    refine s_if_ne (pc := 12) (tgt := 17) dX12_colour_12 rfl (fun hc => ?_) (fun hc => ?_)
    · replace hf := p_ng hf hc
      refine s_aload_n (pc := 17) dX12_colour_17 0 rfl rfl ?_
      obtain ⟨q5, h6, hf⟩ := p_bd hf
      have t7 : p_tp N q5 0 := WT.get hW ha0 h6
      refine x_getR (pc := 18) dX12_colour_18 fl_X12_47 rfl ha0 h6 ?_
      refine s_iload_n (pc := 21) dX12_colour_21 1 rfl rfl ?_
      obtain ⟨c8, hf⟩ := p_ckx hf
      refine x_iald (pc := 22) dX12_colour_22 t7 c8 ?_
      cases hf
      exact s_ireturn (pc := 23) dX12_colour_23 rfl rfl ⟨rfl, rfl, rfl, rfl, rfl⟩
    · replace hf := p_ps hf hc
      refine s_iconst (pc := 15) dX12_colour_15 (v := -1) rfl ?_
      cases hf
      exact s_ireturn (pc := 16) dX12_colour_16 rfl rfl ⟨rfl, rfl, rfl, rfl, rfl⟩
def J_X12_span_40 (N : pN) (I : pI) (P : pR) (a0 : Nat) (x1 : Int32) (x2 : Int32) (x3 : Int32) : Option (Int32 × pI) :=
  Option.bind (P a0 0) fun q3 =>
  p_ck (p_ib N q3 ((120 + (8 * x1)) + 6)) <|
  p_let (p_u I q3 (Int32.toNatClampNeg ((120 + (8 * x1)) + 6)) x2) fun I7 =>
  Option.bind (P a0 0) fun q9 =>
  p_let (α := Int32) ((if x2 = (-1) then
    (-1)
  else
    x3)) fun t12 =>
  p_ck (p_ib N q9 ((120 + (8 * x1)) + 7)) <|
  p_let (p_u I7 q9 (Int32.toNatClampNeg ((120 + (8 * x1)) + 7)) t12) fun I15 =>
  some (1, I15)
def f_X12_span (N : pN) (I : pI) (P : pR) (a0 : Nat) (x1 : Int32) (x2 : Int32) (x3 : Int32) : Option (Int32 × pI) :=
  Option.bind (f_X12_isOf N I P a0 x1 1) fun q1 =>
  (if q1 = 0 then
    some (0, I)
  else
    (if x2 = (-1) then
      J_X12_span_40 N I P a0 x1 x2 x3
    else
      Option.bind (f_X12_isIn x2 0 1000000000) fun q32 =>
      (if q32 = 0 then
        some (0, I)
      else
        Option.bind (f_X12_isIn x3 x2 1000000000) fun q34 =>
        (if q34 = 0 then
          some (0, I)
        else
          J_X12_span_40 N I P a0 x1 x2 x3))))
theorem c_X12_span {G : pG} {d : Nat} {N : pN} {I : pI} {L : pL} {P : pR} {a0 : Nat} {x1 : Int32} {x2 : Int32} {x3 : Int32} {qq : Int32 × pI} (hd : 2 ≤ d) (hW : WT N P) (ha0 : p_tp N a0 15) (hf : f_X12_span N I P a0 x1 x2 x3 = some qq) : MT G mX12_span d 0 0 [.ref a0, .int x1, .int x2, .int x3] N I L P (p_R (some (.int qq.1)) N qq.2 L P) := by
  refine MT.of rfl (Nat.le_of_ble_eq_true rfl) ?_
  show SW G mX12_span (p_rm d 0 0) 0 0 0 0 (p_R (some (.int qq.1)) N qq.2 L P) 0 [(0, .ref a0), (1, .int x1), (2, .int x2), (3, .int x3)] [] N I L P
  unfold f_X12_span at hf
  refine s_aload_n (pc := 0) dX12_span_0 0 rfl rfl ?_
  refine s_iload_n (pc := 1) dX12_span_1 1 rfl rfl ?_
  refine s_iconst (pc := 2) dX12_span_2 (v := 1) rfl ?_
  obtain ⟨q1, h2, hf⟩ := p_bd hf
  refine y_callV1 (pc := 3) dX12_span_3 (c_X12_isOf (p_dd hd (by decide)) hW ha0 h2) mk_X12_isOf mv_X12_isOf ml_X12_80 rfl rfl (Nat.le_of_ble_eq_true rfl) ha0 rfl (p_d1 hd (by decide)) (Nat.le_of_ble_eq_true rfl) ?_
  refine s_if_ne (pc := 6) (tgt := 11) dX12_span_6 rfl (fun hc => ?_) (fun hc => ?_)
  · replace hf := p_ng hf hc
    refine s_iload_n (pc := 11) dX12_span_11 2 rfl rfl ?_
    refine s_iconst (pc := 12) dX12_span_12 (v := -1) rfl ?_
    have k17 : J_X12_span_40 N I P a0 x1 x2 x3 = some qq → SW G mX12_span (p_rm d 0 0) 0 0 0 0 (p_R (some (.int qq.1)) N qq.2 L P) 40 [(0, .ref a0), (1, .int x1), (2, .int x2), (3, .int x3)] [] N I L P := by
      intro hf
      unfold J_X12_span_40 at hf
      refine s_aload_n (pc := 40) dX12_span_40 0 rfl rfl ?_
      obtain ⟨q18, h19, hf⟩ := p_bd hf
      have t20 : p_tp N q18 0 := WT.get hW ha0 h19
      refine x_getR (pc := 41) dX12_span_41 fl_X12_7 rfl ha0 h19 ?_
      refine s_bipush (pc := 44) dX12_span_44 (v := 120) rfl ?_
      refine s_bipush (pc := 46) dX12_span_46 (v := 8) rfl ?_
      refine s_iload_n (pc := 48) dX12_span_48 1 rfl rfl ?_
      refine s_imul (pc := 49) dX12_span_49 ?_
      refine s_iadd (pc := 50) dX12_span_50 ?_
      refine s_bipush (pc := 51) dX12_span_51 (v := 6) rfl ?_
      refine s_iadd (pc := 53) dX12_span_53 ?_
      refine s_iload_n (pc := 54) dX12_span_54 2 rfl rfl ?_
      obtain ⟨c21, hf⟩ := p_ckx hf
      refine x_iast (pc := 55) dX12_span_55 t20 c21 ?_
      refine s_nmI (fun I22 e23 => ?_)
      replace hf := p_lx hf e23
      refine s_aload_n (pc := 56) dX12_span_56 0 rfl rfl ?_
      obtain ⟨q24, h25, hf⟩ := p_bd hf
      have t26 : p_tp N q24 0 := WT.get hW ha0 h25
      refine x_getR (pc := 57) dX12_span_57 fl_X12_7 rfl ha0 h25 ?_
      refine s_bipush (pc := 60) dX12_span_60 (v := 120) rfl ?_
      refine s_bipush (pc := 62) dX12_span_62 (v := 8) rfl ?_
      refine s_iload_n (pc := 64) dX12_span_64 1 rfl rfl ?_
      refine s_imul (pc := 65) dX12_span_65 ?_
      refine s_iadd (pc := 66) dX12_span_66 ?_
      refine s_bipush (pc := 67) dX12_span_67 (v := 7) rfl ?_
      refine s_iadd (pc := 69) dX12_span_69 ?_
      refine s_iload_n (pc := 70) dX12_span_70 2 rfl rfl ?_
      refine s_iconst (pc := 71) dX12_span_71 (v := -1) rfl ?_
      obtain ⟨t27, hg, hf⟩ := p_lx2 hf
      have k28 : SW G mX12_span (p_rm d 0 0) 0 0 0 0 (p_R (some (.int qq.1)) N qq.2 L P) 80 [] [.int t27, .int ((120 + (8 * x1)) + 7), .ref q24] N I22 L P := by
        obtain ⟨c29, hf⟩ := p_ckx hf
        refine x_iast (pc := 80) dX12_span_80 t26 c29 ?_
        refine s_nmI (fun I30 e31 => ?_)
        replace hf := p_lx hf e31
        refine s_iconst (pc := 81) dX12_span_81 (v := 1) rfl ?_
        cases hf
        exact s_ireturn (pc := 82) dX12_span_82 rfl rfl ⟨rfl, rfl, rfl, rfl, rfl⟩
      replace hf := hg.symm
      refine s_icmp_ne (pc := 72) (tgt := 79) dX12_span_72 rfl (fun hc => ?_) (fun hc => ?_)
      · replace hf := p_ng hf hc
        refine s_iload_n (pc := 79) dX12_span_79 3 rfl rfl ?_
        cases hf
        exact s_lo [] rfl (k28)
      · replace hf := p_ps hf hc
        refine s_iconst (pc := 75) dX12_span_75 (v := -1) rfl ?_
        refine s_goto (pc := 76) (tgt := 80) dX12_span_76 rfl ?_
        cases hf
        exact s_lo [] rfl (k28)
    refine s_icmp_eq (pc := 13) (tgt := 40) dX12_span_13 rfl (fun hc => ?_) (fun hc => ?_)
    · replace hf := p_ps hf hc
      exact s_lo [0, 1, 2, 3] rfl (k17 hf)
    · replace hf := p_ng hf hc
      refine s_iload_n (pc := 16) dX12_span_16 2 rfl rfl ?_
      refine s_iconst (pc := 17) dX12_span_17 (v := 0) rfl ?_
      refine s_ldcw (pc := 18) kc_X12_285 dX12_span_18 ?_
      obtain ⟨q32, h33, hf⟩ := p_bd hf
      refine y_callS1 (pc := 21) dX12_span_21 (c_X12_isIn (p_dd hd (by decide)) hW  h33) mk_X12_isIn mz_X12_isIn ml_X12_68 rfl rfl (Nat.le_of_ble_eq_true rfl) (p_d1 hd (by decide)) (Nat.le_of_ble_eq_true rfl) ?_
      refine s_if_eq (pc := 24) (tgt := 38) dX12_span_24 rfl (fun hc => ?_) (fun hc => ?_)
      · replace hf := p_ps hf hc
        refine s_iconst (pc := 38) dX12_span_38 (v := 0) rfl ?_
        cases hf
        exact s_ireturn (pc := 39) dX12_span_39 rfl rfl ⟨rfl, rfl, rfl, rfl, rfl⟩
      · replace hf := p_ng hf hc
        refine s_iload_n (pc := 27) dX12_span_27 3 rfl rfl ?_
        refine s_iload_n (pc := 28) dX12_span_28 2 rfl rfl ?_
        refine s_ldcw (pc := 29) kc_X12_285 dX12_span_29 ?_
        obtain ⟨q34, h35, hf⟩ := p_bd hf
        refine y_callS1 (pc := 32) dX12_span_32 (c_X12_isIn (p_dd hd (by decide)) hW  h35) mk_X12_isIn mz_X12_isIn ml_X12_68 rfl rfl (Nat.le_of_ble_eq_true rfl) (p_d1 hd (by decide)) (Nat.le_of_ble_eq_true rfl) ?_
        refine s_if_ne (pc := 35) (tgt := 40) dX12_span_35 rfl (fun hc => ?_) (fun hc => ?_)
        · replace hf := p_ng hf hc
          exact s_lo [0, 1, 2, 3] rfl (k17 hf)
        · replace hf := p_ps hf hc
          refine s_iconst (pc := 38) dX12_span_38 (v := 0) rfl ?_
          cases hf
          exact s_ireturn (pc := 39) dX12_span_39 rfl rfl ⟨rfl, rfl, rfl, rfl, rfl⟩
  · replace hf := p_ps hf hc
    refine s_iconst (pc := 9) dX12_span_9 (v := 0) rfl ?_
    cases hf
    exact s_ireturn (pc := 10) dX12_span_10 rfl rfl ⟨rfl, rfl, rfl, rfl, rfl⟩
def B_X12_fits_5 (n : Nat) (N : pN) (P : pR) (a0 : Nat) (x1 : Int32) (x2 : Int32) (rec0 : (Int32 × Int32 × pI × pL) → Option (Int32 × pI × pL)) (s0 : Int32 × Int32 × pI × pL) : Option (Int32 × pI × pL) :=
  Option.bind (P a0 0) fun q3 =>
  p_ck (p_ib N q3 1) <|
  (if (s0.2.2.1 q3 (Int32.toNatClampNeg 1)) ≤ s0.2.1 then
    some (s0.1, s0.2.2.1, s0.2.2.2)
  else
    (if s0.1 = 0 then
      some (s0.1, s0.2.2.1, s0.2.2.2)
    else
      Option.bind (f_X12_seesSender N s0.2.2.1 P a0 s0.2.1) fun q7 =>
      Option.bind (α := Int32 × pI × pL) ((if q7 = 0 then
        some (1, s0.2.2.1, s0.2.2.2)
      else
        Option.bind (f_X12_senderOf N s0.2.2.1 P a0 s0.2.1 6) fun q11 =>
        (if q11 < 0 then
          some (1, s0.2.2.1, s0.2.2.2)
        else
          Option.bind (f_X12_signalOf n N s0.2.2.1 s0.2.2.2 P a0 s0.2.1 x1 x2) fun q13 =>
          Option.bind (f_X12_senderOf N q13.2.1 P a0 s0.2.1 6) fun q15 =>
          Option.bind (f_X12_senderOf N q13.2.1 P a0 s0.2.1 7) fun q17 =>
          Option.bind (f_X12_isIn q13.1 q15 q17) fun q19 =>
          (if q19 = 0 then
            some (0, q13.2.1, q13.2.2)
          else
            some (1, q13.2.1, q13.2.2))))) fun t9 =>
      rec0 (t9.1, s0.2.1 + 1, t9.2.1, t9.2.2)))
def f_X12_fits (n : Nat) (N : pN) (I : pI) (L : pL) (P : pR) (a0 : Nat) (x1 : Int32) (x2 : Int32) : Option (Int32 × pI × pL) :=
  Option.bind (p_it (B_X12_fits_5 n N P a0 x1 x2) n (1, 0, I, L)) fun t1 =>
  p_ck (decide (t1.1 = 0 ∨ t1.1 = 1)) <|
  some (t1.1, t1.2.1, t1.2.2)
theorem c_X12_fits {G : pG} {d : Nat} {n : Nat} {N : pN} {I : pI} {L : pL} {P : pR} {a0 : Nat} {x1 : Int32} {x2 : Int32} {qq : Int32 × pI × pL} (hd : 8 ≤ d) (hW : WT N P) (ha0 : p_tp N a0 15) (hf : f_X12_fits n N I L P a0 x1 x2 = some qq) : MT G mX12_fits d 0 0 [.ref a0, .int x1, .int x2] N I L P (p_R (some (.int qq.1)) N qq.2.1 qq.2.2 P) := by
  refine MT.of rfl (Nat.le_of_ble_eq_true rfl) ?_
  show SW G mX12_fits (p_rm d 0 0) 0 0 0 0 (p_R (some (.int qq.1)) N qq.2.1 qq.2.2 P) 0 [(0, .ref a0), (1, .int x1), (2, .int x2)] [] N I L P
  unfold f_X12_fits at hf
  refine s_iconst (pc := 0) dX12_fits_0 (v := 1) rfl ?_
  refine s_istore_n (pc := 1) dX12_fits_1 rfl (Nat.le_of_ble_eq_true rfl) rfl ?_
  refine s_iconst (pc := 2) dX12_fits_2 (v := 0) rfl ?_
  refine s_istore (pc := 3) dX12_fits_3 (Nat.le_of_ble_eq_true rfl) rfl ?_
  obtain ⟨t1, hg, hf⟩ := p_bd hf
  have k2 : SW G mX12_fits (p_rm d 0 0) 0 0 0 0 (p_R (some (.int qq.1)) N qq.2.1 qq.2.2 P) 82 [(3, .int t1.1)] [] N t1.2.1 t1.2.2 P := by
    refine s_iload_n (pc := 82) dX12_fits_82 0 rfl rfl ?_
    obtain ⟨c40, hf⟩ := p_ckx hf
    cases hf
    exact s_ireturn (pc := 83) dX12_fits_83 rfl (p_nr (of_decide_eq_true c40)) ⟨rfl, rfl, rfl, rfl, rfl⟩
  replace hf := hg
  have k21 : ∀ (k : Nat) (s0 : Int32 × Int32 × pI × pL), p_it (B_X12_fits_5 n N P a0 x1 x2) k s0 = some t1 → (SW G mX12_fits (p_rm d 0 0) 0 0 0 0 (p_R (some (.int qq.1)) N qq.2.1 qq.2.2 P) 5 [(0, .ref a0), (1, .int x1), (2, .int x2), (3, .int s0.1), (4, .int s0.2.1)] [] N s0.2.2.1 s0.2.2.2 P) := p_it_ind (C := fun (s0 : Int32 × Int32 × pI × pL) => SW G mX12_fits (p_rm d 0 0) 0 0 0 0 (p_R (some (.int qq.1)) N qq.2.1 qq.2.2 P) 5 [(0, .ref a0), (1, .int x1), (2, .int x2), (3, .int s0.1), (4, .int s0.2.1)] [] N s0.2.2.1 s0.2.2.2 P) (by
    intro rec0 hrec0 s0 hf
    unfold B_X12_fits_5 at hf
    refine s_iload (pc := 5) dX12_fits_5 4 rfl ?_
    refine s_aload_n (pc := 7) dX12_fits_7 0 rfl rfl ?_
    obtain ⟨q22, h23, hf⟩ := p_bd hf
    have t24 : p_tp N q22 0 := WT.get hW ha0 h23
    refine x_getR (pc := 8) dX12_fits_8 fl_X12_7 rfl ha0 h23 ?_
    refine s_iconst (pc := 11) dX12_fits_11 (v := 1) rfl ?_
    obtain ⟨c25, hf⟩ := p_ckx hf
    refine x_iald (pc := 12) dX12_fits_12 t24 c25 ?_
    refine s_icmp_ge (pc := 13) (tgt := 82) dX12_fits_13 rfl (fun hc => ?_) (fun hc => ?_)
    · replace hf := p_ps hf hc
      cases hf
      exact s_lo [3] rfl (k2)
    · replace hf := p_ng hf hc
      refine s_iload_n (pc := 16) dX12_fits_16 3 rfl rfl ?_
      refine s_if_eq (pc := 17) (tgt := 82) dX12_fits_17 rfl (fun hc => ?_) (fun hc => ?_)
      · replace hf := p_ps hf hc
        cases hf
        exact s_lo [3] rfl (k2)
      · replace hf := p_ng hf hc
        refine s_aload_n (pc := 20) dX12_fits_20 0 rfl rfl ?_
        refine s_iload (pc := 21) dX12_fits_21 4 rfl ?_
        obtain ⟨q26, h27, hf⟩ := p_bd hf
        refine y_callV1 (pc := 23) dX12_fits_23 (c_X12_seesSender (p_dd hd (by decide)) hW ha0 h27) mk_X12_seesSender mv_X12_seesSender ml_X12_215 rfl rfl (Nat.le_of_ble_eq_true rfl) ha0 rfl (p_d1 hd (by decide)) (Nat.le_of_ble_eq_true rfl) ?_
        obtain ⟨t28, hg, hf⟩ := p_bd hf
        have k29 : SW G mX12_fits (p_rm d 0 0) 0 0 0 0 (p_R (some (.int qq.1)) N qq.2.1 qq.2.2 P) 75 [(0, .ref a0), (1, .int x1), (2, .int x2), (4, .int s0.2.1)] [.int t28.1] N t28.2.1 t28.2.2 P := by
          refine s_istore_n (pc := 75) dX12_fits_75 rfl (Nat.le_of_ble_eq_true rfl) rfl ?_
          refine s_iinc (pc := 76) dX12_fits_76 4 rfl (v := s0.2.1 + 1) rfl (Nat.le_of_ble_eq_true rfl) rfl ?_
          refine s_goto (pc := 79) (tgt := 5) dX12_fits_79 rfl ?_
          exact s_lo [2, 3, 4, 1, 0] rfl (hrec0 _ hf)
        replace hf := hg
        refine s_if_eq (pc := 26) (tgt := 70) dX12_fits_26 rfl (fun hc => ?_) (fun hc => ?_)
        · replace hf := p_ps hf hc
          refine s_iconst (pc := 70) dX12_fits_70 (v := 1) rfl ?_
          refine s_goto (pc := 71) (tgt := 75) dX12_fits_71 rfl ?_
          cases hf
          exact s_lo [0, 1, 2, 4] rfl (k29)
        · replace hf := p_ng hf hc
          refine s_aload_n (pc := 29) dX12_fits_29 0 rfl rfl ?_
          refine s_iload (pc := 30) dX12_fits_30 4 rfl ?_
          refine s_bipush (pc := 32) dX12_fits_32 (v := 6) rfl ?_
          obtain ⟨q30, h31, hf⟩ := p_bd hf
          refine y_callV1 (pc := 34) dX12_fits_34 (c_X12_senderOf (p_dd hd (by decide)) hW ha0 h31) mk_X12_senderOf mv_X12_senderOf ml_X12_83 rfl rfl (Nat.le_of_ble_eq_true rfl) ha0 rfl (p_d1 hd (by decide)) (Nat.le_of_ble_eq_true rfl) ?_
          refine s_if_lt (pc := 37) (tgt := 70) dX12_fits_37 rfl (fun hc => ?_) (fun hc => ?_)
          · replace hf := p_ps hf hc
            refine s_iconst (pc := 70) dX12_fits_70 (v := 1) rfl ?_
            refine s_goto (pc := 71) (tgt := 75) dX12_fits_71 rfl ?_
            cases hf
            exact s_lo [0, 1, 2, 4] rfl (k29)
          · replace hf := p_ng hf hc
            refine s_aload_n (pc := 40) dX12_fits_40 0 rfl rfl ?_
            refine s_iload (pc := 41) dX12_fits_41 4 rfl ?_
            refine s_iload_n (pc := 43) dX12_fits_43 1 rfl rfl ?_
            refine s_iload_n (pc := 44) dX12_fits_44 2 rfl rfl ?_
            obtain ⟨q32, h33, hf⟩ := p_bd hf
            refine y_callV1 (pc := 45) dX12_fits_45 (c_X12_signalOf (p_dd hd (by decide)) hW ha0 h33) mk_X12_signalOf mv_X12_signalOf ml_X12_244 rfl rfl (Nat.le_of_ble_eq_true rfl) ha0 rfl (p_d1 hd (by decide)) (Nat.le_of_ble_eq_true rfl) ?_
            refine s_aload_n (pc := 48) dX12_fits_48 0 rfl rfl ?_
            refine s_iload (pc := 49) dX12_fits_49 4 rfl ?_
            refine s_bipush (pc := 51) dX12_fits_51 (v := 6) rfl ?_
            obtain ⟨q34, h35, hf⟩ := p_bd hf
            refine y_callV1 (pc := 53) dX12_fits_53 (c_X12_senderOf (p_dd hd (by decide)) hW ha0 h35) mk_X12_senderOf mv_X12_senderOf ml_X12_83 rfl rfl (Nat.le_of_ble_eq_true rfl) ha0 rfl (p_d1 hd (by decide)) (Nat.le_of_ble_eq_true rfl) ?_
            refine s_aload_n (pc := 56) dX12_fits_56 0 rfl rfl ?_
            refine s_iload (pc := 57) dX12_fits_57 4 rfl ?_
            refine s_bipush (pc := 59) dX12_fits_59 (v := 7) rfl ?_
            obtain ⟨q36, h37, hf⟩ := p_bd hf
            refine y_callV1 (pc := 61) dX12_fits_61 (c_X12_senderOf (p_dd hd (by decide)) hW ha0 h37) mk_X12_senderOf mv_X12_senderOf ml_X12_83 rfl rfl (Nat.le_of_ble_eq_true rfl) ha0 rfl (p_d1 hd (by decide)) (Nat.le_of_ble_eq_true rfl) ?_
            obtain ⟨q38, h39, hf⟩ := p_bd hf
            refine y_callS1 (pc := 64) dX12_fits_64 (c_X12_isIn (p_dd hd (by decide)) hW  h39) mk_X12_isIn mz_X12_isIn ml_X12_68 rfl rfl (Nat.le_of_ble_eq_true rfl) (p_d1 hd (by decide)) (Nat.le_of_ble_eq_true rfl) ?_
            refine s_if_eq (pc := 67) (tgt := 74) dX12_fits_67 rfl (fun hc => ?_) (fun hc => ?_)
            · replace hf := p_ps hf hc
              refine s_iconst (pc := 74) dX12_fits_74 (v := 0) rfl ?_
              cases hf
              exact s_lo [0, 1, 2, 4] rfl (k29)
            · replace hf := p_ng hf hc
              refine s_iconst (pc := 70) dX12_fits_70 (v := 1) rfl ?_
              refine s_goto (pc := 71) (tgt := 75) dX12_fits_71 rfl ?_
              cases hf
              exact s_lo [0, 1, 2, 4] rfl (k29))
  exact s_lo [2, 3, 4, 1, 0] rfl (k21 _ _ hf)
def B_X12_places_4 (n : Nat) (N : pN) (P : pR) (a0 : Nat) (rec0 : (Int32 × Int32 × pI × pL) → Option (Int32 × pI × pL)) (s0 : Int32 × Int32 × pI × pL) : Option (Int32 × pI × pL) :=
  (if 441 ≤ s0.2.1 then
    some (s0.1, s0.2.2.1, s0.2.2.2)
  else
    Option.bind (f_X12_fits n N s0.2.2.1 s0.2.2.2 P a0 (s0.2.1 - s0.2.1 / 21 * 21) (s0.2.1 / 21)) fun q3 =>
    p_let (α := Int32) ((if q3.1 = 0 then
      0
    else
      1)) fun t5 =>
    rec0 (s0.1 + t5, s0.2.1 + 1, q3.2.1, q3.2.2))
def f_X12_places (n : Nat) (N : pN) (I : pI) (L : pL) (P : pR) (a0 : Nat) : Option (Int32 × pI × pL) :=
  Option.bind (p_it (B_X12_places_4 n N P a0) n (0, 0, I, L)) fun t1 =>
  some (t1.1, t1.2.1, t1.2.2)
theorem c_X12_places {G : pG} {d : Nat} {n : Nat} {N : pN} {I : pI} {L : pL} {P : pR} {a0 : Nat} {qq : Int32 × pI × pL} (hd : 9 ≤ d) (hW : WT N P) (ha0 : p_tp N a0 15) (hf : f_X12_places n N I L P a0 = some qq) : MT G mX12_places d 0 0 [.ref a0] N I L P (p_R (some (.int qq.1)) N qq.2.1 qq.2.2 P) := by
  refine MT.of rfl (Nat.le_of_ble_eq_true rfl) ?_
  show SW G mX12_places (p_rm d 0 0) 0 0 0 0 (p_R (some (.int qq.1)) N qq.2.1 qq.2.2 P) 0 [(0, .ref a0)] [] N I L P
  unfold f_X12_places at hf
  refine s_iconst (pc := 0) dX12_places_0 (v := 0) rfl ?_
  refine s_istore_n (pc := 1) dX12_places_1 rfl (Nat.le_of_ble_eq_true rfl) rfl ?_
  refine s_iconst (pc := 2) dX12_places_2 (v := 0) rfl ?_
  refine s_istore_n (pc := 3) dX12_places_3 rfl (Nat.le_of_ble_eq_true rfl) rfl ?_
  obtain ⟨t1, hg, hf⟩ := p_bd hf
  have k2 : SW G mX12_places (p_rm d 0 0) 0 0 0 0 (p_R (some (.int qq.1)) N qq.2.1 qq.2.2 P) 40 [(1, .int t1.1)] [] N t1.2.1 t1.2.2 P := by
    refine s_iload_n (pc := 40) dX12_places_40 0 rfl rfl ?_
    cases hf
    exact s_ireturn (pc := 41) dX12_places_41 rfl rfl ⟨rfl, rfl, rfl, rfl, rfl⟩
  replace hf := hg
  have k7 : ∀ (k : Nat) (s0 : Int32 × Int32 × pI × pL), p_it (B_X12_places_4 n N P a0) k s0 = some t1 → (SW G mX12_places (p_rm d 0 0) 0 0 0 0 (p_R (some (.int qq.1)) N qq.2.1 qq.2.2 P) 4 [(0, .ref a0), (1, .int s0.1), (2, .int s0.2.1)] [] N s0.2.2.1 s0.2.2.2 P) := p_it_ind (C := fun (s0 : Int32 × Int32 × pI × pL) => SW G mX12_places (p_rm d 0 0) 0 0 0 0 (p_R (some (.int qq.1)) N qq.2.1 qq.2.2 P) 4 [(0, .ref a0), (1, .int s0.1), (2, .int s0.2.1)] [] N s0.2.2.1 s0.2.2.2 P) (by
    intro rec0 hrec0 s0 hf
    unfold B_X12_places_4 at hf
    refine s_iload_n (pc := 4) dX12_places_4 2 rfl rfl ?_
    refine s_sipush (pc := 5) dX12_places_5 (v := 441) rfl ?_
    refine s_icmp_ge (pc := 8) (tgt := 40) dX12_places_8 rfl (fun hc => ?_) (fun hc => ?_)
    · replace hf := p_ps hf hc
      cases hf
      exact s_lo [1] rfl (k2)
    · replace hf := p_ng hf hc
      refine s_iload_n (pc := 11) dX12_places_11 1 rfl rfl ?_
      refine s_aload_n (pc := 12) dX12_places_12 0 rfl rfl ?_
      refine s_iload_n (pc := 13) dX12_places_13 2 rfl rfl ?_
      refine s_bipush (pc := 14) dX12_places_14 (v := 21) rfl ?_
      refine s_irem (pc := 16) dX12_places_16 (by decide) ?_
      refine s_iload_n (pc := 17) dX12_places_17 2 rfl rfl ?_
      refine s_bipush (pc := 18) dX12_places_18 (v := 21) rfl ?_
      refine s_idiv (pc := 20) dX12_places_20 (by decide) ?_
      obtain ⟨q8, h9, hf⟩ := p_bd hf
      refine y_callV1 (pc := 21) dX12_places_21 (c_X12_fits (p_dd hd (by decide)) hW ha0 h9) mk_X12_fits mv_X12_fits ml_X12_286 rfl rfl (Nat.le_of_ble_eq_true rfl) ha0 rfl (p_d1 hd (by decide)) (Nat.le_of_ble_eq_true rfl) ?_
      obtain ⟨t10, hg, hf⟩ := p_lx2 hf
      have k11 : SW G mX12_places (p_rm d 0 0) 0 0 0 0 (p_R (some (.int qq.1)) N qq.2.1 qq.2.2 P) 32 [(0, .ref a0), (2, .int s0.2.1)] [.int t10, .int s0.1] N q8.2.1 q8.2.2 P := by
        refine s_iadd (pc := 32) dX12_places_32 ?_
        refine s_istore_n (pc := 33) dX12_places_33 rfl (Nat.le_of_ble_eq_true rfl) rfl ?_
        refine s_iinc (pc := 34) dX12_places_34 2 rfl (v := s0.2.1 + 1) rfl (Nat.le_of_ble_eq_true rfl) rfl ?_
        refine s_goto (pc := 37) (tgt := 4) dX12_places_37 rfl ?_
        exact s_lo [2, 1, 0] rfl (hrec0 _ hf)
      replace hf := hg.symm
      refine s_if_eq (pc := 24) (tgt := 31) dX12_places_24 rfl (fun hc => ?_) (fun hc => ?_)
      · replace hf := p_ps hf hc
        refine s_iconst (pc := 31) dX12_places_31 (v := 0) rfl ?_
        cases hf
        exact s_lo [0, 2] rfl (k11)
      · replace hf := p_ng hf hc
        refine s_iconst (pc := 27) dX12_places_27 (v := 1) rfl ?_
        refine s_goto (pc := 28) (tgt := 32) dX12_places_28 rfl ?_
        cases hf
        exact s_lo [0, 2] rfl (k11))
  exact s_lo [2, 1, 0] rfl (k7 _ _ hf)
def B_X12_place_4 (n : Nat) (N : pN) (P : pR) (a0 : Nat) (x1 : Int32) (rec0 : (Int32 × Int32 × pI × pL) → Option (Int32 × pI × pL)) (s0 : Int32 × Int32 × pI × pL) : Option (Int32 × pI × pL) :=
  (if 441 ≤ s0.2.1 then
    some ((-1), s0.2.2.1, s0.2.2.2)
  else
    Option.bind (f_X12_fits n N s0.2.2.1 s0.2.2.2 P a0 (s0.2.1 - s0.2.1 / 21 * 21) (s0.2.1 / 21)) fun q1 =>
    (if q1.1 = 0 then
      rec0 (s0.1, s0.2.1 + 1, q1.2.1, q1.2.2)
    else
      (if s0.1 = x1 then
        some ((100 * (s0.2.1 / 21)) + (s0.2.1 - s0.2.1 / 21 * 21), q1.2.1, q1.2.2)
      else
        rec0 (s0.1 + 1, s0.2.1 + 1, q1.2.1, q1.2.2))))
def f_X12_place (n : Nat) (N : pN) (I : pI) (L : pL) (P : pR) (a0 : Nat) (x1 : Int32) : Option (Int32 × pI × pL) :=
  p_it (B_X12_place_4 n N P a0 x1) n (0, 0, I, L)
theorem c_X12_place {G : pG} {d : Nat} {n : Nat} {N : pN} {I : pI} {L : pL} {P : pR} {a0 : Nat} {x1 : Int32} {qq : Int32 × pI × pL} (hd : 9 ≤ d) (hW : WT N P) (ha0 : p_tp N a0 15) (hf : f_X12_place n N I L P a0 x1 = some qq) : MT G mX12_place d 0 0 [.ref a0, .int x1] N I L P (p_R (some (.int qq.1)) N qq.2.1 qq.2.2 P) := by
  refine MT.of rfl (Nat.le_of_ble_eq_true rfl) ?_
  show SW G mX12_place (p_rm d 0 0) 0 0 0 0 (p_R (some (.int qq.1)) N qq.2.1 qq.2.2 P) 0 [(0, .ref a0), (1, .int x1)] [] N I L P
  unfold f_X12_place at hf
  refine s_iconst (pc := 0) dX12_place_0 (v := 0) rfl ?_
  refine s_istore_n (pc := 1) dX12_place_1 rfl (Nat.le_of_ble_eq_true rfl) rfl ?_
  refine s_iconst (pc := 2) dX12_place_2 (v := 0) rfl ?_
  refine s_istore_n (pc := 3) dX12_place_3 rfl (Nat.le_of_ble_eq_true rfl) rfl ?_
  have k3 : ∀ (k : Nat) (s0 : Int32 × Int32 × pI × pL), p_it (B_X12_place_4 n N P a0 x1) k s0 = some qq → (SW G mX12_place (p_rm d 0 0) 0 0 0 0 (p_R (some (.int qq.1)) N qq.2.1 qq.2.2 P) 4 [(0, .ref a0), (1, .int x1), (2, .int s0.1), (3, .int s0.2.1)] [] N s0.2.2.1 s0.2.2.2 P) := p_it_ind (C := fun (s0 : Int32 × Int32 × pI × pL) => SW G mX12_place (p_rm d 0 0) 0 0 0 0 (p_R (some (.int qq.1)) N qq.2.1 qq.2.2 P) 4 [(0, .ref a0), (1, .int x1), (2, .int s0.1), (3, .int s0.2.1)] [] N s0.2.2.1 s0.2.2.2 P) (by
    intro rec0 hrec0 s0 hf
    unfold B_X12_place_4 at hf
    refine s_iload_n (pc := 4) dX12_place_4 3 rfl rfl ?_
    refine s_sipush (pc := 5) dX12_place_5 (v := 441) rfl ?_
    refine s_icmp_ge (pc := 8) (tgt := 56) dX12_place_8 rfl (fun hc => ?_) (fun hc => ?_)
    · replace hf := p_ps hf hc
      refine s_iconst (pc := 56) dX12_place_56 (v := -1) rfl ?_
      cases hf
      exact s_ireturn (pc := 57) dX12_place_57 rfl rfl ⟨rfl, rfl, rfl, rfl, rfl⟩
    · replace hf := p_ng hf hc
      refine s_aload_n (pc := 11) dX12_place_11 0 rfl rfl ?_
      refine s_iload_n (pc := 12) dX12_place_12 3 rfl rfl ?_
      refine s_bipush (pc := 13) dX12_place_13 (v := 21) rfl ?_
      refine s_irem (pc := 15) dX12_place_15 (by decide) ?_
      refine s_iload_n (pc := 16) dX12_place_16 3 rfl rfl ?_
      refine s_bipush (pc := 17) dX12_place_17 (v := 21) rfl ?_
      refine s_idiv (pc := 19) dX12_place_19 (by decide) ?_
      obtain ⟨q4, h5, hf⟩ := p_bd hf
      refine y_callV1 (pc := 20) dX12_place_20 (c_X12_fits (p_dd hd (by decide)) hW ha0 h5) mk_X12_fits mv_X12_fits ml_X12_286 rfl rfl (Nat.le_of_ble_eq_true rfl) ha0 rfl (p_d1 hd (by decide)) (Nat.le_of_ble_eq_true rfl) ?_
      refine s_if_ne (pc := 23) (tgt := 29) dX12_place_23 rfl (fun hc => ?_) (fun hc => ?_)
      · replace hf := p_ng hf hc
        refine s_iload_n (pc := 29) dX12_place_29 2 rfl rfl ?_
        refine s_iload_n (pc := 30) dX12_place_30 1 rfl rfl ?_
        refine s_icmp_ne (pc := 31) (tgt := 47) dX12_place_31 rfl (fun hc => ?_) (fun hc => ?_)
        · replace hf := p_ng hf hc
          refine s_iinc (pc := 47) dX12_place_47 2 rfl (v := s0.1 + 1) rfl (Nat.le_of_ble_eq_true rfl) rfl ?_
          refine s_iinc (pc := 50) dX12_place_50 3 rfl (v := s0.2.1 + 1) rfl (Nat.le_of_ble_eq_true rfl) rfl ?_
          refine s_goto (pc := 53) (tgt := 4) dX12_place_53 rfl ?_
          exact s_lo [2, 3, 1, 0] rfl (hrec0 _ hf)
        · replace hf := p_ps hf hc
          refine s_bipush (pc := 34) dX12_place_34 (v := 100) rfl ?_
          refine s_iload_n (pc := 36) dX12_place_36 3 rfl rfl ?_
          refine s_bipush (pc := 37) dX12_place_37 (v := 21) rfl ?_
          refine s_idiv (pc := 39) dX12_place_39 (by decide) ?_
          refine s_imul (pc := 40) dX12_place_40 ?_
          refine s_iload_n (pc := 41) dX12_place_41 3 rfl rfl ?_
          refine s_bipush (pc := 42) dX12_place_42 (v := 21) rfl ?_
          refine s_irem (pc := 44) dX12_place_44 (by decide) ?_
          refine s_iadd (pc := 45) dX12_place_45 ?_
          cases hf
          exact s_ireturn (pc := 46) dX12_place_46 rfl rfl ⟨rfl, rfl, rfl, rfl, rfl⟩
      · replace hf := p_ps hf hc
        refine s_goto (pc := 26) (tgt := 50) dX12_place_26 rfl ?_
        refine s_iinc (pc := 50) dX12_place_50 3 rfl (v := s0.2.1 + 1) rfl (Nat.le_of_ble_eq_true rfl) rfl ?_
        refine s_goto (pc := 53) (tgt := 4) dX12_place_53 rfl ?_
        exact s_lo [1, 2, 3, 0] rfl (hrec0 _ hf))
  exact s_lo [2, 3, 1, 0] rfl (k3 _ _ hf)
def J_X12_echoes_29 (x5 : Int32) (x2 : Int32) (x4 : Int32) : Option Int32 :=
  (if ((x5 * x5) + (x2 * x2)) = x4 then
    some 1
  else
    some 0)
def J_X12_echoes_19 (x5 : Int32) (x0 : Int32) (x1 : Int32) (x2 : Int32) (x3 : Int32) (x4 : Int32) : Option Int32 :=
  (if x0 ≤ x3 then
    some 0
  else
    (if x1 ≤ x3 then
      some 0
    else
      J_X12_echoes_29 x5 x2 x4))
def f_X12_echoes (x0 : Int32) (x1 : Int32) (x2 : Int32) (x3 : Int32) (x4 : Int32) : Option Int32 :=
  (if x3 ≤ x0 then
    J_X12_echoes_19 (((2 * x3) - x0) - x1) x0 x1 x2 x3 x4
  else
    (if x1 < x3 then
      J_X12_echoes_29 (((2 * x3) - x0) - x1) x2 x4
    else
      J_X12_echoes_19 (((2 * x3) - x0) - x1) x0 x1 x2 x3 x4))
theorem c_X12_echoes {G : pG} {d : Nat} {N : pN} {I : pI} {L : pL} {P : pR} {x0 : Int32} {x1 : Int32} {x2 : Int32} {x3 : Int32} {x4 : Int32} {qq : Int32} (hd : 0 ≤ d) (hW : WT N P) (hf : f_X12_echoes x0 x1 x2 x3 x4 = some qq) : MT G mX12_echoes d 0 0 [.int x0, .int x1, .int x2, .int x3, .int x4] N I L P (p_R (some (.int qq)) N I L P) := by
  refine MT.of rfl (Nat.le_of_ble_eq_true rfl) ?_
  show SW G mX12_echoes (p_rm d 0 0) 0 0 0 0 (p_R (some (.int qq)) N I L P) 0 [(0, .int x0), (1, .int x1), (2, .int x2), (3, .int x3), (4, .int x4)] [] N I L P
  unfold f_X12_echoes at hf
  refine s_iconst (pc := 0) dX12_echoes_0 (v := 2) rfl ?_
  refine s_iload_n (pc := 1) dX12_echoes_1 3 rfl rfl ?_
  refine s_imul (pc := 2) dX12_echoes_2 ?_
  refine s_iload_n (pc := 3) dX12_echoes_3 0 rfl rfl ?_
  refine s_isub (pc := 4) dX12_echoes_4 ?_
  refine s_iload_n (pc := 5) dX12_echoes_5 1 rfl rfl ?_
  refine s_isub (pc := 6) dX12_echoes_6 ?_
  refine s_istore (pc := 7) dX12_echoes_7 (Nat.le_of_ble_eq_true rfl) rfl ?_
  refine s_iload_n (pc := 9) dX12_echoes_9 1 rfl rfl ?_
  refine s_iload_n (pc := 10) dX12_echoes_10 4 rfl rfl ?_
  have k1 : J_X12_echoes_29 (((2 * x3) - x0) - x1) x2 x4 = some qq → SW G mX12_echoes (p_rm d 0 0) 0 0 0 0 (p_R (some (.int qq)) N I L P) 29 [(5, .int (((2 * x3) - x0) - x1)), (2, .int x2), (4, .int x4)] [] N I L P := by
    intro hf
    unfold J_X12_echoes_29 at hf
    refine s_iload (pc := 29) dX12_echoes_29 0 rfl ?_
    refine s_iload (pc := 31) dX12_echoes_31 0 rfl ?_
    refine s_imul (pc := 33) dX12_echoes_33 ?_
    refine s_iload_n (pc := 34) dX12_echoes_34 1 rfl rfl ?_
    refine s_iload_n (pc := 35) dX12_echoes_35 1 rfl rfl ?_
    refine s_imul (pc := 36) dX12_echoes_36 ?_
    refine s_iadd (pc := 37) dX12_echoes_37 ?_
    refine s_iload (pc := 38) dX12_echoes_38 2 rfl ?_
    refine s_icmp_ne (pc := 40) (tgt := 47) dX12_echoes_40 rfl (fun hc => ?_) (fun hc => ?_)
    · replace hf := p_ng hf hc
      refine s_iconst (pc := 47) dX12_echoes_47 (v := 0) rfl ?_
      cases hf
      exact s_ireturn (pc := 48) dX12_echoes_48 rfl rfl ⟨rfl, rfl, rfl, rfl, rfl⟩
    · replace hf := p_ps hf hc
      refine s_iconst (pc := 43) dX12_echoes_43 (v := 1) rfl ?_
      refine s_goto (pc := 44) (tgt := 48) dX12_echoes_44 rfl ?_
      cases hf
      exact s_ireturn (pc := 48) dX12_echoes_48 rfl rfl ⟨rfl, rfl, rfl, rfl, rfl⟩
  have k2 : J_X12_echoes_19 (((2 * x3) - x0) - x1) x0 x1 x2 x3 x4 = some qq → SW G mX12_echoes (p_rm d 0 0) 0 0 0 0 (p_R (some (.int qq)) N I L P) 19 [(5, .int (((2 * x3) - x0) - x1)), (0, .int x0), (1, .int x1), (2, .int x2), (3, .int x3), (4, .int x4)] [] N I L P := by
    intro hf
    unfold J_X12_echoes_19 at hf
    refine s_iload_n (pc := 19) dX12_echoes_19 1 rfl rfl ?_
    refine s_iload_n (pc := 20) dX12_echoes_20 4 rfl rfl ?_
    refine s_icmp_le (pc := 21) (tgt := 47) dX12_echoes_21 rfl (fun hc => ?_) (fun hc => ?_)
    · replace hf := p_ps hf hc
      refine s_iconst (pc := 47) dX12_echoes_47 (v := 0) rfl ?_
      cases hf
      exact s_ireturn (pc := 48) dX12_echoes_48 rfl rfl ⟨rfl, rfl, rfl, rfl, rfl⟩
    · replace hf := p_ng hf hc
      refine s_iload_n (pc := 24) dX12_echoes_24 2 rfl rfl ?_
      refine s_iload_n (pc := 25) dX12_echoes_25 4 rfl rfl ?_
      refine s_icmp_le (pc := 26) (tgt := 47) dX12_echoes_26 rfl (fun hc => ?_) (fun hc => ?_)
      · replace hf := p_ps hf hc
        refine s_iconst (pc := 47) dX12_echoes_47 (v := 0) rfl ?_
        cases hf
        exact s_ireturn (pc := 48) dX12_echoes_48 rfl rfl ⟨rfl, rfl, rfl, rfl, rfl⟩
      · replace hf := p_ng hf hc
        exact s_lo [0, 3, 5] rfl (k1 hf)
  refine s_icmp_ge (pc := 11) (tgt := 19) dX12_echoes_11 rfl (fun hc => ?_) (fun hc => ?_)
  · replace hf := p_ps hf hc
    exact s_lo [0, 1, 2, 3, 4, 5] rfl (k2 hf)
  · replace hf := p_ng hf hc
    refine s_iload_n (pc := 14) dX12_echoes_14 2 rfl rfl ?_
    refine s_iload_n (pc := 15) dX12_echoes_15 4 rfl rfl ?_
    refine s_icmp_lt (pc := 16) (tgt := 29) dX12_echoes_16 rfl (fun hc => ?_) (fun hc => ?_)
    · replace hf := p_ps hf hc
      exact s_lo [0, 3, 5] rfl (k1 hf)
    · replace hf := p_ng hf hc
      exact s_lo [0, 1, 2, 3, 4, 5] rfl (k2 hf)
def B_X12_echo_40 (x7 : Int32) (x6 : Int32) (x2 : Int32) (x3 : Int32) (x4 : Int32) (x5 : Int32) (rec0 : (Int32 × Int32) → Option Int32) (s0 : Int32 × Int32) : Option Int32 :=
  (if 42 ≤ s0.2 then
    some (-1)
  else
    Option.bind (α := Int32) ((if 21 ≤ s0.2 then
      Option.bind (f_X12_echoes x7 x3 (x6 - x2) (s0.2 - 21) x4) fun q11 =>
      some q11
    else
      Option.bind (f_X12_echoes x6 x2 (x7 - x3) s0.2 x4) fun q13 =>
      some q13)) fun t9 =>
    (if t9 = 0 then
      rec0 (s0.1, s0.2 + 1)
    else
      (if s0.1 = x5 then
        (if 21 ≤ s0.2 then
          some (79 + s0.2)
        else
          some s0.2)
      else
        rec0 (s0.1 + 1, s0.2 + 1))))
def f_X12_echo (n : Nat) (N : pN) (I : pI) (P : pR) (a0 : Nat) (x1 : Int32) (x2 : Int32) (x3 : Int32) (x4 : Int32) (x5 : Int32) : Option Int32 :=
  Option.bind (f_X12_seesSender N I P a0 x1) fun q1 =>
  (if q1 = 0 then
    some (-1)
  else
    Option.bind (f_X12_isPoint x2 x3) fun q3 =>
    (if q3 = 0 then
      some (-1)
    else
      Option.bind (f_X12_senderOf N I P a0 x1 0) fun q5 =>
      Option.bind (f_X12_senderOf N I P a0 x1 1) fun q7 =>
      p_it (B_X12_echo_40 q7 q5 x2 x3 x4 x5) n (0, 0)))
theorem c_X12_echo {G : pG} {d : Nat} {n : Nat} {N : pN} {I : pI} {L : pL} {P : pR} {a0 : Nat} {x1 : Int32} {x2 : Int32} {x3 : Int32} {x4 : Int32} {x5 : Int32} {qq : Int32} (hd : 3 ≤ d) (hW : WT N P) (ha0 : p_tp N a0 15) (hf : f_X12_echo n N I P a0 x1 x2 x3 x4 x5 = some qq) : MT G mX12_echo d 0 0 [.ref a0, .int x1, .int x2, .int x3, .int x4, .int x5] N I L P (p_R (some (.int qq)) N I L P) := by
  refine MT.of rfl (Nat.le_of_ble_eq_true rfl) ?_
  show SW G mX12_echo (p_rm d 0 0) 0 0 0 0 (p_R (some (.int qq)) N I L P) 0 [(0, .ref a0), (1, .int x1), (2, .int x2), (3, .int x3), (4, .int x4), (5, .int x5)] [] N I L P
  unfold f_X12_echo at hf
  refine s_aload_n (pc := 0) dX12_echo_0 0 rfl rfl ?_
  refine s_iload_n (pc := 1) dX12_echo_1 1 rfl rfl ?_
  obtain ⟨q1, h2, hf⟩ := p_bd hf
  refine y_callV1 (pc := 2) dX12_echo_2 (c_X12_seesSender (p_dd hd (by decide)) hW ha0 h2) mk_X12_seesSender mv_X12_seesSender ml_X12_215 rfl rfl (Nat.le_of_ble_eq_true rfl) ha0 rfl (p_d1 hd (by decide)) (Nat.le_of_ble_eq_true rfl) ?_
  refine s_if_eq (pc := 5) (tgt := 16) dX12_echo_5 rfl (fun hc => ?_) (fun hc => ?_)
  · replace hf := p_ps hf hc
    refine s_iconst (pc := 16) dX12_echo_16 (v := -1) rfl ?_
    cases hf
    exact s_ireturn (pc := 17) dX12_echo_17 rfl rfl ⟨rfl, rfl, rfl, rfl, rfl⟩
  · replace hf := p_ng hf hc
    refine s_iload_n (pc := 8) dX12_echo_8 2 rfl rfl ?_
    refine s_iload_n (pc := 9) dX12_echo_9 3 rfl rfl ?_
    obtain ⟨q3, h4, hf⟩ := p_bd hf
    refine y_callS1 (pc := 10) dX12_echo_10 (c_X12_isPoint (p_dd hd (by decide)) hW  h4) mk_X12_isPoint mz_X12_isPoint ml_X12_218 rfl rfl (Nat.le_of_ble_eq_true rfl) (p_d1 hd (by decide)) (Nat.le_of_ble_eq_true rfl) ?_
    refine s_if_ne (pc := 13) (tgt := 18) dX12_echo_13 rfl (fun hc => ?_) (fun hc => ?_)
    · replace hf := p_ng hf hc
      refine s_aload_n (pc := 18) dX12_echo_18 0 rfl rfl ?_
      refine s_iload_n (pc := 19) dX12_echo_19 1 rfl rfl ?_
      refine s_iconst (pc := 20) dX12_echo_20 (v := 0) rfl ?_
      obtain ⟨q5, h6, hf⟩ := p_bd hf
      refine y_callV1 (pc := 21) dX12_echo_21 (c_X12_senderOf (p_dd hd (by decide)) hW ha0 h6) mk_X12_senderOf mv_X12_senderOf ml_X12_83 rfl rfl (Nat.le_of_ble_eq_true rfl) ha0 rfl (p_d1 hd (by decide)) (Nat.le_of_ble_eq_true rfl) ?_
      refine s_istore (pc := 24) dX12_echo_24 (Nat.le_of_ble_eq_true rfl) rfl ?_
      refine s_aload_n (pc := 26) dX12_echo_26 1 rfl rfl ?_
      refine s_iload_n (pc := 27) dX12_echo_27 2 rfl rfl ?_
      refine s_iconst (pc := 28) dX12_echo_28 (v := 1) rfl ?_
      obtain ⟨q7, h8, hf⟩ := p_bd hf
      refine y_callV1 (pc := 29) dX12_echo_29 (c_X12_senderOf (p_dd hd (by decide)) hW ha0 h8) mk_X12_senderOf mv_X12_senderOf ml_X12_83 rfl rfl (Nat.le_of_ble_eq_true rfl) ha0 rfl (p_d1 hd (by decide)) (Nat.le_of_ble_eq_true rfl) ?_
      refine s_istore (pc := 32) dX12_echo_32 (Nat.le_of_ble_eq_true rfl) rfl ?_
      refine s_iconst (pc := 34) dX12_echo_34 (v := 0) rfl ?_
      refine s_istore (pc := 35) dX12_echo_35 (Nat.le_of_ble_eq_true rfl) rfl ?_
      refine s_iconst (pc := 37) dX12_echo_37 (v := 0) rfl ?_
      refine s_istore (pc := 38) dX12_echo_38 (Nat.le_of_ble_eq_true rfl) rfl ?_
      have k15 : ∀ (k : Nat) (s0 : Int32 × Int32), p_it (B_X12_echo_40 q7 q5 x2 x3 x4 x5) k s0 = some qq → (SW G mX12_echo (p_rm d 0 0) 0 0 0 0 (p_R (some (.int qq)) N I L P) 40 [(7, .int q7), (6, .int q5), (2, .int x2), (3, .int x3), (4, .int x4), (5, .int x5), (8, .int s0.1), (9, .int s0.2)] [] N I L P) := p_it_ind (C := fun (s0 : Int32 × Int32) => SW G mX12_echo (p_rm d 0 0) 0 0 0 0 (p_R (some (.int qq)) N I L P) 40 [(7, .int q7), (6, .int q5), (2, .int x2), (3, .int x3), (4, .int x4), (5, .int x5), (8, .int s0.1), (9, .int s0.2)] [] N I L P) (by
        intro rec0 hrec0 s0 hf
        unfold B_X12_echo_40 at hf
        refine s_iload (pc := 40) dX12_echo_40 7 rfl ?_
        refine s_bipush (pc := 42) dX12_echo_42 (v := 42) rfl ?_
        refine s_icmp_ge (pc := 44) (tgt := 132) dX12_echo_44 rfl (fun hc => ?_) (fun hc => ?_)
        · replace hf := p_ps hf hc
          refine s_iconst (pc := 132) dX12_echo_132 (v := -1) rfl ?_
          cases hf
          exact s_ireturn (pc := 133) dX12_echo_133 rfl rfl ⟨rfl, rfl, rfl, rfl, rfl⟩
        · replace hf := p_ng hf hc
          refine s_iload (pc := 47) dX12_echo_47 7 rfl ?_
          refine s_bipush (pc := 49) dX12_echo_49 (v := 21) rfl ?_
          obtain ⟨t16, hg, hf⟩ := p_bd hf
          have k17 : SW G mX12_echo (p_rm d 0 0) 0 0 0 0 (p_R (some (.int qq)) N I L P) 88 [(7, .int q7), (6, .int q5), (2, .int x2), (3, .int x3), (4, .int x4), (5, .int x5), (8, .int s0.1), (9, .int s0.2)] [.int t16] N I L P := by
            refine s_istore (pc := 88) dX12_echo_88 (Nat.le_of_ble_eq_true rfl) rfl ?_
            refine s_iload (pc := 90) dX12_echo_90 0 rfl ?_
            refine s_if_ne (pc := 92) (tgt := 98) dX12_echo_92 rfl (fun hc => ?_) (fun hc => ?_)
            · replace hf := p_ng hf hc
              refine s_iload (pc := 98) dX12_echo_98 7 rfl ?_
              refine s_iload (pc := 100) dX12_echo_100 6 rfl ?_
              refine s_icmp_ne (pc := 102) (tgt := 123) dX12_echo_102 rfl (fun hc => ?_) (fun hc => ?_)
              · replace hf := p_ng hf hc
                refine s_iinc (pc := 123) dX12_echo_123 7 rfl (v := s0.1 + 1) rfl (Nat.le_of_ble_eq_true rfl) rfl ?_
                refine s_iinc (pc := 126) dX12_echo_126 8 rfl (v := s0.2 + 1) rfl (Nat.le_of_ble_eq_true rfl) rfl ?_
                refine s_goto (pc := 129) (tgt := 40) dX12_echo_129 rfl ?_
                exact s_lo [3, 4, 5, 6, 7, 8, 1, 0] rfl (hrec0 _ hf)
              · replace hf := p_ps hf hc
                refine s_iload (pc := 105) dX12_echo_105 8 rfl ?_
                refine s_bipush (pc := 107) dX12_echo_107 (v := 21) rfl ?_
                refine s_icmp_ge (pc := 109) (tgt := 117) dX12_echo_109 rfl (fun hc => ?_) (fun hc => ?_)
                · replace hf := p_ps hf hc
                  refine s_bipush (pc := 117) dX12_echo_117 (v := 79) rfl ?_
                  refine s_iload (pc := 119) dX12_echo_119 8 rfl ?_
                  refine s_iadd (pc := 121) dX12_echo_121 ?_
                  cases hf
                  exact s_ireturn (pc := 122) dX12_echo_122 rfl rfl ⟨rfl, rfl, rfl, rfl, rfl⟩
                · replace hf := p_ng hf hc
                  refine s_iload (pc := 112) dX12_echo_112 8 rfl ?_
                  refine s_goto (pc := 114) (tgt := 122) dX12_echo_114 rfl ?_
                  cases hf
                  exact s_ireturn (pc := 122) dX12_echo_122 rfl rfl ⟨rfl, rfl, rfl, rfl, rfl⟩
            · replace hf := p_ps hf hc
              refine s_goto (pc := 95) (tgt := 126) dX12_echo_95 rfl ?_
              refine s_iinc (pc := 126) dX12_echo_126 8 rfl (v := s0.2 + 1) rfl (Nat.le_of_ble_eq_true rfl) rfl ?_
              refine s_goto (pc := 129) (tgt := 40) dX12_echo_129 rfl ?_
              exact s_lo [2, 3, 4, 5, 6, 7, 8, 0] rfl (hrec0 _ hf)
          replace hf := hg
          refine s_icmp_ge (pc := 51) (tgt := 71) dX12_echo_51 rfl (fun hc => ?_) (fun hc => ?_)
          · replace hf := p_ps hf hc
            refine s_iload (pc := 71) dX12_echo_71 0 rfl ?_
            refine s_iload_n (pc := 73) dX12_echo_73 3 rfl rfl ?_
            refine s_iload (pc := 74) dX12_echo_74 1 rfl ?_
            refine s_iload_n (pc := 76) dX12_echo_76 2 rfl rfl ?_
            refine s_isub (pc := 77) dX12_echo_77 ?_
            refine s_iload (pc := 78) dX12_echo_78 7 rfl ?_
            refine s_bipush (pc := 80) dX12_echo_80 (v := 21) rfl ?_
            refine s_isub (pc := 82) dX12_echo_82 ?_
            refine s_iload (pc := 83) dX12_echo_83 4 rfl ?_
            obtain ⟨q18, h19, hf⟩ := p_bd hf
            refine y_callS1 (pc := 85) dX12_echo_85 (c_X12_echoes (p_dd hd (by decide)) hW  h19) mk_X12_echoes mz_X12_echoes ml_X12_289 rfl rfl (Nat.le_of_ble_eq_true rfl) (p_d1 hd (by decide)) (Nat.le_of_ble_eq_true rfl) ?_
            cases hf
            exact s_lo [0, 1, 2, 3, 4, 5, 6, 7] rfl (k17)
          · replace hf := p_ng hf hc
            refine s_iload (pc := 54) dX12_echo_54 1 rfl ?_
            refine s_iload_n (pc := 56) dX12_echo_56 2 rfl rfl ?_
            refine s_iload (pc := 57) dX12_echo_57 0 rfl ?_
            refine s_iload_n (pc := 59) dX12_echo_59 3 rfl rfl ?_
            refine s_isub (pc := 60) dX12_echo_60 ?_
            refine s_iload (pc := 61) dX12_echo_61 7 rfl ?_
            refine s_iload (pc := 63) dX12_echo_63 4 rfl ?_
            obtain ⟨q20, h21, hf⟩ := p_bd hf
            refine y_callS1 (pc := 65) dX12_echo_65 (c_X12_echoes (p_dd hd (by decide)) hW  h21) mk_X12_echoes mz_X12_echoes ml_X12_289 rfl rfl (Nat.le_of_ble_eq_true rfl) (p_d1 hd (by decide)) (Nat.le_of_ble_eq_true rfl) ?_
            refine s_goto (pc := 68) (tgt := 88) dX12_echo_68 rfl ?_
            cases hf
            exact s_lo [0, 1, 2, 3, 4, 5, 6, 7] rfl (k17))
      exact s_lo [2, 3, 6, 7, 8, 9, 1, 0] rfl (k15 _ _ hf)
    · replace hf := p_ps hf hc
      refine s_iconst (pc := 16) dX12_echo_16 (v := -1) rfl ?_
      cases hf
      exact s_ireturn (pc := 17) dX12_echo_17 rfl rfl ⟨rfl, rfl, rfl, rfl, rfl⟩
