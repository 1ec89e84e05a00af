def f_X12_siteSignal (n : Nat) (N : pN) (I : pI) (L : pL) (P : pR) (a0 : Nat) (x1 : Int32) (x2 : Int32) : Option (Int32 × pI × pL) :=
  Option.bind (P a0 0) fun q1 =>
  p_ck (p_ib N q1 (170 + (4 * x1))) <|
  Option.bind (P a0 0) fun q5 =>
  p_ck (p_ib N q5 ((170 + (4 * x1)) + 1)) <|
  Option.bind (P a0 0) fun q9 =>
  p_ck (p_ib N q9 ((170 + (4 * x1)) + 2)) <|
  Option.bind (f_X12_from I a0 (I q1 (Int32.toNatClampNeg (170 + (4 * x1)))) (I q5 (Int32.toNatClampNeg ((170 + (4 * x1)) + 1))) (I q9 (Int32.toNatClampNeg ((170 + (4 * x1)) + 2)))) fun q13 =>
  Option.bind (P a0 0) fun q15 =>
  p_ck (p_ib N q15 (202 + (2 * x2))) <|
  Option.bind (P a0 0) fun q19 =>
  p_ck (p_ib N q19 ((202 + (2 * x2)) + 1)) <|
  Option.bind (f_X12_tries n N q13 L P a0 (q13 q15 (Int32.toNatClampNeg (202 + (2 * x2)))) (q13 q19 (Int32.toNatClampNeg ((202 + (2 * x2)) + 1)))) fun q23 =>
  Option.bind (f_X12_sum n N q23.1 P a0) fun q25 =>
  some (q25, q23.1, q23.2)
theorem c_X12_siteSignal {G : pG} {d : Nat} {n : Nat} {N : pN} {I : pI} {L : pL} {P : pR} {a0 : Nat} {x1 : Int32} {x2 : Int32} {qq : Int32 × pI × pL} (hd : 7 ≤ d) (hW : WT N P) (ha0 : p_tp N a0 15) (hf : f_X12_siteSignal n N I L P a0 x1 x2 = some qq) : MT G mX12_siteSignal d 0 0 [.ref a0, .int x1, .int x2] N I L P (p_R (some (.int qq.1)) N qq.2.1 qq.2.2 P) := by
  refine MT.of rfl (Nat.le_of_ble_eq_true rfl) ?_
  show SW G mX12_siteSignal (p_rm d 0 0) 0 0 0 0 (p_R (some (.int qq.1)) N qq.2.1 qq.2.2 P) 0 [(0, .ref a0), (1, .int x1), (2, .int x2)] [] N I L P
  unfold f_X12_siteSignal at hf
  refine s_sipush (pc := 0) dX12_siteSignal_0 (v := 170) rfl ?_
  refine s_iconst (pc := 3) dX12_siteSignal_3 (v := 4) rfl ?_
  refine s_iload_n (pc := 4) dX12_siteSignal_4 1 rfl rfl ?_
  refine s_imul (pc := 5) dX12_siteSignal_5 ?_
  refine s_iadd (pc := 6) dX12_siteSignal_6 ?_
  refine s_istore_n (pc := 7) (lo' := [(3, .int (170 + (4 * x1))), (0, .ref a0), (1, .int x1), (2, .int x2)]) dX12_siteSignal_7 rfl (Nat.le_of_ble_eq_true rfl) rfl ?_
  refine s_aload_n (pc := 8) dX12_siteSignal_8 1 rfl rfl ?_
  refine s_aload_n (pc := 9) dX12_siteSignal_9 1 rfl rfl ?_
  obtain ⟨q1, h2, hf⟩ := p_bd hf
  have t3 : p_tp N q1 0 := WT.get hW ha0 h2
  refine x_getR (pc := 10) dX12_siteSignal_10 fl_X12_7 rfl ha0 h2 ?_
  refine s_iload_n (pc := 13) dX12_siteSignal_13 0 rfl rfl ?_
  obtain ⟨c4, hf⟩ := p_ckx hf
  refine x_iald (pc := 14) dX12_siteSignal_14 t3 c4 ?_
  refine s_aload_n (pc := 15) dX12_siteSignal_15 1 rfl rfl ?_
  obtain ⟨q5, h6, hf⟩ := p_bd hf
  have t7 : p_tp N q5 0 := WT.get hW ha0 h6
  refine x_getR (pc := 16) dX12_siteSignal_16 fl_X12_7 rfl ha0 h6 ?_
  refine s_iload_n (pc := 19) dX12_siteSignal_19 0 rfl rfl ?_
  refine s_iconst (pc := 20) dX12_siteSignal_20 (v := 1) rfl ?_
  refine s_iadd (pc := 21) dX12_siteSignal_21 ?_
  obtain ⟨c8, hf⟩ := p_ckx hf
  refine x_iald (pc := 22) dX12_siteSignal_22 t7 c8 ?_
  refine s_aload_n (pc := 23) dX12_siteSignal_23 1 rfl rfl ?_
  obtain ⟨q9, h10, hf⟩ := p_bd hf
  have t11 : p_tp N q9 0 := WT.get hW ha0 h10
  refine x_getR (pc := 24) dX12_siteSignal_24 fl_X12_7 rfl ha0 h10 ?_
  refine s_iload_n (pc := 27) dX12_siteSignal_27 0 rfl rfl ?_
  refine s_iconst (pc := 28) dX12_siteSignal_28 (v := 2) rfl ?_
  refine s_iadd (pc := 29) dX12_siteSignal_29 ?_
  obtain ⟨c12, hf⟩ := p_ckx hf
  refine x_iald (pc := 30) dX12_siteSignal_30 t11 c12 ?_
  obtain ⟨q13, h14, hf⟩ := p_bd hf
  refine y_callV0 (pc := 31) dX12_siteSignal_31 (c_X12_from (p_dd hd (by decide)) hW ha0 h14) mk_X12_from mv_X12_from ml_X12_221 rfl rfl (Nat.le_of_ble_eq_true rfl) ha0 rfl (p_d1 hd (by decide)) (Nat.le_of_ble_eq_true rfl) ?_
  refine s_aload_n (pc := 34) dX12_siteSignal_34 1 rfl rfl ?_
  refine s_aload_n (pc := 35) dX12_siteSignal_35 1 rfl rfl ?_
  obtain ⟨q15, h16, hf⟩ := p_bd hf
  have t17 : p_tp N q15 0 := WT.get hW ha0 h16
  refine x_getR (pc := 36) dX12_siteSignal_36 fl_X12_7 rfl ha0 h16 ?_
  refine s_sipush (pc := 39) dX12_siteSignal_39 (v := 202) rfl ?_
  refine s_iconst (pc := 42) dX12_siteSignal_42 (v := 2) rfl ?_
  refine s_iload_n (pc := 43) dX12_siteSignal_43 3 rfl rfl ?_
  refine s_imul (pc := 44) dX12_siteSignal_44 ?_
  refine s_iadd (pc := 45) dX12_siteSignal_45 ?_
  obtain ⟨c18, hf⟩ := p_ckx hf
  refine x_iald (pc := 46) dX12_siteSignal_46 t17 c18 ?_
  refine s_aload_n (pc := 47) dX12_siteSignal_47 1 rfl rfl ?_
  obtain ⟨q19, h20, hf⟩ := p_bd hf
  have t21 : p_tp N q19 0 := WT.get hW ha0 h20
  refine x_getR (pc := 48) dX12_siteSignal_48 fl_X12_7 rfl ha0 h20 ?_
  refine s_sipush (pc := 51) dX12_siteSignal_51 (v := 202) rfl ?_
  refine s_iconst (pc := 54) dX12_siteSignal_54 (v := 2) rfl ?_
  refine s_iload_n (pc := 55) dX12_siteSignal_55 3 rfl rfl ?_
  refine s_imul (pc := 56) dX12_siteSignal_56 ?_
  refine s_iadd (pc := 57) dX12_siteSignal_57 ?_
  refine s_iconst (pc := 58) dX12_siteSignal_58 (v := 1) rfl ?_
  refine s_iadd (pc := 59) dX12_siteSignal_59 ?_
  obtain ⟨c22, hf⟩ := p_ckx hf
  refine x_iald (pc := 60) dX12_siteSignal_60 t21 c22 ?_
  obtain ⟨q23, h24, hf⟩ := p_bd hf
  refine y_callV0 (pc := 61) dX12_siteSignal_61 (c_X12_tries (p_dd hd (by decide)) hW ha0 h24) mk_X12_tries mv_X12_tries ml_X12_225 rfl rfl (Nat.le_of_ble_eq_true rfl) ha0 rfl (p_d1 hd (by decide)) (Nat.le_of_ble_eq_true rfl) ?_
  refine s_aload_n (pc := 64) dX12_siteSignal_64 1 rfl rfl ?_
  obtain ⟨q25, h26, hf⟩ := p_bd hf
  refine y_callV1 (pc := 65) dX12_siteSignal_65 (c_X12_sum (p_dd hd (by decide)) hW ha0 h26) mk_X12_sum mv_X12_sum ml_X12_240 rfl rfl (Nat.le_of_ble_eq_true rfl) ha0 rfl (p_d1 hd (by decide)) (Nat.le_of_ble_eq_true rfl) ?_
  cases hf
  exact s_ireturn (pc := 68) dX12_siteSignal_68 rfl rfl ⟨rfl, rfl, rfl, rfl, rfl⟩
def f_X12_serves (n : Nat) (N : pN) (I : pI) (L : pL) (P : pR) (a0 : Nat) (x1 : Int32) (x2 : Int32) : Option (Int32 × pI × pL) :=
  Option.bind (f_X12_isOf N I P a0 x1 2) fun q1 =>
  (if q1 = 0 then
    some ((-1), I, L)
  else
    Option.bind (f_X12_isOf N I P a0 x2 3) fun q3 =>
    (if q3 = 0 then
      some ((-1), I, L)
    else
      Option.bind (f_X12_siteSignal n N I L P a0 x1 x2) fun q5 =>
      some (q5.1, q5.2.1, q5.2.2)))
theorem c_X12_serves {G : pG} {d : Nat} {n : Nat} {N : pN} {I : pI} {L : pL} {P : pR} {a0 : Nat} {x1 : Int32} {x2 : Int32} {qq : Int32 × pI × pL} (hd : 8 ≤ d) (hW : WT N P) (ha0 : p_tp N a0 15) (hf : f_X12_serves n N I L P a0 x1 x2 = some qq) : MT G mX12_serves d 0 0 [.ref a0, .int x1, .int x2] N I L P (p_R (some (.int qq.1)) N qq.2.1 qq.2.2 P) := by
  refine MT.of rfl (Nat.le_of_ble_eq_true rfl) ?_
  show SW G mX12_serves (p_rm d 0 0) 0 0 0 0 (p_R (some (.int qq.1)) N qq.2.1 qq.2.2 P) 0 [(0, .ref a0), (1, .int x1), (2, .int x2)] [] N I L P
  unfold f_X12_serves at hf
  refine s_aload_n (pc := 0) dX12_serves_0 0 rfl rfl ?_
  refine s_iload_n (pc := 1) dX12_serves_1 1 rfl rfl ?_
  refine s_iconst (pc := 2) dX12_serves_2 (v := 2) rfl ?_
  obtain ⟨q1, h2, hf⟩ := p_bd hf
  refine y_callV1 (pc := 3) dX12_serves_3 (c_X12_isOf (p_dd hd (by decide)) hW ha0 h2) mk_X12_isOf mv_X12_isOf ml_X12_80 rfl rfl (Nat.le_of_ble_eq_true rfl) ha0 rfl (p_d1 hd (by decide)) (Nat.le_of_ble_eq_true rfl) ?_
  refine s_if_eq (pc := 6) (tgt := 27) dX12_serves_6 rfl (fun hc => ?_) (fun hc => ?_)
  · replace hf := p_ps hf hc
    refine s_iconst (pc := 27) dX12_serves_27 (v := -1) rfl ?_
    cases hf
    exact s_ireturn (pc := 28) dX12_serves_28 rfl rfl ⟨rfl, rfl, rfl, rfl, rfl⟩
  · replace hf := p_ng hf hc
    refine s_aload_n (pc := 9) dX12_serves_9 0 rfl rfl ?_
    refine s_iload_n (pc := 10) dX12_serves_10 2 rfl rfl ?_
    refine s_iconst (pc := 11) dX12_serves_11 (v := 3) rfl ?_
    obtain ⟨q3, h4, hf⟩ := p_bd hf
    refine y_callV1 (pc := 12) dX12_serves_12 (c_X12_isOf (p_dd hd (by decide)) hW ha0 h4) mk_X12_isOf mv_X12_isOf ml_X12_80 rfl rfl (Nat.le_of_ble_eq_true rfl) ha0 rfl (p_d1 hd (by decide)) (Nat.le_of_ble_eq_true rfl) ?_
    refine s_if_eq (pc := 15) (tgt := 27) dX12_serves_15 rfl (fun hc => ?_) (fun hc => ?_)
    · replace hf := p_ps hf hc
      refine s_iconst (pc := 27) dX12_serves_27 (v := -1) rfl ?_
      cases hf
      exact s_ireturn (pc := 28) dX12_serves_28 rfl rfl ⟨rfl, rfl, rfl, rfl, rfl⟩
    · replace hf := p_ng hf hc
      refine s_aload_n (pc := 18) dX12_serves_18 0 rfl rfl ?_
      refine s_iload_n (pc := 19) dX12_serves_19 1 rfl rfl ?_
      refine s_iload_n (pc := 20) dX12_serves_20 2 rfl rfl ?_
      obtain ⟨q5, h6, hf⟩ := p_bd hf
      refine y_callV1 (pc := 21) dX12_serves_21 (c_X12_siteSignal (p_dd hd (by decide)) hW ha0 h6) mk_X12_siteSignal mv_X12_siteSignal ml_X12_257 rfl rfl (Nat.le_of_ble_eq_true rfl) ha0 rfl (p_d1 hd (by decide)) (Nat.le_of_ble_eq_true rfl) ?_
      refine s_goto (pc := 24) (tgt := 28) dX12_serves_24 rfl ?_
      cases hf
      exact s_ireturn (pc := 28) dX12_serves_28 rfl rfl ⟨rfl, rfl, rfl, rfl, rfl⟩
def B_X12_covers_32 (n : Nat) (N : pN) (P : pR) (a0 : Nat) (x2 : Int32) (rec1 : (Int32 × pI × pL) → Option (pI × pL)) (s1 : Int32 × pI × pL) : Option (pI × pL) :=
  Option.bind (P a0 0) fun q21 =>
  p_ck (p_ib N q21 3) <|
  (if (s1.2.1 q21 (Int32.toNatClampNeg 3)) ≤ s1.1 then
    some (s1.2.1, s1.2.2)
  else
    Option.bind (P a0 22) fun q25 =>
    p_ck (p_ib N q25 x2) <|
    Option.bind (f_X12_siteSignal n N s1.2.1 s1.2.2 P a0 x2 s1.1) fun q29 =>
    Option.bind (P a0 0) fun q31 =>
    p_ck (p_ib N q31 15) <|
    p_let (α := Int32) ((if q29.1 < (q29.2.1 q31 (Int32.toNatClampNeg 15)) then
      0
    else
      1 <<< (s1.1 &&& 31))) fun t35 =>
    p_ck (p_ib N q25 x2) <|
    p_let (p_u q29.2.1 q25 (Int32.toNatClampNeg x2) ((s1.2.1 q25 (Int32.toNatClampNeg x2)) ||| t35)) fun I38 =>
    rec1 (s1.1 + 1, I38, q29.2.2))
def B_X12_covers_13 (n : Nat) (N : pN) (P : pR) (a0 : Nat) (rec0 : (Int32 × pI × pL) → Option (pI × pL)) (s0 : Int32 × pI × pL) : Option (pI × pL) :=
  Option.bind (P a0 0) fun q9 =>
  p_ck (p_ib N q9 2) <|
  (if (s0.2.1 q9 (Int32.toNatClampNeg 2)) ≤ s0.1 then
    some (s0.2.1, s0.2.2)
  else
    Option.bind (P a0 22) fun q13 =>
    p_ck (p_ib N q13 s0.1) <|
    p_let (p_u s0.2.1 q13 (Int32.toNatClampNeg s0.1) 0) fun I17 =>
    Option.bind (p_it (B_X12_covers_32 n N P a0 s0.1) n (0, I17, s0.2.2)) fun t19 =>
    rec0 (s0.1 + 1, t19.1, t19.2))
def B_X12_covers_114 (N : pN) (I : pI) (P : pR) (a0 : Nat) (x3 : Int32) (rec1 : (Int32 × Int32 × Int32 × Int32) → Option (Int32 × Int32 × Int32)) (s1 : Int32 × Int32 × Int32 × Int32) : Option (Int32 × Int32 × Int32) :=
  Option.bind (P a0 0) fun q101 =>
  p_ck (p_ib N q101 2) <|
  (if (I q101 (Int32.toNatClampNeg 2)) ≤ s1.2.2.2 then
    some (s1.1, s1.2.1, s1.2.2.1)
  else
    Option.bind (α := Int32 × Int32 × Int32) ((if ((x3 >>> (s1.2.2.2 &&& 31)) &&& 1) = 0 then
      some (s1.1, s1.2.1, s1.2.2.1)
    else
      Option.bind (P a0 22) fun q107 =>
      p_ck (p_ib N q107 s1.2.2.2) <|
      p_let (s1.1 ||| (I q107 (Int32.toNatClampNeg s1.2.2.2))) fun v111 =>
      Option.bind (P a0 0) fun q113 =>
      p_ck (p_ib N q113 ((170 + (4 * s1.2.2.2)) + 3)) <|
      p_let (s1.2.1 + (I q113 (Int32.toNatClampNeg ((170 + (4 * s1.2.2.2)) + 3)))) fun v117 =>
      some (v111, v117, s1.2.2.1 + 1))) fun t105 =>
    rec1 (t105.1, t105.2.1, t105.2.2, s1.2.2.2 + 1))
def B_X12_covers_90 (n : Nat) (N : pN) (P : pR) (x1 : Int32) (a0 : Nat) (rec0 : (Int32 × Int32 × pI) → Option (Int32 × pI)) (s0 : Int32 × Int32 × pI) : Option (Int32 × pI) :=
  Option.bind (P a0 0) fun q95 =>
  p_ck (p_ib N q95 2) <|
  (if (1 <<< ((s0.2.2 q95 (Int32.toNatClampNeg 2)) &&& 31)) ≤ s0.2.1 then
    some (s0.1, s0.2.2)
  else
    Option.bind (p_it (B_X12_covers_114 N s0.2.2 P a0 s0.2.1) n (0, 0, 0, 0)) fun t99 =>
    Option.bind (α := Int32 × pI) ((if t99.1 = x1 then
      (if s0.1 = 0 then
        p_let (p_u s0.2.2 a0 23 t99.2.1) fun I140 =>
        p_let (p_u I140 a0 24 t99.2.2) fun I142 =>
        p_let (p_u I142 a0 25 s0.2.1) fun I144 =>
        some (1, I144)
      else
        (if (s0.2.2 a0 23) < t99.2.1 then
          some (s0.1, s0.2.2)
        else
          (if t99.2.1 = (s0.2.2 a0 23) then
            (if t99.2.2 < (s0.2.2 a0 24) then
              p_let (p_u s0.2.2 a0 23 t99.2.1) fun I152 =>
              p_let (p_u I152 a0 24 t99.2.2) fun I154 =>
              p_let (p_u I154 a0 25 s0.2.1) fun I156 =>
              some (1, I156)
            else
              some (s0.1, s0.2.2))
          else
            p_let (p_u s0.2.2 a0 23 t99.2.1) fun I146 =>
            p_let (p_u I146 a0 24 t99.2.2) fun I148 =>
            p_let (p_u I148 a0 25 s0.2.1) fun I150 =>
            some (1, I150))))
    else
      some (s0.1, s0.2.2))) fun t138 =>
    rec0 (t138.1, s0.2.1 + 1, t138.2))
def f_X12_covers (n : Nat) (N : pN) (I : pI) (L : pL) (P : pR) (a0 : Nat) : Option (Int32 × pI × pL) :=
  Option.bind (P a0 0) fun q1 =>
  p_ck (p_ib N q1 3) <|
  p_let ((1 <<< ((I q1 (Int32.toNatClampNeg 3)) &&& 31)) - 1) fun v5 =>
  Option.bind (p_it (B_X12_covers_13 n N P a0) n (0, I, L)) fun t7 =>
  Option.bind (p_it (B_X12_covers_90 n N P v5 a0) n (0, 0, t7.1)) fun t93 =>
  p_ck (decide (t93.1 = 0 ∨ t93.1 = 1)) <|
  some (t93.1, t93.2, t7.2)
theorem c_X12_covers {G : pG} {d : Nat} {n : Nat} {N : pN} {I : pI} {L : pL} {P : pR} {a0 : Nat} {qq : Int32 × pI × pL} (hd : 8 ≤ d) (hW : WT N P) (ha0 : p_tp N a0 15) (hf : f_X12_covers n N I L P a0 = some qq) : MT G mX12_covers d 0 0 [.ref a0] N I L P (p_R (some (.int qq.1)) N qq.2.1 qq.2.2 P) := by
  refine MT.of rfl (Nat.le_of_ble_eq_true rfl) ?_
  show SW G mX12_covers (p_rm d 0 0) 0 0 0 0 (p_R (some (.int qq.1)) N qq.2.1 qq.2.2 P) 0 [(0, .ref a0)] [] N I L P
  unfold f_X12_covers at hf
  refine s_iconst (pc := 0) dX12_covers_0 (v := 1) rfl ?_
  refine s_aload_n (pc := 1) dX12_covers_1 0 rfl rfl ?_
  obtain ⟨q1, h2, hf⟩ := p_bd hf
  have t3 : p_tp N q1 0 := WT.get hW ha0 h2
  refine x_getR (pc := 2) dX12_covers_2 fl_X12_7 rfl ha0 h2 ?_
  refine s_iconst (pc := 5) dX12_covers_5 (v := 3) rfl ?_
  obtain ⟨c4, hf⟩ := p_ckx hf
  refine x_iald (pc := 6) dX12_covers_6 t3 c4 ?_
  refine s_ishl (pc := 7) dX12_covers_7 ?_
  refine s_iconst (pc := 8) dX12_covers_8 (v := 1) rfl ?_
  refine s_isub (pc := 9) dX12_covers_9 ?_
  refine s_topi (fun v5 e6 => ?_)
  replace hf := p_lx hf e6
  refine s_istore_n (pc := 10) (lo' := [(1, .int v5), (0, .ref a0)]) dX12_covers_10 rfl (Nat.le_of_ble_eq_true rfl) rfl ?_
  refine s_iconst (pc := 11) dX12_covers_11 (v := 0) rfl ?_
  refine s_istore_n (pc := 12) (lo' := [(2, .int 0), (1, .int v5), (0, .ref a0)]) dX12_covers_12 rfl (Nat.le_of_ble_eq_true rfl) rfl ?_
  obtain ⟨t7, hg, hf⟩ := p_bd hf
  have k8 : SW G mX12_covers (p_rm d 0 0) 0 0 0 0 (p_R (some (.int qq.1)) N qq.2.1 qq.2.2 P) 86 [(1, .int v5), (0, .ref a0)] [] N t7.1 t7.2 P := by
    refine s_iconst (pc := 86) dX12_covers_86 (v := 0) rfl ?_
    refine s_istore_n (pc := 87) (lo' := [(2, .int 0), (1, .int v5), (0, .ref a0)]) dX12_covers_87 rfl (Nat.le_of_ble_eq_true rfl) rfl ?_
    refine s_iconst (pc := 88) dX12_covers_88 (v := 0) rfl ?_
    refine s_istore_n (pc := 89) (lo' := [(3, .int 0), (2, .int 0), (1, .int v5), (0, .ref a0)]) dX12_covers_89 rfl (Nat.le_of_ble_eq_true rfl) rfl ?_
    obtain ⟨t93, hg, hf⟩ := p_bd hf
    have k94 : SW G mX12_covers (p_rm d 0 0) 0 0 0 0 (p_R (some (.int qq.1)) N qq.2.1 qq.2.2 P) 243 [(2, .int t93.1)] [] N t93.2 t7.2 P := by
      refine s_iload_n (pc := 243) dX12_covers_243 0 rfl rfl ?_
      obtain ⟨c204, hf⟩ := p_ckx hf
      cases hf
      exact s_ireturn (pc := 244) dX12_covers_244 rfl (p_nr (of_decide_eq_true c204)) ⟨rfl, rfl, rfl, rfl, rfl⟩
    replace hf := hg
    have k158 : ∀ (k : Nat) (s0 : Int32 × Int32 × pI), p_it (B_X12_covers_90 n N P v5 a0) k s0 = some t93 → (SW G mX12_covers (p_rm d 0 0) 0 0 0 0 (p_R (some (.int qq.1)) N qq.2.1 qq.2.2 P) 90 [(1, .int v5), (0, .ref a0), (2, .int s0.1), (3, .int s0.2.1)] [] N s0.2.2 t7.2 P) := p_it_ind (C := fun (s0 : Int32 × Int32 × pI) => SW G mX12_covers (p_rm d 0 0) 0 0 0 0 (p_R (some (.int qq.1)) N qq.2.1 qq.2.2 P) 90 [(1, .int v5), (0, .ref a0), (2, .int s0.1), (3, .int s0.2.1)] [] N s0.2.2 t7.2 P) (by
      intro rec0 hrec0 s0 hf
      unfold B_X12_covers_90 at hf
      refine s_iload_n (pc := 90) dX12_covers_90 3 rfl rfl ?_
      refine s_iconst (pc := 91) dX12_covers_91 (v := 1) rfl ?_
      refine s_aload_n (pc := 92) dX12_covers_92 1 rfl rfl ?_
      obtain ⟨q159, h160, hf⟩ := p_bd hf
      have t161 : p_tp N q159 0 := WT.get hW ha0 h160
      refine x_getR (pc := 93) dX12_covers_93 fl_X12_7 rfl ha0 h160 ?_
      refine s_iconst (pc := 96) dX12_covers_96 (v := 2) rfl ?_
      obtain ⟨c162, hf⟩ := p_ckx hf
      refine x_iald (pc := 97) dX12_covers_97 t161 c162 ?_
      refine s_ishl (pc := 98) dX12_covers_98 ?_
      refine s_icmp_ge (pc := 99) (tgt := 243) dX12_covers_99 rfl (fun hc => ?_) (fun hc => ?_)
      · replace hf := p_ps hf hc
        cases hf
        exact s_lo [2] rfl (k94)
      · replace hf := p_ng hf hc
        refine s_iconst (pc := 102) dX12_covers_102 (v := 0) rfl ?_
        refine s_istore (pc := 103) (lo' := [(4, .int 0), (1, .int v5), (0, .ref a0), (2, .int s0.1), (3, .int s0.2.1)]) dX12_covers_103 (Nat.le_of_ble_eq_true rfl) rfl ?_
        refine s_iconst (pc := 105) dX12_covers_105 (v := 0) rfl ?_
        refine s_istore (pc := 106) (lo' := [(5, .int 0), (4, .int 0), (1, .int v5), (0, .ref a0), (2, .int s0.1), (3, .int s0.2.1)]) dX12_covers_106 (Nat.le_of_ble_eq_true rfl) rfl ?_
        refine s_iconst (pc := 108) dX12_covers_108 (v := 0) rfl ?_
        refine s_istore (pc := 109) (lo' := [(6, .int 0), (5, .int 0), (4, .int 0), (1, .int v5), (0, .ref a0), (2, .int s0.1), (3, .int s0.2.1)]) dX12_covers_109 (Nat.le_of_ble_eq_true rfl) rfl ?_
        refine s_iconst (pc := 111) dX12_covers_111 (v := 0) rfl ?_
        refine s_istore (pc := 112) (lo' := [(7, .int 0), (6, .int 0), (5, .int 0), (4, .int 0), (1, .int v5), (0, .ref a0), (2, .int s0.1), (3, .int s0.2.1)]) dX12_covers_112 (Nat.le_of_ble_eq_true rfl) rfl ?_
        obtain ⟨t163, hg, hf⟩ := p_bd hf
        have k164 : SW G mX12_covers (p_rm d 0 0) 0 0 0 0 (p_R (some (.int qq.1)) N qq.2.1 qq.2.2 P) 178 [(1, .int v5), (0, .ref a0), (2, .int s0.1), (3, .int s0.2.1), (4, .int t163.1), (5, .int t163.2.1), (6, .int t163.2.2)] [] N s0.2.2 t7.2 P := by
          refine s_iload (pc := 178) dX12_covers_178 4 rfl ?_
          refine s_iload_n (pc := 180) dX12_covers_180 0 rfl rfl ?_
          obtain ⟨t184, hg, hf⟩ := p_bd hf
          have k185 : SW G mX12_covers (p_rm d 0 0) 0 0 0 0 (p_R (some (.int qq.1)) N qq.2.1 qq.2.2 P) 237 [(1, .int v5), (0, .ref a0), (3, .int s0.2.1), (2, .int t184.1)] [] N t184.2 t7.2 P := by
            refine s_iinc (pc := 237) (lo' := [(3, .int (s0.2.1 + 1)), (1, .int v5), (0, .ref a0), (2, .int t184.1)]) dX12_covers_237 2 rfl (v := s0.2.1 + 1) rfl (Nat.le_of_ble_eq_true rfl) rfl ?_
            refine s_goto (pc := 240) (tgt := 90) dX12_covers_240 rfl ?_
            exact s_lo [1, 2, 3, 0] rfl (hrec0 (t184.1, s0.2.1 + 1, t184.2) hf)
          replace hf := hg
          refine s_icmp_ne (pc := 181) (tgt := 237) dX12_covers_181 rfl (fun hc => ?_) (fun hc => ?_)
          · replace hf := p_ng hf hc
            cases hf
            exact s_lo [0, 1, 3, 2] rfl (k185)
          · replace hf := p_ps hf hc
            refine s_iload_n (pc := 184) dX12_covers_184 2 rfl rfl ?_
            refine s_if_eq (pc := 185) (tgt := 218) dX12_covers_185 rfl (fun hc => ?_) (fun hc => ?_)
            · replace hf := p_ps hf hc
              refine s_iconst (pc := 218) dX12_covers_218 (v := 1) rfl ?_
              refine s_istore_n (pc := 219) (lo' := [(2, .int 1), (1, .int v5), (0, .ref a0), (3, .int s0.2.1), (4, .int t163.1), (5, .int t163.2.1), (6, .int t163.2.2)]) dX12_covers_219 rfl (Nat.le_of_ble_eq_true rfl) rfl ?_
              refine s_aload_n (pc := 220) dX12_covers_220 2 rfl rfl ?_
              refine s_iload (pc := 221) dX12_covers_221 5 rfl ?_
              refine x_putI (pc := 223) dX12_covers_223 fl_X12_260 (Or.inl rfl) rfl ha0 ?_
              refine s_nmI (fun I186 e187 => ?_)
              replace hf := p_lx hf e187
              refine s_aload_n (pc := 226) dX12_covers_226 2 rfl rfl ?_
              refine s_iload (pc := 227) dX12_covers_227 6 rfl ?_
              refine x_putI (pc := 229) dX12_covers_229 fl_X12_263 (Or.inl rfl) rfl ha0 ?_
              refine s_nmI (fun I188 e189 => ?_)
              replace hf := p_lx hf e189
              refine s_aload_n (pc := 232) dX12_covers_232 2 rfl rfl ?_
              refine s_iload_n (pc := 233) dX12_covers_233 3 rfl rfl ?_
              refine x_putI (pc := 234) dX12_covers_234 fl_X12_266 (Or.inl rfl) rfl ha0 ?_
              refine s_nmI (fun I190 e191 => ?_)
              replace hf := p_lx hf e191
              cases hf
              exact s_lo [1, 2, 3, 0] rfl (k185)
            · replace hf := p_ng hf hc
              refine s_iload (pc := 188) dX12_covers_188 5 rfl ?_
              refine s_aload_n (pc := 190) dX12_covers_190 1 rfl rfl ?_
              refine x_getI (pc := 191) dX12_covers_191 fl_X12_260 rfl ha0 ?_
              refine s_icmp_gt (pc := 194) (tgt := 237) dX12_covers_194 rfl (fun hc => ?_) (fun hc => ?_)
              · replace hf := p_ps hf hc
                cases hf
                exact s_lo [0, 1, 3, 2] rfl (k185)
              · replace hf := p_ng hf hc
                refine s_iload (pc := 197) dX12_covers_197 5 rfl ?_
                refine s_aload_n (pc := 199) dX12_covers_199 1 rfl rfl ?_
                refine x_getI (pc := 200) dX12_covers_200 fl_X12_260 rfl ha0 ?_
                refine s_icmp_ne (pc := 203) (tgt := 218) dX12_covers_203 rfl (fun hc => ?_) (fun hc => ?_)
                · replace hf := p_ng hf hc
                  refine s_iconst (pc := 218) dX12_covers_218 (v := 1) rfl ?_
                  refine s_istore_n (pc := 219) (lo' := [(2, .int 1), (1, .int v5), (0, .ref a0), (3, .int s0.2.1), (4, .int t163.1), (5, .int t163.2.1), (6, .int t163.2.2)]) dX12_covers_219 rfl (Nat.le_of_ble_eq_true rfl) rfl ?_
                  refine s_aload_n (pc := 220) dX12_covers_220 2 rfl rfl ?_
                  refine s_iload (pc := 221) dX12_covers_221 5 rfl ?_
                  refine x_putI (pc := 223) dX12_covers_223 fl_X12_260 (Or.inl rfl) rfl ha0 ?_
                  refine s_nmI (fun I192 e193 => ?_)
                  replace hf := p_lx hf e193
                  refine s_aload_n (pc := 226) dX12_covers_226 2 rfl rfl ?_
                  refine s_iload (pc := 227) dX12_covers_227 6 rfl ?_
                  refine x_putI (pc := 229) dX12_covers_229 fl_X12_263 (Or.inl rfl) rfl ha0 ?_
                  refine s_nmI (fun I194 e195 => ?_)
                  replace hf := p_lx hf e195
                  refine s_aload_n (pc := 232) dX12_covers_232 2 rfl rfl ?_
                  refine s_iload_n (pc := 233) dX12_covers_233 3 rfl rfl ?_
                  refine x_putI (pc := 234) dX12_covers_234 fl_X12_266 (Or.inl rfl) rfl ha0 ?_
                  refine s_nmI (fun I196 e197 => ?_)
                  replace hf := p_lx hf e197
                  cases hf
                  exact s_lo [1, 2, 3, 0] rfl (k185)
                · replace hf := p_ps hf hc
                  refine s_iload (pc := 206) dX12_covers_206 6 rfl ?_
                  refine s_aload_n (pc := 208) dX12_covers_208 1 rfl rfl ?_
                  refine x_getI (pc := 209) dX12_covers_209 fl_X12_263 rfl ha0 ?_
                  refine s_icmp_lt (pc := 212) (tgt := 218) dX12_covers_212 rfl (fun hc => ?_) (fun hc => ?_)
                  · replace hf := p_ps hf hc
                    refine s_iconst (pc := 218) dX12_covers_218 (v := 1) rfl ?_
                    refine s_istore_n (pc := 219) (lo' := [(2, .int 1), (1, .int v5), (0, .ref a0), (3, .int s0.2.1), (4, .int t163.1), (5, .int t163.2.1), (6, .int t163.2.2)]) dX12_covers_219 rfl (Nat.le_of_ble_eq_true rfl) rfl ?_
                    refine s_aload_n (pc := 220) dX12_covers_220 2 rfl rfl ?_
                    refine s_iload (pc := 221) dX12_covers_221 5 rfl ?_
                    refine x_putI (pc := 223) dX12_covers_223 fl_X12_260 (Or.inl rfl) rfl ha0 ?_
                    refine s_nmI (fun I198 e199 => ?_)
                    replace hf := p_lx hf e199
                    refine s_aload_n (pc := 226) dX12_covers_226 2 rfl rfl ?_
                    refine s_iload (pc := 227) dX12_covers_227 6 rfl ?_
                    refine x_putI (pc := 229) dX12_covers_229 fl_X12_263 (Or.inl rfl) rfl ha0 ?_
                    refine s_nmI (fun I200 e201 => ?_)
                    replace hf := p_lx hf e201
                    refine s_aload_n (pc := 232) dX12_covers_232 2 rfl rfl ?_
                    refine s_iload_n (pc := 233) dX12_covers_233 3 rfl rfl ?_
                    refine x_putI (pc := 234) dX12_covers_234 fl_X12_266 (Or.inl rfl) rfl ha0 ?_
                    refine s_nmI (fun I202 e203 => ?_)
                    replace hf := p_lx hf e203
                    cases hf
                    exact s_lo [1, 2, 3, 0] rfl (k185)
                  · replace hf := p_ng hf hc
                    refine s_goto (pc := 215) (tgt := 237) dX12_covers_215 rfl ?_
                    cases hf
                    exact s_lo [0, 1, 3, 2] rfl (k185)
        replace hf := hg
        have k165 : ∀ (k : Nat) (s1 : Int32 × Int32 × Int32 × Int32), p_it (B_X12_covers_114 N s0.2.2 P a0 s0.2.1) k s1 = some t163 → (SW G mX12_covers (p_rm d 0 0) 0 0 0 0 (p_R (some (.int qq.1)) N qq.2.1 qq.2.2 P) 114 [(1, .int v5), (0, .ref a0), (2, .int s0.1), (3, .int s0.2.1), (4, .int s1.1), (5, .int s1.2.1), (6, .int s1.2.2.1), (7, .int s1.2.2.2)] [] N s0.2.2 t7.2 P) := p_it_ind (C := fun (s1 : Int32 × Int32 × Int32 × Int32) => SW G mX12_covers (p_rm d 0 0) 0 0 0 0 (p_R (some (.int qq.1)) N qq.2.1 qq.2.2 P) 114 [(1, .int v5), (0, .ref a0), (2, .int s0.1), (3, .int s0.2.1), (4, .int s1.1), (5, .int s1.2.1), (6, .int s1.2.2.1), (7, .int s1.2.2.2)] [] N s0.2.2 t7.2 P) (by
          intro rec1 hrec1 s1 hf
          unfold B_X12_covers_114 at hf
          refine s_iload (pc := 114) dX12_covers_114 7 rfl ?_
          refine s_aload_n (pc := 116) dX12_covers_116 1 rfl rfl ?_
          obtain ⟨q166, h167, hf⟩ := p_bd hf
          have t168 : p_tp N q166 0 := WT.get hW ha0 h167
          refine x_getR (pc := 117) dX12_covers_117 fl_X12_7 rfl ha0 h167 ?_
          refine s_iconst (pc := 120) dX12_covers_120 (v := 2) rfl ?_
          obtain ⟨c169, hf⟩ := p_ckx hf
          refine x_iald (pc := 121) dX12_covers_121 t168 c169 ?_
          refine s_icmp_ge (pc := 122) (tgt := 178) dX12_covers_122 rfl (fun hc => ?_) (fun hc => ?_)
          · replace hf := p_ps hf hc
            cases hf
            exact s_lo [0, 1, 2, 3, 4, 5, 6] rfl (k164)
          · replace hf := p_ng hf hc
            refine s_iload_n (pc := 125) dX12_covers_125 3 rfl rfl ?_
            refine s_iload (pc := 126) dX12_covers_126 7 rfl ?_
            refine s_ishr (pc := 128) dX12_covers_128 ?_
            refine s_iconst (pc := 129) dX12_covers_129 (v := 1) rfl ?_
            refine s_iand (pc := 130) dX12_covers_130 ?_
            obtain ⟨t170, hg, hf⟩ := p_bd hf
            have k171 : SW G mX12_covers (p_rm d 0 0) 0 0 0 0 (p_R (some (.int qq.1)) N qq.2.1 qq.2.2 P) 172 [(1, .int v5), (0, .ref a0), (2, .int s0.1), (3, .int s0.2.1), (7, .int s1.2.2.2), (4, .int t170.1), (5, .int t170.2.1), (6, .int t170.2.2)] [] N s0.2.2 t7.2 P := by
              refine s_iinc (pc := 172) (lo' := [(7, .int (s1.2.2.2 + 1)), (1, .int v5), (0, .ref a0), (2, .int s0.1), (3, .int s0.2.1), (4, .int t170.1), (5, .int t170.2.1), (6, .int t170.2.2)]) dX12_covers_172 4 rfl (v := s1.2.2.2 + 1) rfl (Nat.le_of_ble_eq_true rfl) rfl ?_
              refine s_goto (pc := 175) (tgt := 114) dX12_covers_175 rfl ?_
              exact s_lo [1, 2, 3, 4, 5, 6, 7, 0] rfl (hrec1 (t170.1, t170.2.1, t170.2.2, s1.2.2.2 + 1) hf)
            replace hf := hg
            refine s_if_ne (pc := 131) (tgt := 137) dX12_covers_131 rfl (fun hc => ?_) (fun hc => ?_)
            · replace hf := p_ng hf hc
              refine s_iload (pc := 137) dX12_covers_137 4 rfl ?_
              refine s_aload_n (pc := 139) dX12_covers_139 1 rfl rfl ?_
              obtain ⟨q172, h173, hf⟩ := p_bd hf
              have t174 : p_tp N q172 0 := WT.get hW ha0 h173
              refine x_getR (pc := 140) dX12_covers_140 fl_X12_44 rfl ha0 h173 ?_
              refine s_iload (pc := 143) dX12_covers_143 7 rfl ?_
              obtain ⟨c175, hf⟩ := p_ckx hf
              refine x_iald (pc := 145) dX12_covers_145 t174 c175 ?_
              refine s_ior (pc := 146) dX12_covers_146 ?_
              refine s_topi (fun v176 e177 => ?_)
              replace hf := p_lx hf e177
              refine s_istore (pc := 147) (lo' := [(4, .int v176), (1, .int v5), (0, .ref a0), (2, .int s0.1), (3, .int s0.2.1), (5, .int s1.2.1), (6, .int s1.2.2.1), (7, .int s1.2.2.2)]) dX12_covers_147 (Nat.le_of_ble_eq_true rfl) rfl ?_
              refine s_iload (pc := 149) dX12_covers_149 5 rfl ?_
              refine s_aload_n (pc := 151) dX12_covers_151 2 rfl rfl ?_
              obtain ⟨q178, h179, hf⟩ := p_bd hf
              have t180 : p_tp N q178 0 := WT.get hW ha0 h179
              refine x_getR (pc := 152) dX12_covers_152 fl_X12_7 rfl ha0 h179 ?_
              refine s_sipush (pc := 155) dX12_covers_155 (v := 170) rfl ?_
              refine s_iconst (pc := 158) dX12_covers_158 (v := 4) rfl ?_
              refine s_iload (pc := 159) dX12_covers_159 7 rfl ?_
              refine s_imul (pc := 161) dX12_covers_161 ?_
              refine s_iadd (pc := 162) dX12_covers_162 ?_
              refine s_iconst (pc := 163) dX12_covers_163 (v := 3) rfl ?_
              refine s_iadd (pc := 164) dX12_covers_164 ?_
              obtain ⟨c181, hf⟩ := p_ckx hf
              refine x_iald (pc := 165) dX12_covers_165 t180 c181 ?_
              refine s_iadd (pc := 166) dX12_covers_166 ?_
              refine s_topi (fun v182 e183 => ?_)
              replace hf := p_lx hf e183
              refine s_istore (pc := 167) (lo' := [(5, .int v182), (4, .int v176), (1, .int v5), (0, .ref a0), (2, .int s0.1), (3, .int s0.2.1), (6, .int s1.2.2.1), (7, .int s1.2.2.2)]) dX12_covers_167 (Nat.le_of_ble_eq_true rfl) rfl ?_
              refine s_iinc (pc := 169) (lo' := [(6, .int (s1.2.2.1 + 1)), (5, .int v182), (4, .int v176), (1, .int v5), (0, .ref a0), (2, .int s0.1), (3, .int s0.2.1), (7, .int s1.2.2.2)]) dX12_covers_169 6 rfl (v := s1.2.2.1 + 1) rfl (Nat.le_of_ble_eq_true rfl) rfl ?_
              cases hf
              exact s_lo [3, 4, 5, 6, 7, 2, 1, 0] rfl (k171)
            · replace hf := p_ps hf hc
              refine s_goto (pc := 134) (tgt := 172) dX12_covers_134 rfl ?_
              cases hf
              exact s_lo [0, 1, 2, 3, 7, 4, 5, 6] rfl (k171))
        exact s_lo [4, 5, 6, 7, 3, 2, 1, 0] rfl (k165 n (0, 0, 0, 0) hf))
    exact s_lo [2, 3, 1, 0] rfl (k158 n (0, 0, t7.1) hf)
  replace hf := hg
  have k60 : ∀ (k : Nat) (s0 : Int32 × pI × pL), p_it (B_X12_covers_13 n N P a0) k s0 = some t7 → (SW G mX12_covers (p_rm d 0 0) 0 0 0 0 (p_R (some (.int qq.1)) N qq.2.1 qq.2.2 P) 13 [(1, .int v5), (0, .ref a0), (2, .int s0.1)] [] N s0.2.1 s0.2.2 P) := p_it_ind (C := fun (s0 : Int32 × pI × pL) => SW G mX12_covers (p_rm d 0 0) 0 0 0 0 (p_R (some (.int qq.1)) N qq.2.1 qq.2.2 P) 13 [(1, .int v5), (0, .ref a0), (2, .int s0.1)] [] N s0.2.1 s0.2.2 P) (by
    intro rec0 hrec0 s0 hf
    unfold B_X12_covers_13 at hf
    refine s_iload_n (pc := 13) dX12_covers_13 2 rfl rfl ?_
    refine s_aload_n (pc := 14) dX12_covers_14 1 rfl rfl ?_
    obtain ⟨q61, h62, hf⟩ := p_bd hf
    have t63 : p_tp N q61 0 := WT.get hW ha0 h62
    refine x_getR (pc := 15) dX12_covers_15 fl_X12_7 rfl ha0 h62 ?_
    refine s_iconst (pc := 18) dX12_covers_18 (v := 2) rfl ?_
    obtain ⟨c64, hf⟩ := p_ckx hf
    refine x_iald (pc := 19) dX12_covers_19 t63 c64 ?_
    refine s_icmp_ge (pc := 20) (tgt := 86) dX12_covers_20 rfl (fun hc => ?_) (fun hc => ?_)
    · replace hf := p_ps hf hc
      cases hf
      exact s_lo [0, 1] rfl (k8)
    · replace hf := p_ng hf hc
      refine s_aload_n (pc := 23) dX12_covers_23 1 rfl rfl ?_
      obtain ⟨q65, h66, hf⟩ := p_bd hf
      have t67 : p_tp N q65 0 := WT.get hW ha0 h66
      refine x_getR (pc := 24) dX12_covers_24 fl_X12_44 rfl ha0 h66 ?_
      refine s_iload_n (pc := 27) dX12_covers_27 2 rfl rfl ?_
      refine s_iconst (pc := 28) dX12_covers_28 (v := 0) rfl ?_
      obtain ⟨c68, hf⟩ := p_ckx hf
      refine x_iast (pc := 29) dX12_covers_29 t67 c68 ?_
      refine s_nmI (fun I69 e70 => ?_)
      replace hf := p_lx hf e70
      refine s_iconst (pc := 30) dX12_covers_30 (v := 0) rfl ?_
      refine s_istore_n (pc := 31) (lo' := [(3, .int 0), (1, .int v5), (0, .ref a0), (2, .int s0.1)]) dX12_covers_31 rfl (Nat.le_of_ble_eq_true rfl) rfl ?_
      obtain ⟨t71, hg, hf⟩ := p_bd hf
      have k72 : SW G mX12_covers (p_rm d 0 0) 0 0 0 0 (p_R (some (.int qq.1)) N qq.2.1 qq.2.2 P) 80 [(1, .int v5), (0, .ref a0), (2, .int s0.1)] [] N t71.1 t71.2 P := by
        refine s_iinc (pc := 80) (lo' := [(2, .int (s0.1 + 1)), (1, .int v5), (0, .ref a0)]) dX12_covers_80 2 rfl (v := s0.1 + 1) rfl (Nat.le_of_ble_eq_true rfl) rfl ?_
        refine s_goto (pc := 83) (tgt := 13) dX12_covers_83 rfl ?_
        exact s_lo [1, 2, 0] rfl (hrec0 (s0.1 + 1, t71.1, t71.2) hf)
      replace hf := hg
      have k73 : ∀ (k : Nat) (s1 : Int32 × pI × pL), p_it (B_X12_covers_32 n N P a0 s0.1) k s1 = some t71 → (SW G mX12_covers (p_rm d 0 0) 0 0 0 0 (p_R (some (.int qq.1)) N qq.2.1 qq.2.2 P) 32 [(1, .int v5), (0, .ref a0), (2, .int s0.1), (3, .int s1.1)] [] N s1.2.1 s1.2.2 P) := p_it_ind (C := fun (s1 : Int32 × pI × pL) => SW G mX12_covers (p_rm d 0 0) 0 0 0 0 (p_R (some (.int qq.1)) N qq.2.1 qq.2.2 P) 32 [(1, .int v5), (0, .ref a0), (2, .int s0.1), (3, .int s1.1)] [] N s1.2.1 s1.2.2 P) (by
        intro rec1 hrec1 s1 hf
        unfold B_X12_covers_32 at hf
        refine s_iload_n (pc := 32) dX12_covers_32 3 rfl rfl ?_
        refine s_aload_n (pc := 33) dX12_covers_33 1 rfl rfl ?_
        obtain ⟨q74, h75, hf⟩ := p_bd hf
        have t76 : p_tp N q74 0 := WT.get hW ha0 h75
        refine x_getR (pc := 34) dX12_covers_34 fl_X12_7 rfl ha0 h75 ?_
        refine s_iconst (pc := 37) dX12_covers_37 (v := 3) rfl ?_
        obtain ⟨c77, hf⟩ := p_ckx hf
        refine x_iald (pc := 38) dX12_covers_38 t76 c77 ?_
        refine s_icmp_ge (pc := 39) (tgt := 80) dX12_covers_39 rfl (fun hc => ?_) (fun hc => ?_)
        · replace hf := p_ps hf hc
          cases hf
          exact s_lo [0, 1, 2] rfl (k72)
        · replace hf := p_ng hf hc
          refine s_aload_n (pc := 42) dX12_covers_42 1 rfl rfl ?_
          obtain ⟨q78, h79, hf⟩ := p_bd hf
          have t80 : p_tp N q78 0 := WT.get hW ha0 h79
          refine x_getR (pc := 43) dX12_covers_43 fl_X12_44 rfl ha0 h79 ?_
          refine s_iload_n (pc := 46) dX12_covers_46 2 rfl rfl ?_
          refine s_dup2_11 (pc := 47) dX12_covers_47 rfl rfl ?_
          obtain ⟨c81, hf⟩ := p_ckx hf
          refine x_iald (pc := 48) dX12_covers_48 t80 c81 ?_
          refine s_aload_n (pc := 49) dX12_covers_49 1 rfl rfl ?_
          refine s_iload_n (pc := 50) dX12_covers_50 2 rfl rfl ?_
          refine s_iload_n (pc := 51) dX12_covers_51 3 rfl rfl ?_
          obtain ⟨q82, h83, hf⟩ := p_bd hf
          refine y_callV1 (pc := 52) dX12_covers_52 (c_X12_siteSignal (p_dd hd (by decide)) hW ha0 h83) mk_X12_siteSignal mv_X12_siteSignal ml_X12_257 rfl rfl (Nat.le_of_ble_eq_true rfl) ha0 rfl (p_d1 hd (by decide)) (Nat.le_of_ble_eq_true rfl) ?_
          refine s_aload_n (pc := 55) dX12_covers_55 1 rfl rfl ?_
          obtain ⟨q84, h85, hf⟩ := p_bd hf
          have t86 : p_tp N q84 0 := WT.get hW ha0 h85
          refine x_getR (pc := 56) dX12_covers_56 fl_X12_7 rfl ha0 h85 ?_
          refine s_bipush (pc := 59) dX12_covers_59 (v := 15) rfl ?_
          obtain ⟨c87, hf⟩ := p_ckx hf
          refine x_iald (pc := 61) dX12_covers_61 t86 c87 ?_
          obtain ⟨t88, hg, hf⟩ := p_lx2 hf
          have k89 : SW G mX12_covers (p_rm d 0 0) 0 0 0 0 (p_R (some (.int qq.1)) N qq.2.1 qq.2.2 P) 72 [(1, .int v5), (0, .ref a0), (2, .int s0.1), (3, .int s1.1)] [.int t88, .int (s1.2.1 q78 (Int32.toNatClampNeg s0.1)), .int s0.1, .ref q78] N q82.2.1 q82.2.2 P := by
            refine s_ior (pc := 72) dX12_covers_72 ?_
            obtain ⟨c90, hf⟩ := p_ckx hf
            refine x_iast (pc := 73) dX12_covers_73 t80 c90 ?_
            refine s_nmI (fun I91 e92 => ?_)
            replace hf := p_lx hf e92
            refine s_iinc (pc := 74) (lo' := [(3, .int (s1.1 + 1)), (1, .int v5), (0, .ref a0), (2, .int s0.1)]) dX12_covers_74 3 rfl (v := s1.1 + 1) rfl (Nat.le_of_ble_eq_true rfl) rfl ?_
            refine s_goto (pc := 77) (tgt := 32) dX12_covers_77 rfl ?_
            exact s_lo [1, 2, 3, 0] rfl (hrec1 (s1.1 + 1, I91, q82.2.2) hf)
          replace hf := hg.symm
          refine s_icmp_lt (pc := 62) (tgt := 71) dX12_covers_62 rfl (fun hc => ?_) (fun hc => ?_)
          · replace hf := p_ps hf hc
            refine s_iconst (pc := 71) dX12_covers_71 (v := 0) rfl ?_
            cases hf
            exact s_lo [0, 1, 2, 3] rfl (k89)
          · replace hf := p_ng hf hc
            refine s_iconst (pc := 65) dX12_covers_65 (v := 1) rfl ?_
            refine s_iload_n (pc := 66) dX12_covers_66 3 rfl rfl ?_
            refine s_ishl (pc := 67) dX12_covers_67 ?_
            refine s_goto (pc := 68) (tgt := 72) dX12_covers_68 rfl ?_
            cases hf
            exact s_lo [0, 1, 2, 3] rfl (k89))
      exact s_lo [1, 2, 3, 0] rfl (k73 n (0, I69, s0.2.2) hf))
  exact s_lo [1, 2, 0] rfl (k60 n (0, I, L) hf)
def f_X12_cover (n : Nat) (N : pN) (I : pI) (L : pL) (P : pR) (a0 : Nat) (x1 : Int32) : Option (Int32 × pI × pL) :=
  Option.bind (f_X12_isIn x1 0 2) fun q1 =>
  (if q1 = 0 then
    some ((-1), I, L)
  else
    Option.bind (f_X12_covers n N I L P a0) fun q3 =>
    (if q3.1 = 0 then
      some ((-1), q3.2.1, q3.2.2)
    else
      (if x1 = 0 then
        some (q3.2.1 a0 23, q3.2.1, q3.2.2)
      else
        (if x1 = 1 then
          some (q3.2.1 a0 24, q3.2.1, q3.2.2)
        else
          some (q3.2.1 a0 25, q3.2.1, q3.2.2)))))
theorem c_X12_cover {G : pG} {d : Nat} {n : Nat} {N : pN} {I : pI} {L : pL} {P : pR} {a0 : Nat} {x1 : Int32} {qq : Int32 × pI × pL} (hd : 9 ≤ d) (hW : WT N P) (ha0 : p_tp N a0 15) (hf : f_X12_cover n N I L P a0 x1 = some qq) : MT G mX12_cover d 0 0 [.ref a0, .int x1] N I L P (p_R (some (.int qq.1)) N qq.2.1 qq.2.2 P) := by
  refine MT.of rfl (Nat.le_of_ble_eq_true rfl) ?_
  show SW G mX12_cover (p_rm d 0 0) 0 0 0 0 (p_R (some (.int qq.1)) N qq.2.1 qq.2.2 P) 0 [(0, .ref a0), (1, .int x1)] [] N I L P
  unfold f_X12_cover at hf
  refine s_iload_n (pc := 0) dX12_cover_0 1 rfl rfl ?_
  refine s_iconst (pc := 1) dX12_cover_1 (v := 0) rfl ?_
  refine s_iconst (pc := 2) dX12_cover_2 (v := 2) rfl ?_
  obtain ⟨q1, h2, hf⟩ := p_bd hf
  refine y_callS1 (pc := 3) dX12_cover_3 (c_X12_isIn (p_dd hd (by decide)) hW  h2) mk_X12_isIn mz_X12_isIn ml_X12_68 rfl rfl (Nat.le_of_ble_eq_true rfl) (p_d1 hd (by decide)) (Nat.le_of_ble_eq_true rfl) ?_
  refine s_if_eq (pc := 6) (tgt := 46) dX12_cover_6 rfl (fun hc => ?_) (fun hc => ?_)
  · replace hf := p_ps hf hc
    refine s_iconst (pc := 46) dX12_cover_46 (v := -1) rfl ?_
    cases hf
    exact s_ireturn (pc := 47) dX12_cover_47 rfl rfl ⟨rfl, rfl, rfl, rfl, rfl⟩
  · replace hf := p_ng hf hc
    refine s_aload_n (pc := 9) dX12_cover_9 0 rfl rfl ?_
    obtain ⟨q3, h4, hf⟩ := p_bd hf
    refine y_callV1 (pc := 10) dX12_cover_10 (c_X12_covers (p_dd hd (by decide)) hW ha0 h4) mk_X12_covers mv_X12_covers ml_X12_269 rfl rfl (Nat.le_of_ble_eq_true rfl) ha0 rfl (p_d1 hd (by decide)) (Nat.le_of_ble_eq_true rfl) ?_
    refine s_if_eq (pc := 13) (tgt := 46) dX12_cover_13 rfl (fun hc => ?_) (fun hc => ?_)
    · replace hf := p_ps hf hc
      refine s_iconst (pc := 46) dX12_cover_46 (v := -1) rfl ?_
      cases hf
      exact s_ireturn (pc := 47) dX12_cover_47 rfl rfl ⟨rfl, rfl, rfl, rfl, rfl⟩
    · replace hf := p_ng hf hc
      refine s_iload_n (pc := 16) dX12_cover_16 1 rfl rfl ?_
      refine s_if_ne (pc := 17) (tgt := 27) dX12_cover_17 rfl (fun hc => ?_) (fun hc => ?_)
      · replace hf := p_ng hf hc
        refine s_iload_n (pc := 27) dX12_cover_27 1 rfl rfl ?_
        refine s_iconst (pc := 28) dX12_cover_28 (v := 1) rfl ?_
        refine s_icmp_ne (pc := 29) (tgt := 39) dX12_cover_29 rfl (fun hc => ?_) (fun hc => ?_)
        · replace hf := p_ng hf hc
          refine s_aload_n (pc := 39) dX12_cover_39 0 rfl rfl ?_
          refine x_getI (pc := 40) dX12_cover_40 fl_X12_266 rfl ha0 ?_
          refine s_goto (pc := 43) (tgt := 47) dX12_cover_43 rfl ?_
          cases hf
          exact s_ireturn (pc := 47) dX12_cover_47 rfl rfl ⟨rfl, rfl, rfl, rfl, rfl⟩
        · replace hf := p_ps hf hc
          refine s_aload_n (pc := 32) dX12_cover_32 0 rfl rfl ?_
          refine x_getI (pc := 33) dX12_cover_33 fl_X12_263 rfl ha0 ?_
          refine s_goto (pc := 36) (tgt := 47) dX12_cover_36 rfl ?_
          cases hf
          exact s_ireturn (pc := 47) dX12_cover_47 rfl rfl ⟨rfl, rfl, rfl, rfl, rfl⟩
      · replace hf := p_ps hf hc
        refine s_aload_n (pc := 20) dX12_cover_20 0 rfl rfl ?_
        refine x_getI (pc := 21) dX12_cover_21 fl_X12_260 rfl ha0 ?_
        refine s_goto (pc := 24) (tgt := 47) dX12_cover_24 rfl ?_
        cases hf
        exact s_ireturn (pc := 47) dX12_cover_47 rfl rfl ⟨rfl, rfl, rfl, rfl, rfl⟩
def B_X12_clashes_5 (n : Nat) (N : pN) (P : pR) (a0 : Nat) (x1 : Int32) (x2 : Int32) (rec0 : (Int32 × Int32 × pI × pL) → Option (Int32 × pI × pL)) (s0 : Int32 × Int32 × pI × pL) : Option (Int32 × pI × pL) :=
  Option.bind (P a0 0) fun q3 =>
  p_ck (p_ib N q3 3) <|
  (if (s0.2.2.1 q3 (Int32.toNatClampNeg 3)) ≤ s0.2.1 then
    some (s0.1, s0.2.2.1, s0.2.2.2)
  else
    (if s0.1 = 0 then
      Option.bind (P a0 0) fun q7 =>
      p_ck (p_ib N q7 (202 + (2 * s0.2.1))) <|
      p_let (s0.2.2.1 q7 (Int32.toNatClampNeg (202 + (2 * s0.2.1)))) fun v11 =>
      Option.bind (P a0 0) fun q13 =>
      p_ck (p_ib N q13 ((202 + (2 * s0.2.1)) + 1)) <|
      p_let (s0.2.2.1 q13 (Int32.toNatClampNeg ((202 + (2 * s0.2.1)) + 1))) fun v17 =>
      Option.bind (f_X12_signalOf n N s0.2.2.1 s0.2.2.2 P a0 x1 v11 v17) fun q19 =>
      Option.bind (P a0 0) fun q21 =>
      p_ck (p_ib N q21 15) <|
      Option.bind (α := Int32 × pI × pL) ((if q19.1 < (q19.2.1 q21 (Int32.toNatClampNeg 15)) then
        some (0, q19.2.1, q19.2.2)
      else
        Option.bind (f_X12_signalOf n N q19.2.1 q19.2.2 P a0 x2 v11 v17) fun q27 =>
        Option.bind (P a0 0) fun q29 =>
        p_ck (p_ib N q29 15) <|
        (if q27.1 < (q27.2.1 q29 (Int32.toNatClampNeg 15)) then
          some (0, q27.2.1, q27.2.2)
        else
          some (1, q27.2.1, q27.2.2)))) fun t25 =>
      rec0 (t25.1, s0.2.1 + 1, t25.2.1, t25.2.2)
    else
      some (s0.1, s0.2.2.1, s0.2.2.2)))
def f_X12_clashes (n : Nat) (N : pN) (I : pI) (L : pL) (P : pR) (a0 : Nat) (x1 : Int32) (x2 : Int32) : Option (Int32 × pI × pL) :=
  Option.bind (p_it (B_X12_clashes_5 n N P a0 x1 x2) n (0, 0, I, L)) fun t1 =>
  p_ck (decide (t1.1 = 0 ∨ t1.1 = 1)) <|
  some (t1.1, t1.2.1, t1.2.2)
theorem c_X12_clashes {G : pG} {d : Nat} {n : Nat} {N : pN} {I : pI} {L : pL} {P : pR} {a0 : Nat} {x1 : Int32} {x2 : Int32} {qq : Int32 × pI × pL} (hd : 8 ≤ d) (hW : WT N P) (ha0 : p_tp N a0 15) (hf : f_X12_clashes n N I L P a0 x1 x2 = some qq) : MT G mX12_clashes d 0 0 [.ref a0, .int x1, .int x2] N I L P (p_R (some (.int qq.1)) N qq.2.1 qq.2.2 P) := by
  refine MT.of rfl (Nat.le_of_ble_eq_true rfl) ?_
  show SW G mX12_clashes (p_rm d 0 0) 0 0 0 0 (p_R (some (.int qq.1)) N qq.2.1 qq.2.2 P) 0 [(0, .ref a0), (1, .int x1), (2, .int x2)] [] N I L P
  unfold f_X12_clashes at hf
  refine s_iconst (pc := 0) dX12_clashes_0 (v := 0) rfl ?_
  refine s_istore_n (pc := 1) (lo' := [(3, .int 0), (0, .ref a0), (1, .int x1), (2, .int x2)]) dX12_clashes_1 rfl (Nat.le_of_ble_eq_true rfl) rfl ?_
  refine s_iconst (pc := 2) dX12_clashes_2 (v := 0) rfl ?_
  refine s_istore (pc := 3) (lo' := [(4, .int 0), (3, .int 0), (0, .ref a0), (1, .int x1), (2, .int x2)]) dX12_clashes_3 (Nat.le_of_ble_eq_true rfl) rfl ?_
  obtain ⟨t1, hg, hf⟩ := p_bd hf
  have k2 : SW G mX12_clashes (p_rm d 0 0) 0 0 0 0 (p_R (some (.int qq.1)) N qq.2.1 qq.2.2 P) 102 [(3, .int t1.1)] [] N t1.2.1 t1.2.2 P := by
    refine s_iload_n (pc := 102) dX12_clashes_102 0 rfl rfl ?_
    obtain ⟨c64, hf⟩ := p_ckx hf
    cases hf
    exact s_ireturn (pc := 103) dX12_clashes_103 rfl (p_nr (of_decide_eq_true c64)) ⟨rfl, rfl, rfl, rfl, rfl⟩
  replace hf := hg
  have k33 : ∀ (k : Nat) (s0 : Int32 × Int32 × pI × pL), p_it (B_X12_clashes_5 n N P a0 x1 x2) k s0 = some t1 → (SW G mX12_clashes (p_rm d 0 0) 0 0 0 0 (p_R (some (.int qq.1)) N qq.2.1 qq.2.2 P) 5 [(0, .ref a0), (1, .int x1), (2, .int x2), (3, .int s0.1), (4, .int s0.2.1)] [] N s0.2.2.1 s0.2.2.2 P) := p_it_ind (C := fun (s0 : Int32 × Int32 × pI × pL) => SW G mX12_clashes (p_rm d 0 0) 0 0 0 0 (p_R (some (.int qq.1)) N qq.2.1 qq.2.2 P) 5 [(0, .ref a0), (1, .int x1), (2, .int x2), (3, .int s0.1), (4, .int s0.2.1)] [] N s0.2.2.1 s0.2.2.2 P) (by
    intro rec0 hrec0 s0 hf
    unfold B_X12_clashes_5 at hf
    refine s_iload (pc := 5) dX12_clashes_5 4 rfl ?_
    refine s_aload_n (pc := 7) dX12_clashes_7 0 rfl rfl ?_
    obtain ⟨q34, h35, hf⟩ := p_bd hf
    have t36 : p_tp N q34 0 := WT.get hW ha0 h35
    refine x_getR (pc := 8) dX12_clashes_8 fl_X12_7 rfl ha0 h35 ?_
    refine s_iconst (pc := 11) dX12_clashes_11 (v := 3) rfl ?_
    obtain ⟨c37, hf⟩ := p_ckx hf
    refine x_iald (pc := 12) dX12_clashes_12 t36 c37 ?_
    refine s_icmp_ge (pc := 13) (tgt := 102) dX12_clashes_13 rfl (fun hc => ?_) (fun hc => ?_)
    · replace hf := p_ps hf hc
      cases hf
      exact s_lo [3] rfl (k2)
    · replace hf := p_ng hf hc
      refine s_iload_n (pc := 16) dX12_clashes_16 3 rfl rfl ?_
      refine s_if_ne (pc := 17) (tgt := 102) dX12_clashes_17 rfl (fun hc => ?_) (fun hc => ?_)
      · replace hf := p_ng hf hc
        cases hf
        exact s_lo [3] rfl (k2)
      · replace hf := p_ps hf hc
        refine s_aload_n (pc := 20) dX12_clashes_20 0 rfl rfl ?_
        obtain ⟨q38, h39, hf⟩ := p_bd hf
        have t40 : p_tp N q38 0 := WT.get hW ha0 h39
        refine x_getR (pc := 21) dX12_clashes_21 fl_X12_7 rfl ha0 h39 ?_
        refine s_sipush (pc := 24) dX12_clashes_24 (v := 202) rfl ?_
        refine s_iconst (pc := 27) dX12_clashes_27 (v := 2) rfl ?_
        refine s_iload (pc := 28) dX12_clashes_28 4 rfl ?_
        refine s_imul (pc := 30) dX12_clashes_30 ?_
        refine s_iadd (pc := 31) dX12_clashes_31 ?_
        obtain ⟨c41, hf⟩ := p_ckx hf
        refine x_iald (pc := 32) dX12_clashes_32 t40 c41 ?_
        refine s_topi (fun v42 e43 => ?_)
        replace hf := p_lx hf e43
        refine s_istore (pc := 33) (lo' := [(5, .int v42), (0, .ref a0), (1, .int x1), (2, .int x2), (3, .int s0.1), (4, .int s0.2.1)]) dX12_clashes_33 (Nat.le_of_ble_eq_true rfl) rfl ?_
        refine s_aload_n (pc := 35) dX12_clashes_35 1 rfl rfl ?_
        obtain ⟨q44, h45, hf⟩ := p_bd hf
        have t46 : p_tp N q44 0 := WT.get hW ha0 h45
        refine x_getR (pc := 36) dX12_clashes_36 fl_X12_7 rfl ha0 h45 ?_
        refine s_sipush (pc := 39) dX12_clashes_39 (v := 202) rfl ?_
        refine s_iconst (pc := 42) dX12_clashes_42 (v := 2) rfl ?_
        refine s_iload (pc := 43) dX12_clashes_43 5 rfl ?_
        refine s_imul (pc := 45) dX12_clashes_45 ?_
        refine s_iadd (pc := 46) dX12_clashes_46 ?_
        refine s_iconst (pc := 47) dX12_clashes_47 (v := 1) rfl ?_
        refine s_iadd (pc := 48) dX12_clashes_48 ?_
        obtain ⟨c47, hf⟩ := p_ckx hf
        refine x_iald (pc := 49) dX12_clashes_49 t46 c47 ?_
        refine s_topi (fun v48 e49 => ?_)
        replace hf := p_lx hf e49
        refine s_istore (pc := 50) (lo' := [(6, .int v48), (5, .int v42), (0, .ref a0), (1, .int x1), (2, .int x2), (3, .int s0.1), (4, .int s0.2.1)]) dX12_clashes_50 (Nat.le_of_ble_eq_true rfl) rfl ?_
        refine s_aload_n (pc := 52) dX12_clashes_52 2 rfl rfl ?_
        refine s_iload_n (pc := 53) dX12_clashes_53 3 rfl rfl ?_
        refine s_iload (pc := 54) dX12_clashes_54 1 rfl ?_
        refine s_iload (pc := 56) dX12_clashes_56 0 rfl ?_
        obtain ⟨q50, h51, hf⟩ := p_bd hf
        refine y_callV1 (pc := 58) dX12_clashes_58 (c_X12_signalOf (p_dd hd (by decide)) hW ha0 h51) mk_X12_signalOf mv_X12_signalOf ml_X12_244 rfl rfl (Nat.le_of_ble_eq_true rfl) ha0 rfl (p_d1 hd (by decide)) (Nat.le_of_ble_eq_true rfl) ?_
        refine s_aload_n (pc := 61) dX12_clashes_61 2 rfl rfl ?_
        obtain ⟨q52, h53, hf⟩ := p_bd hf
        have t54 : p_tp N q52 0 := WT.get hW ha0 h53
        refine x_getR (pc := 62) dX12_clashes_62 fl_X12_7 rfl ha0 h53 ?_
        refine s_bipush (pc := 65) dX12_clashes_65 (v := 15) rfl ?_
        obtain ⟨c55, hf⟩ := p_ckx hf
        refine x_iald (pc := 67) dX12_clashes_67 t54 c55 ?_
        obtain ⟨t56, hg, hf⟩ := p_bd hf
        have k57 : SW G mX12_clashes (p_rm d 0 0) 0 0 0 0 (p_R (some (.int qq.1)) N qq.2.1 qq.2.2 P) 95 [(0, .ref a0), (1, .int x1), (2, .int x2), (4, .int s0.2.1)] [.int t56.1] N t56.2.1 t56.2.2 P := by
          refine s_istore_n (pc := 95) (lo' := [(3, .int t56.1), (0, .ref a0), (1, .int x1), (2, .int x2), (4, .int s0.2.1)]) dX12_clashes_95 rfl (Nat.le_of_ble_eq_true rfl) rfl ?_
          refine s_iinc (pc := 96) (lo' := [(4, .int (s0.2.1 + 1)), (3, .int t56.1), (0, .ref a0), (1, .int x1), (2, .int x2)]) dX12_clashes_96 4 rfl (v := s0.2.1 + 1) rfl (Nat.le_of_ble_eq_true rfl) rfl ?_
          refine s_goto (pc := 99) (tgt := 5) dX12_clashes_99 rfl ?_
          exact s_lo [2, 3, 4, 1, 0] rfl (hrec0 (t56.1, s0.2.1 + 1, t56.2.1, t56.2.2) hf)
        replace hf := hg
        refine s_icmp_lt (pc := 68) (tgt := 94) dX12_clashes_68 rfl (fun hc => ?_) (fun hc => ?_)
        · replace hf := p_ps hf hc
          refine s_iconst (pc := 94) dX12_clashes_94 (v := 0) rfl ?_
          cases hf
          exact s_lo [2, 3, 4, 6] rfl (k57)
        · replace hf := p_ng hf hc
          refine s_aload_n (pc := 71) dX12_clashes_71 2 rfl rfl ?_
          refine s_iload_n (pc := 72) dX12_clashes_72 4 rfl rfl ?_
          refine s_iload (pc := 73) dX12_clashes_73 1 rfl ?_
          refine s_iload (pc := 75) dX12_clashes_75 0 rfl ?_
          obtain ⟨q58, h59, hf⟩ := p_bd hf
          refine y_callV1 (pc := 77) dX12_clashes_77 (c_X12_signalOf (p_dd hd (by decide)) hW ha0 h59) mk_X12_signalOf mv_X12_signalOf ml_X12_244 rfl rfl (Nat.le_of_ble_eq_true rfl) ha0 rfl (p_d1 hd (by decide)) (Nat.le_of_ble_eq_true rfl) ?_
          refine s_aload_n (pc := 80) dX12_clashes_80 2 rfl rfl ?_
          obtain ⟨q60, h61, hf⟩ := p_bd hf
          have t62 : p_tp N q60 0 := WT.get hW ha0 h61
          refine x_getR (pc := 81) dX12_clashes_81 fl_X12_7 rfl ha0 h61 ?_
          refine s_bipush (pc := 84) dX12_clashes_84 (v := 15) rfl ?_
          obtain ⟨c63, hf⟩ := p_ckx hf
          refine x_iald (pc := 86) dX12_clashes_86 t62 c63 ?_
          refine s_icmp_lt (pc := 87) (tgt := 94) dX12_clashes_87 rfl (fun hc => ?_) (fun hc => ?_)
          · replace hf := p_ps hf hc
            refine s_iconst (pc := 94) dX12_clashes_94 (v := 0) rfl ?_
            cases hf
            exact s_lo [2, 3, 4, 6] rfl (k57)
          · replace hf := p_ng hf hc
            refine s_iconst (pc := 90) dX12_clashes_90 (v := 1) rfl ?_
            refine s_goto (pc := 91) (tgt := 95) dX12_clashes_91 rfl ?_
            cases hf
            exact s_lo [2, 3, 4, 6] rfl (k57))
  exact s_lo [2, 3, 4, 1, 0] rfl (k33 n (0, 0, I, L) hf)
def f_X12_clash (n : Nat) (N : pN) (I : pI) (L : pL) (P : pR) (a0 : Nat) (x1 : Int32) (x2 : Int32) : Option (Int32 × pI × pL) :=
  (if x1 = x2 then
    some (0, I, L)
  else
    Option.bind (f_X12_seesSender N I P a0 x1) fun q1 =>
    (if q1 = 0 then
      some (0, I, L)
    else
      Option.bind (f_X12_seesSender N I P a0 x2) fun q3 =>
      (if q3 = 0 then
        some (0, I, L)
      else
        Option.bind (f_X12_clashes n N I L P a0 x1 x2) fun q5 =>
        (if q5.1 = 0 then
          some (0, q5.2.1, q5.2.2)
        else
          some (1, q5.2.1, q5.2.2)))))
theorem c_X12_clash {G : pG} {d : Nat} {n : Nat} {N : pN} {I : pI} {L : pL} {P : pR} {a0 : Nat} {x1 : Int32} {x2 : Int32} {qq : Int32 × pI × pL} (hd : 9 ≤ d) (hW : WT N P) (ha0 : p_tp N a0 15) (hf : f_X12_clash n N I L P a0 x1 x2 = some qq) : MT G mX12_clash d 0 0 [.ref a0, .int x1, .int x2] N I L P (p_R (some (.int qq.1)) N qq.2.1 qq.2.2 P) := by
  refine MT.of rfl (Nat.le_of_ble_eq_true rfl) ?_
  show SW G mX12_clash (p_rm d 0 0) 0 0 0 0 (p_R (some (.int qq.1)) N qq.2.1 qq.2.2 P) 0 [(0, .ref a0), (1, .int x1), (2, .int x2)] [] N I L P
  unfold f_X12_clash at hf
  refine s_iload_n (pc := 0) dX12_clash_0 1 rfl rfl ?_
  refine s_iload_n (pc := 1) dX12_clash_1 2 rfl rfl ?_
  refine s_icmp_eq (pc := 2) (tgt := 34) dX12_clash_2 rfl (fun hc => ?_) (fun hc => ?_)
  · replace hf := p_ps hf hc
    refine s_iconst (pc := 34) dX12_clash_34 (v := 0) rfl ?_
    cases hf
    exact s_ireturn (pc := 35) dX12_clash_35 rfl rfl ⟨rfl, rfl, rfl, rfl, rfl⟩
  · replace hf := p_ng hf hc
    refine s_aload_n (pc := 5) dX12_clash_5 0 rfl rfl ?_
    refine s_iload_n (pc := 6) dX12_clash_6 1 rfl rfl ?_
    obtain ⟨q1, h2, hf⟩ := p_bd hf
    refine y_callV1 (pc := 7) dX12_clash_7 (c_X12_seesSender (p_dd hd (by decide)) hW ha0 h2) mk_X12_seesSender mv_X12_seesSender ml_X12_215 rfl rfl (Nat.le_of_ble_eq_true rfl) ha0 rfl (p_d1 hd (by decide)) (Nat.le_of_ble_eq_true rfl) ?_
    refine s_if_eq (pc := 10) (tgt := 34) dX12_clash_10 rfl (fun hc => ?_) (fun hc => ?_)
    · replace hf := p_ps hf hc
      refine s_iconst (pc := 34) dX12_clash_34 (v := 0) rfl ?_
      cases hf
      exact s_ireturn (pc := 35) dX12_clash_35 rfl rfl ⟨rfl, rfl, rfl, rfl, rfl⟩
    · replace hf := p_ng hf hc
      refine s_aload_n (pc := 13) dX12_clash_13 0 rfl rfl ?_
      refine s_iload_n (pc := 14) dX12_clash_14 2 rfl rfl ?_
      obtain ⟨q3, h4, hf⟩ := p_bd hf
      refine y_callV1 (pc := 15) dX12_clash_15 (c_X12_seesSender (p_dd hd (by decide)) hW ha0 h4) mk_X12_seesSender mv_X12_seesSender ml_X12_215 rfl rfl (Nat.le_of_ble_eq_true rfl) ha0 rfl (p_d1 hd (by decide)) (Nat.le_of_ble_eq_true rfl) ?_
      refine s_if_eq (pc := 18) (tgt := 34) dX12_clash_18 rfl (fun hc => ?_) (fun hc => ?_)
      · replace hf := p_ps hf hc
        refine s_iconst (pc := 34) dX12_clash_34 (v := 0) rfl ?_
        cases hf
        exact s_ireturn (pc := 35) dX12_clash_35 rfl rfl ⟨rfl, rfl, rfl, rfl, rfl⟩
      · replace hf := p_ng hf hc
        refine s_aload_n (pc := 21) dX12_clash_21 0 rfl rfl ?_
        refine s_iload_n (pc := 22) dX12_clash_22 1 rfl rfl ?_
        refine s_iload_n (pc := 23) dX12_clash_23 2 rfl rfl ?_
        obtain ⟨q5, h6, hf⟩ := p_bd hf
        refine y_callV1 (pc := 24) dX12_clash_24 (c_X12_clashes (p_dd hd (by decide)) hW ha0 h6) mk_X12_clashes mv_X12_clashes ml_X12_273 rfl rfl (Nat.le_of_ble_eq_true rfl) ha0 rfl (p_d1 hd (by decide)) (Nat.le_of_ble_eq_true rfl) ?_
        refine s_if_eq (pc := 27) (tgt := 34) dX12_clash_27 rfl (fun hc => ?_) (fun hc => ?_)
        · replace hf := p_ps hf hc
          refine s_iconst (pc := 34) dX12_clash_34 (v := 0) rfl ?_
          cases hf
          exact s_ireturn (pc := 35) dX12_clash_35 rfl rfl ⟨rfl, rfl, rfl, rfl, rfl⟩
        · replace hf := p_ng hf hc
          refine s_iconst (pc := 30) dX12_clash_30 (v := 1) rfl ?_
          refine s_goto (pc := 31) (tgt := 35) dX12_clash_31 rfl ?_
          cases hf
          exact s_ireturn (pc := 35) dX12_clash_35 rfl rfl ⟨rfl, rfl, rfl, rfl, rfl⟩
def B_X12_isApart_4 (N : pN) (I : pI) (P : pR) (a0 : Nat) (x1 : Int32) (rec0 : (Int32 × Int32) → Option Int32) (s0 : Int32 × Int32) : Option Int32 :=
  (if x1 ≤ s0.2 then
    some s0.1
  else
    (if s0.1 = 0 then
      some s0.1
    else
      Option.bind (P a0 27) fun q3 =>
      p_ck (p_ib N q3 ((6 * x1) + s0.2)) <|
      Option.bind (α := Int32) ((if (I q3 (Int32.toNatClampNeg ((6 * x1) + s0.2))) = 0 then
        some 1
      else
        Option.bind (P a0 26) fun q9 =>
        p_ck (p_ib N q9 s0.2) <|
        Option.bind (P a0 26) fun q13 =>
        p_ck (p_ib N q13 x1) <|
        (if (I q9 (Int32.toNatClampNeg s0.2)) = (I q13 (Int32.toNatClampNeg x1)) then
          some 0
        else
          some 1))) fun t7 =>
      rec0 (t7, s0.2 + 1)))
def f_X12_isApart (n : Nat) (N : pN) (I : pI) (P : pR) (a0 : Nat) (x1 : Int32) : Option Int32 :=
  Option.bind (p_it (B_X12_isApart_4 N I P a0 x1) n (1, 0)) fun t1 =>
  p_ck (decide (t1 = 0 ∨ t1 = 1)) <|
  some t1
theorem c_X12_isApart {G : pG} {d : Nat} {n : Nat} {N : pN} {I : pI} {L : pL} {P : pR} {a0 : Nat} {x1 : Int32} {qq : Int32} (hd : 0 ≤ d) (hW : WT N P) (ha0 : p_tp N a0 15) (hf : f_X12_isApart n N I P a0 x1 = some qq) : MT G mX12_isApart d 0 0 [.ref a0, .int x1] N I L P (p_R (some (.int qq)) N I L P) := by
  refine MT.of rfl (Nat.le_of_ble_eq_true rfl) ?_
  show SW G mX12_isApart (p_rm d 0 0) 0 0 0 0 (p_R (some (.int qq)) N I L P) 0 [(0, .ref a0), (1, .int x1)] [] N I L P
  unfold f_X12_isApart at hf
  refine s_iconst (pc := 0) dX12_isApart_0 (v := 1) rfl ?_
  refine s_istore_n (pc := 1) (lo' := [(2, .int 1), (0, .ref a0), (1, .int x1)]) dX12_isApart_1 rfl (Nat.le_of_ble_eq_true rfl) rfl ?_
  refine s_iconst (pc := 2) dX12_isApart_2 (v := 0) rfl ?_
  refine s_istore_n (pc := 3) (lo' := [(3, .int 0), (2, .int 1), (0, .ref a0), (1, .int x1)]) dX12_isApart_3 rfl (Nat.le_of_ble_eq_true rfl) rfl ?_
  obtain ⟨t1, hg, hf⟩ := p_bd hf
  have k2 : SW G mX12_isApart (p_rm d 0 0) 0 0 0 0 (p_R (some (.int qq)) N I L P) 54 [(2, .int t1)] [] N I L P := by
    refine s_iload_n (pc := 54) dX12_isApart_54 0 rfl rfl ?_
    obtain ⟨c32, hf⟩ := p_ckx hf
    cases hf
    exact s_ireturn (pc := 55) dX12_isApart_55 rfl (p_nr (of_decide_eq_true c32)) ⟨rfl, rfl, rfl, rfl, rfl⟩
  replace hf := hg
  have k17 : ∀ (k : Nat) (s0 : Int32 × Int32), p_it (B_X12_isApart_4 N I P a0 x1) k s0 = some t1 → (SW G mX12_isApart (p_rm d 0 0) 0 0 0 0 (p_R (some (.int qq)) N I L P) 4 [(0, .ref a0), (1, .int x1), (2, .int s0.1), (3, .int s0.2)] [] N I L P) := p_it_ind (C := fun (s0 : Int32 × Int32) => SW G mX12_isApart (p_rm d 0 0) 0 0 0 0 (p_R (some (.int qq)) N I L P) 4 [(0, .ref a0), (1, .int x1), (2, .int s0.1), (3, .int s0.2)] [] N I L P) (by
    intro rec0 hrec0 s0 hf
    unfold B_X12_isApart_4 at hf
    refine s_iload_n (pc := 4) dX12_isApart_4 3 rfl rfl ?_
    refine s_iload_n (pc := 5) dX12_isApart_5 1 rfl rfl ?_
    refine s_icmp_ge (pc := 6) (tgt := 54) dX12_isApart_6 rfl (fun hc => ?_) (fun hc => ?_)
    · replace hf := p_ps hf hc
      cases hf
      exact s_lo [2] rfl (k2)
    · replace hf := p_ng hf hc
      refine s_iload_n (pc := 9) dX12_isApart_9 2 rfl rfl ?_
      refine s_if_eq (pc := 10) (tgt := 54) dX12_isApart_10 rfl (fun hc => ?_) (fun hc => ?_)
      · replace hf := p_ps hf hc
        cases hf
        exact s_lo [2] rfl (k2)
      · replace hf := p_ng hf hc
        refine s_aload_n (pc := 13) dX12_isApart_13 0 rfl rfl ?_
        obtain ⟨q18, h19, hf⟩ := p_bd hf
        have t20 : p_tp N q18 1 := WT.get hW ha0 h19
        refine x_getR (pc := 14) dX12_isApart_14 fl_X12_50 rfl ha0 h19 ?_
        refine s_bipush (pc := 17) dX12_isApart_17 (v := 6) rfl ?_
        refine s_iload_n (pc := 19) dX12_isApart_19 1 rfl rfl ?_
        refine s_imul (pc := 20) dX12_isApart_20 ?_
        refine s_iload_n (pc := 21) dX12_isApart_21 3 rfl rfl ?_
        refine s_iadd (pc := 22) dX12_isApart_22 ?_
        obtain ⟨c21, hf⟩ := p_ckx hf
        refine x_zald (pc := 23) dX12_isApart_23 t20 c21 ?_
        obtain ⟨t22, hg, hf⟩ := p_bd hf
        have k23 : SW G mX12_isApart (p_rm d 0 0) 0 0 0 0 (p_R (some (.int qq)) N I L P) 47 [(0, .ref a0), (1, .int x1), (3, .int s0.2)] [.int t22] N I L P := by
          refine s_istore_n (pc := 47) (lo' := [(2, .int t22), (0, .ref a0), (1, .int x1), (3, .int s0.2)]) dX12_isApart_47 rfl (Nat.le_of_ble_eq_true rfl) rfl ?_
          refine s_iinc (pc := 48) (lo' := [(3, .int (s0.2 + 1)), (2, .int t22), (0, .ref a0), (1, .int x1)]) dX12_isApart_48 3 rfl (v := s0.2 + 1) rfl (Nat.le_of_ble_eq_true rfl) rfl ?_
          refine s_goto (pc := 51) (tgt := 4) dX12_isApart_51 rfl ?_
          exact s_lo [2, 3, 1, 0] rfl (hrec0 (t22, s0.2 + 1) hf)
        replace hf := hg
        refine s_if_eq (pc := 24) (tgt := 42) dX12_isApart_24 rfl (fun hc => ?_) (fun hc => ?_)
        · replace hf := p_ps hf hc
          refine s_iconst (pc := 42) dX12_isApart_42 (v := 1) rfl ?_
          refine s_goto (pc := 43) (tgt := 47) dX12_isApart_43 rfl ?_
          cases hf
          exact s_lo [0, 1, 3] rfl (k23)
        · replace hf := p_ng hf hc
          refine s_aload_n (pc := 27) dX12_isApart_27 0 rfl rfl ?_
          obtain ⟨q24, h25, hf⟩ := p_bd hf
          have t26 : p_tp N q24 0 := WT.get hW ha0 h25
          refine x_getR (pc := 28) dX12_isApart_28 fl_X12_47 rfl ha0 h25 ?_
          refine s_iload_n (pc := 31) dX12_isApart_31 3 rfl rfl ?_
          obtain ⟨c27, hf⟩ := p_ckx hf
          refine x_iald (pc := 32) dX12_isApart_32 t26 c27 ?_
          refine s_aload_n (pc := 33) dX12_isApart_33 0 rfl rfl ?_
          obtain ⟨q28, h29, hf⟩ := p_bd hf
          have t30 : p_tp N q28 0 := WT.get hW ha0 h29
          refine x_getR (pc := 34) dX12_isApart_34 fl_X12_47 rfl ha0 h29 ?_
          refine s_iload_n (pc := 37) dX12_isApart_37 1 rfl rfl ?_
          obtain ⟨c31, hf⟩ := p_ckx hf
          refine x_iald (pc := 38) dX12_isApart_38 t30 c31 ?_
          refine s_icmp_eq (pc := 39) (tgt := 46) dX12_isApart_39 rfl (fun hc => ?_) (fun hc => ?_)
          · replace hf := p_ps hf hc
            refine s_iconst (pc := 46) dX12_isApart_46 (v := 0) rfl ?_
            cases hf
            exact s_lo [0, 1, 3] rfl (k23)
          · replace hf := p_ng hf hc
            refine s_iconst (pc := 42) dX12_isApart_42 (v := 1) rfl ?_
            refine s_goto (pc := 43) (tgt := 47) dX12_isApart_43 rfl ?_
            cases hf
            exact s_lo [0, 1, 3] rfl (k23))
  exact s_lo [2, 3, 1, 0] rfl (k17 n (1, 0) hf)
def B_X12_colours_12 (N : pN) (P : pR) (x2 : Int32) (a0 : Nat) (rec0 : (Int32 × pI) → Option pI) (s0 : Int32 × pI) : Option pI :=
  (if x2 ≤ s0.1 then
    some s0.2
  else
    Option.bind (P a0 26) fun q9 =>
    p_ck (p_ib N q9 s0.1) <|
    p_let (p_u s0.2 q9 (Int32.toNatClampNeg s0.1) (-1)) fun I13 =>
    rec0 (s0.1 + 1, I13))
def B_X12_colours_32 (n : Nat) (N : pN) (P : pR) (x2 : Int32) (a0 : Nat) (x1 : Int32) (rec0 : (Int32 × pI) → Option (Int32 × pI)) (s0 : Int32 × pI) : Option (Int32 × pI) :=
  (if s0.1 < 0 then
    some (s0.1, s0.2)
  else
    (if x2 ≤ s0.1 then
      some (s0.1, s0.2)
    else
      Option.bind (f_X12_seesSender N s0.2 P a0 s0.1) fun q24 =>
      (if q24 = 0 then
        Option.bind (P a0 26) fun q45 =>
        p_ck (p_ib N q45 s0.1) <|
        p_ck (p_ib N q45 s0.1) <|
        p_let (p_u s0.2 q45 (Int32.toNatClampNeg s0.1) ((s0.2 q45 (Int32.toNatClampNeg s0.1)) + 1)) fun I50 =>
        Option.bind (P a0 26) fun q52 =>
        p_ck (p_ib N q52 s0.1) <|
        (if (I50 q52 (Int32.toNatClampNeg s0.1)) ≤ 0 then
          rec0 (s0.1 + 1, I50)
        else
          Option.bind (P a0 26) fun q56 =>
          p_ck (p_ib N q56 s0.1) <|
          p_let (p_u I50 q56 (Int32.toNatClampNeg s0.1) (-1)) fun I60 =>
          rec0 (s0.1 + (-1), I60))
      else
        Option.bind (P a0 26) fun q26 =>
        p_ck (p_ib N q26 s0.1) <|
        p_ck (p_ib N q26 s0.1) <|
        p_let (p_u s0.2 q26 (Int32.toNatClampNeg s0.1) ((s0.2 q26 (Int32.toNatClampNeg s0.1)) + 1)) fun I31 =>
        Option.bind (P a0 26) fun q33 =>
        p_ck (p_ib N q33 s0.1) <|
        (if (I31 q33 (Int32.toNatClampNeg s0.1)) = x1 then
          Option.bind (P a0 26) fun q39 =>
          p_ck (p_ib N q39 s0.1) <|
          p_let (p_u I31 q39 (Int32.toNatClampNeg s0.1) (-1)) fun I43 =>
          rec0 (s0.1 + (-1), I43)
        else
          Option.bind (f_X12_isApart n N I31 P a0 s0.1) fun q37 =>
          (if q37 = 0 then
            rec0 (s0.1, I31)
          else
            rec0 (s0.1 + 1, I31))))))
def f_X12_colours (n : Nat) (N : pN) (I : pI) (P : pR) (a0 : Nat) (x1 : Int32) : Option (Int32 × pI) :=
  Option.bind (P a0 0) fun q1 =>
  p_ck (p_ib N q1 1) <|
  p_let (I q1 (Int32.toNatClampNeg 1)) fun v5 =>
  Option.bind (p_it (B_X12_colours_12 N P v5 a0) n (0, I)) fun t7 =>
  Option.bind (p_it (B_X12_colours_32 n N P v5 a0 x1) n (0, t7)) fun t22 =>
  (if t22.1 = v5 then
    some (1, t22.2)
  else
    some (0, t22.2))
theorem c_X12_colours {G : pG} {d : Nat} {n : Nat} {N : pN} {I : pI} {L : pL} {P : pR} {a0 : Nat} {x1 : Int32} {qq : Int32 × pI} (hd : 3 ≤ d) (hW : WT N P) (ha0 : p_tp N a0 15) (hf : f_X12_colours n N I P a0 x1 = some qq) : MT G mX12_colours d 0 0 [.ref a0, .int x1] N I L P (p_R (some (.int qq.1)) N qq.2 L P) := by
  refine MT.of rfl (Nat.le_of_ble_eq_true rfl) ?_
  show SW G mX12_colours (p_rm d 0 0) 0 0 0 0 (p_R (some (.int qq.1)) N qq.2 L P) 0 [(0, .ref a0), (1, .int x1)] [] N I L P
  unfold f_X12_colours at hf
  refine s_aload_n (pc := 0) dX12_colours_0 0 rfl rfl ?_
  obtain ⟨q1, h2, hf⟩ := p_bd hf
  have t3 : p_tp N q1 0 := WT.get hW ha0 h2
  refine x_getR (pc := 1) dX12_colours_1 fl_X12_7 rfl ha0 h2 ?_
  refine s_iconst (pc := 4) dX12_colours_4 (v := 1) rfl ?_
  obtain ⟨c4, hf⟩ := p_ckx hf
  refine x_iald (pc := 5) dX12_colours_5 t3 c4 ?_
  refine s_topi (fun v5 e6 => ?_)
  replace hf := p_lx hf e6
  refine s_istore_n (pc := 6) (lo' := [(2, .int v5), (0, .ref a0), (1, .int x1)]) dX12_colours_6 rfl (Nat.le_of_ble_eq_true rfl) rfl ?_
  refine s_iconst (pc := 7) dX12_colours_7 (v := 0) rfl ?_
  refine s_istore_n (pc := 8) (lo' := [(3, .int 0), (2, .int v5), (0, .ref a0), (1, .int x1)]) dX12_colours_8 rfl (Nat.le_of_ble_eq_true rfl) rfl ?_
  refine s_iconst (pc := 9) dX12_colours_9 (v := 0) rfl ?_
  refine s_istore (pc := 10) (lo' := [(4, .int 0), (3, .int 0), (2, .int v5), (0, .ref a0), (1, .int x1)]) dX12_colours_10 (Nat.le_of_ble_eq_true rfl) rfl ?_
  obtain ⟨t7, hg, hf⟩ := p_bd hf
  have k8 : SW G mX12_colours (p_rm d 0 0) 0 0 0 0 (p_R (some (.int qq.1)) N qq.2 L P) 32 [(3, .int 0), (2, .int v5), (0, .ref a0), (1, .int x1)] [] N t7 L P := by
    obtain ⟨t22, hg, hf⟩ := p_bd hf
    have k23 : SW G mX12_colours (p_rm d 0 0) 0 0 0 0 (p_R (some (.int qq.1)) N qq.2 L P) 134 [(2, .int v5), (3, .int t22.1)] [] N t22.2 L P := by
      refine s_iload_n (pc := 134) dX12_colours_134 1 rfl rfl ?_
      refine s_iload_n (pc := 135) dX12_colours_135 0 rfl rfl ?_
      refine s_icmp_ne (pc := 136) (tgt := 143) dX12_colours_136 rfl (fun hc => ?_) (fun hc => ?_)
      · replace hf := p_ng hf hc
        refine s_iconst (pc := 143) dX12_colours_143 (v := 0) rfl ?_
        cases hf
        exact s_ireturn (pc := 144) dX12_colours_144 rfl rfl ⟨rfl, rfl, rfl, rfl, rfl⟩
      · replace hf := p_ps hf hc
        refine s_iconst (pc := 139) dX12_colours_139 (v := 1) rfl ?_
        refine s_goto (pc := 140) (tgt := 144) dX12_colours_140 rfl ?_
        cases hf
        exact s_ireturn (pc := 144) dX12_colours_144 rfl rfl ⟨rfl, rfl, rfl, rfl, rfl⟩
    replace hf := hg
    have k62 : ∀ (k : Nat) (s0 : Int32 × pI), p_it (B_X12_colours_32 n N P v5 a0 x1) k s0 = some t22 → (SW G mX12_colours (p_rm d 0 0) 0 0 0 0 (p_R (some (.int qq.1)) N qq.2 L P) 32 [(2, .int v5), (0, .ref a0), (1, .int x1), (3, .int s0.1)] [] N s0.2 L P) := p_it_ind (C := fun (s0 : Int32 × pI) => SW G mX12_colours (p_rm d 0 0) 0 0 0 0 (p_R (some (.int qq.1)) N qq.2 L P) 32 [(2, .int v5), (0, .ref a0), (1, .int x1), (3, .int s0.1)] [] N s0.2 L P) (by
      intro rec0 hrec0 s0 hf
      unfold B_X12_colours_32 at hf
      refine s_iload_n (pc := 32) dX12_colours_32 3 rfl rfl ?_
      refine s_if_lt (pc := 33) (tgt := 134) dX12_colours_33 rfl (fun hc => ?_) (fun hc => ?_)
      · replace hf := p_ps hf hc
        cases hf
        exact s_lo [0, 3] rfl (k23)
      · replace hf := p_ng hf hc
        refine s_iload_n (pc := 36) dX12_colours_36 3 rfl rfl ?_
        refine s_iload_n (pc := 37) dX12_colours_37 0 rfl rfl ?_
        refine s_icmp_ge (pc := 38) (tgt := 134) dX12_colours_38 rfl (fun hc => ?_) (fun hc => ?_)
        · replace hf := p_ps hf hc
          cases hf
          exact s_lo [0, 3] rfl (k23)
        · replace hf := p_ng hf hc
          refine s_aload_n (pc := 41) dX12_colours_41 1 rfl rfl ?_
          refine s_iload_n (pc := 42) dX12_colours_42 3 rfl rfl ?_
          obtain ⟨q63, h64, hf⟩ := p_bd hf
          refine y_callV1 (pc := 43) dX12_colours_43 (c_X12_seesSender (p_dd hd (by decide)) hW ha0 h64) mk_X12_seesSender mv_X12_seesSender ml_X12_215 rfl rfl (Nat.le_of_ble_eq_true rfl) ha0 rfl (p_d1 hd (by decide)) (Nat.le_of_ble_eq_true rfl) ?_
          refine s_if_ne (pc := 46) (tgt := 87) dX12_colours_46 rfl (fun hc => ?_) (fun hc => ?_)
          · replace hf := p_ng hf hc
            refine s_aload_n (pc := 87) dX12_colours_87 1 rfl rfl ?_
            obtain ⟨q65, h66, hf⟩ := p_bd hf
            have t67 : p_tp N q65 0 := WT.get hW ha0 h66
            refine x_getR (pc := 88) dX12_colours_88 fl_X12_47 rfl ha0 h66 ?_
            refine s_iload_n (pc := 91) dX12_colours_91 3 rfl rfl ?_
            refine s_dup2_11 (pc := 92) dX12_colours_92 rfl rfl ?_
            obtain ⟨c68, hf⟩ := p_ckx hf
            refine x_iald (pc := 93) dX12_colours_93 t67 c68 ?_
            refine s_iconst (pc := 94) dX12_colours_94 (v := 1) rfl ?_
            refine s_iadd (pc := 95) dX12_colours_95 ?_
            obtain ⟨c69, hf⟩ := p_ckx hf
            refine x_iast (pc := 96) dX12_colours_96 t67 c69 ?_
            refine s_nmI (fun I70 e71 => ?_)
            replace hf := p_lx hf e71
            refine s_aload_n (pc := 97) dX12_colours_97 1 rfl rfl ?_
            obtain ⟨q72, h73, hf⟩ := p_bd hf
            have t74 : p_tp N q72 0 := WT.get hW ha0 h73
            refine x_getR (pc := 98) dX12_colours_98 fl_X12_47 rfl ha0 h73 ?_
            refine s_iload_n (pc := 101) dX12_colours_101 3 rfl rfl ?_
            obtain ⟨c75, hf⟩ := p_ckx hf
            refine x_iald (pc := 102) dX12_colours_102 t74 c75 ?_
            refine s_iload_n (pc := 103) dX12_colours_103 2 rfl rfl ?_
            refine s_icmp_ne (pc := 104) (tgt := 120) dX12_colours_104 rfl (fun hc => ?_) (fun hc => ?_)
            · replace hf := p_ng hf hc
              refine s_aload_n (pc := 120) dX12_colours_120 1 rfl rfl ?_
              refine s_iload_n (pc := 121) dX12_colours_121 3 rfl rfl ?_
              obtain ⟨q76, h77, hf⟩ := p_bd hf
              refine y_callV1 (pc := 122) dX12_colours_122 (c_X12_isApart (p_dd hd (by decide)) hW ha0 h77) mk_X12_isApart mv_X12_isApart ml_X12_276 rfl rfl (Nat.le_of_ble_eq_true rfl) ha0 rfl (p_d1 hd (by decide)) (Nat.le_of_ble_eq_true rfl) ?_
              refine s_if_eq (pc := 125) (tgt := 32) dX12_colours_125 rfl (fun hc => ?_) (fun hc => ?_)
              · replace hf := p_ps hf hc
                exact s_lo [0, 1, 2, 3] rfl (hrec0 (s0.1, I70) hf)
              · replace hf := p_ng hf hc
                refine s_iinc (pc := 128) (lo' := [(3, .int (s0.1 + 1)), (2, .int v5), (0, .ref a0), (1, .int x1)]) dX12_colours_128 3 rfl (v := s0.1 + 1) rfl (Nat.le_of_ble_eq_true rfl) rfl ?_
                refine s_goto (pc := 131) (tgt := 32) dX12_colours_131 rfl ?_
                exact s_lo [1, 2, 3, 0] rfl (hrec0 (s0.1 + 1, I70) hf)
            · replace hf := p_ps hf hc
              refine s_aload_n (pc := 107) dX12_colours_107 1 rfl rfl ?_
              obtain ⟨q78, h79, hf⟩ := p_bd hf
              have t80 : p_tp N q78 0 := WT.get hW ha0 h79
              refine x_getR (pc := 108) dX12_colours_108 fl_X12_47 rfl ha0 h79 ?_
              refine s_iload_n (pc := 111) dX12_colours_111 3 rfl rfl ?_
              refine s_iconst (pc := 112) dX12_colours_112 (v := -1) rfl ?_
              obtain ⟨c81, hf⟩ := p_ckx hf
              refine x_iast (pc := 113) dX12_colours_113 t80 c81 ?_
              refine s_nmI (fun I82 e83 => ?_)
              replace hf := p_lx hf e83
              refine s_iinc (pc := 114) (lo' := [(3, .int (s0.1 + (-1))), (2, .int v5), (0, .ref a0), (1, .int x1)]) dX12_colours_114 3 rfl (v := s0.1 + (-1)) rfl (Nat.le_of_ble_eq_true rfl) rfl ?_
              refine s_goto (pc := 117) (tgt := 32) dX12_colours_117 rfl ?_
              exact s_lo [1, 2, 3, 0] rfl (hrec0 (s0.1 + (-1), I82) hf)
          · replace hf := p_ps hf hc
            refine s_aload_n (pc := 49) dX12_colours_49 1 rfl rfl ?_
            obtain ⟨q84, h85, hf⟩ := p_bd hf
            have t86 : p_tp N q84 0 := WT.get hW ha0 h85
            refine x_getR (pc := 50) dX12_colours_50 fl_X12_47 rfl ha0 h85 ?_
            refine s_iload_n (pc := 53) dX12_colours_53 3 rfl rfl ?_
            refine s_dup2_11 (pc := 54) dX12_colours_54 rfl rfl ?_
            obtain ⟨c87, hf⟩ := p_ckx hf
            refine x_iald (pc := 55) dX12_colours_55 t86 c87 ?_
            refine s_iconst (pc := 56) dX12_colours_56 (v := 1) rfl ?_
            refine s_iadd (pc := 57) dX12_colours_57 ?_
            obtain ⟨c88, hf⟩ := p_ckx hf
            refine x_iast (pc := 58) dX12_colours_58 t86 c88 ?_
            refine s_nmI (fun I89 e90 => ?_)
            replace hf := p_lx hf e90
            refine s_aload_n (pc := 59) dX12_colours_59 1 rfl rfl ?_
            obtain ⟨q91, h92, hf⟩ := p_bd hf
            have t93 : p_tp N q91 0 := WT.get hW ha0 h92
            refine x_getR (pc := 60) dX12_colours_60 fl_X12_47 rfl ha0 h92 ?_
            refine s_iload_n (pc := 63) dX12_colours_63 3 rfl rfl ?_
            obtain ⟨c94, hf⟩ := p_ckx hf
            refine x_iald (pc := 64) dX12_colours_64 t93 c94 ?_
            refine s_if_le (pc := 65) (tgt := 81) dX12_colours_65 rfl (fun hc => ?_) (fun hc => ?_)
            · replace hf := p_ps hf hc
              refine s_iinc (pc := 81) (lo' := [(3, .int (s0.1 + 1)), (2, .int v5), (0, .ref a0), (1, .int x1)]) dX12_colours_81 3 rfl (v := s0.1 + 1) rfl (Nat.le_of_ble_eq_true rfl) rfl ?_
              refine s_goto (pc := 84) (tgt := 32) dX12_colours_84 rfl ?_
              exact s_lo [1, 2, 3, 0] rfl (hrec0 (s0.1 + 1, I89) hf)
            · replace hf := p_ng hf hc
              refine s_aload_n (pc := 68) dX12_colours_68 1 rfl rfl ?_
              obtain ⟨q95, h96, hf⟩ := p_bd hf
              have t97 : p_tp N q95 0 := WT.get hW ha0 h96
              refine x_getR (pc := 69) dX12_colours_69 fl_X12_47 rfl ha0 h96 ?_
              refine s_iload_n (pc := 72) dX12_colours_72 3 rfl rfl ?_
              refine s_iconst (pc := 73) dX12_colours_73 (v := -1) rfl ?_
              obtain ⟨c98, hf⟩ := p_ckx hf
              refine x_iast (pc := 74) dX12_colours_74 t97 c98 ?_
              refine s_nmI (fun I99 e100 => ?_)
              replace hf := p_lx hf e100
              refine s_iinc (pc := 75) (lo' := [(3, .int (s0.1 + (-1))), (2, .int v5), (0, .ref a0), (1, .int x1)]) dX12_colours_75 3 rfl (v := s0.1 + (-1)) rfl (Nat.le_of_ble_eq_true rfl) rfl ?_
              refine s_goto (pc := 78) (tgt := 32) dX12_colours_78 rfl ?_
              exact s_lo [1, 2, 3, 0] rfl (hrec0 (s0.1 + (-1), I99) hf))
    exact s_lo [1, 2, 3, 0] rfl (k62 n (0, t7) hf)
  replace hf := hg
  have k15 : ∀ (k : Nat) (s0 : Int32 × pI), p_it (B_X12_colours_12 N P v5 a0) k s0 = some t7 → (SW G mX12_colours (p_rm d 0 0) 0 0 0 0 (p_R (some (.int qq.1)) N qq.2 L P) 12 [(3, .int 0), (2, .int v5), (0, .ref a0), (1, .int x1), (4, .int s0.1)] [] N s0.2 L P) := p_it_ind (C := fun (s0 : Int32 × pI) => SW G mX12_colours (p_rm d 0 0) 0 0 0 0 (p_R (some (.int qq.1)) N qq.2 L P) 12 [(3, .int 0), (2, .int v5), (0, .ref a0), (1, .int x1), (4, .int s0.1)] [] N s0.2 L P) (by
    intro rec0 hrec0 s0 hf
    unfold B_X12_colours_12 at hf
    refine s_iload (pc := 12) dX12_colours_12 4 rfl ?_
    refine s_iload_n (pc := 14) dX12_colours_14 1 rfl rfl ?_
    refine s_icmp_ge (pc := 15) (tgt := 32) dX12_colours_15 rfl (fun hc => ?_) (fun hc => ?_)
    · replace hf := p_ps hf hc
      cases hf
      exact s_lo [0, 1, 2, 3] rfl (k8)
    · replace hf := p_ng hf hc
      refine s_aload_n (pc := 18) dX12_colours_18 2 rfl rfl ?_
      obtain ⟨q16, h17, hf⟩ := p_bd hf
      have t18 : p_tp N q16 0 := WT.get hW ha0 h17
      refine x_getR (pc := 19) dX12_colours_19 fl_X12_47 rfl ha0 h17 ?_
      refine s_iload (pc := 22) dX12_colours_22 4 rfl ?_
      refine s_iconst (pc := 24) dX12_colours_24 (v := -1) rfl ?_
      obtain ⟨c19, hf⟩ := p_ckx hf
      refine x_iast (pc := 25) dX12_colours_25 t18 c19 ?_
      refine s_nmI (fun I20 e21 => ?_)
      replace hf := p_lx hf e21
      refine s_iinc (pc := 26) (lo' := [(4, .int (s0.1 + 1)), (3, .int 0), (2, .int v5), (0, .ref a0), (1, .int x1)]) dX12_colours_26 4 rfl (v := s0.1 + 1) rfl (Nat.le_of_ble_eq_true rfl) rfl ?_
      refine s_goto (pc := 29) (tgt := 12) dX12_colours_29 rfl ?_
      exact s_lo [1, 2, 3, 4, 0] rfl (hrec0 (s0.1 + 1, I20) hf))
  exact s_lo [1, 2, 3, 4, 0] rfl (k15 n (0, I) hf)
def B_X12_colouring_32 (n : Nat) (N : pN) (P : pR) (a0 : Nat) (x2 : Int32) (rec1 : (Int32 × pI × pL) → Option (pI × pL)) (s1 : Int32 × pI × pL) : Option (pI × pL) :=
  (if x2 ≤ s1.1 then
    some (s1.2.1, s1.2.2)
  else
    Option.bind (P a0 27) fun q13 =>
    Option.bind (f_X12_seesSender N s1.2.1 P a0 x2) fun q16 =>
    Option.bind (α := Int32 × pI × pL) ((if q16 = 0 then
      some (0, s1.2.1, s1.2.2)
    else
      Option.bind (f_X12_seesSender N s1.2.1 P a0 s1.1) fun q20 =>
      (if q20 = 0 then
        some (0, s1.2.1, s1.2.2)
      else
        Option.bind (f_X12_clashes n N s1.2.1 s1.2.2 P a0 x2 s1.1) fun q22 =>
        (if q22.1 = 0 then
          some (0, q22.2.1, q22.2.2)
        else
          some (1, q22.2.1, q22.2.2))))) fun t18 =>
    p_ck (p_ib N q13 ((6 * x2) + s1.1)) <|
    p_ck (decide (t18.1 = 0 ∨ t18.1 = 1)) <|
    p_let (p_u t18.2.1 q13 (Int32.toNatClampNeg ((6 * x2) + s1.1)) t18.1) fun I26 =>
    rec1 (s1.1 + 1, I26, t18.2.2))
def B_X12_colouring_4 (n : Nat) (N : pN) (P : pR) (a0 : Nat) (rec0 : (Int32 × Int32 × pI × pL) → Option (Int32 × pI × pL)) (s0 : Int32 × Int32 × pI × pL) : Option (Int32 × pI × pL) :=
  Option.bind (P a0 0) fun q3 =>
  p_ck (p_ib N q3 1) <|
  (if (s0.2.2.1 q3 (Int32.toNatClampNeg 1)) ≤ s0.2.1 then
    some (s0.1, s0.2.2.1, s0.2.2.2)
  else
    Option.bind (f_X12_seesSender N s0.2.2.1 P a0 s0.2.1) fun q7 =>
    p_let (α := Int32) ((if q7 = 0 then
      0
    else
      1)) fun t9 =>
    Option.bind (p_it (B_X12_colouring_32 n N P a0 s0.2.1) n (0, s0.2.2.1, s0.2.2.2)) fun t11 =>
    rec0 (s0.1 + t9, s0.2.1 + 1, t11.1, t11.2))
def B_X12_colouring_98 (n : Nat) (N : pN) (P : pR) (a0 : Nat) (rec0 : (Int32 × pI) → Option (Int32 × pI)) (s0 : Int32 × pI) : Option (Int32 × pI) :=
  Option.bind (f_X12_colours n N s0.2 P a0 s0.1) fun q73 =>
  (if q73.1 = 0 then
    rec0 (s0.1 + 1, q73.2)
  else
    some (s0.1, q73.2))
def f_X12_colouring (n : Nat) (N : pN) (I : pI) (L : pL) (P : pR) (a0 : Nat) : Option (Int32 × pI × pL) :=
  Option.bind (p_it (B_X12_colouring_4 n N P a0) n (0, 0, I, L)) fun t1 =>
  (if t1.1 = 0 then
    some (0, t1.2.1, t1.2.2)
  else
    Option.bind (p_it (B_X12_colouring_98 n N P a0) n (1, t1.2.1)) fun t71 =>
    some (t71.1, t71.2, t1.2.2))
theorem c_X12_colouring {G : pG} {d : Nat} {n : Nat} {N : pN} {I : pI} {L : pL} {P : pR} {a0 : Nat} {qq : Int32 × pI × pL} (hd : 9 ≤ d) (hW : WT N P) (ha0 : p_tp N a0 15) (hf : f_X12_colouring n N I L P a0 = some qq) : MT G mX12_colouring d 0 0 [.ref a0] N I L P (p_R (some (.int qq.1)) N qq.2.1 qq.2.2 P) := by
  refine MT.of rfl (Nat.le_of_ble_eq_true rfl) ?_
  show SW G mX12_colouring (p_rm d 0 0) 0 0 0 0 (p_R (some (.int qq.1)) N qq.2.1 qq.2.2 P) 0 [(0, .ref a0)] [] N I L P
  unfold f_X12_colouring at hf
  refine s_iconst (pc := 0) dX12_colouring_0 (v := 0) rfl ?_
  refine s_istore_n (pc := 1) (lo' := [(1, .int 0), (0, .ref a0)]) dX12_colouring_1 rfl (Nat.le_of_ble_eq_true rfl) rfl ?_
  refine s_iconst (pc := 2) dX12_colouring_2 (v := 0) rfl ?_
  refine s_istore_n (pc := 3) (lo' := [(2, .int 0), (1, .int 0), (0, .ref a0)]) dX12_colouring_3 rfl (Nat.le_of_ble_eq_true rfl) rfl ?_
  obtain ⟨t1, hg, hf⟩ := p_bd hf
  have k2 : SW G mX12_colouring (p_rm d 0 0) 0 0 0 0 (p_R (some (.int qq.1)) N qq.2.1 qq.2.2 P) 90 [(0, .ref a0), (1, .int t1.1)] [] N t1.2.1 t1.2.2 P := by
    refine s_iload_n (pc := 90) dX12_colouring_90 1 rfl rfl ?_
    refine s_if_ne (pc := 91) (tgt := 96) dX12_colouring_91 rfl (fun hc => ?_) (fun hc => ?_)
    · replace hf := p_ng hf hc
      refine s_iconst (pc := 96) dX12_colouring_96 (v := 1) rfl ?_
      refine s_istore_n (pc := 97) (lo' := [(2, .int 1), (0, .ref a0), (1, .int t1.1)]) dX12_colouring_97 rfl (Nat.le_of_ble_eq_true rfl) rfl ?_
      obtain ⟨t71, hg, hf⟩ := p_bd hf
      have k72 : SW G mX12_colouring (p_rm d 0 0) 0 0 0 0 (p_R (some (.int qq.1)) N qq.2.1 qq.2.2 P) 112 [(2, .int t71.1)] [] N t71.2 t1.2.2 P := by
        refine s_iload_n (pc := 112) dX12_colouring_112 0 rfl rfl ?_
        cases hf
        exact s_ireturn (pc := 113) dX12_colouring_113 rfl rfl ⟨rfl, rfl, rfl, rfl, rfl⟩
      replace hf := hg
      have k75 : ∀ (k : Nat) (s0 : Int32 × pI), p_it (B_X12_colouring_98 n N P a0) k s0 = some t71 → (SW G mX12_colouring (p_rm d 0 0) 0 0 0 0 (p_R (some (.int qq.1)) N qq.2.1 qq.2.2 P) 98 [(0, .ref a0), (2, .int s0.1)] [] N s0.2 t1.2.2 P) := p_it_ind (C := fun (s0 : Int32 × pI) => SW G mX12_colouring (p_rm d 0 0) 0 0 0 0 (p_R (some (.int qq.1)) N qq.2.1 qq.2.2 P) 98 [(0, .ref a0), (2, .int s0.1)] [] N s0.2 t1.2.2 P) (by
        intro rec0 hrec0 s0 hf
        unfold B_X12_colouring_98 at hf
        refine s_aload_n (pc := 98) dX12_colouring_98 0 rfl rfl ?_
        refine s_iload_n (pc := 99) dX12_colouring_99 1 rfl rfl ?_
        obtain ⟨q76, h77, hf⟩ := p_bd hf
        refine y_callV1 (pc := 100) dX12_colouring_100 (c_X12_colours (p_dd hd (by decide)) hW ha0 h77) mk_X12_colours mv_X12_colours ml_X12_279 rfl rfl (Nat.le_of_ble_eq_true rfl) ha0 rfl (p_d1 hd (by decide)) (Nat.le_of_ble_eq_true rfl) ?_
        refine s_if_ne (pc := 103) (tgt := 112) dX12_colouring_103 rfl (fun hc => ?_) (fun hc => ?_)
        · replace hf := p_ng hf hc
          cases hf
          exact s_lo [1] rfl (k72)
        · replace hf := p_ps hf hc
          refine s_iinc (pc := 106) (lo' := [(2, .int (s0.1 + 1)), (0, .ref a0)]) dX12_colouring_106 1 rfl (v := s0.1 + 1) rfl (Nat.le_of_ble_eq_true rfl) rfl ?_
          refine s_goto (pc := 109) (tgt := 98) dX12_colouring_109 rfl ?_
          exact s_lo [1, 0] rfl (hrec0 (s0.1 + 1, q76.2) hf))
      exact s_lo [1, 0] rfl (k75 n (1, t1.2.1) hf)
    · replace hf := p_ps hf hc
      refine s_iconst (pc := 94) dX12_colouring_94 (v := 0) rfl ?_
      cases hf
      exact s_ireturn (pc := 95) dX12_colouring_95 rfl rfl ⟨rfl, rfl, rfl, rfl, rfl⟩
  replace hf := hg
  have k44 : ∀ (k : Nat) (s0 : Int32 × Int32 × pI × pL), p_it (B_X12_colouring_4 n N P a0) k s0 = some t1 → (SW G mX12_colouring (p_rm d 0 0) 0 0 0 0 (p_R (some (.int qq.1)) N qq.2.1 qq.2.2 P) 4 [(0, .ref a0), (1, .int s0.1), (2, .int s0.2.1)] [] N s0.2.2.1 s0.2.2.2 P) := p_it_ind (C := fun (s0 : Int32 × Int32 × pI × pL) => SW G mX12_colouring (p_rm d 0 0) 0 0 0 0 (p_R (some (.int qq.1)) N qq.2.1 qq.2.2 P) 4 [(0, .ref a0), (1, .int s0.1), (2, .int s0.2.1)] [] N s0.2.2.1 s0.2.2.2 P) (by
    intro rec0 hrec0 s0 hf
    unfold B_X12_colouring_4 at hf
    refine s_iload_n (pc := 4) dX12_colouring_4 2 rfl rfl ?_
    refine s_aload_n (pc := 5) dX12_colouring_5 0 rfl rfl ?_
    obtain ⟨q45, h46, hf⟩ := p_bd hf
    have t47 : p_tp N q45 0 := WT.get hW ha0 h46
    refine x_getR (pc := 6) dX12_colouring_6 fl_X12_7 rfl ha0 h46 ?_
    refine s_iconst (pc := 9) dX12_colouring_9 (v := 1) rfl ?_
    obtain ⟨c48, hf⟩ := p_ckx hf
    refine x_iald (pc := 10) dX12_colouring_10 t47 c48 ?_
    refine s_icmp_ge (pc := 11) (tgt := 90) dX12_colouring_11 rfl (fun hc => ?_) (fun hc => ?_)
    · replace hf := p_ps hf hc
      cases hf
      exact s_lo [0, 1] rfl (k2)
    · replace hf := p_ng hf hc
      refine s_iload_n (pc := 14) dX12_colouring_14 1 rfl rfl ?_
      refine s_aload_n (pc := 15) dX12_colouring_15 0 rfl rfl ?_
      refine s_iload_n (pc := 16) dX12_colouring_16 2 rfl rfl ?_
      obtain ⟨q49, h50, hf⟩ := p_bd hf
      refine y_callV1 (pc := 17) dX12_colouring_17 (c_X12_seesSender (p_dd hd (by decide)) hW ha0 h50) mk_X12_seesSender mv_X12_seesSender ml_X12_215 rfl rfl (Nat.le_of_ble_eq_true rfl) ha0 rfl (p_d1 hd (by decide)) (Nat.le_of_ble_eq_true rfl) ?_
      obtain ⟨t51, hg, hf⟩ := p_lx2 hf
      have k52 : SW G mX12_colouring (p_rm d 0 0) 0 0 0 0 (p_R (some (.int qq.1)) N qq.2.1 qq.2.2 P) 28 [(0, .ref a0), (2, .int s0.2.1)] [.int t51, .int s0.1] N s0.2.2.1 s0.2.2.2 P := by
        refine s_iadd (pc := 28) dX12_colouring_28 ?_
        refine s_istore_n (pc := 29) (lo' := [(1, .int (s0.1 + t51)), (0, .ref a0), (2, .int s0.2.1)]) dX12_colouring_29 rfl (Nat.le_of_ble_eq_true rfl) rfl ?_
        refine s_iconst (pc := 30) dX12_colouring_30 (v := 0) rfl ?_
        refine s_istore_n (pc := 31) (lo' := [(3, .int 0), (1, .int (s0.1 + t51)), (0, .ref a0), (2, .int s0.2.1)]) dX12_colouring_31 rfl (Nat.le_of_ble_eq_true rfl) rfl ?_
        obtain ⟨t53, hg, hf⟩ := p_bd hf
        have k54 : SW G mX12_colouring (p_rm d 0 0) 0 0 0 0 (p_R (some (.int qq.1)) N qq.2.1 qq.2.2 P) 84 [(1, .int (s0.1 + t51)), (0, .ref a0), (2, .int s0.2.1)] [] N t53.1 t53.2 P := by
          refine s_iinc (pc := 84) (lo' := [(2, .int (s0.2.1 + 1)), (1, .int (s0.1 + t51)), (0, .ref a0)]) dX12_colouring_84 2 rfl (v := s0.2.1 + 1) rfl (Nat.le_of_ble_eq_true rfl) rfl ?_
          refine s_goto (pc := 87) (tgt := 4) dX12_colouring_87 rfl ?_
          exact s_lo [2, 1, 0] rfl (hrec0 (s0.1 + t51, s0.2.1 + 1, t53.1, t53.2) hf)
        replace hf := hg
        have k55 : ∀ (k : Nat) (s1 : Int32 × pI × pL), p_it (B_X12_colouring_32 n N P a0 s0.2.1) k s1 = some t53 → (SW G mX12_colouring (p_rm d 0 0) 0 0 0 0 (p_R (some (.int qq.1)) N qq.2.1 qq.2.2 P) 32 [(1, .int (s0.1 + t51)), (0, .ref a0), (2, .int s0.2.1), (3, .int s1.1)] [] N s1.2.1 s1.2.2 P) := p_it_ind (C := fun (s1 : Int32 × pI × pL) => SW G mX12_colouring (p_rm d 0 0) 0 0 0 0 (p_R (some (.int qq.1)) N qq.2.1 qq.2.2 P) 32 [(1, .int (s0.1 + t51)), (0, .ref a0), (2, .int s0.2.1), (3, .int s1.1)] [] N s1.2.1 s1.2.2 P) (by
          intro rec1 hrec1 s1 hf
          unfold B_X12_colouring_32 at hf
          refine s_iload_n (pc := 32) dX12_colouring_32 3 rfl rfl ?_
          refine s_iload_n (pc := 33) dX12_colouring_33 2 rfl rfl ?_
          refine s_icmp_ge (pc := 34) (tgt := 84) dX12_colouring_34 rfl (fun hc => ?_) (fun hc => ?_)
          · replace hf := p_ps hf hc
            cases hf
            exact s_lo [0, 1, 2] rfl (k54)
          · replace hf := p_ng hf hc
            refine s_aload_n (pc := 37) dX12_colouring_37 1 rfl rfl ?_
            obtain ⟨q56, h57, hf⟩ := p_bd hf
            have t58 : p_tp N q56 1 := WT.get hW ha0 h57
            refine x_getR (pc := 38) dX12_colouring_38 fl_X12_50 rfl ha0 h57 ?_
            refine s_bipush (pc := 41) dX12_colouring_41 (v := 6) rfl ?_
            refine s_iload_n (pc := 43) dX12_colouring_43 2 rfl rfl ?_
            refine s_imul (pc := 44) dX12_colouring_44 ?_
            refine s_iload_n (pc := 45) dX12_colouring_45 3 rfl rfl ?_
            refine s_iadd (pc := 46) dX12_colouring_46 ?_
            refine s_aload_n (pc := 47) dX12_colouring_47 1 rfl rfl ?_
            refine s_iload_n (pc := 48) dX12_colouring_48 2 rfl rfl ?_
            obtain ⟨q59, h60, hf⟩ := p_bd hf
            refine y_callV1 (pc := 49) dX12_colouring_49 (c_X12_seesSender (p_dd hd (by decide)) hW ha0 h60) mk_X12_seesSender mv_X12_seesSender ml_X12_215 rfl rfl (Nat.le_of_ble_eq_true rfl) ha0 rfl (p_d1 hd (by decide)) (Nat.le_of_ble_eq_true rfl) ?_
            obtain ⟨t61, hg, hf⟩ := p_bd hf
            have k62 : SW G mX12_colouring (p_rm d 0 0) 0 0 0 0 (p_R (some (.int qq.1)) N qq.2.1 qq.2.2 P) 77 [(1, .int (s0.1 + t51)), (0, .ref a0), (2, .int s0.2.1), (3, .int s1.1)] [.int t61.1, .int ((6 * s0.2.1) + s1.1), .ref q56] N t61.2.1 t61.2.2 P := by
              obtain ⟨c67, hf⟩ := p_ckx hf
              obtain ⟨c68, hf⟩ := p_ckx hf
              refine x_zast (pc := 77) dX12_colouring_77 t58 c67 (of_decide_eq_true c68) ?_
              refine s_nmI (fun I69 e70 => ?_)
              replace hf := p_lx hf e70
              refine s_iinc (pc := 78) (lo' := [(3, .int (s1.1 + 1)), (1, .int (s0.1 + t51)), (0, .ref a0), (2, .int s0.2.1)]) dX12_colouring_78 3 rfl (v := s1.1 + 1) rfl (Nat.le_of_ble_eq_true rfl) rfl ?_
              refine s_goto (pc := 81) (tgt := 32) dX12_colouring_81 rfl ?_
              exact s_lo [1, 2, 3, 0] rfl (hrec1 (s1.1 + 1, I69, t61.2.2) hf)
            replace hf := hg
            refine s_if_eq (pc := 52) (tgt := 76) dX12_colouring_52 rfl (fun hc => ?_) (fun hc => ?_)
            · replace hf := p_ps hf hc
              refine s_iconst (pc := 76) dX12_colouring_76 (v := 0) rfl ?_
              cases hf
              exact s_lo [0, 1, 2, 3] rfl (k62)
            · replace hf := p_ng hf hc
              refine s_aload_n (pc := 55) dX12_colouring_55 1 rfl rfl ?_
              refine s_iload_n (pc := 56) dX12_colouring_56 3 rfl rfl ?_
              obtain ⟨q63, h64, hf⟩ := p_bd hf
              refine y_callV1 (pc := 57) dX12_colouring_57 (c_X12_seesSender (p_dd hd (by decide)) hW ha0 h64) mk_X12_seesSender mv_X12_seesSender ml_X12_215 rfl rfl (Nat.le_of_ble_eq_true rfl) ha0 rfl (p_d1 hd (by decide)) (Nat.le_of_ble_eq_true rfl) ?_
              refine s_if_eq (pc := 60) (tgt := 76) dX12_colouring_60 rfl (fun hc => ?_) (fun hc => ?_)
              · replace hf := p_ps hf hc
                refine s_iconst (pc := 76) dX12_colouring_76 (v := 0) rfl ?_
                cases hf
                exact s_lo [0, 1, 2, 3] rfl (k62)
              · replace hf := p_ng hf hc
                refine s_aload_n (pc := 63) dX12_colouring_63 1 rfl rfl ?_
                refine s_iload_n (pc := 64) dX12_colouring_64 2 rfl rfl ?_
                refine s_iload_n (pc := 65) dX12_colouring_65 3 rfl rfl ?_
                obtain ⟨q65, h66, hf⟩ := p_bd hf
                refine y_callV1 (pc := 66) dX12_colouring_66 (c_X12_clashes (p_dd hd (by decide)) hW ha0 h66) mk_X12_clashes mv_X12_clashes ml_X12_273 rfl rfl (Nat.le_of_ble_eq_true rfl) ha0 rfl (p_d1 hd (by decide)) (Nat.le_of_ble_eq_true rfl) ?_
                refine s_if_eq (pc := 69) (tgt := 76) dX12_colouring_69 rfl (fun hc => ?_) (fun hc => ?_)
                · replace hf := p_ps hf hc
                  refine s_iconst (pc := 76) dX12_colouring_76 (v := 0) rfl ?_
                  cases hf
                  exact s_lo [0, 1, 2, 3] rfl (k62)
                · replace hf := p_ng hf hc
                  refine s_iconst (pc := 72) dX12_colouring_72 (v := 1) rfl ?_
                  refine s_goto (pc := 73) (tgt := 77) dX12_colouring_73 rfl ?_
                  cases hf
                  exact s_lo [0, 1, 2, 3] rfl (k62))
        exact s_lo [1, 2, 3, 0] rfl (k55 n (0, s0.2.2.1, s0.2.2.2) hf)
      replace hf := hg.symm
      refine s_if_eq (pc := 20) (tgt := 27) dX12_colouring_20 rfl (fun hc => ?_) (fun hc => ?_)
      · replace hf := p_ps hf hc
        refine s_iconst (pc := 27) dX12_colouring_27 (v := 0) rfl ?_
        cases hf
        exact s_lo [0, 2] rfl (k52)
      · replace hf := p_ng hf hc
        refine s_iconst (pc := 23) dX12_colouring_23 (v := 1) rfl ?_
        refine s_goto (pc := 24) (tgt := 28) dX12_colouring_24 rfl ?_
        cases hf
        exact s_lo [0, 2] rfl (k52))
  exact s_lo [2, 1, 0] rfl (k44 n (0, 0, I, L) hf)
