def B_X12_feed_21 (N : pN) (P : pR) (a0 : Nat) (x1 : Int32) (x2 : Int32) (x3 : Int32) (x4 : Int32) (x5 : Int32) (rec0 : (Int32 × pI) → Option pI) (s0 : Int32 × pI) : Option pI :=
  (if 20 ≤ s0.1 then
    some s0.2
  else
    p_let (α := Int32) ((if 4 ≤ s0.1 then
      (if 8 ≤ s0.1 then
        (if 12 ≤ s0.1 then
          (if 16 ≤ s0.1 then
            x5
          else
            x4)
        else
          x3)
      else
        x2)
    else
      x1)) fun t7 =>
    Option.bind (P a0 0) fun q9 =>
    Option.bind (P a0 0) fun q12 =>
    p_ck (p_ib N q12 8) <|
    p_ck (p_ib N q9 (660 + (s0.2 q12 (Int32.toNatClampNeg 8)))) <|
    p_let (p_u s0.2 q9 (Int32.toNatClampNeg (660 + (s0.2 q12 (Int32.toNatClampNeg 8)))) ((t7 >>> ((24 - (8 * (s0.1 - s0.1 / 4 * 4))) &&& 31)) &&& 255)) fun I17 =>
    Option.bind (P a0 0) fun q19 =>
    p_ck (p_ib N q19 8) <|
    p_ck (p_ib N q19 8) <|
    p_let (p_u I17 q19 (Int32.toNatClampNeg 8) ((I17 q19 (Int32.toNatClampNeg 8)) + 1)) fun I24 =>
    rec0 (s0.1 + 1, I24))
def f_X12_feed (n : Nat) (N : pN) (I : pI) (P : pR) (a0 : Nat) (x1 : Int32) (x2 : Int32) (x3 : Int32) (x4 : Int32) (x5 : Int32) : Option (Int32 × pI) :=
  Option.bind (P a0 0) fun q1 =>
  p_ck (p_ib N q1 8) <|
  (if ((I q1 (Int32.toNatClampNeg 8)) + 20) ≤ 500 then
    Option.bind (p_it (B_X12_feed_21 N P a0 x1 x2 x3 x4 x5) n (0, I)) fun t5 =>
    Option.bind (P a0 0) fun q46 =>
    p_ck (p_ib N q46 8) <|
    some (t5 q46 (Int32.toNatClampNeg 8), t5)
  else
    some ((-1), I))
theorem c_X12_feed {G : pG} {d : Nat} {n : Nat} {N : pN} {I : pI} {L : pL} {P : pR} {a0 : Nat} {x1 : Int32} {x2 : Int32} {x3 : Int32} {x4 : Int32} {x5 : Int32} {qq : Int32 × pI} (hd : 0 ≤ d) (hW : WT N P) (ha0 : p_tp N a0 15) (hf : f_X12_feed n N I P a0 x1 x2 x3 x4 x5 = some qq) : MT G mX12_feed d 0 0 [.ref a0, .int x1, .int x2, .int x3, .int x4, .int x5] N I L P (p_R (some (.int qq.1)) N qq.2 L P) := by
  refine MT.of rfl (Nat.le_of_ble_eq_true rfl) ?_
  show SW G mX12_feed (p_rm d 0 0) 0 0 0 0 (p_R (some (.int qq.1)) N qq.2 L P) 0 [(0, .ref a0), (1, .int x1), (2, .int x2), (3, .int x3), (4, .int x4), (5, .int x5)] [] N I L P
  unfold f_X12_feed at hf
  refine s_aload_n (pc := 0) dX12_feed_0 0 rfl rfl ?_
  obtain ⟨q1, h2, hf⟩ := p_bd hf
  have t3 : p_tp N q1 0 := WT.get hW ha0 h2
  refine x_getR (pc := 1) dX12_feed_1 fl_X12_7 rfl ha0 h2 ?_
  refine s_bipush (pc := 4) dX12_feed_4 (v := 8) rfl ?_
  obtain ⟨c4, hf⟩ := p_ckx hf
  refine x_iald (pc := 6) dX12_feed_6 t3 c4 ?_
  refine s_bipush (pc := 7) dX12_feed_7 (v := 20) rfl ?_
  refine s_iadd (pc := 9) dX12_feed_9 ?_
  refine s_sipush (pc := 10) dX12_feed_10 (v := 500) rfl ?_
  refine s_icmp_le (pc := 13) (tgt := 18) dX12_feed_13 rfl (fun hc => ?_) (fun hc => ?_)
  · replace hf := p_ps hf hc
    refine s_iconst (pc := 18) dX12_feed_18 (v := 0) rfl ?_
    refine s_istore (pc := 19) dX12_feed_19 (Nat.le_of_ble_eq_true rfl) rfl ?_
    obtain ⟨t5, hg, hf⟩ := p_bd hf
    have k6 : SW G mX12_feed (p_rm d 0 0) 0 0 0 0 (p_R (some (.int qq.1)) N qq.2 L P) 126 [(0, .ref a0)] [] N t5 L P := by
      refine s_aload_n (pc := 126) dX12_feed_126 0 rfl rfl ?_
      obtain ⟨q46, h47, hf⟩ := p_bd hf
      have t48 : p_tp N q46 0 := WT.get hW ha0 h47
      refine x_getR (pc := 127) dX12_feed_127 fl_X12_7 rfl ha0 h47 ?_
      refine s_bipush (pc := 130) dX12_feed_130 (v := 8) rfl ?_
      obtain ⟨c49, hf⟩ := p_ckx hf
      refine x_iald (pc := 132) dX12_feed_132 t48 c49 ?_
      cases hf
      exact s_ireturn (pc := 133) dX12_feed_133 rfl rfl ⟨rfl, rfl, rfl, rfl, rfl⟩
    replace hf := hg
    have k26 : ∀ (k : Nat) (s0 : Int32 × pI), p_it (B_X12_feed_21 N P a0 x1 x2 x3 x4 x5) k s0 = some t5 → (SW G mX12_feed (p_rm d 0 0) 0 0 0 0 (p_R (some (.int qq.1)) N qq.2 L P) 21 [(0, .ref a0), (1, .int x1), (2, .int x2), (3, .int x3), (4, .int x4), (5, .int x5), (6, .int s0.1)] [] N s0.2 L P) := p_it_ind (C := fun (s0 : Int32 × pI) => SW G mX12_feed (p_rm d 0 0) 0 0 0 0 (p_R (some (.int qq.1)) N qq.2 L P) 21 [(0, .ref a0), (1, .int x1), (2, .int x2), (3, .int x3), (4, .int x4), (5, .int x5), (6, .int s0.1)] [] N s0.2 L P) (by
      intro rec0 hrec0 s0 hf
      unfold B_X12_feed_21 at hf
      refine s_iload (pc := 21) dX12_feed_21 6 rfl ?_
      refine s_bipush (pc := 23) dX12_feed_23 (v := 20) rfl ?_
      refine s_icmp_ge (pc := 25) (tgt := 126) dX12_feed_25 rfl (fun hc => ?_) (fun hc => ?_)
      · replace hf := p_ps hf hc
        cases hf
        exact s_lo [0] rfl (k6)
      · replace hf := p_ng hf hc
        refine s_iload (pc := 28) dX12_feed_28 6 rfl ?_
        refine s_iconst (pc := 30) dX12_feed_30 (v := 4) rfl ?_
        obtain ⟨t27, hg, hf⟩ := p_lx2 hf
        have k28 : SW G mX12_feed (p_rm d 0 0) 0 0 0 0 (p_R (some (.int qq.1)) N qq.2 L P) 74 [(0, .ref a0), (1, .int x1), (2, .int x2), (3, .int x3), (4, .int x4), (5, .int x5), (6, .int s0.1)] [.int t27] N s0.2 L P := by
          refine s_istore (pc := 74) dX12_feed_74 (Nat.le_of_ble_eq_true rfl) rfl ?_
          refine s_aload_n (pc := 76) dX12_feed_76 1 rfl rfl ?_
          obtain ⟨q29, h30, hf⟩ := p_bd hf
          have t31 : p_tp N q29 0 := WT.get hW ha0 h30
          refine x_getR (pc := 77) dX12_feed_77 fl_X12_7 rfl ha0 h30 ?_
          refine s_sipush (pc := 80) dX12_feed_80 (v := 660) rfl ?_
          refine s_aload_n (pc := 83) dX12_feed_83 1 rfl rfl ?_
          obtain ⟨q32, h33, hf⟩ := p_bd hf
          have t34 : p_tp N q32 0 := WT.get hW ha0 h33
          refine x_getR (pc := 84) dX12_feed_84 fl_X12_7 rfl ha0 h33 ?_
          refine s_bipush (pc := 87) dX12_feed_87 (v := 8) rfl ?_
          obtain ⟨c35, hf⟩ := p_ckx hf
          refine x_iald (pc := 89) dX12_feed_89 t34 c35 ?_
          refine s_iadd (pc := 90) dX12_feed_90 ?_
          refine s_iload (pc := 91) dX12_feed_91 0 rfl ?_
          refine s_bipush (pc := 93) dX12_feed_93 (v := 24) rfl ?_
          refine s_bipush (pc := 95) dX12_feed_95 (v := 8) rfl ?_
          refine s_iload (pc := 97) dX12_feed_97 7 rfl ?_
          refine s_iconst (pc := 99) dX12_feed_99 (v := 4) rfl ?_
          refine s_irem (pc := 100) dX12_feed_100 (by decide) ?_
          refine s_imul (pc := 101) dX12_feed_101 ?_
          refine s_isub (pc := 102) dX12_feed_102 ?_
          refine s_ishr (pc := 103) dX12_feed_103 ?_
          refine s_sipush (pc := 104) dX12_feed_104 (v := 255) rfl ?_
          refine s_iand (pc := 107) dX12_feed_107 ?_
          obtain ⟨c36, hf⟩ := p_ckx hf
          refine x_iast (pc := 108) dX12_feed_108 t31 c36 ?_
          refine s_nmI (fun I37 e38 => ?_)
          replace hf := p_lx hf e38
          refine s_aload_n (pc := 109) dX12_feed_109 1 rfl rfl ?_
          obtain ⟨q39, h40, hf⟩ := p_bd hf
          have t41 : p_tp N q39 0 := WT.get hW ha0 h40
          refine x_getR (pc := 110) dX12_feed_110 fl_X12_7 rfl ha0 h40 ?_
          refine s_bipush (pc := 113) dX12_feed_113 (v := 8) rfl ?_
          refine s_dup2_11 (pc := 115) dX12_feed_115 rfl rfl ?_
          obtain ⟨c42, hf⟩ := p_ckx hf
          refine x_iald (pc := 116) dX12_feed_116 t41 c42 ?_
          refine s_iconst (pc := 117) dX12_feed_117 (v := 1) rfl ?_
          refine s_iadd (pc := 118) dX12_feed_118 ?_
          obtain ⟨c43, hf⟩ := p_ckx hf
          refine x_iast (pc := 119) dX12_feed_119 t41 c43 ?_
          refine s_nmI (fun I44 e45 => ?_)
          replace hf := p_lx hf e45
          refine s_iinc (pc := 120) dX12_feed_120 7 rfl (v := s0.1 + 1) rfl (Nat.le_of_ble_eq_true rfl) rfl ?_
          refine s_goto (pc := 123) (tgt := 21) dX12_feed_123 rfl ?_
          exact s_lo [2, 3, 4, 5, 6, 7, 0] rfl (hrec0 _ hf)
        replace hf := hg.symm
        refine s_icmp_ge (pc := 31) (tgt := 38) dX12_feed_31 rfl (fun hc => ?_) (fun hc => ?_)
        · replace hf := p_ps hf hc
          refine s_iload (pc := 38) dX12_feed_38 6 rfl ?_
          refine s_bipush (pc := 40) dX12_feed_40 (v := 8) rfl ?_
          refine s_icmp_ge (pc := 42) (tgt := 49) dX12_feed_42 rfl (fun hc => ?_) (fun hc => ?_)
          · replace hf := p_ps hf hc
            refine s_iload (pc := 49) dX12_feed_49 6 rfl ?_
            refine s_bipush (pc := 51) dX12_feed_51 (v := 12) rfl ?_
            refine s_icmp_ge (pc := 53) (tgt := 60) dX12_feed_53 rfl (fun hc => ?_) (fun hc => ?_)
            · replace hf := p_ps hf hc
              refine s_iload (pc := 60) dX12_feed_60 6 rfl ?_
              refine s_bipush (pc := 62) dX12_feed_62 (v := 16) rfl ?_
              refine s_icmp_ge (pc := 64) (tgt := 72) dX12_feed_64 rfl (fun hc => ?_) (fun hc => ?_)
              · replace hf := p_ps hf hc
                refine s_iload (pc := 72) dX12_feed_72 5 rfl ?_
                cases hf
                exact s_lo [0, 1, 2, 3, 4, 5, 6] rfl (k28)
              · replace hf := p_ng hf hc
                refine s_iload (pc := 67) dX12_feed_67 4 rfl ?_
                refine s_goto (pc := 69) (tgt := 74) dX12_feed_69 rfl ?_
                cases hf
                exact s_lo [0, 1, 2, 3, 4, 5, 6] rfl (k28)
            · replace hf := p_ng hf hc
              refine s_iload_n (pc := 56) dX12_feed_56 3 rfl rfl ?_
              refine s_goto (pc := 57) (tgt := 74) dX12_feed_57 rfl ?_
              cases hf
              exact s_lo [0, 1, 2, 3, 4, 5, 6] rfl (k28)
          · replace hf := p_ng hf hc
            refine s_iload_n (pc := 45) dX12_feed_45 2 rfl rfl ?_
            refine s_goto (pc := 46) (tgt := 74) dX12_feed_46 rfl ?_
            cases hf
            exact s_lo [0, 1, 2, 3, 4, 5, 6] rfl (k28)
        · replace hf := p_ng hf hc
          refine s_iload_n (pc := 34) dX12_feed_34 1 rfl rfl ?_
          refine s_goto (pc := 35) (tgt := 74) dX12_feed_35 rfl ?_
          cases hf
          exact s_lo [0, 1, 2, 3, 4, 5, 6] rfl (k28))
    exact s_lo [1, 2, 3, 4, 5, 6, 0] rfl (k26 _ _ hf)
  · replace hf := p_ng hf hc
    refine s_iconst (pc := 16) dX12_feed_16 (v := -1) rfl ?_
    cases hf
    exact s_ireturn (pc := 17) dX12_feed_17 rfl rfl ⟨rfl, rfl, rfl, rfl, rfl⟩
def f_X12_end (N : pN) (I : pI) (P : pR) (a0 : Nat) (x1 : Int32) : Option (Int32 × pI) :=
  (if x1 < 0 then
    some ((-1), I)
  else
    Option.bind (P a0 0) fun q1 =>
    p_ck (p_ib N q1 8) <|
    (if x1 ≤ (I q1 (Int32.toNatClampNeg 8)) then
      Option.bind (P a0 0) fun q5 =>
      p_ck (p_ib N q5 8) <|
      p_let (p_u I q5 (Int32.toNatClampNeg 8) x1) fun I9 =>
      some (x1, I9)
    else
      some ((-1), I)))
theorem c_X12_end {G : pG} {d : Nat} {N : pN} {I : pI} {L : pL} {P : pR} {a0 : Nat} {x1 : Int32} {qq : Int32 × pI} (hd : 0 ≤ d) (hW : WT N P) (ha0 : p_tp N a0 15) (hf : f_X12_end N I P a0 x1 = some qq) : MT G mX12_end d 0 0 [.ref a0, .int x1] N I L P (p_R (some (.int qq.1)) N qq.2 L P) := by
  refine MT.of rfl (Nat.le_of_ble_eq_true rfl) ?_
  show SW G mX12_end (p_rm d 0 0) 0 0 0 0 (p_R (some (.int qq.1)) N qq.2 L P) 0 [(0, .ref a0), (1, .int x1)] [] N I L P
  unfold f_X12_end at hf
  refine s_iload_n (pc := 0) dX12_end_0 1 rfl rfl ?_
  refine s_if_lt (pc := 1) (tgt := 15) dX12_end_1 rfl (fun hc => ?_) (fun hc => ?_)
  · replace hf := p_ps hf hc
    refine s_iconst (pc := 15) dX12_end_15 (v := -1) rfl ?_
    cases hf
    exact s_ireturn (pc := 16) dX12_end_16 rfl rfl ⟨rfl, rfl, rfl, rfl, rfl⟩
  · replace hf := p_ng hf hc
    refine s_iload_n (pc := 4) dX12_end_4 1 rfl rfl ?_
    refine s_aload_n (pc := 5) dX12_end_5 0 rfl rfl ?_
    obtain ⟨q1, h2, hf⟩ := p_bd hf
    have t3 : p_tp N q1 0 := WT.get hW ha0 h2
    refine x_getR (pc := 6) dX12_end_6 fl_X12_7 rfl ha0 h2 ?_
    refine s_bipush (pc := 9) dX12_end_9 (v := 8) rfl ?_
    obtain ⟨c4, hf⟩ := p_ckx hf
    refine x_iald (pc := 11) dX12_end_11 t3 c4 ?_
    refine s_icmp_le (pc := 12) (tgt := 17) dX12_end_12 rfl (fun hc => ?_) (fun hc => ?_)
    · replace hf := p_ps hf hc
      refine s_aload_n (pc := 17) dX12_end_17 0 rfl rfl ?_
      obtain ⟨q5, h6, hf⟩ := p_bd hf
      have t7 : p_tp N q5 0 := WT.get hW ha0 h6
      refine x_getR (pc := 18) dX12_end_18 fl_X12_7 rfl ha0 h6 ?_
      refine s_bipush (pc := 21) dX12_end_21 (v := 8) rfl ?_
      refine s_iload_n (pc := 23) dX12_end_23 1 rfl rfl ?_
      obtain ⟨c8, hf⟩ := p_ckx hf
      refine x_iast (pc := 24) dX12_end_24 t7 c8 ?_
      refine s_nmI (fun I9 e10 => ?_)
      replace hf := p_lx hf e10
      refine s_iload_n (pc := 25) dX12_end_25 1 rfl rfl ?_
      cases hf
      exact s_ireturn (pc := 26) dX12_end_26 rfl rfl ⟨rfl, rfl, rfl, rfl, rfl⟩
    · replace hf := p_ng hf hc
      refine s_iconst (pc := 15) dX12_end_15 (v := -1) rfl ?_
      cases hf
      exact s_ireturn (pc := 16) dX12_end_16 rfl rfl ⟨rfl, rfl, rfl, rfl, rfl⟩
def f_X12_byteAt (N : pN) (I : pI) (P : pR) (a0 : Nat) (x1 : Int32) : Option Int32 :=
  (if (I a0 28) ≤ x1 then
    some (-1)
  else
    Option.bind (P a0 0) fun q1 =>
    p_ck (p_ib N q1 (660 + x1)) <|
    some (I q1 (Int32.toNatClampNeg (660 + x1))))
theorem c_X12_byteAt {G : pG} {d : Nat} {N : pN} {I : pI} {L : pL} {P : pR} {a0 : Nat} {x1 : Int32} {qq : Int32} (hd : 0 ≤ d) (hW : WT N P) (ha0 : p_tp N a0 15) (hf : f_X12_byteAt N I P a0 x1 = some qq) : MT G mX12_byteAt d 0 0 [.ref a0, .int x1] N I L P (p_R (some (.int qq)) N I L P) := by
  refine MT.of rfl (Nat.le_of_ble_eq_true rfl) ?_
  show SW G mX12_byteAt (p_rm d 0 0) 0 0 0 0 (p_R (some (.int qq)) N I L P) 0 [(0, .ref a0), (1, .int x1)] [] N I L P
  unfold f_X12_byteAt at hf
  refine s_iload_n (pc := 0) dX12_byteAt_0 1 rfl rfl ?_
  refine s_aload_n (pc := 1) dX12_byteAt_1 0 rfl rfl ?_
  refine x_getI (pc := 2) dX12_byteAt_2 fl_X12_293 rfl ha0 ?_
  refine s_icmp_ge (pc := 5) (tgt := 21) dX12_byteAt_5 rfl (fun hc => ?_) (fun hc => ?_)
  · replace hf := p_ps hf hc
    refine s_iconst (pc := 21) dX12_byteAt_21 (v := -1) rfl ?_
    cases hf
    exact s_ireturn (pc := 22) dX12_byteAt_22 rfl rfl ⟨rfl, rfl, rfl, rfl, rfl⟩
  · replace hf := p_ng hf hc
    refine s_aload_n (pc := 8) dX12_byteAt_8 0 rfl rfl ?_
    obtain ⟨q1, h2, hf⟩ := p_bd hf
    have t3 : p_tp N q1 0 := WT.get hW ha0 h2
    refine x_getR (pc := 9) dX12_byteAt_9 fl_X12_7 rfl ha0 h2 ?_
    refine s_sipush (pc := 12) dX12_byteAt_12 (v := 660) rfl ?_
    refine s_iload_n (pc := 15) dX12_byteAt_15 1 rfl rfl ?_
    refine s_iadd (pc := 16) dX12_byteAt_16 ?_
    obtain ⟨c4, hf⟩ := p_ckx hf
    refine x_iald (pc := 17) dX12_byteAt_17 t3 c4 ?_
    refine s_goto (pc := 18) (tgt := 22) dX12_byteAt_18 rfl ?_
    cases hf
    exact s_ireturn (pc := 22) dX12_byteAt_22 rfl rfl ⟨rfl, rfl, rfl, rfl, rfl⟩
def f_X12_isLetter (x0 : Int32) : Option Int32 :=
  (if x0 < 97 then
    some 0
  else
    (if 122 < x0 then
      some 0
    else
      some 1))
theorem c_X12_isLetter {G : pG} {d : Nat} {N : pN} {I : pI} {L : pL} {P : pR} {x0 : Int32} {qq : Int32} (hd : 0 ≤ d) (hW : WT N P) (hf : f_X12_isLetter x0 = some qq) : MT G mX12_isLetter d 0 0 [.int x0] N I L P (p_R (some (.int qq)) N I L P) := by
  refine MT.of rfl (Nat.le_of_ble_eq_true rfl) ?_
  show SW G mX12_isLetter (p_rm d 0 0) 0 0 0 0 (p_R (some (.int qq)) N I L P) 0 [(0, .int x0)] [] N I L P
  unfold f_X12_isLetter at hf
  refine s_iload_n (pc := 0) dX12_isLetter_0 0 rfl rfl ?_
  refine s_bipush (pc := 1) dX12_isLetter_1 (v := 97) rfl ?_
  refine s_icmp_lt (pc := 3) (tgt := 16) dX12_isLetter_3 rfl (fun hc => ?_) (fun hc => ?_)
  · replace hf := p_ps hf hc
    refine s_iconst (pc := 16) dX12_isLetter_16 (v := 0) rfl ?_
    cases hf
    exact s_ireturn (pc := 17) dX12_isLetter_17 rfl rfl ⟨rfl, rfl, rfl, rfl, rfl⟩
  · replace hf := p_ng hf hc
    refine s_iload_n (pc := 6) dX12_isLetter_6 0 rfl rfl ?_
    refine s_bipush (pc := 7) dX12_isLetter_7 (v := 122) rfl ?_
    refine s_icmp_gt (pc := 9) (tgt := 16) dX12_isLetter_9 rfl (fun hc => ?_) (fun hc => ?_)
    · replace hf := p_ps hf hc
      refine s_iconst (pc := 16) dX12_isLetter_16 (v := 0) rfl ?_
      cases hf
      exact s_ireturn (pc := 17) dX12_isLetter_17 rfl rfl ⟨rfl, rfl, rfl, rfl, rfl⟩
    · replace hf := p_ng hf hc
      refine s_iconst (pc := 12) dX12_isLetter_12 (v := 1) rfl ?_
      refine s_goto (pc := 13) (tgt := 17) dX12_isLetter_13 rfl ?_
      cases hf
      exact s_ireturn (pc := 17) dX12_isLetter_17 rfl rfl ⟨rfl, rfl, rfl, rfl, rfl⟩
def f_X12_isDigit (x0 : Int32) : Option Int32 :=
  (if x0 < 48 then
    some 0
  else
    (if 57 < x0 then
      some 0
    else
      some 1))
theorem c_X12_isDigit {G : pG} {d : Nat} {N : pN} {I : pI} {L : pL} {P : pR} {x0 : Int32} {qq : Int32} (hd : 0 ≤ d) (hW : WT N P) (hf : f_X12_isDigit x0 = some qq) : MT G mX12_isDigit d 0 0 [.int x0] N I L P (p_R (some (.int qq)) N I L P) := by
  refine MT.of rfl (Nat.le_of_ble_eq_true rfl) ?_
  show SW G mX12_isDigit (p_rm d 0 0) 0 0 0 0 (p_R (some (.int qq)) N I L P) 0 [(0, .int x0)] [] N I L P
  unfold f_X12_isDigit at hf
  refine s_iload_n (pc := 0) dX12_isDigit_0 0 rfl rfl ?_
  refine s_bipush (pc := 1) dX12_isDigit_1 (v := 48) rfl ?_
  refine s_icmp_lt (pc := 3) (tgt := 16) dX12_isDigit_3 rfl (fun hc => ?_) (fun hc => ?_)
  · replace hf := p_ps hf hc
    refine s_iconst (pc := 16) dX12_isDigit_16 (v := 0) rfl ?_
    cases hf
    exact s_ireturn (pc := 17) dX12_isDigit_17 rfl rfl ⟨rfl, rfl, rfl, rfl, rfl⟩
  · replace hf := p_ng hf hc
    refine s_iload_n (pc := 6) dX12_isDigit_6 0 rfl rfl ?_
    refine s_bipush (pc := 7) dX12_isDigit_7 (v := 57) rfl ?_
    refine s_icmp_gt (pc := 9) (tgt := 16) dX12_isDigit_9 rfl (fun hc => ?_) (fun hc => ?_)
    · replace hf := p_ps hf hc
      refine s_iconst (pc := 16) dX12_isDigit_16 (v := 0) rfl ?_
      cases hf
      exact s_ireturn (pc := 17) dX12_isDigit_17 rfl rfl ⟨rfl, rfl, rfl, rfl, rfl⟩
    · replace hf := p_ng hf hc
      refine s_iconst (pc := 12) dX12_isDigit_12 (v := 1) rfl ?_
      refine s_goto (pc := 13) (tgt := 17) dX12_isDigit_13 rfl ?_
      cases hf
      exact s_ireturn (pc := 17) dX12_isDigit_17 rfl rfl ⟨rfl, rfl, rfl, rfl, rfl⟩
def f_X12_three (x0 : Int32) (x1 : Int32) (x2 : Int32) : Option Int64 :=
  some ((((((32 * (Int32.toInt64 (x0 - 96))) + (Int32.toInt64 x1)) - 96) * 32) + (Int32.toInt64 x2)) - 96)
theorem c_X12_three {G : pG} {d : Nat} {N : pN} {I : pI} {L : pL} {P : pR} {x0 : Int32} {x1 : Int32} {x2 : Int32} {qq : Int64} (hd : 0 ≤ d) (hW : WT N P) (hf : f_X12_three x0 x1 x2 = some qq) : MT G mX12_three d 0 0 [.int x0, .int x1, .int x2] N I L P (p_R (some (.long qq)) N I L P) := by
  refine MT.of rfl (Nat.le_of_ble_eq_true rfl) ?_
  show SW G mX12_three (p_rm d 0 0) 0 0 0 0 (p_R (some (.long qq)) N I L P) 0 [(0, .int x0), (1, .int x1), (2, .int x2)] [] N I L P
  unfold f_X12_three at hf
  refine s_ldc2 (pc := 0) kl_X12_296 dX12_three_0 ?_
  refine s_iload_n (pc := 3) dX12_three_3 0 rfl rfl ?_
  refine s_bipush (pc := 4) dX12_three_4 (v := 96) rfl ?_
  refine s_isub (pc := 6) dX12_three_6 ?_
  refine s_i2l (pc := 7) dX12_three_7 ?_
  refine s_lmul (pc := 8) dX12_three_8 ?_
  refine s_iload_n (pc := 9) dX12_three_9 1 rfl rfl ?_
  refine s_i2l (pc := 10) dX12_three_10 ?_
  refine s_ladd (pc := 11) dX12_three_11 ?_
  refine s_ldc2 (pc := 12) kl_X12_298 dX12_three_12 ?_
  refine s_lsub (pc := 15) dX12_three_15 ?_
  refine s_ldc2 (pc := 16) kl_X12_296 dX12_three_16 ?_
  refine s_lmul (pc := 19) dX12_three_19 ?_
  refine s_iload_n (pc := 20) dX12_three_20 2 rfl rfl ?_
  refine s_i2l (pc := 21) dX12_three_21 ?_
  refine s_ladd (pc := 22) dX12_three_22 ?_
  refine s_ldc2 (pc := 23) kl_X12_298 dX12_three_23 ?_
  refine s_lsub (pc := 26) dX12_three_26 ?_
  cases hf
  exact s_lreturn (pc := 27) dX12_three_27 rfl ⟨rfl, rfl, rfl, rfl, rfl⟩
def f_X12_four (x0 : Int32) (x1 : Int32) (x2 : Int32) (x3 : Int32) : Option Int64 :=
  Option.bind (f_X12_three x0 x1 x2) fun q1 =>
  some (((q1 * 32) + (Int32.toInt64 x3)) - 96)
theorem c_X12_four {G : pG} {d : Nat} {N : pN} {I : pI} {L : pL} {P : pR} {x0 : Int32} {x1 : Int32} {x2 : Int32} {x3 : Int32} {qq : Int64} (hd : 1 ≤ d) (hW : WT N P) (hf : f_X12_four x0 x1 x2 x3 = some qq) : MT G mX12_four d 0 0 [.int x0, .int x1, .int x2, .int x3] N I L P (p_R (some (.long qq)) N I L P) := by
  refine MT.of rfl (Nat.le_of_ble_eq_true rfl) ?_
  show SW G mX12_four (p_rm d 0 0) 0 0 0 0 (p_R (some (.long qq)) N I L P) 0 [(0, .int x0), (1, .int x1), (2, .int x2), (3, .int x3)] [] N I L P
  unfold f_X12_four at hf
  refine s_iload_n (pc := 0) dX12_four_0 0 rfl rfl ?_
  refine s_iload_n (pc := 1) dX12_four_1 1 rfl rfl ?_
  refine s_iload_n (pc := 2) dX12_four_2 2 rfl rfl ?_
  obtain ⟨q1, h2, hf⟩ := p_bd hf
  refine y_callS1 (pc := 3) dX12_four_3 (c_X12_three (p_dd hd (by decide)) hW  h2) mk_X12_three mz_X12_three ml_X12_300 rfl rfl (Nat.le_of_ble_eq_true rfl) (p_d1 hd (by decide)) (Nat.le_of_ble_eq_true rfl) ?_
  refine s_ldc2 (pc := 6) kl_X12_296 dX12_four_6 ?_
  refine s_lmul (pc := 9) dX12_four_9 ?_
  refine s_iload_n (pc := 10) dX12_four_10 3 rfl rfl ?_
  refine s_i2l (pc := 11) dX12_four_11 ?_
  refine s_ladd (pc := 12) dX12_four_12 ?_
  refine s_ldc2 (pc := 13) kl_X12_298 dX12_four_13 ?_
  refine s_lsub (pc := 16) dX12_four_16 ?_
  cases hf
  exact s_lreturn (pc := 17) dX12_four_17 rfl ⟨rfl, rfl, rfl, rfl, rfl⟩
def f_X12_wordOf (x0 : Int64) : Option Int32 :=
  Option.bind (f_X12_four 119 97 108 108) fun q1 =>
  (if x0 = q1 then
    some 1
  else
    Option.bind (f_X12_three 115 101 110) fun q3 =>
    Option.bind (f_X12_three 100 101 114) fun q5 =>
    (if x0 = ((q3 * 32768) + q5) then
      some 2
    else
      Option.bind (f_X12_four 110 101 101 100) fun q7 =>
      (if x0 = q7 then
        some 3
      else
        Option.bind (f_X12_four 115 105 116 101) fun q9 =>
        (if x0 = q9 then
          some 4
        else
          Option.bind (f_X12_four 97 108 111 110) fun q11 =>
          (if x0 = (((q11 * 32) + 101) - 96) then
            some 10
          else
            Option.bind (f_X12_three 99 111 108) fun q13 =>
            Option.bind (f_X12_three 111 117 114) fun q15 =>
            (if x0 = ((q13 * 32768) + q15) then
              some 11
            else
              Option.bind (f_X12_four 112 111 119 101) fun q17 =>
              (if x0 = (((q17 * 32) + 114) - 96) then
                some 12
              else
                (if x0 = 24 then
                  some 13
                else
                  (if x0 = 25 then
                    some 14
                  else
                    Option.bind (f_X12_four 104 111 117 114) fun q19 =>
                    (if x0 = q19 then
                      some 15
                    else
                      Option.bind (f_X12_four 104 101 97 114) fun q21 =>
                      (if x0 = (((q21 * 32) + 100) - 96) then
                        some 16
                      else
                        Option.bind (f_X12_three 98 97 114) fun q23 =>
                        (if x0 = q23 then
                          some 20
                        else
                          Option.bind (f_X12_three 109 97 121) fun q25 =>
                          (if x0 = q25 then
                            some 21
                          else
                            (if x0 = 294 then
                              some 30
                            else
                              Option.bind (f_X12_three 97 110 100) fun q27 =>
                              (if x0 = q27 then
                                some 31
                              else
                                Option.bind (f_X12_three 110 111 116) fun q29 =>
                                (if x0 = q29 then
                                  some 32
                                else
                                  some 99))))))))))))))))
theorem c_X12_wordOf {G : pG} {d : Nat} {N : pN} {I : pI} {L : pL} {P : pR} {x0 : Int64} {qq : Int32} (hd : 2 ≤ d) (hW : WT N P) (hf : f_X12_wordOf x0 = some qq) : MT G mX12_wordOf d 0 0 [.long x0] N I L P (p_R (some (.int qq)) N I L P) := by
  refine MT.of rfl (Nat.le_of_ble_eq_true rfl) ?_
  show SW G mX12_wordOf (p_rm d 0 0) 0 0 0 0 (p_R (some (.int qq)) N I L P) 0 [(0, .long x0)] [] N I L P
  unfold f_X12_wordOf at hf
  refine s_lload_n (pc := 0) dX12_wordOf_0 0 rfl rfl ?_
  refine s_bipush (pc := 1) dX12_wordOf_1 (v := 119) rfl ?_
  refine s_bipush (pc := 3) dX12_wordOf_3 (v := 97) rfl ?_
  refine s_bipush (pc := 5) dX12_wordOf_5 (v := 108) rfl ?_
  refine s_bipush (pc := 7) dX12_wordOf_7 (v := 108) rfl ?_
  obtain ⟨q1, h2, hf⟩ := p_bd hf
  refine y_callS1 (pc := 9) dX12_wordOf_9 (c_X12_four (p_dd hd (by decide)) hW  h2) mk_X12_four mz_X12_four ml_X12_304 rfl rfl (Nat.le_of_ble_eq_true rfl) (p_d1 hd (by decide)) (Nat.le_of_ble_eq_true rfl) ?_
  refine x_lcmp_ne (pc := 12) (tgt := 18) dX12_wordOf_12 dX12_wordOf_13 rfl (fun hc => ?_) (fun hc => ?_)
  · replace hf := p_ng hf hc
    refine s_lload_n (pc := 18) dX12_wordOf_18 0 rfl rfl ?_
    refine s_bipush (pc := 19) dX12_wordOf_19 (v := 115) rfl ?_
    refine s_bipush (pc := 21) dX12_wordOf_21 (v := 101) rfl ?_
    refine s_bipush (pc := 23) dX12_wordOf_23 (v := 110) rfl ?_
    obtain ⟨q3, h4, hf⟩ := p_bd hf
    refine y_callS1 (pc := 25) dX12_wordOf_25 (c_X12_three (p_dd hd (by decide)) hW  h4) mk_X12_three mz_X12_three ml_X12_300 rfl rfl (Nat.le_of_ble_eq_true rfl) (p_d1 hd (by decide)) (Nat.le_of_ble_eq_true rfl) ?_
    refine s_ldc2 (pc := 28) kl_X12_308 dX12_wordOf_28 ?_
    refine s_lmul (pc := 31) dX12_wordOf_31 ?_
    refine s_bipush (pc := 32) dX12_wordOf_32 (v := 100) rfl ?_
    refine s_bipush (pc := 34) dX12_wordOf_34 (v := 101) rfl ?_
    refine s_bipush (pc := 36) dX12_wordOf_36 (v := 114) rfl ?_
    obtain ⟨q5, h6, hf⟩ := p_bd hf
    refine y_callS1 (pc := 38) dX12_wordOf_38 (c_X12_three (p_dd hd (by decide)) hW  h6) mk_X12_three mz_X12_three ml_X12_300 rfl rfl (Nat.le_of_ble_eq_true rfl) (p_d1 hd (by decide)) (Nat.le_of_ble_eq_true rfl) ?_
    refine s_ladd (pc := 41) dX12_wordOf_41 ?_
    refine x_lcmp_ne (pc := 42) (tgt := 48) dX12_wordOf_42 dX12_wordOf_43 rfl (fun hc => ?_) (fun hc => ?_)
    · replace hf := p_ng hf hc
      refine s_lload_n (pc := 48) dX12_wordOf_48 0 rfl rfl ?_
      refine s_bipush (pc := 49) dX12_wordOf_49 (v := 110) rfl ?_
      refine s_bipush (pc := 51) dX12_wordOf_51 (v := 101) rfl ?_
      refine s_bipush (pc := 53) dX12_wordOf_53 (v := 101) rfl ?_
      refine s_bipush (pc := 55) dX12_wordOf_55 (v := 100) rfl ?_
      obtain ⟨q7, h8, hf⟩ := p_bd hf
      refine y_callS1 (pc := 57) dX12_wordOf_57 (c_X12_four (p_dd hd (by decide)) hW  h8) mk_X12_four mz_X12_four ml_X12_304 rfl rfl (Nat.le_of_ble_eq_true rfl) (p_d1 hd (by decide)) (Nat.le_of_ble_eq_true rfl) ?_
      refine x_lcmp_ne (pc := 60) (tgt := 66) dX12_wordOf_60 dX12_wordOf_61 rfl (fun hc => ?_) (fun hc => ?_)
      · replace hf := p_ng hf hc
        refine s_lload_n (pc := 66) dX12_wordOf_66 0 rfl rfl ?_
        refine s_bipush (pc := 67) dX12_wordOf_67 (v := 115) rfl ?_
        refine s_bipush (pc := 69) dX12_wordOf_69 (v := 105) rfl ?_
        refine s_bipush (pc := 71) dX12_wordOf_71 (v := 116) rfl ?_
        refine s_bipush (pc := 73) dX12_wordOf_73 (v := 101) rfl ?_
        obtain ⟨q9, h10, hf⟩ := p_bd hf
        refine y_callS1 (pc := 75) dX12_wordOf_75 (c_X12_four (p_dd hd (by decide)) hW  h10) mk_X12_four mz_X12_four ml_X12_304 rfl rfl (Nat.le_of_ble_eq_true rfl) (p_d1 hd (by decide)) (Nat.le_of_ble_eq_true rfl) ?_
        refine x_lcmp_ne (pc := 78) (tgt := 84) dX12_wordOf_78 dX12_wordOf_79 rfl (fun hc => ?_) (fun hc => ?_)
        · replace hf := p_ng hf hc
          refine s_lload_n (pc := 84) dX12_wordOf_84 0 rfl rfl ?_
          refine s_bipush (pc := 85) dX12_wordOf_85 (v := 97) rfl ?_
          refine s_bipush (pc := 87) dX12_wordOf_87 (v := 108) rfl ?_
          refine s_bipush (pc := 89) dX12_wordOf_89 (v := 111) rfl ?_
          refine s_bipush (pc := 91) dX12_wordOf_91 (v := 110) rfl ?_
          obtain ⟨q11, h12, hf⟩ := p_bd hf
          refine y_callS1 (pc := 93) dX12_wordOf_93 (c_X12_four (p_dd hd (by decide)) hW  h12) mk_X12_four mz_X12_four ml_X12_304 rfl rfl (Nat.le_of_ble_eq_true rfl) (p_d1 hd (by decide)) (Nat.le_of_ble_eq_true rfl) ?_
          refine s_ldc2 (pc := 96) kl_X12_296 dX12_wordOf_96 ?_
          refine s_lmul (pc := 99) dX12_wordOf_99 ?_
          refine s_ldc2 (pc := 100) kl_X12_310 dX12_wordOf_100 ?_
          refine s_ladd (pc := 103) dX12_wordOf_103 ?_
          refine s_ldc2 (pc := 104) kl_X12_298 dX12_wordOf_104 ?_
          refine s_lsub (pc := 107) dX12_wordOf_107 ?_
          refine x_lcmp_ne (pc := 108) (tgt := 115) dX12_wordOf_108 dX12_wordOf_109 rfl (fun hc => ?_) (fun hc => ?_)
          · replace hf := p_ng hf hc
            refine s_lload_n (pc := 115) dX12_wordOf_115 0 rfl rfl ?_
            refine s_bipush (pc := 116) dX12_wordOf_116 (v := 99) rfl ?_
            refine s_bipush (pc := 118) dX12_wordOf_118 (v := 111) rfl ?_
            refine s_bipush (pc := 120) dX12_wordOf_120 (v := 108) rfl ?_
            obtain ⟨q13, h14, hf⟩ := p_bd hf
            refine y_callS1 (pc := 122) dX12_wordOf_122 (c_X12_three (p_dd hd (by decide)) hW  h14) mk_X12_three mz_X12_three ml_X12_300 rfl rfl (Nat.le_of_ble_eq_true rfl) (p_d1 hd (by decide)) (Nat.le_of_ble_eq_true rfl) ?_
            refine s_ldc2 (pc := 125) kl_X12_308 dX12_wordOf_125 ?_
            refine s_lmul (pc := 128) dX12_wordOf_128 ?_
            refine s_bipush (pc := 129) dX12_wordOf_129 (v := 111) rfl ?_
            refine s_bipush (pc := 131) dX12_wordOf_131 (v := 117) rfl ?_
            refine s_bipush (pc := 133) dX12_wordOf_133 (v := 114) rfl ?_
            obtain ⟨q15, h16, hf⟩ := p_bd hf
            refine y_callS1 (pc := 135) dX12_wordOf_135 (c_X12_three (p_dd hd (by decide)) hW  h16) mk_X12_three mz_X12_three ml_X12_300 rfl rfl (Nat.le_of_ble_eq_true rfl) (p_d1 hd (by decide)) (Nat.le_of_ble_eq_true rfl) ?_
            refine s_ladd (pc := 138) dX12_wordOf_138 ?_
            refine x_lcmp_ne (pc := 139) (tgt := 146) dX12_wordOf_139 dX12_wordOf_140 rfl (fun hc => ?_) (fun hc => ?_)
            · replace hf := p_ng hf hc
              refine s_lload_n (pc := 146) dX12_wordOf_146 0 rfl rfl ?_
              refine s_bipush (pc := 147) dX12_wordOf_147 (v := 112) rfl ?_
              refine s_bipush (pc := 149) dX12_wordOf_149 (v := 111) rfl ?_
              refine s_bipush (pc := 151) dX12_wordOf_151 (v := 119) rfl ?_
              refine s_bipush (pc := 153) dX12_wordOf_153 (v := 101) rfl ?_
              obtain ⟨q17, h18, hf⟩ := p_bd hf
              refine y_callS1 (pc := 155) dX12_wordOf_155 (c_X12_four (p_dd hd (by decide)) hW  h18) mk_X12_four mz_X12_four ml_X12_304 rfl rfl (Nat.le_of_ble_eq_true rfl) (p_d1 hd (by decide)) (Nat.le_of_ble_eq_true rfl) ?_
              refine s_ldc2 (pc := 158) kl_X12_296 dX12_wordOf_158 ?_
              refine s_lmul (pc := 161) dX12_wordOf_161 ?_
              refine s_ldc2 (pc := 162) kl_X12_312 dX12_wordOf_162 ?_
              refine s_ladd (pc := 165) dX12_wordOf_165 ?_
              refine s_ldc2 (pc := 166) kl_X12_298 dX12_wordOf_166 ?_
              refine s_lsub (pc := 169) dX12_wordOf_169 ?_
              refine x_lcmp_ne (pc := 170) (tgt := 177) dX12_wordOf_170 dX12_wordOf_171 rfl (fun hc => ?_) (fun hc => ?_)
              · replace hf := p_ng hf hc
                refine s_lload_n (pc := 177) dX12_wordOf_177 0 rfl rfl ?_
                refine s_ldc2 (pc := 178) kl_X12_314 dX12_wordOf_178 ?_
                refine x_lcmp_ne (pc := 181) (tgt := 188) dX12_wordOf_181 dX12_wordOf_182 rfl (fun hc => ?_) (fun hc => ?_)
                · replace hf := p_ng hf hc
                  refine s_lload_n (pc := 188) dX12_wordOf_188 0 rfl rfl ?_
                  refine s_ldc2 (pc := 189) kl_X12_316 dX12_wordOf_189 ?_
                  refine x_lcmp_ne (pc := 192) (tgt := 199) dX12_wordOf_192 dX12_wordOf_193 rfl (fun hc => ?_) (fun hc => ?_)
                  · replace hf := p_ng hf hc
                    refine s_lload_n (pc := 199) dX12_wordOf_199 0 rfl rfl ?_
                    refine s_bipush (pc := 200) dX12_wordOf_200 (v := 104) rfl ?_
                    refine s_bipush (pc := 202) dX12_wordOf_202 (v := 111) rfl ?_
                    refine s_bipush (pc := 204) dX12_wordOf_204 (v := 117) rfl ?_
                    refine s_bipush (pc := 206) dX12_wordOf_206 (v := 114) rfl ?_
                    obtain ⟨q19, h20, hf⟩ := p_bd hf
                    refine y_callS1 (pc := 208) dX12_wordOf_208 (c_X12_four (p_dd hd (by decide)) hW  h20) mk_X12_four mz_X12_four ml_X12_304 rfl rfl (Nat.le_of_ble_eq_true rfl) (p_d1 hd (by decide)) (Nat.le_of_ble_eq_true rfl) ?_
                    refine x_lcmp_ne (pc := 211) (tgt := 218) dX12_wordOf_211 dX12_wordOf_212 rfl (fun hc => ?_) (fun hc => ?_)
                    · replace hf := p_ng hf hc
                      refine s_lload_n (pc := 218) dX12_wordOf_218 0 rfl rfl ?_
                      refine s_bipush (pc := 219) dX12_wordOf_219 (v := 104) rfl ?_
                      refine s_bipush (pc := 221) dX12_wordOf_221 (v := 101) rfl ?_
                      refine s_bipush (pc := 223) dX12_wordOf_223 (v := 97) rfl ?_
                      refine s_bipush (pc := 225) dX12_wordOf_225 (v := 114) rfl ?_
                      obtain ⟨q21, h22, hf⟩ := p_bd hf
                      refine y_callS1 (pc := 227) dX12_wordOf_227 (c_X12_four (p_dd hd (by decide)) hW  h22) mk_X12_four mz_X12_four ml_X12_304 rfl rfl (Nat.le_of_ble_eq_true rfl) (p_d1 hd (by decide)) (Nat.le_of_ble_eq_true rfl) ?_
                      refine s_ldc2 (pc := 230) kl_X12_296 dX12_wordOf_230 ?_
                      refine s_lmul (pc := 233) dX12_wordOf_233 ?_
                      refine s_ldc2 (pc := 234) kl_X12_111 dX12_wordOf_234 ?_
                      refine s_ladd (pc := 237) dX12_wordOf_237 ?_
                      refine s_ldc2 (pc := 238) kl_X12_298 dX12_wordOf_238 ?_
                      refine s_lsub (pc := 241) dX12_wordOf_241 ?_
                      refine x_lcmp_ne (pc := 242) (tgt := 249) dX12_wordOf_242 dX12_wordOf_243 rfl (fun hc => ?_) (fun hc => ?_)
                      · replace hf := p_ng hf hc
                        refine s_lload_n (pc := 249) dX12_wordOf_249 0 rfl rfl ?_
                        refine s_bipush (pc := 250) dX12_wordOf_250 (v := 98) rfl ?_
                        refine s_bipush (pc := 252) dX12_wordOf_252 (v := 97) rfl ?_
                        refine s_bipush (pc := 254) dX12_wordOf_254 (v := 114) rfl ?_
                        obtain ⟨q23, h24, hf⟩ := p_bd hf
                        refine y_callS1 (pc := 256) dX12_wordOf_256 (c_X12_three (p_dd hd (by decide)) hW  h24) mk_X12_three mz_X12_three ml_X12_300 rfl rfl (Nat.le_of_ble_eq_true rfl) (p_d1 hd (by decide)) (Nat.le_of_ble_eq_true rfl) ?_
                        refine x_lcmp_ne (pc := 259) (tgt := 266) dX12_wordOf_259 dX12_wordOf_260 rfl (fun hc => ?_) (fun hc => ?_)
                        · replace hf := p_ng hf hc
                          refine s_lload_n (pc := 266) dX12_wordOf_266 0 rfl rfl ?_
                          refine s_bipush (pc := 267) dX12_wordOf_267 (v := 109) rfl ?_
                          refine s_bipush (pc := 269) dX12_wordOf_269 (v := 97) rfl ?_
                          refine s_bipush (pc := 271) dX12_wordOf_271 (v := 121) rfl ?_
                          obtain ⟨q25, h26, hf⟩ := p_bd hf
                          refine y_callS1 (pc := 273) dX12_wordOf_273 (c_X12_three (p_dd hd (by decide)) hW  h26) mk_X12_three mz_X12_three ml_X12_300 rfl rfl (Nat.le_of_ble_eq_true rfl) (p_d1 hd (by decide)) (Nat.le_of_ble_eq_true rfl) ?_
                          refine x_lcmp_ne (pc := 276) (tgt := 283) dX12_wordOf_276 dX12_wordOf_277 rfl (fun hc => ?_) (fun hc => ?_)
                          · replace hf := p_ng hf hc
                            refine s_lload_n (pc := 283) dX12_wordOf_283 0 rfl rfl ?_
                            refine s_ldc2 (pc := 284) kl_X12_318 dX12_wordOf_284 ?_
                            refine x_lcmp_ne (pc := 287) (tgt := 294) dX12_wordOf_287 dX12_wordOf_288 rfl (fun hc => ?_) (fun hc => ?_)
                            · replace hf := p_ng hf hc
                              refine s_lload_n (pc := 294) dX12_wordOf_294 0 rfl rfl ?_
                              refine s_bipush (pc := 295) dX12_wordOf_295 (v := 97) rfl ?_
                              refine s_bipush (pc := 297) dX12_wordOf_297 (v := 110) rfl ?_
                              refine s_bipush (pc := 299) dX12_wordOf_299 (v := 100) rfl ?_
                              obtain ⟨q27, h28, hf⟩ := p_bd hf
                              refine y_callS1 (pc := 301) dX12_wordOf_301 (c_X12_three (p_dd hd (by decide)) hW  h28) mk_X12_three mz_X12_three ml_X12_300 rfl rfl (Nat.le_of_ble_eq_true rfl) (p_d1 hd (by decide)) (Nat.le_of_ble_eq_true rfl) ?_
                              refine x_lcmp_ne (pc := 304) (tgt := 311) dX12_wordOf_304 dX12_wordOf_305 rfl (fun hc => ?_) (fun hc => ?_)
                              · replace hf := p_ng hf hc
                                refine s_lload_n (pc := 311) dX12_wordOf_311 0 rfl rfl ?_
                                refine s_bipush (pc := 312) dX12_wordOf_312 (v := 110) rfl ?_
                                refine s_bipush (pc := 314) dX12_wordOf_314 (v := 111) rfl ?_
                                refine s_bipush (pc := 316) dX12_wordOf_316 (v := 116) rfl ?_
                                obtain ⟨q29, h30, hf⟩ := p_bd hf
                                refine y_callS1 (pc := 318) dX12_wordOf_318 (c_X12_three (p_dd hd (by decide)) hW  h30) mk_X12_three mz_X12_three ml_X12_300 rfl rfl (Nat.le_of_ble_eq_true rfl) (p_d1 hd (by decide)) (Nat.le_of_ble_eq_true rfl) ?_
                                refine x_lcmp_ne (pc := 321) (tgt := 328) dX12_wordOf_321 dX12_wordOf_322 rfl (fun hc => ?_) (fun hc => ?_)
                                · replace hf := p_ng hf hc
                                  refine s_bipush (pc := 328) dX12_wordOf_328 (v := 99) rfl ?_
                                  cases hf
                                  exact s_ireturn (pc := 330) dX12_wordOf_330 rfl rfl ⟨rfl, rfl, rfl, rfl, rfl⟩
                                · replace hf := p_ps hf hc
                                  refine s_bipush (pc := 325) dX12_wordOf_325 (v := 32) rfl ?_
                                  cases hf
                                  exact s_ireturn (pc := 327) dX12_wordOf_327 rfl rfl ⟨rfl, rfl, rfl, rfl, rfl⟩
                              · replace hf := p_ps hf hc
                                refine s_bipush (pc := 308) dX12_wordOf_308 (v := 31) rfl ?_
                                cases hf
                                exact s_ireturn (pc := 310) dX12_wordOf_310 rfl rfl ⟨rfl, rfl, rfl, rfl, rfl⟩
                            · replace hf := p_ps hf hc
                              refine s_bipush (pc := 291) dX12_wordOf_291 (v := 30) rfl ?_
                              cases hf
                              exact s_ireturn (pc := 293) dX12_wordOf_293 rfl rfl ⟨rfl, rfl, rfl, rfl, rfl⟩
                          · replace hf := p_ps hf hc
                            refine s_bipush (pc := 280) dX12_wordOf_280 (v := 21) rfl ?_
                            cases hf
                            exact s_ireturn (pc := 282) dX12_wordOf_282 rfl rfl ⟨rfl, rfl, rfl, rfl, rfl⟩
                        · replace hf := p_ps hf hc
                          refine s_bipush (pc := 263) dX12_wordOf_263 (v := 20) rfl ?_
                          cases hf
                          exact s_ireturn (pc := 265) dX12_wordOf_265 rfl rfl ⟨rfl, rfl, rfl, rfl, rfl⟩
                      · replace hf := p_ps hf hc
                        refine s_bipush (pc := 246) dX12_wordOf_246 (v := 16) rfl ?_
                        cases hf
                        exact s_ireturn (pc := 248) dX12_wordOf_248 rfl rfl ⟨rfl, rfl, rfl, rfl, rfl⟩
                    · replace hf := p_ps hf hc
                      refine s_bipush (pc := 215) dX12_wordOf_215 (v := 15) rfl ?_
                      cases hf
                      exact s_ireturn (pc := 217) dX12_wordOf_217 rfl rfl ⟨rfl, rfl, rfl, rfl, rfl⟩
                  · replace hf := p_ps hf hc
                    refine s_bipush (pc := 196) dX12_wordOf_196 (v := 14) rfl ?_
                    cases hf
                    exact s_ireturn (pc := 198) dX12_wordOf_198 rfl rfl ⟨rfl, rfl, rfl, rfl, rfl⟩
                · replace hf := p_ps hf hc
                  refine s_bipush (pc := 185) dX12_wordOf_185 (v := 13) rfl ?_
                  cases hf
                  exact s_ireturn (pc := 187) dX12_wordOf_187 rfl rfl ⟨rfl, rfl, rfl, rfl, rfl⟩
              · replace hf := p_ps hf hc
                refine s_bipush (pc := 174) dX12_wordOf_174 (v := 12) rfl ?_
                cases hf
                exact s_ireturn (pc := 176) dX12_wordOf_176 rfl rfl ⟨rfl, rfl, rfl, rfl, rfl⟩
            · replace hf := p_ps hf hc
              refine s_bipush (pc := 143) dX12_wordOf_143 (v := 11) rfl ?_
              cases hf
              exact s_ireturn (pc := 145) dX12_wordOf_145 rfl rfl ⟨rfl, rfl, rfl, rfl, rfl⟩
          · replace hf := p_ps hf hc
            refine s_bipush (pc := 112) dX12_wordOf_112 (v := 10) rfl ?_
            cases hf
            exact s_ireturn (pc := 114) dX12_wordOf_114 rfl rfl ⟨rfl, rfl, rfl, rfl, rfl⟩
        · replace hf := p_ps hf hc
          refine s_iconst (pc := 82) dX12_wordOf_82 (v := 4) rfl ?_
          cases hf
          exact s_ireturn (pc := 83) dX12_wordOf_83 rfl rfl ⟨rfl, rfl, rfl, rfl, rfl⟩
      · replace hf := p_ps hf hc
        refine s_iconst (pc := 64) dX12_wordOf_64 (v := 3) rfl ?_
        cases hf
        exact s_ireturn (pc := 65) dX12_wordOf_65 rfl rfl ⟨rfl, rfl, rfl, rfl, rfl⟩
    · replace hf := p_ps hf hc
      refine s_iconst (pc := 46) dX12_wordOf_46 (v := 2) rfl ?_
      cases hf
      exact s_ireturn (pc := 47) dX12_wordOf_47 rfl rfl ⟨rfl, rfl, rfl, rfl, rfl⟩
  · replace hf := p_ps hf hc
    refine s_iconst (pc := 16) dX12_wordOf_16 (v := 1) rfl ?_
    cases hf
    exact s_ireturn (pc := 17) dX12_wordOf_17 rfl rfl ⟨rfl, rfl, rfl, rfl, rfl⟩
def f_X12_isSignByte (x0 : Int32) : Option Int32 :=
  (if x0 = 58 then
    some 1
  else
    (if x0 = 59 then
      some 1
    else
      (if x0 = 60 then
        some 1
      else
        (if x0 = 62 then
          some 1
        else
          (if x0 = 61 then
            some 1
          else
            some 0)))))
theorem c_X12_isSignByte {G : pG} {d : Nat} {N : pN} {I : pI} {L : pL} {P : pR} {x0 : Int32} {qq : Int32} (hd : 0 ≤ d) (hW : WT N P) (hf : f_X12_isSignByte x0 = some qq) : MT G mX12_isSignByte d 0 0 [.int x0] N I L P (p_R (some (.int qq)) N I L P) := by
  refine MT.of rfl (Nat.le_of_ble_eq_true rfl) ?_
  show SW G mX12_isSignByte (p_rm d 0 0) 0 0 0 0 (p_R (some (.int qq)) N I L P) 0 [(0, .int x0)] [] N I L P
  unfold f_X12_isSignByte at hf
  refine s_iload_n (pc := 0) dX12_isSignByte_0 0 rfl rfl ?_
  refine s_bipush (pc := 1) dX12_isSignByte_1 (v := 58) rfl ?_
  refine s_icmp_eq (pc := 3) (tgt := 30) dX12_isSignByte_3 rfl (fun hc => ?_) (fun hc => ?_)
  · replace hf := p_ps hf hc
    refine s_iconst (pc := 30) dX12_isSignByte_30 (v := 1) rfl ?_
    refine s_goto (pc := 31) (tgt := 35) dX12_isSignByte_31 rfl ?_
    cases hf
    exact s_ireturn (pc := 35) dX12_isSignByte_35 rfl rfl ⟨rfl, rfl, rfl, rfl, rfl⟩
  · replace hf := p_ng hf hc
    refine s_iload_n (pc := 6) dX12_isSignByte_6 0 rfl rfl ?_
    refine s_bipush (pc := 7) dX12_isSignByte_7 (v := 59) rfl ?_
    refine s_icmp_eq (pc := 9) (tgt := 30) dX12_isSignByte_9 rfl (fun hc => ?_) (fun hc => ?_)
    · replace hf := p_ps hf hc
      refine s_iconst (pc := 30) dX12_isSignByte_30 (v := 1) rfl ?_
      refine s_goto (pc := 31) (tgt := 35) dX12_isSignByte_31 rfl ?_
      cases hf
      exact s_ireturn (pc := 35) dX12_isSignByte_35 rfl rfl ⟨rfl, rfl, rfl, rfl, rfl⟩
    · replace hf := p_ng hf hc
      refine s_iload_n (pc := 12) dX12_isSignByte_12 0 rfl rfl ?_
      refine s_bipush (pc := 13) dX12_isSignByte_13 (v := 60) rfl ?_
      refine s_icmp_eq (pc := 15) (tgt := 30) dX12_isSignByte_15 rfl (fun hc => ?_) (fun hc => ?_)
      · replace hf := p_ps hf hc
        refine s_iconst (pc := 30) dX12_isSignByte_30 (v := 1) rfl ?_
        refine s_goto (pc := 31) (tgt := 35) dX12_isSignByte_31 rfl ?_
        cases hf
        exact s_ireturn (pc := 35) dX12_isSignByte_35 rfl rfl ⟨rfl, rfl, rfl, rfl, rfl⟩
      · replace hf := p_ng hf hc
        refine s_iload_n (pc := 18) dX12_isSignByte_18 0 rfl rfl ?_
        refine s_bipush (pc := 19) dX12_isSignByte_19 (v := 62) rfl ?_
        refine s_icmp_eq (pc := 21) (tgt := 30) dX12_isSignByte_21 rfl (fun hc => ?_) (fun hc => ?_)
        · replace hf := p_ps hf hc
          refine s_iconst (pc := 30) dX12_isSignByte_30 (v := 1) rfl ?_
          refine s_goto (pc := 31) (tgt := 35) dX12_isSignByte_31 rfl ?_
          cases hf
          exact s_ireturn (pc := 35) dX12_isSignByte_35 rfl rfl ⟨rfl, rfl, rfl, rfl, rfl⟩
        · replace hf := p_ng hf hc
          refine s_iload_n (pc := 24) dX12_isSignByte_24 0 rfl rfl ?_
          refine s_bipush (pc := 25) dX12_isSignByte_25 (v := 61) rfl ?_
          refine s_icmp_ne (pc := 27) (tgt := 34) dX12_isSignByte_27 rfl (fun hc => ?_) (fun hc => ?_)
          · replace hf := p_ng hf hc
            refine s_iconst (pc := 34) dX12_isSignByte_34 (v := 0) rfl ?_
            cases hf
            exact s_ireturn (pc := 35) dX12_isSignByte_35 rfl rfl ⟨rfl, rfl, rfl, rfl, rfl⟩
          · replace hf := p_ps hf hc
            refine s_iconst (pc := 30) dX12_isSignByte_30 (v := 1) rfl ?_
            refine s_goto (pc := 31) (tgt := 35) dX12_isSignByte_31 rfl ?_
            cases hf
            exact s_ireturn (pc := 35) dX12_isSignByte_35 rfl rfl ⟨rfl, rfl, rfl, rfl, rfl⟩
def B_X12_advance_0 (N : pN) (P : pR) (a0 : Nat) (rec0 : pI → Option pI) (s0 : pI) : Option pI :=
  Option.bind (f_X12_byteAt N s0 P a0 (s0 a0 29)) fun q3 =>
  (if q3 = 10 then
    p_let (p_u s0 a0 29 ((s0 a0 29) + 1)) fun I5 =>
    rec0 I5
  else
    Option.bind (f_X12_byteAt N s0 P a0 (s0 a0 29)) fun q7 =>
    (if q7 = 32 then
      p_let (p_u s0 a0 29 ((s0 a0 29) + 1)) fun I9 =>
      rec0 I9
    else
      some s0))
def B_X12_advance_198 (N : pN) (P : pR) (a0 : Nat) (rec0 : pI → Option pI) (s0 : pI) : Option pI :=
  Option.bind (f_X12_byteAt N s0 P a0 (s0 a0 29)) fun q42 =>
  Option.bind (f_X12_isDigit q42) fun q44 =>
  (if q44 = 0 then
    some s0
  else
    Option.bind (α := pI) ((if 4 ≤ ((s0 a0 29) - (s0 a0 30)) then
      some s0
    else
      Option.bind (f_X12_byteAt N s0 P a0 (s0 a0 29)) fun q48 =>
      p_let (p_u s0 a0 32 (((10 * (s0 a0 32)) + q48) - 48)) fun I50 =>
      some I50)) fun t46 =>
    p_let (p_u t46 a0 29 ((t46 a0 29) + 1)) fun I52 =>
    rec0 I52)
def B_X12_advance_77 (N : pN) (P : pR) (a0 : Nat) (rec0 : (Int64 × pI) → Option (Int64 × pI)) (s0 : Int64 × pI) : Option (Int64 × pI) :=
  Option.bind (f_X12_byteAt N s0.2 P a0 (s0.2 a0 29)) fun q73 =>
  Option.bind (f_X12_isLetter q73) fun q75 =>
  (if q75 = 0 then
    some (s0.1, s0.2)
  else
    Option.bind (α := Int64) ((if 7 ≤ ((s0.2 a0 29) - (s0.2 a0 30)) then
      some s0.1
    else
      Option.bind (f_X12_byteAt N s0.2 P a0 (s0.2 a0 29)) fun q79 =>
      p_let (((32 * s0.1) + (Int32.toInt64 q79)) - 96) fun v81 =>
      some v81)) fun t77 =>
    p_let (p_u s0.2 a0 29 ((s0.2 a0 29) + 1)) fun I83 =>
    rec0 (t77, I83))
def f_X12_advance (n : Nat) (N : pN) (I : pI) (P : pR) (a0 : Nat) : Option pI :=
  Option.bind (p_it (B_X12_advance_0 N P a0) n I) fun t1 =>
  p_let (p_u t1 a0 30 (t1 a0 29)) fun I20 =>
  Option.bind (f_X12_byteAt N I20 P a0 (I20 a0 29)) fun q22 =>
  (if 0 ≤ q22 then
    Option.bind (f_X12_isLetter q22) fun q24 =>
    (if q24 = 0 then
      Option.bind (f_X12_isDigit q22) fun q26 =>
      (if q26 = 0 then
        p_let (p_u I20 a0 29 ((I20 a0 29) + 1)) fun I28 =>
        p_let (p_u I28 a0 33 q22) fun I30 =>
        Option.bind (f_X12_isSignByte q22) fun q32 =>
        (if q32 = 0 then
          p_let (p_u I30 a0 31 4) fun I34 =>
          some I34
        else
          p_let (p_u I30 a0 31 2) fun I36 =>
          some I36)
      else
        p_let (p_u I20 a0 32 0) fun I38 =>
        Option.bind (p_it (B_X12_advance_198 N P a0) n I38) fun t40 =>
        p_let (α := Int32) ((if ((t40 a0 29) - (t40 a0 30)) ≤ 4 then
          1
        else
          4)) fun t67 =>
        p_let (p_u t40 a0 31 t67) fun I69 =>
        some I69)
    else
      Option.bind (p_it (B_X12_advance_77 N P a0) n (0, I20)) fun t71 =>
      Option.bind (α := Int32) ((if ((t71.2 a0 29) - (t71.2 a0 30)) ≤ 6 then
        Option.bind (f_X12_wordOf t71.1) fun q100 =>
        some q100
      else
        some 99)) fun t98 =>
      p_let (p_u t71.2 a0 34 t98) fun I102 =>
      p_let (α := Int32) ((if (I102 a0 34) = 99 then
        4
      else
        3)) fun t104 =>
      p_let (p_u I102 a0 31 t104) fun I106 =>
      some I106)
  else
    p_let (p_u I20 a0 31 0) fun I108 =>
    some I108)
theorem c_X12_advance {G : pG} {d : Nat} {n : Nat} {N : pN} {I : pI} {L : pL} {P : pR} {a0 : Nat} {qq : pI} (hd : 3 ≤ d) (hW : WT N P) (ha0 : p_tp N a0 15) (hf : f_X12_advance n N I P a0 = some qq) : MT G mX12_advance d 0 0 [.ref a0] N I L P (p_R none N qq L P) := by
  refine MT.of rfl (Nat.le_of_ble_eq_true rfl) ?_
  show SW G mX12_advance (p_rm d 0 0) 0 0 0 0 (p_R none N qq L P) 0 [(0, .ref a0)] [] N I L P
  unfold f_X12_advance at hf
  obtain ⟨t1, hg, hf⟩ := p_bd hf
  have k2 : SW G mX12_advance (p_rm d 0 0) 0 0 0 0 (p_R none N qq L P) 39 [(0, .ref a0)] [] N t1 L P := by
    refine s_aload_n (pc := 39) dX12_advance_39 0 rfl rfl ?_
    refine s_aload_n (pc := 40) dX12_advance_40 0 rfl rfl ?_
    refine x_getI (pc := 41) dX12_advance_41 fl_X12_320 rfl ha0 ?_
    refine x_putI (pc := 44) dX12_advance_44 fl_X12_327 (Or.inl rfl) rfl ha0 ?_
    refine s_nmI (fun I20 e21 => ?_)
    replace hf := p_lx hf e21
    refine s_aload_n (pc := 47) dX12_advance_47 0 rfl rfl ?_
    refine s_aload_n (pc := 48) dX12_advance_48 0 rfl rfl ?_
    refine x_getI (pc := 49) dX12_advance_49 fl_X12_320 rfl ha0 ?_
    obtain ⟨q22, h23, hf⟩ := p_bd hf
    refine y_callV1 (pc := 52) dX12_advance_52 (c_X12_byteAt (p_dd hd (by decide)) hW ha0 h23) mk_X12_byteAt mv_X12_byteAt ml_X12_323 rfl rfl (Nat.le_of_ble_eq_true rfl) ha0 rfl (p_d1 hd (by decide)) (Nat.le_of_ble_eq_true rfl) ?_
    refine s_istore_n (pc := 55) dX12_advance_55 rfl (Nat.le_of_ble_eq_true rfl) rfl ?_
    refine s_iload_n (pc := 56) dX12_advance_56 0 rfl rfl ?_
    refine s_if_ge (pc := 57) (tgt := 68) dX12_advance_57 rfl (fun hc => ?_) (fun hc => ?_)
    · replace hf := p_ps hf hc
      refine s_iload_n (pc := 68) dX12_advance_68 0 rfl rfl ?_
      obtain ⟨q24, h25, hf⟩ := p_bd hf
      refine y_callS1 (pc := 69) dX12_advance_69 (c_X12_isLetter (p_dd hd (by decide)) hW  h25) mk_X12_isLetter mz_X12_isLetter ml_X12_333 rfl rfl (Nat.le_of_ble_eq_true rfl) (p_d1 hd (by decide)) (Nat.le_of_ble_eq_true rfl) ?_
      refine s_if_eq (pc := 72) (tgt := 186) dX12_advance_72 rfl (fun hc => ?_) (fun hc => ?_)
      · replace hf := p_ps hf hc
        refine s_iload_n (pc := 186) dX12_advance_186 0 rfl rfl ?_
        obtain ⟨q26, h27, hf⟩ := p_bd hf
        refine y_callS1 (pc := 187) dX12_advance_187 (c_X12_isDigit (p_dd hd (by decide)) hW  h27) mk_X12_isDigit mz_X12_isDigit ml_X12_342 rfl rfl (Nat.le_of_ble_eq_true rfl) (p_d1 hd (by decide)) (Nat.le_of_ble_eq_true rfl) ?_
        refine s_if_eq (pc := 190) (tgt := 286) dX12_advance_190 rfl (fun hc => ?_) (fun hc => ?_)
        · replace hf := p_ps hf hc
          refine s_aload_n (pc := 286) dX12_advance_286 1 rfl rfl ?_
          refine s_dup (pc := 287) dX12_advance_287 rfl ?_
          refine x_getI (pc := 288) dX12_advance_288 fl_X12_320 rfl ha0 ?_
          refine s_iconst (pc := 291) dX12_advance_291 (v := 1) rfl ?_
          refine s_iadd (pc := 292) dX12_advance_292 ?_
          refine x_putI (pc := 293) dX12_advance_293 fl_X12_320 (Or.inl rfl) rfl ha0 ?_
          refine s_nmI (fun I28 e29 => ?_)
          replace hf := p_lx hf e29
          refine s_aload_n (pc := 296) dX12_advance_296 1 rfl rfl ?_
          refine s_iload_n (pc := 297) dX12_advance_297 0 rfl rfl ?_
          refine x_putI (pc := 298) dX12_advance_298 fl_X12_348 (Or.inl rfl) rfl ha0 ?_
          refine s_nmI (fun I30 e31 => ?_)
          replace hf := p_lx hf e31
          refine s_aload_n (pc := 301) dX12_advance_301 1 rfl rfl ?_
          refine s_iload_n (pc := 302) dX12_advance_302 0 rfl rfl ?_
          obtain ⟨q32, h33, hf⟩ := p_bd hf
          refine y_callS1 (pc := 303) dX12_advance_303 (c_X12_isSignByte (p_dd hd (by decide)) hW  h33) mk_X12_isSignByte mz_X12_isSignByte ml_X12_351 rfl rfl (Nat.le_of_ble_eq_true rfl) (p_d1 hd (by decide)) (Nat.le_of_ble_eq_true rfl) ?_
          refine s_if_eq (pc := 306) (tgt := 313) dX12_advance_306 rfl (fun hc => ?_) (fun hc => ?_)
          · replace hf := p_ps hf hc
            refine s_iconst (pc := 313) dX12_advance_313 (v := 4) rfl ?_
            refine x_putI (pc := 314) dX12_advance_314 fl_X12_330 (Or.inl rfl) rfl ha0 ?_
            refine s_nmI (fun I34 e35 => ?_)
            replace hf := p_lx hf e35
            cases hf
            exact s_return (pc := 317) dX12_advance_317 rfl ⟨rfl, rfl, rfl, rfl, rfl⟩
          · replace hf := p_ng hf hc
            refine s_iconst (pc := 309) dX12_advance_309 (v := 2) rfl ?_
            refine s_goto (pc := 310) (tgt := 314) dX12_advance_310 rfl ?_
            refine x_putI (pc := 314) dX12_advance_314 fl_X12_330 (Or.inl rfl) rfl ha0 ?_
            refine s_nmI (fun I36 e37 => ?_)
            replace hf := p_lx hf e37
            cases hf
            exact s_return (pc := 317) dX12_advance_317 rfl ⟨rfl, rfl, rfl, rfl, rfl⟩
        · replace hf := p_ng hf hc
          refine s_aload_n (pc := 193) dX12_advance_193 1 rfl rfl ?_
          refine s_iconst (pc := 194) dX12_advance_194 (v := 0) rfl ?_
          refine x_putI (pc := 195) dX12_advance_195 fl_X12_345 (Or.inl rfl) rfl ha0 ?_
          refine s_nmI (fun I38 e39 => ?_)
          replace hf := p_lx hf e39
          obtain ⟨t40, hg, hf⟩ := p_bd hf
          have k41 : SW G mX12_advance (p_rm d 0 0) 0 0 0 0 (p_R none N qq L P) 261 [(0, .ref a0)] [] N t40 L P := by
            refine s_aload_n (pc := 261) dX12_advance_261 0 rfl rfl ?_
            refine s_aload_n (pc := 262) dX12_advance_262 0 rfl rfl ?_
            refine x_getI (pc := 263) dX12_advance_263 fl_X12_320 rfl ha0 ?_
            refine s_aload_n (pc := 266) dX12_advance_266 0 rfl rfl ?_
            refine x_getI (pc := 267) dX12_advance_267 fl_X12_327 rfl ha0 ?_
            refine s_isub (pc := 270) dX12_advance_270 ?_
            refine s_iconst (pc := 271) dX12_advance_271 (v := 4) rfl ?_
            obtain ⟨t67, hg, hf⟩ := p_lx2 hf
            have k68 : SW G mX12_advance (p_rm d 0 0) 0 0 0 0 (p_R none N qq L P) 280 [] [.int t67, .ref a0] N t40 L P := by
              refine x_putI (pc := 280) dX12_advance_280 fl_X12_330 (Or.inl rfl) rfl ha0 ?_
              refine s_nmI (fun I69 e70 => ?_)
              replace hf := p_lx hf e70
              refine s_goto (pc := 283) (tgt := 317) dX12_advance_283 rfl ?_
              cases hf
              exact s_return (pc := 317) dX12_advance_317 rfl ⟨rfl, rfl, rfl, rfl, rfl⟩
            replace hf := hg.symm
            refine s_icmp_le (pc := 272) (tgt := 279) dX12_advance_272 rfl (fun hc => ?_) (fun hc => ?_)
            · replace hf := p_ps hf hc
              refine s_iconst (pc := 279) dX12_advance_279 (v := 1) rfl ?_
              cases hf
              exact s_lo [] rfl (k68)
            · replace hf := p_ng hf hc
              refine s_iconst (pc := 275) dX12_advance_275 (v := 4) rfl ?_
              refine s_goto (pc := 276) (tgt := 280) dX12_advance_276 rfl ?_
              cases hf
              exact s_lo [] rfl (k68)
          replace hf := hg
          have k54 : ∀ (k : Nat) (s0 : pI), p_it (B_X12_advance_198 N P a0) k s0 = some t40 → (SW G mX12_advance (p_rm d 0 0) 0 0 0 0 (p_R none N qq L P) 198 [(0, .ref a0)] [] N s0 L P) := p_it_ind (C := fun (s0 : pI) => SW G mX12_advance (p_rm d 0 0) 0 0 0 0 (p_R none N qq L P) 198 [(0, .ref a0)] [] N s0 L P) (by
            intro rec0 hrec0 s0 hf
            unfold B_X12_advance_198 at hf
            refine s_aload_n (pc := 198) dX12_advance_198 0 rfl rfl ?_
            refine s_aload_n (pc := 199) dX12_advance_199 0 rfl rfl ?_
            refine x_getI (pc := 200) dX12_advance_200 fl_X12_320 rfl ha0 ?_
            obtain ⟨q55, h56, hf⟩ := p_bd hf
            refine y_callV1 (pc := 203) dX12_advance_203 (c_X12_byteAt (p_dd hd (by decide)) hW ha0 h56) mk_X12_byteAt mv_X12_byteAt ml_X12_323 rfl rfl (Nat.le_of_ble_eq_true rfl) ha0 rfl (p_d1 hd (by decide)) (Nat.le_of_ble_eq_true rfl) ?_
            obtain ⟨q57, h58, hf⟩ := p_bd hf
            refine y_callS1 (pc := 206) dX12_advance_206 (c_X12_isDigit (p_dd hd (by decide)) hW  h58) mk_X12_isDigit mz_X12_isDigit ml_X12_342 rfl rfl (Nat.le_of_ble_eq_true rfl) (p_d1 hd (by decide)) (Nat.le_of_ble_eq_true rfl) ?_
            refine s_if_eq (pc := 209) (tgt := 261) dX12_advance_209 rfl (fun hc => ?_) (fun hc => ?_)
            · replace hf := p_ps hf hc
              cases hf
              exact s_lo [0] rfl (k41)
            · replace hf := p_ng hf hc
              refine s_aload_n (pc := 212) dX12_advance_212 0 rfl rfl ?_
              refine x_getI (pc := 213) dX12_advance_213 fl_X12_320 rfl ha0 ?_
              refine s_aload_n (pc := 216) dX12_advance_216 0 rfl rfl ?_
              refine x_getI (pc := 217) dX12_advance_217 fl_X12_327 rfl ha0 ?_
              refine s_isub (pc := 220) dX12_advance_220 ?_
              refine s_iconst (pc := 221) dX12_advance_221 (v := 4) rfl ?_
              obtain ⟨t59, hg, hf⟩ := p_bd hf
              have k60 : SW G mX12_advance (p_rm d 0 0) 0 0 0 0 (p_R none N qq L P) 248 [(0, .ref a0)] [] N t59 L P := by
                refine s_aload_n (pc := 248) dX12_advance_248 0 rfl rfl ?_
                refine s_dup (pc := 249) dX12_advance_249 rfl ?_
                refine x_getI (pc := 250) dX12_advance_250 fl_X12_320 rfl ha0 ?_
                refine s_iconst (pc := 253) dX12_advance_253 (v := 1) rfl ?_
                refine s_iadd (pc := 254) dX12_advance_254 ?_
                refine x_putI (pc := 255) dX12_advance_255 fl_X12_320 (Or.inl rfl) rfl ha0 ?_
                refine s_nmI (fun I65 e66 => ?_)
                replace hf := p_lx hf e66
                refine s_goto (pc := 258) (tgt := 198) dX12_advance_258 rfl ?_
                exact s_lo [0] rfl (hrec0 _ hf)
              replace hf := hg
              refine s_icmp_ge (pc := 222) (tgt := 248) dX12_advance_222 rfl (fun hc => ?_) (fun hc => ?_)
              · replace hf := p_ps hf hc
                cases hf
                exact s_lo [0] rfl (k60)
              · replace hf := p_ng hf hc
                refine s_aload_n (pc := 225) dX12_advance_225 0 rfl rfl ?_
                refine s_bipush (pc := 226) dX12_advance_226 (v := 10) rfl ?_
                refine s_aload_n (pc := 228) dX12_advance_228 0 rfl rfl ?_
                refine x_getI (pc := 229) dX12_advance_229 fl_X12_345 rfl ha0 ?_
                refine s_imul (pc := 232) dX12_advance_232 ?_
                refine s_aload_n (pc := 233) dX12_advance_233 0 rfl rfl ?_
                refine s_aload_n (pc := 234) dX12_advance_234 0 rfl rfl ?_
                refine x_getI (pc := 235) dX12_advance_235 fl_X12_320 rfl ha0 ?_
                obtain ⟨q61, h62, hf⟩ := p_bd hf
                refine y_callV1 (pc := 238) dX12_advance_238 (c_X12_byteAt (p_dd hd (by decide)) hW ha0 h62) mk_X12_byteAt mv_X12_byteAt ml_X12_323 rfl rfl (Nat.le_of_ble_eq_true rfl) ha0 rfl (p_d1 hd (by decide)) (Nat.le_of_ble_eq_true rfl) ?_
                refine s_iadd (pc := 241) dX12_advance_241 ?_
                refine s_bipush (pc := 242) dX12_advance_242 (v := 48) rfl ?_
                refine s_isub (pc := 244) dX12_advance_244 ?_
                refine x_putI (pc := 245) dX12_advance_245 fl_X12_345 (Or.inl rfl) rfl ha0 ?_
                refine s_nmI (fun I63 e64 => ?_)
                replace hf := p_lx hf e64
                cases hf
                exact s_lo [0] rfl (k60))
          exact s_lo [1] rfl (k54 _ _ hf)
      · replace hf := p_ng hf hc
        refine s_lconst (pc := 75) dX12_advance_75 (v := 0) rfl ?_
        refine s_lstore_n (pc := 76) dX12_advance_76 rfl (Nat.le_of_ble_eq_true rfl) rfl ?_
        obtain ⟨t71, hg, hf⟩ := p_bd hf
        have k72 : SW G mX12_advance (p_rm d 0 0) 0 0 0 0 (p_R none N qq L P) 138 [(0, .ref a0), (2, .long t71.1)] [] N t71.2 L P := by
          refine s_aload_n (pc := 138) dX12_advance_138 0 rfl rfl ?_
          refine s_aload_n (pc := 139) dX12_advance_139 0 rfl rfl ?_
          refine x_getI (pc := 140) dX12_advance_140 fl_X12_320 rfl ha0 ?_
          refine s_aload_n (pc := 143) dX12_advance_143 0 rfl rfl ?_
          refine x_getI (pc := 144) dX12_advance_144 fl_X12_327 rfl ha0 ?_
          refine s_isub (pc := 147) dX12_advance_147 ?_
          refine s_bipush (pc := 148) dX12_advance_148 (v := 6) rfl ?_
          obtain ⟨t98, hg, hf⟩ := p_bd hf
          have k99 : SW G mX12_advance (p_rm d 0 0) 0 0 0 0 (p_R none N qq L P) 162 [(0, .ref a0)] [.int t98, .ref a0] N t71.2 L P := by
            refine x_putI (pc := 162) dX12_advance_162 fl_X12_339 (Or.inl rfl) rfl ha0 ?_
            refine s_nmI (fun I102 e103 => ?_)
            replace hf := p_lx hf e103
            refine s_aload_n (pc := 165) dX12_advance_165 0 rfl rfl ?_
            refine s_aload_n (pc := 166) dX12_advance_166 0 rfl rfl ?_
            refine x_getI (pc := 167) dX12_advance_167 fl_X12_339 rfl ha0 ?_
            refine s_bipush (pc := 170) dX12_advance_170 (v := 99) rfl ?_
            obtain ⟨t104, hg, hf⟩ := p_lx2 hf
            have k105 : SW G mX12_advance (p_rm d 0 0) 0 0 0 0 (p_R none N qq L P) 180 [] [.int t104, .ref a0] N I102 L P := by
              refine x_putI (pc := 180) dX12_advance_180 fl_X12_330 (Or.inl rfl) rfl ha0 ?_
              refine s_nmI (fun I106 e107 => ?_)
              replace hf := p_lx hf e107
              refine s_goto (pc := 183) (tgt := 317) dX12_advance_183 rfl ?_
              cases hf
              exact s_return (pc := 317) dX12_advance_317 rfl ⟨rfl, rfl, rfl, rfl, rfl⟩
            replace hf := hg.symm
            refine s_icmp_ne (pc := 172) (tgt := 179) dX12_advance_172 rfl (fun hc => ?_) (fun hc => ?_)
            · replace hf := p_ng hf hc
              refine s_iconst (pc := 179) dX12_advance_179 (v := 3) rfl ?_
              cases hf
              exact s_lo [] rfl (k105)
            · replace hf := p_ps hf hc
              refine s_iconst (pc := 175) dX12_advance_175 (v := 4) rfl ?_
              refine s_goto (pc := 176) (tgt := 180) dX12_advance_176 rfl ?_
              cases hf
              exact s_lo [] rfl (k105)
          replace hf := hg
          refine s_icmp_le (pc := 150) (tgt := 158) dX12_advance_150 rfl (fun hc => ?_) (fun hc => ?_)
          · replace hf := p_ps hf hc
            refine s_lload_n (pc := 158) dX12_advance_158 1 rfl rfl ?_
            obtain ⟨q100, h101, hf⟩ := p_bd hf
            refine y_callS1 (pc := 159) dX12_advance_159 (c_X12_wordOf (p_dd hd (by decide)) hW  h101) mk_X12_wordOf mz_X12_wordOf ml_X12_336 rfl rfl (Nat.le_of_ble_eq_true rfl) (p_d1 hd (by decide)) (Nat.le_of_ble_eq_true rfl) ?_
            cases hf
            exact s_lo [0] rfl (k99)
          · replace hf := p_ng hf hc
            refine s_bipush (pc := 153) dX12_advance_153 (v := 99) rfl ?_
            refine s_goto (pc := 155) (tgt := 162) dX12_advance_155 rfl ?_
            cases hf
            exact s_lo [0] rfl (k99)
        replace hf := hg
        have k85 : ∀ (k : Nat) (s0 : Int64 × pI), p_it (B_X12_advance_77 N P a0) k s0 = some t71 → (SW G mX12_advance (p_rm d 0 0) 0 0 0 0 (p_R none N qq L P) 77 [(0, .ref a0), (2, .long s0.1)] [] N s0.2 L P) := p_it_ind (C := fun (s0 : Int64 × pI) => SW G mX12_advance (p_rm d 0 0) 0 0 0 0 (p_R none N qq L P) 77 [(0, .ref a0), (2, .long s0.1)] [] N s0.2 L P) (by
          intro rec0 hrec0 s0 hf
          unfold B_X12_advance_77 at hf
          refine s_aload_n (pc := 77) dX12_advance_77 0 rfl rfl ?_
          refine s_aload_n (pc := 78) dX12_advance_78 0 rfl rfl ?_
          refine x_getI (pc := 79) dX12_advance_79 fl_X12_320 rfl ha0 ?_
          obtain ⟨q86, h87, hf⟩ := p_bd hf
          refine y_callV1 (pc := 82) dX12_advance_82 (c_X12_byteAt (p_dd hd (by decide)) hW ha0 h87) mk_X12_byteAt mv_X12_byteAt ml_X12_323 rfl rfl (Nat.le_of_ble_eq_true rfl) ha0 rfl (p_d1 hd (by decide)) (Nat.le_of_ble_eq_true rfl) ?_
          obtain ⟨q88, h89, hf⟩ := p_bd hf
          refine y_callS1 (pc := 85) dX12_advance_85 (c_X12_isLetter (p_dd hd (by decide)) hW  h89) mk_X12_isLetter mz_X12_isLetter ml_X12_333 rfl rfl (Nat.le_of_ble_eq_true rfl) (p_d1 hd (by decide)) (Nat.le_of_ble_eq_true rfl) ?_
          refine s_if_eq (pc := 88) (tgt := 138) dX12_advance_88 rfl (fun hc => ?_) (fun hc => ?_)
          · replace hf := p_ps hf hc
            cases hf
            exact s_lo [0, 1] rfl (k72)
          · replace hf := p_ng hf hc
            refine s_aload_n (pc := 91) dX12_advance_91 0 rfl rfl ?_
            refine x_getI (pc := 92) dX12_advance_92 fl_X12_320 rfl ha0 ?_
            refine s_aload_n (pc := 95) dX12_advance_95 0 rfl rfl ?_
            refine x_getI (pc := 96) dX12_advance_96 fl_X12_327 rfl ha0 ?_
            refine s_isub (pc := 99) dX12_advance_99 ?_
            refine s_bipush (pc := 100) dX12_advance_100 (v := 7) rfl ?_
            obtain ⟨t90, hg, hf⟩ := p_bd hf
            have k91 : SW G mX12_advance (p_rm d 0 0) 0 0 0 0 (p_R none N qq L P) 125 [(0, .ref a0), (2, .long t90)] [] N s0.2 L P := by
              refine s_aload_n (pc := 125) dX12_advance_125 0 rfl rfl ?_
              refine s_dup (pc := 126) dX12_advance_126 rfl ?_
              refine x_getI (pc := 127) dX12_advance_127 fl_X12_320 rfl ha0 ?_
              refine s_iconst (pc := 130) dX12_advance_130 (v := 1) rfl ?_
              refine s_iadd (pc := 131) dX12_advance_131 ?_
              refine x_putI (pc := 132) dX12_advance_132 fl_X12_320 (Or.inl rfl) rfl ha0 ?_
              refine s_nmI (fun I96 e97 => ?_)
              replace hf := p_lx hf e97
              refine s_goto (pc := 135) (tgt := 77) dX12_advance_135 rfl ?_
              exact s_lo [0, 1] rfl (hrec0 _ hf)
            replace hf := hg
            refine s_icmp_ge (pc := 102) (tgt := 125) dX12_advance_102 rfl (fun hc => ?_) (fun hc => ?_)
            · replace hf := p_ps hf hc
              cases hf
              exact s_lo [0, 1] rfl (k91)
            · replace hf := p_ng hf hc
              refine s_ldc2 (pc := 105) kl_X12_296 dX12_advance_105 ?_
              refine s_lload_n (pc := 108) dX12_advance_108 1 rfl rfl ?_
              refine s_lmul (pc := 109) dX12_advance_109 ?_
              refine s_aload_n (pc := 110) dX12_advance_110 0 rfl rfl ?_
              refine s_aload_n (pc := 111) dX12_advance_111 0 rfl rfl ?_
              refine x_getI (pc := 112) dX12_advance_112 fl_X12_320 rfl ha0 ?_
              obtain ⟨q92, h93, hf⟩ := p_bd hf
              refine y_callV1 (pc := 115) dX12_advance_115 (c_X12_byteAt (p_dd hd (by decide)) hW ha0 h93) mk_X12_byteAt mv_X12_byteAt ml_X12_323 rfl rfl (Nat.le_of_ble_eq_true rfl) ha0 rfl (p_d1 hd (by decide)) (Nat.le_of_ble_eq_true rfl) ?_
              refine s_i2l (pc := 118) dX12_advance_118 ?_
              refine s_ladd (pc := 119) dX12_advance_119 ?_
              refine s_ldc2 (pc := 120) kl_X12_298 dX12_advance_120 ?_
              refine s_lsub (pc := 123) dX12_advance_123 ?_
              refine s_topl (fun v94 e95 => ?_)
              replace hf := p_lx hf e95
              refine s_lstore_n (pc := 124) dX12_advance_124 rfl (Nat.le_of_ble_eq_true rfl) rfl ?_
              cases hf
              exact s_lo [1, 0] rfl (k91))
        exact s_lo [2, 0] rfl (k85 _ _ hf)
    · replace hf := p_ng hf hc
      refine s_aload_n (pc := 60) dX12_advance_60 1 rfl rfl ?_
      refine s_iconst (pc := 61) dX12_advance_61 (v := 0) rfl ?_
      refine x_putI (pc := 62) dX12_advance_62 fl_X12_330 (Or.inl rfl) rfl ha0 ?_
      refine s_nmI (fun I108 e109 => ?_)
      replace hf := p_lx hf e109
      refine s_goto (pc := 65) (tgt := 317) dX12_advance_65 rfl ?_
      cases hf
      exact s_return (pc := 317) dX12_advance_317 rfl ⟨rfl, rfl, rfl, rfl, rfl⟩
  replace hf := hg
  have k11 : ∀ (k : Nat) (s0 : pI), p_it (B_X12_advance_0 N P a0) k s0 = some t1 → (SW G mX12_advance (p_rm d 0 0) 0 0 0 0 (p_R none N qq L P) 0 [(0, .ref a0)] [] N s0 L P) := p_it_ind (C := fun (s0 : pI) => SW G mX12_advance (p_rm d 0 0) 0 0 0 0 (p_R none N qq L P) 0 [(0, .ref a0)] [] N s0 L P) (by
    intro rec0 hrec0 s0 hf
    unfold B_X12_advance_0 at hf
    refine s_aload_n (pc := 0) dX12_advance_0 0 rfl rfl ?_
    refine s_aload_n (pc := 1) dX12_advance_1 0 rfl rfl ?_
    refine x_getI (pc := 2) dX12_advance_2 fl_X12_320 rfl ha0 ?_
    obtain ⟨q12, h13, hf⟩ := p_bd hf
    refine y_callV1 (pc := 5) dX12_advance_5 (c_X12_byteAt (p_dd hd (by decide)) hW ha0 h13) mk_X12_byteAt mv_X12_byteAt ml_X12_323 rfl rfl (Nat.le_of_ble_eq_true rfl) ha0 rfl (p_d1 hd (by decide)) (Nat.le_of_ble_eq_true rfl) ?_
    refine s_bipush (pc := 8) dX12_advance_8 (v := 10) rfl ?_
    refine s_icmp_eq (pc := 10) (tgt := 26) dX12_advance_10 rfl (fun hc => ?_) (fun hc => ?_)
    · replace hf := p_ps hf hc
      refine s_aload_n (pc := 26) dX12_advance_26 0 rfl rfl ?_
      refine s_dup (pc := 27) dX12_advance_27 rfl ?_
      refine x_getI (pc := 28) dX12_advance_28 fl_X12_320 rfl ha0 ?_
      refine s_iconst (pc := 31) dX12_advance_31 (v := 1) rfl ?_
      refine s_iadd (pc := 32) dX12_advance_32 ?_
      refine x_putI (pc := 33) dX12_advance_33 fl_X12_320 (Or.inl rfl) rfl ha0 ?_
      refine s_nmI (fun I14 e15 => ?_)
      replace hf := p_lx hf e15
      refine s_goto (pc := 36) (tgt := 0) dX12_advance_36 rfl ?_
      exact s_lo [0] rfl (hrec0 _ hf)
    · replace hf := p_ng hf hc
      refine s_aload_n (pc := 13) dX12_advance_13 0 rfl rfl ?_
      refine s_aload_n (pc := 14) dX12_advance_14 0 rfl rfl ?_
      refine x_getI (pc := 15) dX12_advance_15 fl_X12_320 rfl ha0 ?_
      obtain ⟨q16, h17, hf⟩ := p_bd hf
      refine y_callV1 (pc := 18) dX12_advance_18 (c_X12_byteAt (p_dd hd (by decide)) hW ha0 h17) mk_X12_byteAt mv_X12_byteAt ml_X12_323 rfl rfl (Nat.le_of_ble_eq_true rfl) ha0 rfl (p_d1 hd (by decide)) (Nat.le_of_ble_eq_true rfl) ?_
      refine s_bipush (pc := 21) dX12_advance_21 (v := 32) rfl ?_
      refine s_icmp_ne (pc := 23) (tgt := 39) dX12_advance_23 rfl (fun hc => ?_) (fun hc => ?_)
      · replace hf := p_ng hf hc
        cases hf
        exact s_lo [0] rfl (k2)
      · replace hf := p_ps hf hc
        refine s_aload_n (pc := 26) dX12_advance_26 0 rfl rfl ?_
        refine s_dup (pc := 27) dX12_advance_27 rfl ?_
        refine x_getI (pc := 28) dX12_advance_28 fl_X12_320 rfl ha0 ?_
        refine s_iconst (pc := 31) dX12_advance_31 (v := 1) rfl ?_
        refine s_iadd (pc := 32) dX12_advance_32 ?_
        refine x_putI (pc := 33) dX12_advance_33 fl_X12_320 (Or.inl rfl) rfl ha0 ?_
        refine s_nmI (fun I18 e19 => ?_)
        replace hf := p_lx hf e19
        refine s_goto (pc := 36) (tgt := 0) dX12_advance_36 rfl ?_
        exact s_lo [0] rfl (hrec0 _ hf))
  exact s_lo [0] rfl (k11 _ _ hf)
def f_X12_stops (N : pN) (I : pI) (P : pR) (a0 : Nat) : Option pI :=
  (if (I a0 35) = 0 then
    p_let (p_u I a0 35 1) fun I1 =>
    Option.bind (P a0 0) fun q3 =>
    p_ck (p_ib N q3 9) <|
    p_let (p_u I1 q3 (Int32.toNatClampNeg 9) 1) fun I7 =>
    Option.bind (P a0 0) fun q9 =>
    p_ck (p_ib N q9 10) <|
    p_let (p_u I7 q9 (Int32.toNatClampNeg 10) (I7 a0 30)) fun I13 =>
    some I13
  else
    some I)
theorem c_X12_stops {G : pG} {d : Nat} {N : pN} {I : pI} {L : pL} {P : pR} {a0 : Nat} {qq : pI} (hd : 0 ≤ d) (hW : WT N P) (ha0 : p_tp N a0 15) (hf : f_X12_stops N I P a0 = some qq) : MT G mX12_stops d 0 0 [.ref a0] N I L P (p_R none N qq L P) := by
  refine MT.of rfl (Nat.le_of_ble_eq_true rfl) ?_
  show SW G mX12_stops (p_rm d 0 0) 0 0 0 0 (p_R none N qq L P) 0 [(0, .ref a0)] [] N I L P
  unfold f_X12_stops at hf
  refine s_aload_n (pc := 0) dX12_stops_0 0 rfl rfl ?_
  refine x_getI (pc := 1) dX12_stops_1 fl_X12_354 rfl ha0 ?_
  refine s_if_eq (pc := 4) (tgt := 8) dX12_stops_4 rfl (fun hc => ?_) (fun hc => ?_)
  · replace hf := p_ps hf hc
    refine s_aload_n (pc := 8) dX12_stops_8 0 rfl rfl ?_
    refine s_iconst (pc := 9) dX12_stops_9 (v := 1) rfl ?_
    refine x_putZ (pc := 10) dX12_stops_10 fl_X12_354 (Or.inl rfl) rfl (by decide) ha0 ?_
    refine s_nmI (fun I1 e2 => ?_)
    replace hf := p_lx hf e2
    refine s_aload_n (pc := 13) dX12_stops_13 0 rfl rfl ?_
    obtain ⟨q3, h4, hf⟩ := p_bd hf
    have t5 : p_tp N q3 0 := WT.get hW ha0 h4
    refine x_getR (pc := 14) dX12_stops_14 fl_X12_7 rfl ha0 h4 ?_
    refine s_bipush (pc := 17) dX12_stops_17 (v := 9) rfl ?_
    refine s_iconst (pc := 19) dX12_stops_19 (v := 1) rfl ?_
    obtain ⟨c6, hf⟩ := p_ckx hf
    refine x_iast (pc := 20) dX12_stops_20 t5 c6 ?_
    refine s_nmI (fun I7 e8 => ?_)
    replace hf := p_lx hf e8
    refine s_aload_n (pc := 21) dX12_stops_21 0 rfl rfl ?_
    obtain ⟨q9, h10, hf⟩ := p_bd hf
    have t11 : p_tp N q9 0 := WT.get hW ha0 h10
    refine x_getR (pc := 22) dX12_stops_22 fl_X12_7 rfl ha0 h10 ?_
    refine s_bipush (pc := 25) dX12_stops_25 (v := 10) rfl ?_
    refine s_aload_n (pc := 27) dX12_stops_27 0 rfl rfl ?_
    refine x_getI (pc := 28) dX12_stops_28 fl_X12_327 rfl ha0 ?_
    obtain ⟨c12, hf⟩ := p_ckx hf
    refine x_iast (pc := 31) dX12_stops_31 t11 c12 ?_
    refine s_nmI (fun I13 e14 => ?_)
    replace hf := p_lx hf e14
    cases hf
    exact s_return (pc := 32) dX12_stops_32 rfl ⟨rfl, rfl, rfl, rfl, rfl⟩
  · replace hf := p_ng hf hc
    cases hf
    exact s_return (pc := 7) dX12_stops_7 rfl ⟨rfl, rfl, rfl, rfl, rfl⟩
def f_X12_also (N : pN) (I : pI) (P : pR) (a0 : Nat) (x1 : Int32) (x2 : Int32) : Option pI :=
  (if (I a0 35) = 0 then
    Option.bind (P a0 0) fun q1 =>
    p_ck (p_ib N q1 9) <|
    (if (I q1 (Int32.toNatClampNeg 9)) = 0 then
      Option.bind (P a0 0) fun q5 =>
      p_ck (p_ib N q5 9) <|
      p_let (p_u I q5 (Int32.toNatClampNeg 9) x1) fun I9 =>
      Option.bind (P a0 0) fun q11 =>
      p_ck (p_ib N q11 10) <|
      p_let (p_u I9 q11 (Int32.toNatClampNeg 10) x2) fun I15 =>
      some I15
    else
      Option.bind (P a0 0) fun q17 =>
      p_ck (p_ib N q17 10) <|
      (if (I q17 (Int32.toNatClampNeg 10)) < x2 then
        some I
      else
        Option.bind (P a0 0) fun q21 =>
        p_ck (p_ib N q21 10) <|
        (if (I q21 (Int32.toNatClampNeg 10)) = x2 then
          Option.bind (P a0 0) fun q37 =>
          p_ck (p_ib N q37 9) <|
          (if x1 < (I q37 (Int32.toNatClampNeg 9)) then
            Option.bind (P a0 0) fun q41 =>
            p_ck (p_ib N q41 9) <|
            p_let (p_u I q41 (Int32.toNatClampNeg 9) x1) fun I45 =>
            Option.bind (P a0 0) fun q47 =>
            p_ck (p_ib N q47 10) <|
            p_let (p_u I45 q47 (Int32.toNatClampNeg 10) x2) fun I51 =>
            some I51
          else
            some I)
        else
          Option.bind (P a0 0) fun q25 =>
          p_ck (p_ib N q25 9) <|
          p_let (p_u I q25 (Int32.toNatClampNeg 9) x1) fun I29 =>
          Option.bind (P a0 0) fun q31 =>
          p_ck (p_ib N q31 10) <|
          p_let (p_u I29 q31 (Int32.toNatClampNeg 10) x2) fun I35 =>
          some I35)))
  else
    some I)
theorem c_X12_also {G : pG} {d : Nat} {N : pN} {I : pI} {L : pL} {P : pR} {a0 : Nat} {x1 : Int32} {x2 : Int32} {qq : pI} (hd : 0 ≤ d) (hW : WT N P) (ha0 : p_tp N a0 15) (hf : f_X12_also N I P a0 x1 x2 = some qq) : MT G mX12_also d 0 0 [.ref a0, .int x1, .int x2] N I L P (p_R none N qq L P) := by
  refine MT.of rfl (Nat.le_of_ble_eq_true rfl) ?_
  show SW G mX12_also (p_rm d 0 0) 0 0 0 0 (p_R none N qq L P) 0 [(0, .ref a0), (1, .int x1), (2, .int x2)] [] N I L P
  unfold f_X12_also at hf
  refine s_aload_n (pc := 0) dX12_also_0 0 rfl rfl ?_
  refine x_getI (pc := 1) dX12_also_1 fl_X12_354 rfl ha0 ?_
  refine s_if_ne (pc := 4) (tgt := 50) dX12_also_4 rfl (fun hc => ?_) (fun hc => ?_)
  · replace hf := p_ng hf hc
    cases hf
    exact s_return (pc := 50) dX12_also_50 rfl ⟨rfl, rfl, rfl, rfl, rfl⟩
  · replace hf := p_ps hf hc
    refine s_aload_n (pc := 7) dX12_also_7 0 rfl rfl ?_
    obtain ⟨q1, h2, hf⟩ := p_bd hf
    have t3 : p_tp N q1 0 := WT.get hW ha0 h2
    refine x_getR (pc := 8) dX12_also_8 fl_X12_7 rfl ha0 h2 ?_
    refine s_bipush (pc := 11) dX12_also_11 (v := 9) rfl ?_
    obtain ⟨c4, hf⟩ := p_ckx hf
    refine x_iald (pc := 13) dX12_also_13 t3 c4 ?_
    refine s_if_eq (pc := 14) (tgt := 51) dX12_also_14 rfl (fun hc => ?_) (fun hc => ?_)
    · replace hf := p_ps hf hc
      refine s_aload_n (pc := 51) dX12_also_51 0 rfl rfl ?_
      obtain ⟨q5, h6, hf⟩ := p_bd hf
      have t7 : p_tp N q5 0 := WT.get hW ha0 h6
      refine x_getR (pc := 52) dX12_also_52 fl_X12_7 rfl ha0 h6 ?_
      refine s_bipush (pc := 55) dX12_also_55 (v := 9) rfl ?_
      refine s_iload_n (pc := 57) dX12_also_57 1 rfl rfl ?_
      obtain ⟨c8, hf⟩ := p_ckx hf
      refine x_iast (pc := 58) dX12_also_58 t7 c8 ?_
      refine s_nmI (fun I9 e10 => ?_)
      replace hf := p_lx hf e10
      refine s_aload_n (pc := 59) dX12_also_59 0 rfl rfl ?_
      obtain ⟨q11, h12, hf⟩ := p_bd hf
      have t13 : p_tp N q11 0 := WT.get hW ha0 h12
      refine x_getR (pc := 60) dX12_also_60 fl_X12_7 rfl ha0 h12 ?_
      refine s_bipush (pc := 63) dX12_also_63 (v := 10) rfl ?_
      refine s_iload_n (pc := 65) dX12_also_65 2 rfl rfl ?_
      obtain ⟨c14, hf⟩ := p_ckx hf
      refine x_iast (pc := 66) dX12_also_66 t13 c14 ?_
      refine s_nmI (fun I15 e16 => ?_)
      replace hf := p_lx hf e16
      cases hf
      exact s_return (pc := 67) dX12_also_67 rfl ⟨rfl, rfl, rfl, rfl, rfl⟩
    · replace hf := p_ng hf hc
      refine s_aload_n (pc := 17) dX12_also_17 0 rfl rfl ?_
      obtain ⟨q17, h18, hf⟩ := p_bd hf
      have t19 : p_tp N q17 0 := WT.get hW ha0 h18
      refine x_getR (pc := 18) dX12_also_18 fl_X12_7 rfl ha0 h18 ?_
      refine s_bipush (pc := 21) dX12_also_21 (v := 10) rfl ?_
      obtain ⟨c20, hf⟩ := p_ckx hf
      refine x_iald (pc := 23) dX12_also_23 t19 c20 ?_
      refine s_iload_n (pc := 24) dX12_also_24 2 rfl rfl ?_
      refine s_icmp_lt (pc := 25) (tgt := 50) dX12_also_25 rfl (fun hc => ?_) (fun hc => ?_)
      · replace hf := p_ps hf hc
        cases hf
        exact s_return (pc := 50) dX12_also_50 rfl ⟨rfl, rfl, rfl, rfl, rfl⟩
      · replace hf := p_ng hf hc
        refine s_aload_n (pc := 28) dX12_also_28 0 rfl rfl ?_
        obtain ⟨q21, h22, hf⟩ := p_bd hf
        have t23 : p_tp N q21 0 := WT.get hW ha0 h22
        refine x_getR (pc := 29) dX12_also_29 fl_X12_7 rfl ha0 h22 ?_
        refine s_bipush (pc := 32) dX12_also_32 (v := 10) rfl ?_
        obtain ⟨c24, hf⟩ := p_ckx hf
        refine x_iald (pc := 34) dX12_also_34 t23 c24 ?_
        refine s_iload_n (pc := 35) dX12_also_35 2 rfl rfl ?_
        refine s_icmp_ne (pc := 36) (tgt := 51) dX12_also_36 rfl (fun hc => ?_) (fun hc => ?_)
        · replace hf := p_ng hf hc
          refine s_aload_n (pc := 51) dX12_also_51 0 rfl rfl ?_
          obtain ⟨q25, h26, hf⟩ := p_bd hf
          have t27 : p_tp N q25 0 := WT.get hW ha0 h26
          refine x_getR (pc := 52) dX12_also_52 fl_X12_7 rfl ha0 h26 ?_
          refine s_bipush (pc := 55) dX12_also_55 (v := 9) rfl ?_
          refine s_iload_n (pc := 57) dX12_also_57 1 rfl rfl ?_
          obtain ⟨c28, hf⟩ := p_ckx hf
          refine x_iast (pc := 58) dX12_also_58 t27 c28 ?_
          refine s_nmI (fun I29 e30 => ?_)
          replace hf := p_lx hf e30
          refine s_aload_n (pc := 59) dX12_also_59 0 rfl rfl ?_
          obtain ⟨q31, h32, hf⟩ := p_bd hf
          have t33 : p_tp N q31 0 := WT.get hW ha0 h32
          refine x_getR (pc := 60) dX12_also_60 fl_X12_7 rfl ha0 h32 ?_
          refine s_bipush (pc := 63) dX12_also_63 (v := 10) rfl ?_
          refine s_iload_n (pc := 65) dX12_also_65 2 rfl rfl ?_
          obtain ⟨c34, hf⟩ := p_ckx hf
          refine x_iast (pc := 66) dX12_also_66 t33 c34 ?_
          refine s_nmI (fun I35 e36 => ?_)
          replace hf := p_lx hf e36
          cases hf
          exact s_return (pc := 67) dX12_also_67 rfl ⟨rfl, rfl, rfl, rfl, rfl⟩
        · replace hf := p_ps hf hc
          refine s_aload_n (pc := 39) dX12_also_39 0 rfl rfl ?_
          obtain ⟨q37, h38, hf⟩ := p_bd hf
          have t39 : p_tp N q37 0 := WT.get hW ha0 h38
          refine x_getR (pc := 40) dX12_also_40 fl_X12_7 rfl ha0 h38 ?_
          refine s_bipush (pc := 43) dX12_also_43 (v := 9) rfl ?_
          obtain ⟨c40, hf⟩ := p_ckx hf
          refine x_iald (pc := 45) dX12_also_45 t39 c40 ?_
          refine s_iload_n (pc := 46) dX12_also_46 1 rfl rfl ?_
          refine s_icmp_gt (pc := 47) (tgt := 51) dX12_also_47 rfl (fun hc => ?_) (fun hc => ?_)
          · replace hf := p_ps hf hc
            refine s_aload_n (pc := 51) dX12_also_51 0 rfl rfl ?_
            obtain ⟨q41, h42, hf⟩ := p_bd hf
            have t43 : p_tp N q41 0 := WT.get hW ha0 h42
            refine x_getR (pc := 52) dX12_also_52 fl_X12_7 rfl ha0 h42 ?_
            refine s_bipush (pc := 55) dX12_also_55 (v := 9) rfl ?_
            refine s_iload_n (pc := 57) dX12_also_57 1 rfl rfl ?_
            obtain ⟨c44, hf⟩ := p_ckx hf
            refine x_iast (pc := 58) dX12_also_58 t43 c44 ?_
            refine s_nmI (fun I45 e46 => ?_)
            replace hf := p_lx hf e46
            refine s_aload_n (pc := 59) dX12_also_59 0 rfl rfl ?_
            obtain ⟨q47, h48, hf⟩ := p_bd hf
            have t49 : p_tp N q47 0 := WT.get hW ha0 h48
            refine x_getR (pc := 60) dX12_also_60 fl_X12_7 rfl ha0 h48 ?_
            refine s_bipush (pc := 63) dX12_also_63 (v := 10) rfl ?_
            refine s_iload_n (pc := 65) dX12_also_65 2 rfl rfl ?_
            obtain ⟨c50, hf⟩ := p_ckx hf
            refine x_iast (pc := 66) dX12_also_66 t49 c50 ?_
            refine s_nmI (fun I51 e52 => ?_)
            replace hf := p_lx hf e52
            cases hf
            exact s_return (pc := 67) dX12_also_67 rfl ⟨rfl, rfl, rfl, rfl, rfl⟩
          · replace hf := p_ng hf hc
            cases hf
            exact s_return (pc := 50) dX12_also_50 rfl ⟨rfl, rfl, rfl, rfl, rfl⟩
def f_X12_takes (n : Nat) (N : pN) (I : pI) (P : pR) (a0 : Nat) (x1 : Int32) : Option (Int32 × pI) :=
  (if (I a0 35) = 0 then
    (if (I a0 31) = 3 then
      (if (I a0 34) = x1 then
        Option.bind (f_X12_advance n N I P a0) fun q1 =>
        some (1, q1)
      else
        some (0, I))
    else
      some (0, I))
  else
    some (0, I))
theorem c_X12_takes {G : pG} {d : Nat} {n : Nat} {N : pN} {I : pI} {L : pL} {P : pR} {a0 : Nat} {x1 : Int32} {qq : Int32 × pI} (hd : 4 ≤ d) (hW : WT N P) (ha0 : p_tp N a0 15) (hf : f_X12_takes n N I P a0 x1 = some qq) : MT G mX12_takes d 0 0 [.ref a0, .int x1] N I L P (p_R (some (.int qq.1)) N qq.2 L P) := by
  refine MT.of rfl (Nat.le_of_ble_eq_true rfl) ?_
  show SW G mX12_takes (p_rm d 0 0) 0 0 0 0 (p_R (some (.int qq.1)) N qq.2 L P) 0 [(0, .ref a0), (1, .int x1)] [] N I L P
  unfold f_X12_takes at hf
  refine s_aload_n (pc := 0) dX12_takes_0 0 rfl rfl ?_
  refine x_getI (pc := 1) dX12_takes_1 fl_X12_354 rfl ha0 ?_
  refine s_if_ne (pc := 4) (tgt := 23) dX12_takes_4 rfl (fun hc => ?_) (fun hc => ?_)
  · replace hf := p_ng hf hc
    refine s_iconst (pc := 23) dX12_takes_23 (v := 0) rfl ?_
    cases hf
    exact s_ireturn (pc := 24) dX12_takes_24 rfl rfl ⟨rfl, rfl, rfl, rfl, rfl⟩
  · replace hf := p_ps hf hc
    refine s_aload_n (pc := 7) dX12_takes_7 0 rfl rfl ?_
    refine x_getI (pc := 8) dX12_takes_8 fl_X12_330 rfl ha0 ?_
    refine s_iconst (pc := 11) dX12_takes_11 (v := 3) rfl ?_
    refine s_icmp_ne (pc := 12) (tgt := 23) dX12_takes_12 rfl (fun hc => ?_) (fun hc => ?_)
    · replace hf := p_ng hf hc
      refine s_iconst (pc := 23) dX12_takes_23 (v := 0) rfl ?_
      cases hf
      exact s_ireturn (pc := 24) dX12_takes_24 rfl rfl ⟨rfl, rfl, rfl, rfl, rfl⟩
    · replace hf := p_ps hf hc
      refine s_aload_n (pc := 15) dX12_takes_15 0 rfl rfl ?_
      refine x_getI (pc := 16) dX12_takes_16 fl_X12_339 rfl ha0 ?_
      refine s_iload_n (pc := 19) dX12_takes_19 1 rfl rfl ?_
      refine s_icmp_eq (pc := 20) (tgt := 25) dX12_takes_20 rfl (fun hc => ?_) (fun hc => ?_)
      · replace hf := p_ps hf hc
        refine s_aload_n (pc := 25) dX12_takes_25 0 rfl rfl ?_
        obtain ⟨q1, h2, hf⟩ := p_bd hf
        refine y_callV0 (pc := 26) dX12_takes_26 (c_X12_advance (p_dd hd (by decide)) hW ha0 h2) mk_X12_advance mv_X12_advance ml_X12_357 rfl rfl (Nat.le_of_ble_eq_true rfl) ha0 rfl (p_d1 hd (by decide)) (Nat.le_of_ble_eq_true rfl) ?_
        refine s_iconst (pc := 29) dX12_takes_29 (v := 1) rfl ?_
        cases hf
        exact s_ireturn (pc := 30) dX12_takes_30 rfl rfl ⟨rfl, rfl, rfl, rfl, rfl⟩
      · replace hf := p_ng hf hc
        refine s_iconst (pc := 23) dX12_takes_23 (v := 0) rfl ?_
        cases hf
        exact s_ireturn (pc := 24) dX12_takes_24 rfl rfl ⟨rfl, rfl, rfl, rfl, rfl⟩
def f_X12_must (n : Nat) (N : pN) (I : pI) (P : pR) (a0 : Nat) (x1 : Int32) : Option pI :=
  (if (I a0 35) = 0 then
    (if (I a0 31) = 2 then
      (if (I a0 33) = x1 then
        Option.bind (f_X12_advance n N I P a0) fun q7 =>
        some q7
      else
        Option.bind (f_X12_stops N I P a0) fun q5 =>
        some q5)
    else
      Option.bind (f_X12_stops N I P a0) fun q3 =>
      some q3)
  else
    Option.bind (f_X12_stops N I P a0) fun q1 =>
    some q1)
theorem c_X12_must {G : pG} {d : Nat} {n : Nat} {N : pN} {I : pI} {L : pL} {P : pR} {a0 : Nat} {x1 : Int32} {qq : pI} (hd : 4 ≤ d) (hW : WT N P) (ha0 : p_tp N a0 15) (hf : f_X12_must n N I P a0 x1 = some qq) : MT G mX12_must d 0 0 [.ref a0, .int x1] N I L P (p_R none N qq L P) := by
  refine MT.of rfl (Nat.le_of_ble_eq_true rfl) ?_
  show SW G mX12_must (p_rm d 0 0) 0 0 0 0 (p_R none N qq L P) 0 [(0, .ref a0), (1, .int x1)] [] N I L P
  unfold f_X12_must at hf
  refine s_aload_n (pc := 0) dX12_must_0 0 rfl rfl ?_
  refine x_getI (pc := 1) dX12_must_1 fl_X12_354 rfl ha0 ?_
  refine s_if_ne (pc := 4) (tgt := 30) dX12_must_4 rfl (fun hc => ?_) (fun hc => ?_)
  · replace hf := p_ng hf hc
    refine s_aload_n (pc := 30) dX12_must_30 0 rfl rfl ?_
    obtain ⟨q1, h2, hf⟩ := p_bd hf
    refine y_callV0 (pc := 31) dX12_must_31 (c_X12_stops (p_dd hd (by decide)) hW ha0 h2) mk_X12_stops mv_X12_stops ml_X12_360 rfl rfl (Nat.le_of_ble_eq_true rfl) ha0 rfl (p_d1 hd (by decide)) (Nat.le_of_ble_eq_true rfl) ?_
    cases hf
    exact s_return (pc := 34) dX12_must_34 rfl ⟨rfl, rfl, rfl, rfl, rfl⟩
  · replace hf := p_ps hf hc
    refine s_aload_n (pc := 7) dX12_must_7 0 rfl rfl ?_
    refine x_getI (pc := 8) dX12_must_8 fl_X12_330 rfl ha0 ?_
    refine s_iconst (pc := 11) dX12_must_11 (v := 2) rfl ?_
    refine s_icmp_ne (pc := 12) (tgt := 30) dX12_must_12 rfl (fun hc => ?_) (fun hc => ?_)
    · replace hf := p_ng hf hc
      refine s_aload_n (pc := 30) dX12_must_30 0 rfl rfl ?_
      obtain ⟨q3, h4, hf⟩ := p_bd hf
      refine y_callV0 (pc := 31) dX12_must_31 (c_X12_stops (p_dd hd (by decide)) hW ha0 h4) mk_X12_stops mv_X12_stops ml_X12_360 rfl rfl (Nat.le_of_ble_eq_true rfl) ha0 rfl (p_d1 hd (by decide)) (Nat.le_of_ble_eq_true rfl) ?_
      cases hf
      exact s_return (pc := 34) dX12_must_34 rfl ⟨rfl, rfl, rfl, rfl, rfl⟩
    · replace hf := p_ps hf hc
      refine s_aload_n (pc := 15) dX12_must_15 0 rfl rfl ?_
      refine x_getI (pc := 16) dX12_must_16 fl_X12_348 rfl ha0 ?_
      refine s_iload_n (pc := 19) dX12_must_19 1 rfl rfl ?_
      refine s_icmp_ne (pc := 20) (tgt := 30) dX12_must_20 rfl (fun hc => ?_) (fun hc => ?_)
      · replace hf := p_ng hf hc
        refine s_aload_n (pc := 30) dX12_must_30 0 rfl rfl ?_
        obtain ⟨q5, h6, hf⟩ := p_bd hf
        refine y_callV0 (pc := 31) dX12_must_31 (c_X12_stops (p_dd hd (by decide)) hW ha0 h6) mk_X12_stops mv_X12_stops ml_X12_360 rfl rfl (Nat.le_of_ble_eq_true rfl) ha0 rfl (p_d1 hd (by decide)) (Nat.le_of_ble_eq_true rfl) ?_
        cases hf
        exact s_return (pc := 34) dX12_must_34 rfl ⟨rfl, rfl, rfl, rfl, rfl⟩
      · replace hf := p_ps hf hc
        refine s_aload_n (pc := 23) dX12_must_23 0 rfl rfl ?_
        obtain ⟨q7, h8, hf⟩ := p_bd hf
        refine y_callV0 (pc := 24) dX12_must_24 (c_X12_advance (p_dd hd (by decide)) hW ha0 h8) mk_X12_advance mv_X12_advance ml_X12_357 rfl rfl (Nat.le_of_ble_eq_true rfl) ha0 rfl (p_d1 hd (by decide)) (Nat.le_of_ble_eq_true rfl) ?_
        refine s_goto (pc := 27) (tgt := 34) dX12_must_27 rfl ?_
        cases hf
        exact s_return (pc := 34) dX12_must_34 rfl ⟨rfl, rfl, rfl, rfl, rfl⟩
def f_X12_numbered (n : Nat) (N : pN) (I : pI) (P : pR) (a0 : Nat) : Option (Int32 × pI) :=
  (if (I a0 35) = 0 then
    (if (I a0 31) = 1 then
      Option.bind (f_X12_advance n N I P a0) fun q5 =>
      some (I a0 32, q5)
    else
      Option.bind (f_X12_stops N I P a0) fun q3 =>
      some (I a0 32, q3))
  else
    Option.bind (f_X12_stops N I P a0) fun q1 =>
    some (I a0 32, q1))
theorem c_X12_numbered {G : pG} {d : Nat} {n : Nat} {N : pN} {I : pI} {L : pL} {P : pR} {a0 : Nat} {qq : Int32 × pI} (hd : 4 ≤ d) (hW : WT N P) (ha0 : p_tp N a0 15) (hf : f_X12_numbered n N I P a0 = some qq) : MT G mX12_numbered d 0 0 [.ref a0] N I L P (p_R (some (.int qq.1)) N qq.2 L P) := by
  refine MT.of rfl (Nat.le_of_ble_eq_true rfl) ?_
  show SW G mX12_numbered (p_rm d 0 0) 0 0 0 0 (p_R (some (.int qq.1)) N qq.2 L P) 0 [(0, .ref a0)] [] N I L P
  unfold f_X12_numbered at hf
  refine s_aload_n (pc := 0) dX12_numbered_0 0 rfl rfl ?_
  refine x_getI (pc := 1) dX12_numbered_1 fl_X12_345 rfl ha0 ?_
  refine s_istore_n (pc := 4) dX12_numbered_4 rfl (Nat.le_of_ble_eq_true rfl) rfl ?_
  refine s_aload_n (pc := 5) dX12_numbered_5 1 rfl rfl ?_
  refine x_getI (pc := 6) dX12_numbered_6 fl_X12_354 rfl ha0 ?_
  refine s_if_ne (pc := 9) (tgt := 27) dX12_numbered_9 rfl (fun hc => ?_) (fun hc => ?_)
  · replace hf := p_ng hf hc
    refine s_aload_n (pc := 27) dX12_numbered_27 1 rfl rfl ?_
    obtain ⟨q1, h2, hf⟩ := p_bd hf
    refine y_callV0 (pc := 28) dX12_numbered_28 (c_X12_stops (p_dd hd (by decide)) hW ha0 h2) mk_X12_stops mv_X12_stops ml_X12_360 rfl rfl (Nat.le_of_ble_eq_true rfl) ha0 rfl (p_d1 hd (by decide)) (Nat.le_of_ble_eq_true rfl) ?_
    refine s_iload_n (pc := 31) dX12_numbered_31 0 rfl rfl ?_
    cases hf
    exact s_ireturn (pc := 32) dX12_numbered_32 rfl rfl ⟨rfl, rfl, rfl, rfl, rfl⟩
  · replace hf := p_ps hf hc
    refine s_aload_n (pc := 12) dX12_numbered_12 1 rfl rfl ?_
    refine x_getI (pc := 13) dX12_numbered_13 fl_X12_330 rfl ha0 ?_
    refine s_iconst (pc := 16) dX12_numbered_16 (v := 1) rfl ?_
    refine s_icmp_ne (pc := 17) (tgt := 27) dX12_numbered_17 rfl (fun hc => ?_) (fun hc => ?_)
    · replace hf := p_ng hf hc
      refine s_aload_n (pc := 27) dX12_numbered_27 1 rfl rfl ?_
      obtain ⟨q3, h4, hf⟩ := p_bd hf
      refine y_callV0 (pc := 28) dX12_numbered_28 (c_X12_stops (p_dd hd (by decide)) hW ha0 h4) mk_X12_stops mv_X12_stops ml_X12_360 rfl rfl (Nat.le_of_ble_eq_true rfl) ha0 rfl (p_d1 hd (by decide)) (Nat.le_of_ble_eq_true rfl) ?_
      refine s_iload_n (pc := 31) dX12_numbered_31 0 rfl rfl ?_
      cases hf
      exact s_ireturn (pc := 32) dX12_numbered_32 rfl rfl ⟨rfl, rfl, rfl, rfl, rfl⟩
    · replace hf := p_ps hf hc
      refine s_aload_n (pc := 20) dX12_numbered_20 1 rfl rfl ?_
      obtain ⟨q5, h6, hf⟩ := p_bd hf
      refine y_callV0 (pc := 21) dX12_numbered_21 (c_X12_advance (p_dd hd (by decide)) hW ha0 h6) mk_X12_advance mv_X12_advance ml_X12_357 rfl rfl (Nat.le_of_ble_eq_true rfl) ha0 rfl (p_d1 hd (by decide)) (Nat.le_of_ble_eq_true rfl) ?_
      refine s_goto (pc := 24) (tgt := 31) dX12_numbered_24 rfl ?_
      refine s_iload_n (pc := 31) dX12_numbered_31 0 rfl rfl ?_
      cases hf
      exact s_ireturn (pc := 32) dX12_numbered_32 rfl rfl ⟨rfl, rfl, rfl, rfl, rfl⟩
