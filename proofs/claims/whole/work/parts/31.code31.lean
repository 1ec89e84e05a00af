def f_X12_way (n : Nat) (N : pN) (I : pI) (L : pL) (P : pR) (a0 : Nat) (x1 : Int32) (x2 : Int32) (x3 : Int32) (x4 : Int32) (x5 : Int32) : Option (Int32 × pI × pL) :=
  Option.bind (f_X12_finds n N I L P a0 x1 x2 x3) fun q1 =>
  (if q1.1 = 0 then
    some ((-2), q1.2.1, q1.2.2)
  else
    Option.bind (f_X12_isIn x4 (nI 0) ((q1.2.1 a0 13) - (nI 1))) fun q3 =>
    (if q3 = 0 then
      some ((-2), q1.2.1, q1.2.2)
    else
      Option.bind (P a0 19) fun q5 =>
      p_ck (p_ib N q5 x4) <|
      p_let (q1.2.1 q5 (Int32.toNatClampNeg x4)) fun v9 =>
      (if x5 = nI 0 then
        Option.bind (P a0 7) fun q43 =>
        p_ck (p_ib N q43 v9) <|
        some (q1.2.1 q43 (Int32.toNatClampNeg v9), q1.2.1, q1.2.2)
      else
        (if x5 = nI 1 then
          Option.bind (P a0 8) fun q39 =>
          p_ck (p_ib N q39 v9) <|
          some (q1.2.1 q39 (Int32.toNatClampNeg v9), q1.2.1, q1.2.2)
        else
          (if x5 = nI 2 then
            Option.bind (P a0 9) fun q35 =>
            p_ck (p_ib N q35 v9) <|
            some (q1.2.1 q35 (Int32.toNatClampNeg v9), q1.2.1, q1.2.2)
          else
            (if x5 = nI 3 then
              Option.bind (P a0 10) fun q31 =>
              p_ck (p_ib N q31 v9) <|
              some (q1.2.1 q31 (Int32.toNatClampNeg v9), q1.2.1, q1.2.2)
            else
              (if x5 = nI 4 then
                Option.bind (P a0 11) fun q27 =>
                p_ck (p_ib N q27 v9) <|
                some (q1.2.1 q27 (Int32.toNatClampNeg v9), q1.2.1, q1.2.2)
              else
                (if x5 = nI 5 then
                  Option.bind (P a0 12) fun q23 =>
                  p_ck (p_ib N q23 v9) <|
                  some (q1.2.1 q23 (Int32.toNatClampNeg v9), q1.2.1, q1.2.2)
                else
                  (if x5 = nI 6 then
                    Option.bind (P a0 10) fun q11 =>
                    p_ck (p_ib N q11 v9) <|
                    Option.bind (f_X12_late n (Int32.toInt64 (q1.2.1 q11 (Int32.toNatClampNeg v9)))) fun q15 =>
                    Option.bind (P a0 11) fun q17 =>
                    p_ck (p_ib N q17 v9) <|
                    Option.bind (f_X12_late n (Int32.toInt64 (q1.2.1 q17 (Int32.toNatClampNeg v9)))) fun q21 =>
                    some (q15 + q21, q1.2.1, q1.2.2)
                  else
                    some ((-2), q1.2.1, q1.2.2))))))))))
theorem c_X12_way {G : pG} {d : Nat} {n : Nat} {N : pN} {I : pI} {L : pL} {P : pR} {a0 : Nat} {x1 : Int32} {x2 : Int32} {x3 : Int32} {x4 : Int32} {x5 : Int32} {qq : Int32 × pI × pL} (hd : 8 ≤ d) (hW : WT N P) (ha0 : p_tp N a0 15) (hf : f_X12_way n N I L P a0 x1 x2 x3 x4 x5 = some qq) : MT G mX12_way d 0 0 [.ref a0, .int x1, .int x2, .int x3, .int x4, .int x5] N I L P (p_R (some (.int qq.1)) N qq.2.1 qq.2.2 P) := by
  refine MT.of rfl (Nat.le_of_ble_eq_true rfl) ?_
  show SW G mX12_way (p_rm d 0 0) 0 0 0 0 (p_R (some (.int qq.1)) N qq.2.1 qq.2.2 P) 0 [(0, .ref a0), (1, .int x1), (2, .int x2), (3, .int x3), (4, .int x4), (5, .int x5)] [] N I L P
  unfold f_X12_way at hf
  refine s_aload_n (pc := 0) dX12_way_0 0 rfl rfl ?_
  refine s_iload_n (pc := 1) dX12_way_1 1 rfl rfl ?_
  refine s_iload_n (pc := 2) dX12_way_2 2 rfl rfl ?_
  refine s_iload_n (pc := 3) dX12_way_3 3 rfl rfl ?_
  obtain ⟨q1, h2, hf⟩ := p_bd hf
  refine y_callV1 (pc := 4) dX12_way_4 (c_X12_finds (p_dd hd (by decide)) hW ha0 h2) mk_X12_finds mv_X12_finds ml_X12_231 rfl rfl (Nat.le_of_ble_eq_true rfl) ha0 rfl (p_d1 hd (by decide)) (Nat.le_of_ble_eq_true rfl) ?_
  refine s_if_eq (pc := 7) (tgt := 25) dX12_way_7 rfl (fun hc => ?_) (fun hc => ?_)
  · replace hf := p_ps hf hc
    refine s_bipush (pc := 25) dX12_way_25 (v := (-2)) rfl ?_
    cases hf
    exact s_ireturn (pc := 27) dX12_way_27 rfl rfl ⟨rfl, rfl, rfl, rfl, rfl⟩
  · replace hf := p_ng hf hc
    refine s_iload (pc := 10) dX12_way_10 4 rfl ?_
    refine s_iconst (pc := 12) dX12_way_12 (v := nI 0) rfl ?_
    refine s_aload_n (pc := 13) dX12_way_13 0 rfl rfl ?_
    refine x_getI (pc := 14) dX12_way_14 fl_X12_142 rfl ha0 ?_
    refine s_iconst (pc := 17) dX12_way_17 (v := nI 1) rfl ?_
    refine s_isub (pc := 18) dX12_way_18 ?_
    obtain ⟨q3, h4, hf⟩ := p_bd hf
    refine y_callS1 (pc := 19) dX12_way_19 (c_X12_isIn (p_dd hd (by decide)) hW  h4) mk_X12_isIn mz_X12_isIn ml_X12_68 rfl rfl (Nat.le_of_ble_eq_true rfl) (p_d1 hd (by decide)) (Nat.le_of_ble_eq_true rfl) ?_
    refine s_if_ne (pc := 22) (tgt := 28) dX12_way_22 rfl (fun hc => ?_) (fun hc => ?_)
    · replace hf := p_ng hf hc
      refine s_aload_n (pc := 28) dX12_way_28 0 rfl rfl ?_
      obtain ⟨q5, h6, hf⟩ := p_bd hf
      have t7 : p_tp N q5 0 := WT.get hW ha0 h6
      refine x_getR (pc := 29) dX12_way_29 fl_X12_35 rfl ha0 h6 ?_
      refine s_iload (pc := 32) dX12_way_32 4 rfl ?_
      obtain ⟨c8, hf⟩ := p_ckx hf
      refine x_iald (pc := 34) dX12_way_34 t7 c8 ?_
      refine s_topi (fun v9 e10 => ?_)
      replace hf := p_lx hf e10
      refine s_istore (pc := 35) (lo' := [(6, .int v9), (0, .ref a0), (1, .int x1), (2, .int x2), (3, .int x3), (4, .int x4), (5, .int x5)]) dX12_way_35 (Nat.le_of_ble_eq_true rfl) rfl ?_
      refine s_iload (pc := 37) dX12_way_37 6 rfl ?_
      by_cases hc0 : x5 = nI 0
      · replace hf := p_ps hf hc0
        refine s_tableIn (pc := 39) (tgt := 80) (off := 41) dX12_way_39 (by rw [hc0]; decide) (by rw [hc0]; decide) (by rw [hc0]; rfl) rfl ?_
        refine s_aload_n (pc := 80) dX12_way_80 1 rfl rfl ?_
        obtain ⟨q43, h44, hf⟩ := p_bd hf
        have t45 : p_tp N q43 0 := WT.get hW ha0 h44
        refine x_getR (pc := 81) dX12_way_81 fl_X12_17 rfl ha0 h44 ?_
        refine s_iload (pc := 84) dX12_way_84 0 rfl ?_
        obtain ⟨c46, hf⟩ := p_ckx hf
        refine x_iald (pc := 86) dX12_way_86 t45 c46 ?_
        cases hf
        exact s_ireturn (pc := 87) dX12_way_87 rfl rfl ⟨rfl, rfl, rfl, rfl, rfl⟩
      · replace hf := p_ng hf hc0
        by_cases hc1 : x5 = nI 1
        · replace hf := p_ps hf hc1
          refine s_tableIn (pc := 39) (tgt := 88) (off := 49) dX12_way_39 (by rw [hc1]; decide) (by rw [hc1]; decide) (by rw [hc1]; rfl) rfl ?_
          refine s_aload_n (pc := 88) dX12_way_88 1 rfl rfl ?_
          obtain ⟨q39, h40, hf⟩ := p_bd hf
          have t41 : p_tp N q39 0 := WT.get hW ha0 h40
          refine x_getR (pc := 89) dX12_way_89 fl_X12_20 rfl ha0 h40 ?_
          refine s_iload (pc := 92) dX12_way_92 0 rfl ?_
          obtain ⟨c42, hf⟩ := p_ckx hf
          refine x_iald (pc := 94) dX12_way_94 t41 c42 ?_
          cases hf
          exact s_ireturn (pc := 95) dX12_way_95 rfl rfl ⟨rfl, rfl, rfl, rfl, rfl⟩
        · replace hf := p_ng hf hc1
          by_cases hc2 : x5 = nI 2
          · replace hf := p_ps hf hc2
            refine s_tableIn (pc := 39) (tgt := 96) (off := 57) dX12_way_39 (by rw [hc2]; decide) (by rw [hc2]; decide) (by rw [hc2]; rfl) rfl ?_
            refine s_aload_n (pc := 96) dX12_way_96 1 rfl rfl ?_
            obtain ⟨q35, h36, hf⟩ := p_bd hf
            have t37 : p_tp N q35 0 := WT.get hW ha0 h36
            refine x_getR (pc := 97) dX12_way_97 fl_X12_23 rfl ha0 h36 ?_
            refine s_iload (pc := 100) dX12_way_100 0 rfl ?_
            obtain ⟨c38, hf⟩ := p_ckx hf
            refine x_iald (pc := 102) dX12_way_102 t37 c38 ?_
            cases hf
            exact s_ireturn (pc := 103) dX12_way_103 rfl rfl ⟨rfl, rfl, rfl, rfl, rfl⟩
          · replace hf := p_ng hf hc2
            by_cases hc3 : x5 = nI 3
            · replace hf := p_ps hf hc3
              refine s_tableIn (pc := 39) (tgt := 104) (off := 65) dX12_way_39 (by rw [hc3]; decide) (by rw [hc3]; decide) (by rw [hc3]; rfl) rfl ?_
              refine s_aload_n (pc := 104) dX12_way_104 1 rfl rfl ?_
              obtain ⟨q31, h32, hf⟩ := p_bd hf
              have t33 : p_tp N q31 0 := WT.get hW ha0 h32
              refine x_getR (pc := 105) dX12_way_105 fl_X12_26 rfl ha0 h32 ?_
              refine s_iload (pc := 108) dX12_way_108 0 rfl ?_
              obtain ⟨c34, hf⟩ := p_ckx hf
              refine x_iald (pc := 110) dX12_way_110 t33 c34 ?_
              cases hf
              exact s_ireturn (pc := 111) dX12_way_111 rfl rfl ⟨rfl, rfl, rfl, rfl, rfl⟩
            · replace hf := p_ng hf hc3
              by_cases hc4 : x5 = nI 4
              · replace hf := p_ps hf hc4
                refine s_tableIn (pc := 39) (tgt := 112) (off := 73) dX12_way_39 (by rw [hc4]; decide) (by rw [hc4]; decide) (by rw [hc4]; rfl) rfl ?_
                refine s_aload_n (pc := 112) dX12_way_112 1 rfl rfl ?_
                obtain ⟨q27, h28, hf⟩ := p_bd hf
                have t29 : p_tp N q27 0 := WT.get hW ha0 h28
                refine x_getR (pc := 113) dX12_way_113 fl_X12_29 rfl ha0 h28 ?_
                refine s_iload (pc := 116) dX12_way_116 0 rfl ?_
                obtain ⟨c30, hf⟩ := p_ckx hf
                refine x_iald (pc := 118) dX12_way_118 t29 c30 ?_
                cases hf
                exact s_ireturn (pc := 119) dX12_way_119 rfl rfl ⟨rfl, rfl, rfl, rfl, rfl⟩
              · replace hf := p_ng hf hc4
                by_cases hc5 : x5 = nI 5
                · replace hf := p_ps hf hc5
                  refine s_tableIn (pc := 39) (tgt := 120) (off := 81) dX12_way_39 (by rw [hc5]; decide) (by rw [hc5]; decide) (by rw [hc5]; rfl) rfl ?_
                  refine s_aload_n (pc := 120) dX12_way_120 1 rfl rfl ?_
                  obtain ⟨q23, h24, hf⟩ := p_bd hf
                  have t25 : p_tp N q23 0 := WT.get hW ha0 h24
                  refine x_getR (pc := 121) dX12_way_121 fl_X12_32 rfl ha0 h24 ?_
                  refine s_iload (pc := 124) dX12_way_124 0 rfl ?_
                  obtain ⟨c26, hf⟩ := p_ckx hf
                  refine x_iald (pc := 126) dX12_way_126 t25 c26 ?_
                  cases hf
                  exact s_ireturn (pc := 127) dX12_way_127 rfl rfl ⟨rfl, rfl, rfl, rfl, rfl⟩
                · replace hf := p_ng hf hc5
                  by_cases hc6 : x5 = nI 6
                  · replace hf := p_ps hf hc6
                    refine s_tableIn (pc := 39) (tgt := 128) (off := 89) dX12_way_39 (by rw [hc6]; decide) (by rw [hc6]; decide) (by rw [hc6]; rfl) rfl ?_
                    refine s_aload_n (pc := 128) dX12_way_128 1 rfl rfl ?_
                    obtain ⟨q11, h12, hf⟩ := p_bd hf
                    have t13 : p_tp N q11 0 := WT.get hW ha0 h12
                    refine x_getR (pc := 129) dX12_way_129 fl_X12_26 rfl ha0 h12 ?_
                    refine s_iload (pc := 132) dX12_way_132 0 rfl ?_
                    obtain ⟨c14, hf⟩ := p_ckx hf
                    refine x_iald (pc := 134) dX12_way_134 t13 c14 ?_
                    refine s_i2l (pc := 135) dX12_way_135 ?_
                    obtain ⟨q15, h16, hf⟩ := p_bd hf
                    refine y_callS1 (pc := 136) dX12_way_136 (c_X12_late (p_dd hd (by decide)) hW  h16) mk_X12_late mz_X12_late ml_X12_236 rfl rfl (Nat.le_of_ble_eq_true rfl) (p_d1 hd (by decide)) (Nat.le_of_ble_eq_true rfl) ?_
                    refine s_aload_n (pc := 139) dX12_way_139 1 rfl rfl ?_
                    obtain ⟨q17, h18, hf⟩ := p_bd hf
                    have t19 : p_tp N q17 0 := WT.get hW ha0 h18
                    refine x_getR (pc := 140) dX12_way_140 fl_X12_29 rfl ha0 h18 ?_
                    refine s_iload (pc := 143) dX12_way_143 0 rfl ?_
                    obtain ⟨c20, hf⟩ := p_ckx hf
                    refine x_iald (pc := 145) dX12_way_145 t19 c20 ?_
                    refine s_i2l (pc := 146) dX12_way_146 ?_
                    obtain ⟨q21, h22, hf⟩ := p_bd hf
                    refine y_callS1 (pc := 147) dX12_way_147 (c_X12_late (p_dd hd (by decide)) hW  h22) mk_X12_late mz_X12_late ml_X12_236 rfl rfl (Nat.le_of_ble_eq_true rfl) (p_d1 hd (by decide)) (Nat.le_of_ble_eq_true rfl) ?_
                    refine s_iadd (pc := 150) dX12_way_150 ?_
                    cases hf
                    exact s_ireturn (pc := 151) dX12_way_151 rfl rfl ⟨rfl, rfl, rfl, rfl, rfl⟩
                  · replace hf := p_ng hf hc6
                    have hout : x5.toInt < 0 ∨ 6 < x5.toInt := p_out (fun i h1 h2 => by
                      have hh : i = 0 ∨ i = 1 ∨ i = 2 ∨ i = 3 ∨ i = 4 ∨ i = 5 ∨ i = 6 := by omega
                      rcases hh with rfl | rfl | rfl | rfl | rfl | rfl | rfl
                      · exact p_ne hc0 rfl
                      · exact p_ne hc1 rfl
                      · exact p_ne hc2 rfl
                      · exact p_ne hc3 rfl
                      · exact p_ne hc4 rfl
                      · exact p_ne hc5 rfl
                      · exact p_ne hc6 rfl)
                    refine s_tableOut (pc := 39) (tgt := 152) dX12_way_39 hout rfl ?_
                    refine s_bipush (pc := 152) dX12_way_152 (v := (-2)) rfl ?_
                    cases hf
                    exact s_ireturn (pc := 154) dX12_way_154 rfl rfl ⟨rfl, rfl, rfl, rfl, rfl⟩
    · replace hf := p_ps hf hc
      refine s_bipush (pc := 25) dX12_way_25 (v := (-2)) rfl ?_
      cases hf
      exact s_ireturn (pc := 27) dX12_way_27 rfl rfl ⟨rfl, rfl, rfl, rfl, rfl⟩
def f_X12_compare (n : Nat) (N : pN) (I : pI) (L : pL) (P : pR) (a0 : Nat) (x1 : Int32) (x2 : Int32) (x3 : Int32) (x4 : Int32) (x5 : Int32) (x6 : Int32) : Option (Int32 × pI × pL) :=
  Option.bind (f_X12_finds n N I L P a0 x1 x5 x6) fun q1 =>
  (if q1.1 = 0 then
    some ((-2), q1.2.1, q1.2.2)
  else
    Option.bind (f_X12_isIn x2 (nI 0) ((q1.2.1 a0 13) - (nI 1))) fun q3 =>
    (if q3 = 0 then
      some ((-2), q1.2.1, q1.2.2)
    else
      Option.bind (P a0 10) fun q5 =>
      Option.bind (P a0 19) fun q8 =>
      p_ck (p_ib N q8 x2) <|
      p_ck (p_ib N q5 (q1.2.1 q8 (Int32.toNatClampNeg x2))) <|
      p_let (Int32.toInt64 (q1.2.1 q5 (Int32.toNatClampNeg (q1.2.1 q8 (Int32.toNatClampNeg x2))))) fun v13 =>
      Option.bind (P a0 11) fun q15 =>
      Option.bind (P a0 19) fun q18 =>
      p_ck (p_ib N q18 x2) <|
      p_ck (p_ib N q15 (q1.2.1 q18 (Int32.toNatClampNeg x2))) <|
      p_let (Int32.toInt64 (q1.2.1 q15 (Int32.toNatClampNeg (q1.2.1 q18 (Int32.toNatClampNeg x2))))) fun v23 =>
      Option.bind (f_X12_finds n N q1.2.1 q1.2.2 P a0 x3 x5 x6) fun q25 =>
      (if q25.1 = 0 then
        some ((-2), q25.2.1, q25.2.2)
      else
        Option.bind (f_X12_isIn x4 (nI 0) ((q25.2.1 a0 13) - (nI 1))) fun q27 =>
        (if q27 = 0 then
          some ((-2), q25.2.1, q25.2.2)
        else
          Option.bind (P a0 10) fun q29 =>
          Option.bind (P a0 19) fun q32 =>
          p_ck (p_ib N q32 x4) <|
          p_ck (p_ib N q29 (q25.2.1 q32 (Int32.toNatClampNeg x4))) <|
          Option.bind (P a0 11) fun q37 =>
          Option.bind (P a0 19) fun q40 =>
          p_ck (p_ib N q40 x4) <|
          p_ck (p_ib N q37 (q25.2.1 q40 (Int32.toNatClampNeg x4))) <|
          Option.bind (f_X12_compareRoots v13 v23 (Int32.toInt64 (q25.2.1 q29 (Int32.toNatClampNeg (q25.2.1 q32 (Int32.toNatClampNeg x4))))) (Int32.toInt64 (q25.2.1 q37 (Int32.toNatClampNeg (q25.2.1 q40 (Int32.toNatClampNeg x4)))))) fun q45 =>
          some (q45, q25.2.1, q25.2.2)))))
theorem c_X12_compare {G : pG} {d : Nat} {n : Nat} {N : pN} {I : pI} {L : pL} {P : pR} {a0 : Nat} {x1 : Int32} {x2 : Int32} {x3 : Int32} {x4 : Int32} {x5 : Int32} {x6 : Int32} {qq : Int32 × pI × pL} (hd : 8 ≤ d) (hW : WT N P) (ha0 : p_tp N a0 15) (hf : f_X12_compare n N I L P a0 x1 x2 x3 x4 x5 x6 = some qq) : MT G mX12_compare d 0 0 [.ref a0, .int x1, .int x2, .int x3, .int x4, .int x5, .int x6] N I L P (p_R (some (.int qq.1)) N qq.2.1 qq.2.2 P) := by
  refine MT.of rfl (Nat.le_of_ble_eq_true rfl) ?_
  show SW G mX12_compare (p_rm d 0 0) 0 0 0 0 (p_R (some (.int qq.1)) N qq.2.1 qq.2.2 P) 0 [(0, .ref a0), (1, .int x1), (2, .int x2), (3, .int x3), (4, .int x4), (5, .int x5), (6, .int x6)] [] N I L P
  unfold f_X12_compare at hf
  refine s_aload_n (pc := 0) dX12_compare_0 0 rfl rfl ?_
  refine s_iload_n (pc := 1) dX12_compare_1 1 rfl rfl ?_
  refine s_iload (pc := 2) dX12_compare_2 5 rfl ?_
  refine s_iload (pc := 4) dX12_compare_4 6 rfl ?_
  obtain ⟨q1, h2, hf⟩ := p_bd hf
  refine y_callV1 (pc := 6) dX12_compare_6 (c_X12_finds (p_dd hd (by decide)) hW ha0 h2) mk_X12_finds mv_X12_finds ml_X12_231 rfl rfl (Nat.le_of_ble_eq_true rfl) ha0 rfl (p_d1 hd (by decide)) (Nat.le_of_ble_eq_true rfl) ?_
  refine s_if_eq (pc := 9) (tgt := 26) dX12_compare_9 rfl (fun hc => ?_) (fun hc => ?_)
  · replace hf := p_ps hf hc
    refine s_bipush (pc := 26) dX12_compare_26 (v := (-2)) rfl ?_
    cases hf
    exact s_ireturn (pc := 28) dX12_compare_28 rfl rfl ⟨rfl, rfl, rfl, rfl, rfl⟩
  · replace hf := p_ng hf hc
    refine s_iload_n (pc := 12) dX12_compare_12 2 rfl rfl ?_
    refine s_iconst (pc := 13) dX12_compare_13 (v := nI 0) rfl ?_
    refine s_aload_n (pc := 14) dX12_compare_14 0 rfl rfl ?_
    refine x_getI (pc := 15) dX12_compare_15 fl_X12_142 rfl ha0 ?_
    refine s_iconst (pc := 18) dX12_compare_18 (v := nI 1) rfl ?_
    refine s_isub (pc := 19) dX12_compare_19 ?_
    obtain ⟨q3, h4, hf⟩ := p_bd hf
    refine y_callS1 (pc := 20) dX12_compare_20 (c_X12_isIn (p_dd hd (by decide)) hW  h4) mk_X12_isIn mz_X12_isIn ml_X12_68 rfl rfl (Nat.le_of_ble_eq_true rfl) (p_d1 hd (by decide)) (Nat.le_of_ble_eq_true rfl) ?_
    refine s_if_ne (pc := 23) (tgt := 29) dX12_compare_23 rfl (fun hc => ?_) (fun hc => ?_)
    · replace hf := p_ng hf hc
      refine s_aload_n (pc := 29) dX12_compare_29 0 rfl rfl ?_
      obtain ⟨q5, h6, hf⟩ := p_bd hf
      have t7 : p_tp N q5 0 := WT.get hW ha0 h6
      refine x_getR (pc := 30) dX12_compare_30 fl_X12_26 rfl ha0 h6 ?_
      refine s_aload_n (pc := 33) dX12_compare_33 0 rfl rfl ?_
      obtain ⟨q8, h9, hf⟩ := p_bd hf
      have t10 : p_tp N q8 0 := WT.get hW ha0 h9
      refine x_getR (pc := 34) dX12_compare_34 fl_X12_35 rfl ha0 h9 ?_
      refine s_iload_n (pc := 37) dX12_compare_37 2 rfl rfl ?_
      obtain ⟨c11, hf⟩ := p_ckx hf
      refine x_iald (pc := 38) dX12_compare_38 t10 c11 ?_
      obtain ⟨c12, hf⟩ := p_ckx hf
      refine x_iald (pc := 39) dX12_compare_39 t7 c12 ?_
      refine s_i2l (pc := 40) dX12_compare_40 ?_
      refine s_topl (fun v13 e14 => ?_)
      replace hf := p_lx hf e14
      refine s_lstore (pc := 41) (lo' := [(7, .long v13), (0, .ref a0), (1, .int x1), (2, .int x2), (3, .int x3), (4, .int x4), (5, .int x5), (6, .int x6)]) dX12_compare_41 (Nat.le_of_ble_eq_true rfl) rfl ?_
      refine s_aload_n (pc := 43) dX12_compare_43 1 rfl rfl ?_
      obtain ⟨q15, h16, hf⟩ := p_bd hf
      have t17 : p_tp N q15 0 := WT.get hW ha0 h16
      refine x_getR (pc := 44) dX12_compare_44 fl_X12_29 rfl ha0 h16 ?_
      refine s_aload_n (pc := 47) dX12_compare_47 1 rfl rfl ?_
      obtain ⟨q18, h19, hf⟩ := p_bd hf
      have t20 : p_tp N q18 0 := WT.get hW ha0 h19
      refine x_getR (pc := 48) dX12_compare_48 fl_X12_35 rfl ha0 h19 ?_
      refine s_iload_n (pc := 51) dX12_compare_51 3 rfl rfl ?_
      obtain ⟨c21, hf⟩ := p_ckx hf
      refine x_iald (pc := 52) dX12_compare_52 t20 c21 ?_
      obtain ⟨c22, hf⟩ := p_ckx hf
      refine x_iald (pc := 53) dX12_compare_53 t17 c22 ?_
      refine s_i2l (pc := 54) dX12_compare_54 ?_
      refine s_topl (fun v23 e24 => ?_)
      replace hf := p_lx hf e24
      refine s_lstore (pc := 55) (lo' := [(9, .long v23), (7, .long v13), (0, .ref a0), (1, .int x1), (2, .int x2), (3, .int x3), (4, .int x4), (5, .int x5), (6, .int x6)]) dX12_compare_55 (Nat.le_of_ble_eq_true rfl) rfl ?_
      refine s_aload_n (pc := 57) dX12_compare_57 2 rfl rfl ?_
      refine s_iload_n (pc := 58) dX12_compare_58 5 rfl rfl ?_
      refine s_iload (pc := 59) dX12_compare_59 7 rfl ?_
      refine s_iload (pc := 61) dX12_compare_61 8 rfl ?_
      obtain ⟨q25, h26, hf⟩ := p_bd hf
      refine y_callV1 (pc := 63) dX12_compare_63 (c_X12_finds (p_dd hd (by decide)) hW ha0 h26) mk_X12_finds mv_X12_finds ml_X12_231 rfl rfl (Nat.le_of_ble_eq_true rfl) ha0 rfl (p_d1 hd (by decide)) (Nat.le_of_ble_eq_true rfl) ?_
      refine s_if_eq (pc := 66) (tgt := 84) dX12_compare_66 rfl (fun hc => ?_) (fun hc => ?_)
      · replace hf := p_ps hf hc
        refine s_bipush (pc := 84) dX12_compare_84 (v := (-2)) rfl ?_
        cases hf
        exact s_ireturn (pc := 86) dX12_compare_86 rfl rfl ⟨rfl, rfl, rfl, rfl, rfl⟩
      · replace hf := p_ng hf hc
        refine s_iload (pc := 69) dX12_compare_69 6 rfl ?_
        refine s_iconst (pc := 71) dX12_compare_71 (v := nI 0) rfl ?_
        refine s_aload_n (pc := 72) dX12_compare_72 2 rfl rfl ?_
        refine x_getI (pc := 73) dX12_compare_73 fl_X12_142 rfl ha0 ?_
        refine s_iconst (pc := 76) dX12_compare_76 (v := nI 1) rfl ?_
        refine s_isub (pc := 77) dX12_compare_77 ?_
        obtain ⟨q27, h28, hf⟩ := p_bd hf
        refine y_callS1 (pc := 78) dX12_compare_78 (c_X12_isIn (p_dd hd (by decide)) hW  h28) mk_X12_isIn mz_X12_isIn ml_X12_68 rfl rfl (Nat.le_of_ble_eq_true rfl) (p_d1 hd (by decide)) (Nat.le_of_ble_eq_true rfl) ?_
        refine s_if_ne (pc := 81) (tgt := 87) dX12_compare_81 rfl (fun hc => ?_) (fun hc => ?_)
        · replace hf := p_ng hf hc
          refine s_lload (pc := 87) dX12_compare_87 1 rfl ?_
          refine s_lload (pc := 89) dX12_compare_89 0 rfl ?_
          refine s_aload_n (pc := 91) dX12_compare_91 2 rfl rfl ?_
          obtain ⟨q29, h30, hf⟩ := p_bd hf
          have t31 : p_tp N q29 0 := WT.get hW ha0 h30
          refine x_getR (pc := 92) dX12_compare_92 fl_X12_26 rfl ha0 h30 ?_
          refine s_aload_n (pc := 95) dX12_compare_95 2 rfl rfl ?_
          obtain ⟨q32, h33, hf⟩ := p_bd hf
          have t34 : p_tp N q32 0 := WT.get hW ha0 h33
          refine x_getR (pc := 96) dX12_compare_96 fl_X12_35 rfl ha0 h33 ?_
          refine s_iload (pc := 99) dX12_compare_99 6 rfl ?_
          obtain ⟨c35, hf⟩ := p_ckx hf
          refine x_iald (pc := 101) dX12_compare_101 t34 c35 ?_
          obtain ⟨c36, hf⟩ := p_ckx hf
          refine x_iald (pc := 102) dX12_compare_102 t31 c36 ?_
          refine s_i2l (pc := 103) dX12_compare_103 ?_
          refine s_aload_n (pc := 104) dX12_compare_104 2 rfl rfl ?_
          obtain ⟨q37, h38, hf⟩ := p_bd hf
          have t39 : p_tp N q37 0 := WT.get hW ha0 h38
          refine x_getR (pc := 105) dX12_compare_105 fl_X12_29 rfl ha0 h38 ?_
          refine s_aload_n (pc := 108) dX12_compare_108 2 rfl rfl ?_
          obtain ⟨q40, h41, hf⟩ := p_bd hf
          have t42 : p_tp N q40 0 := WT.get hW ha0 h41
          refine x_getR (pc := 109) dX12_compare_109 fl_X12_35 rfl ha0 h41 ?_
          refine s_iload (pc := 112) dX12_compare_112 6 rfl ?_
          obtain ⟨c43, hf⟩ := p_ckx hf
          refine x_iald (pc := 114) dX12_compare_114 t42 c43 ?_
          obtain ⟨c44, hf⟩ := p_ckx hf
          refine x_iald (pc := 115) dX12_compare_115 t39 c44 ?_
          refine s_i2l (pc := 116) dX12_compare_116 ?_
          obtain ⟨q45, h46, hf⟩ := p_bd hf
          refine y_callS1 (pc := 117) dX12_compare_117 (c_X12_compareRoots (p_dd hd (by decide)) hW  h46) mk_X12_compareRoots mz_X12_compareRoots ml_X12_205 rfl rfl (Nat.le_of_ble_eq_true rfl) (p_d1 hd (by decide)) (Nat.le_of_ble_eq_true rfl) ?_
          cases hf
          exact s_ireturn (pc := 120) dX12_compare_120 rfl rfl ⟨rfl, rfl, rfl, rfl, rfl⟩
        · replace hf := p_ps hf hc
          refine s_bipush (pc := 84) dX12_compare_84 (v := (-2)) rfl ?_
          cases hf
          exact s_ireturn (pc := 86) dX12_compare_86 rfl rfl ⟨rfl, rfl, rfl, rfl, rfl⟩
    · replace hf := p_ps hf hc
      refine s_bipush (pc := 26) dX12_compare_26 (v := (-2)) rfl ?_
      cases hf
      exact s_ireturn (pc := 28) dX12_compare_28 rfl rfl ⟨rfl, rfl, rfl, rfl, rfl⟩
def B_X12_forgets_2 (N : pN) (P : pR) (a0 : Nat) (rec0 : (Int32 × pI) → Option pI) (s0 : Int32 × pI) : Option pI :=
  (if (nI 2646) ≤ s0.1 then
    some s0.2
  else
    Option.bind (P a0 20) fun q3 =>
    p_ck (p_ib N q3 s0.1) <|
    p_let (p_u s0.2 q3 (Int32.toNatClampNeg s0.1) (-1)) fun I7 =>
    rec0 (s0.1 + nI 1, I7))
def f_X12_forgets (n : Nat) (N : pN) (I : pI) (P : pR) (a0 : Nat) : Option pI :=
  Option.bind (p_it (B_X12_forgets_2 N P a0) n (nI 0, I)) fun t1 =>
  some t1
theorem c_X12_forgets {G : pG} {d : Nat} {n : Nat} {N : pN} {I : pI} {L : pL} {P : pR} {a0 : Nat} {qq : pI} (hd : 0 ≤ d) (hW : WT N P) (ha0 : p_tp N a0 15) (hf : f_X12_forgets n N I P a0 = some qq) : MT G mX12_forgets d 0 0 [.ref a0] N I L P (p_R none N qq L P) := by
  refine MT.of rfl (Nat.le_of_ble_eq_true rfl) ?_
  show SW G mX12_forgets (p_rm d 0 0) 0 0 0 0 (p_R none N qq L P) 0 [(0, .ref a0)] [] N I L P
  unfold f_X12_forgets at hf
  refine s_iconst (pc := 0) dX12_forgets_0 (v := nI 0) rfl ?_
  refine s_istore_n (pc := 1) (lo' := [(1, .int (nI 0)), (0, .ref a0)]) dX12_forgets_1 rfl (Nat.le_of_ble_eq_true rfl) rfl ?_
  obtain ⟨t1, hg, hf⟩ := p_bd hf
  have k2 : SW G mX12_forgets (p_rm d 0 0) 0 0 0 0 (p_R none N qq L P) 22 [] [] N t1 L P := by
    cases hf
    exact s_return (pc := 22) dX12_forgets_22 rfl ⟨rfl, rfl, rfl, rfl, rfl⟩
  replace hf := hg
  have k9 : ∀ (k : Nat) (s0 : Int32 × pI), p_it (B_X12_forgets_2 N P a0) k s0 = some t1 → (SW G mX12_forgets (p_rm d 0 0) 0 0 0 0 (p_R none N qq L P) 2 [(0, .ref a0), (1, .int s0.1)] [] N s0.2 L P) := p_it_ind (C := fun (s0 : Int32 × pI) => SW G mX12_forgets (p_rm d 0 0) 0 0 0 0 (p_R none N qq L P) 2 [(0, .ref a0), (1, .int s0.1)] [] N s0.2 L P) (by
    intro rec0 hrec0 s0 hf
    unfold B_X12_forgets_2 at hf
    refine s_iload_n (pc := 2) dX12_forgets_2 1 rfl rfl ?_
    refine s_sipush (pc := 3) dX12_forgets_3 (v := nI 2646) rfl ?_
    refine s_icmp_ge (pc := 6) (tgt := 22) dX12_forgets_6 rfl (fun hc => ?_) (fun hc => ?_)
    · replace hf := p_ps hf hc
      cases hf
      exact s_lo [] rfl (k2)
    · replace hf := p_ng hf hc
      refine s_aload_n (pc := 9) dX12_forgets_9 0 rfl rfl ?_
      obtain ⟨q10, h11, hf⟩ := p_bd hf
      have t12 : p_tp N q10 0 := WT.get hW ha0 h11
      refine x_getR (pc := 10) dX12_forgets_10 fl_X12_38 rfl ha0 h11 ?_
      refine s_iload_n (pc := 13) dX12_forgets_13 1 rfl rfl ?_
      refine s_iconst (pc := 14) dX12_forgets_14 (v := (-1)) rfl ?_
      obtain ⟨c13, hf⟩ := p_ckx hf
      refine x_iast (pc := 15) dX12_forgets_15 t12 c13 ?_
      refine s_nmI (fun I14 e15 => ?_)
      replace hf := p_lx hf e15
      refine s_iinc (pc := 16) (lo' := [(1, .int (s0.1 + nI 1)), (0, .ref a0)]) dX12_forgets_16 1 rfl (v := s0.1 + nI 1) rfl (Nat.le_of_ble_eq_true rfl) rfl ?_
      refine s_goto (pc := 19) (tgt := 2) dX12_forgets_19 rfl ?_
      exact s_lo [1, 0] rfl (hrec0 (s0.1 + nI 1, I14) hf))
  exact s_lo [1, 0] rfl (k9 n (nI 0, I) hf)
def B_X12_sum_4 (N : pN) (I : pI) (P : pR) (a0 : Nat) (rec0 : (Int32 × Int32) → Option Int32) (s0 : Int32 × Int32) : Option Int32 :=
  (if (I a0 13) ≤ s0.2 then
    some s0.1
  else
    Option.bind (P a0 12) fun q3 =>
    p_ck (p_ib N q3 s0.2) <|
    p_let (s0.1 + (I q3 (Int32.toNatClampNeg s0.2))) fun v7 =>
    rec0 (v7, s0.2 + nI 1))
def f_X12_sum (n : Nat) (N : pN) (I : pI) (P : pR) (a0 : Nat) : Option Int32 :=
  Option.bind (p_it (B_X12_sum_4 N I P a0) n (nI 0, nI 0)) fun t1 =>
  some t1
theorem c_X12_sum {G : pG} {d : Nat} {n : Nat} {N : pN} {I : pI} {L : pL} {P : pR} {a0 : Nat} {qq : Int32} (hd : 0 ≤ d) (hW : WT N P) (ha0 : p_tp N a0 15) (hf : f_X12_sum n N I P a0 = some qq) : MT G mX12_sum d 0 0 [.ref a0] N I L P (p_R (some (.int qq)) N I L P) := by
  refine MT.of rfl (Nat.le_of_ble_eq_true rfl) ?_
  show SW G mX12_sum (p_rm d 0 0) 0 0 0 0 (p_R (some (.int qq)) N I L P) 0 [(0, .ref a0)] [] N I L P
  unfold f_X12_sum at hf
  refine s_iconst (pc := 0) dX12_sum_0 (v := nI 0) rfl ?_
  refine s_istore_n (pc := 1) (lo' := [(1, .int (nI 0)), (0, .ref a0)]) dX12_sum_1 rfl (Nat.le_of_ble_eq_true rfl) rfl ?_
  refine s_iconst (pc := 2) dX12_sum_2 (v := nI 0) rfl ?_
  refine s_istore_n (pc := 3) (lo' := [(2, .int (nI 0)), (1, .int (nI 0)), (0, .ref a0)]) dX12_sum_3 rfl (Nat.le_of_ble_eq_true rfl) rfl ?_
  obtain ⟨t1, hg, hf⟩ := p_bd hf
  have k2 : SW G mX12_sum (p_rm d 0 0) 0 0 0 0 (p_R (some (.int qq)) N I L P) 27 [(1, .int t1)] [] N I L P := by
    refine s_iload_n (pc := 27) dX12_sum_27 0 rfl rfl ?_
    cases hf
    exact s_ireturn (pc := 28) dX12_sum_28 rfl rfl ⟨rfl, rfl, rfl, rfl, rfl⟩
  replace hf := hg
  have k9 : ∀ (k : Nat) (s0 : Int32 × Int32), p_it (B_X12_sum_4 N I P a0) k s0 = some t1 → (SW G mX12_sum (p_rm d 0 0) 0 0 0 0 (p_R (some (.int qq)) N I L P) 4 [(0, .ref a0), (1, .int s0.1), (2, .int s0.2)] [] N I L P) := p_it_ind (C := fun (s0 : Int32 × Int32) => SW G mX12_sum (p_rm d 0 0) 0 0 0 0 (p_R (some (.int qq)) N I L P) 4 [(0, .ref a0), (1, .int s0.1), (2, .int s0.2)] [] N I L P) (by
    intro rec0 hrec0 s0 hf
    unfold B_X12_sum_4 at hf
    refine s_iload_n (pc := 4) dX12_sum_4 2 rfl rfl ?_
    refine s_aload_n (pc := 5) dX12_sum_5 0 rfl rfl ?_
    refine x_getI (pc := 6) dX12_sum_6 fl_X12_142 rfl ha0 ?_
    refine s_icmp_ge (pc := 9) (tgt := 27) dX12_sum_9 rfl (fun hc => ?_) (fun hc => ?_)
    · replace hf := p_ps hf hc
      cases hf
      exact s_lo [1] rfl (k2)
    · replace hf := p_ng hf hc
      refine s_iload_n (pc := 12) dX12_sum_12 1 rfl rfl ?_
      refine s_aload_n (pc := 13) dX12_sum_13 0 rfl rfl ?_
      obtain ⟨q10, h11, hf⟩ := p_bd hf
      have t12 : p_tp N q10 0 := WT.get hW ha0 h11
      refine x_getR (pc := 14) dX12_sum_14 fl_X12_32 rfl ha0 h11 ?_
      refine s_iload_n (pc := 17) dX12_sum_17 2 rfl rfl ?_
      obtain ⟨c13, hf⟩ := p_ckx hf
      refine x_iald (pc := 18) dX12_sum_18 t12 c13 ?_
      refine s_iadd (pc := 19) dX12_sum_19 ?_
      refine s_topi (fun v14 e15 => ?_)
      replace hf := p_lx hf e15
      refine s_istore_n (pc := 20) (lo' := [(1, .int v14), (0, .ref a0), (2, .int s0.2)]) dX12_sum_20 rfl (Nat.le_of_ble_eq_true rfl) rfl ?_
      refine s_iinc (pc := 21) (lo' := [(2, .int (s0.2 + nI 1)), (1, .int v14), (0, .ref a0)]) dX12_sum_21 2 rfl (v := s0.2 + nI 1) rfl (Nat.le_of_ble_eq_true rfl) rfl ?_
      refine s_goto (pc := 24) (tgt := 4) dX12_sum_24 rfl ?_
      exact s_lo [2, 1, 0] rfl (hrec0 (v14, s0.2 + nI 1) hf))
  exact s_lo [2, 1, 0] rfl (k9 n (nI 0, nI 0) hf)
def f_X12_signalOf (n : Nat) (N : pN) (I : pI) (L : pL) (P : pR) (a0 : Nat) (x1 : Int32) (x2 : Int32) (x3 : Int32) : Option (Int32 × pI × pL) :=
  p_let ((((nI 441) * x1) + ((nI 21) * x3)) + x2) fun v1 =>
  Option.bind (P a0 20) fun q3 =>
  p_ck (p_ib N q3 v1) <|
  (if (I q3 (Int32.toNatClampNeg v1)) < 0 then
    Option.bind (f_X12_senderOf N I P a0 x1 (nI 0)) fun q7 =>
    Option.bind (f_X12_senderOf N I P a0 x1 (nI 1)) fun q9 =>
    Option.bind (f_X12_senderOf N I P a0 x1 (nI 3)) fun q11 =>
    Option.bind (f_X12_from I a0 q7 q9 q11) fun q13 =>
    Option.bind (f_X12_tries n N q13 L P a0 x2 x3) fun q15 =>
    Option.bind (P a0 20) fun q17 =>
    Option.bind (f_X12_sum n N q15.1 P a0) fun q20 =>
    p_ck (p_ib N q17 v1) <|
    p_let (p_u q15.1 q17 (Int32.toNatClampNeg v1) q20) fun I23 =>
    Option.bind (P a0 20) fun q25 =>
    p_ck (p_ib N q25 v1) <|
    some (I23 q25 (Int32.toNatClampNeg v1), I23, q15.2)
  else
    Option.bind (P a0 20) fun q29 =>
    p_ck (p_ib N q29 v1) <|
    some (I q29 (Int32.toNatClampNeg v1), I, L))
theorem c_X12_signalOf {G : pG} {d : Nat} {n : Nat} {N : pN} {I : pI} {L : pL} {P : pR} {a0 : Nat} {x1 : Int32} {x2 : Int32} {x3 : Int32} {qq : Int32 × pI × pL} (hd : 7 ≤ d) (hW : WT N P) (ha0 : p_tp N a0 15) (hf : f_X12_signalOf n N I L P a0 x1 x2 x3 = some qq) : MT G mX12_signalOf d 0 0 [.ref a0, .int x1, .int x2, .int x3] N I L P (p_R (some (.int qq.1)) N qq.2.1 qq.2.2 P) := by
  refine MT.of rfl (Nat.le_of_ble_eq_true rfl) ?_
  show SW G mX12_signalOf (p_rm d 0 0) 0 0 0 0 (p_R (some (.int qq.1)) N qq.2.1 qq.2.2 P) 0 [(0, .ref a0), (1, .int x1), (2, .int x2), (3, .int x3)] [] N I L P
  unfold f_X12_signalOf at hf
  refine s_sipush (pc := 0) dX12_signalOf_0 (v := nI 441) rfl ?_
  refine s_iload_n (pc := 3) dX12_signalOf_3 1 rfl rfl ?_
  refine s_imul (pc := 4) dX12_signalOf_4 ?_
  refine s_bipush (pc := 5) dX12_signalOf_5 (v := nI 21) rfl ?_
  refine s_iload_n (pc := 7) dX12_signalOf_7 3 rfl rfl ?_
  refine s_imul (pc := 8) dX12_signalOf_8 ?_
  refine s_iadd (pc := 9) dX12_signalOf_9 ?_
  refine s_iload_n (pc := 10) dX12_signalOf_10 2 rfl rfl ?_
  refine s_iadd (pc := 11) dX12_signalOf_11 ?_
  refine s_topi (fun v1 e2 => ?_)
  replace hf := p_lx hf e2
  refine s_istore (pc := 12) (lo' := [(4, .int v1), (0, .ref a0), (1, .int x1), (2, .int x2), (3, .int x3)]) dX12_signalOf_12 (Nat.le_of_ble_eq_true rfl) rfl ?_
  refine s_aload_n (pc := 14) dX12_signalOf_14 1 rfl rfl ?_
  obtain ⟨q3, h4, hf⟩ := p_bd hf
  have t5 : p_tp N q3 0 := WT.get hW ha0 h4
  refine x_getR (pc := 15) dX12_signalOf_15 fl_X12_38 rfl ha0 h4 ?_
  refine s_iload (pc := 18) dX12_signalOf_18 0 rfl ?_
  obtain ⟨c6, hf⟩ := p_ckx hf
  refine x_iald (pc := 20) dX12_signalOf_20 t5 c6 ?_
  refine s_if_lt (pc := 21) (tgt := 32) dX12_signalOf_21 rfl (fun hc => ?_) (fun hc => ?_)
  · replace hf := p_ps hf hc
    refine s_aload_n (pc := 32) dX12_signalOf_32 1 rfl rfl ?_
    refine s_aload_n (pc := 33) dX12_signalOf_33 1 rfl rfl ?_
    refine s_iload_n (pc := 34) dX12_signalOf_34 2 rfl rfl ?_
    refine s_iconst (pc := 35) dX12_signalOf_35 (v := nI 0) rfl ?_
    obtain ⟨q7, h8, hf⟩ := p_bd hf
    refine y_callV1 (pc := 36) dX12_signalOf_36 (c_X12_senderOf (p_dd hd (by decide)) hW ha0 h8) mk_X12_senderOf mv_X12_senderOf ml_X12_83 rfl rfl (Nat.le_of_ble_eq_true rfl) ha0 rfl (p_d1 hd (by decide)) (Nat.le_of_ble_eq_true rfl) ?_
    refine s_aload_n (pc := 39) dX12_signalOf_39 1 rfl rfl ?_
    refine s_iload_n (pc := 40) dX12_signalOf_40 2 rfl rfl ?_
    refine s_iconst (pc := 41) dX12_signalOf_41 (v := nI 1) rfl ?_
    obtain ⟨q9, h10, hf⟩ := p_bd hf
    refine y_callV1 (pc := 42) dX12_signalOf_42 (c_X12_senderOf (p_dd hd (by decide)) hW ha0 h10) mk_X12_senderOf mv_X12_senderOf ml_X12_83 rfl rfl (Nat.le_of_ble_eq_true rfl) ha0 rfl (p_d1 hd (by decide)) (Nat.le_of_ble_eq_true rfl) ?_
    refine s_aload_n (pc := 45) dX12_signalOf_45 1 rfl rfl ?_
    refine s_iload_n (pc := 46) dX12_signalOf_46 2 rfl rfl ?_
    refine s_iconst (pc := 47) dX12_signalOf_47 (v := nI 3) rfl ?_
    obtain ⟨q11, h12, hf⟩ := p_bd hf
    refine y_callV1 (pc := 48) dX12_signalOf_48 (c_X12_senderOf (p_dd hd (by decide)) hW ha0 h12) mk_X12_senderOf mv_X12_senderOf ml_X12_83 rfl rfl (Nat.le_of_ble_eq_true rfl) ha0 rfl (p_d1 hd (by decide)) (Nat.le_of_ble_eq_true rfl) ?_
    obtain ⟨q13, h14, hf⟩ := p_bd hf
    refine y_callV0 (pc := 51) dX12_signalOf_51 (c_X12_from (p_dd hd (by decide)) hW ha0 h14) mk_X12_from mv_X12_from ml_X12_221 rfl rfl (Nat.le_of_ble_eq_true rfl) ha0 rfl (p_d1 hd (by decide)) (Nat.le_of_ble_eq_true rfl) ?_
    refine s_aload_n (pc := 54) dX12_signalOf_54 1 rfl rfl ?_
    refine s_iload_n (pc := 55) dX12_signalOf_55 3 rfl rfl ?_
    refine s_iload_n (pc := 56) dX12_signalOf_56 4 rfl rfl ?_
    obtain ⟨q15, h16, hf⟩ := p_bd hf
    refine y_callV0 (pc := 57) dX12_signalOf_57 (c_X12_tries (p_dd hd (by decide)) hW ha0 h16) mk_X12_tries mv_X12_tries ml_X12_225 rfl rfl (Nat.le_of_ble_eq_true rfl) ha0 rfl (p_d1 hd (by decide)) (Nat.le_of_ble_eq_true rfl) ?_
    refine s_aload_n (pc := 60) dX12_signalOf_60 1 rfl rfl ?_
    obtain ⟨q17, h18, hf⟩ := p_bd hf
    have t19 : p_tp N q17 0 := WT.get hW ha0 h18
    refine x_getR (pc := 61) dX12_signalOf_61 fl_X12_38 rfl ha0 h18 ?_
    refine s_iload (pc := 64) dX12_signalOf_64 0 rfl ?_
    refine s_aload_n (pc := 66) dX12_signalOf_66 1 rfl rfl ?_
    obtain ⟨q20, h21, hf⟩ := p_bd hf
    refine y_callV1 (pc := 67) dX12_signalOf_67 (c_X12_sum (p_dd hd (by decide)) hW ha0 h21) mk_X12_sum mv_X12_sum ml_X12_240 rfl rfl (Nat.le_of_ble_eq_true rfl) ha0 rfl (p_d1 hd (by decide)) (Nat.le_of_ble_eq_true rfl) ?_
    obtain ⟨c22, hf⟩ := p_ckx hf
    refine x_iast (pc := 70) dX12_signalOf_70 t19 c22 ?_
    refine s_nmI (fun I23 e24 => ?_)
    replace hf := p_lx hf e24
    refine s_aload_n (pc := 71) dX12_signalOf_71 1 rfl rfl ?_
    obtain ⟨q25, h26, hf⟩ := p_bd hf
    have t27 : p_tp N q25 0 := WT.get hW ha0 h26
    refine x_getR (pc := 72) dX12_signalOf_72 fl_X12_38 rfl ha0 h26 ?_
    refine s_iload (pc := 75) dX12_signalOf_75 0 rfl ?_
    obtain ⟨c28, hf⟩ := p_ckx hf
    refine x_iald (pc := 77) dX12_signalOf_77 t27 c28 ?_
    cases hf
    exact s_ireturn (pc := 78) dX12_signalOf_78 rfl rfl ⟨rfl, rfl, rfl, rfl, rfl⟩
  · replace hf := p_ng hf hc
    refine s_aload_n (pc := 24) dX12_signalOf_24 1 rfl rfl ?_
    obtain ⟨q29, h30, hf⟩ := p_bd hf
    have t31 : p_tp N q29 0 := WT.get hW ha0 h30
    refine x_getR (pc := 25) dX12_signalOf_25 fl_X12_38 rfl ha0 h30 ?_
    refine s_iload (pc := 28) dX12_signalOf_28 0 rfl ?_
    obtain ⟨c32, hf⟩ := p_ckx hf
    refine x_iald (pc := 30) dX12_signalOf_30 t31 c32 ?_
    cases hf
    exact s_ireturn (pc := 31) dX12_signalOf_31 rfl rfl ⟨rfl, rfl, rfl, rfl, rfl⟩
def f_X12_signal (n : Nat) (N : pN) (I : pI) (L : pL) (P : pR) (a0 : Nat) (x1 : Int32) (x2 : Int32) (x3 : Int32) : Option (Int32 × pI × pL) :=
  Option.bind (f_X12_seesSender N I P a0 x1) fun q1 =>
  (if q1 = 0 then
    some ((-1), I, L)
  else
    Option.bind (f_X12_isPoint x2 x3) fun q3 =>
    (if q3 = 0 then
      some ((-1), I, L)
    else
      Option.bind (f_X12_signalOf n N I L P a0 x1 x2 x3) fun q5 =>
      some (q5.1, q5.2.1, q5.2.2)))
theorem c_X12_signal {G : pG} {d : Nat} {n : Nat} {N : pN} {I : pI} {L : pL} {P : pR} {a0 : Nat} {x1 : Int32} {x2 : Int32} {x3 : Int32} {qq : Int32 × pI × pL} (hd : 8 ≤ d) (hW : WT N P) (ha0 : p_tp N a0 15) (hf : f_X12_signal n N I L P a0 x1 x2 x3 = some qq) : MT G mX12_signal d 0 0 [.ref a0, .int x1, .int x2, .int x3] N I L P (p_R (some (.int qq.1)) N qq.2.1 qq.2.2 P) := by
  refine MT.of rfl (Nat.le_of_ble_eq_true rfl) ?_
  show SW G mX12_signal (p_rm d 0 0) 0 0 0 0 (p_R (some (.int qq.1)) N qq.2.1 qq.2.2 P) 0 [(0, .ref a0), (1, .int x1), (2, .int x2), (3, .int x3)] [] N I L P
  unfold f_X12_signal at hf
  refine s_aload_n (pc := 0) dX12_signal_0 0 rfl rfl ?_
  refine s_iload_n (pc := 1) dX12_signal_1 1 rfl rfl ?_
  obtain ⟨q1, h2, hf⟩ := p_bd hf
  refine y_callV1 (pc := 2) dX12_signal_2 (c_X12_seesSender (p_dd hd (by decide)) hW ha0 h2) mk_X12_seesSender mv_X12_seesSender ml_X12_215 rfl rfl (Nat.le_of_ble_eq_true rfl) ha0 rfl (p_d1 hd (by decide)) (Nat.le_of_ble_eq_true rfl) ?_
  refine s_if_eq (pc := 5) (tgt := 26) dX12_signal_5 rfl (fun hc => ?_) (fun hc => ?_)
  · replace hf := p_ps hf hc
    refine s_iconst (pc := 26) dX12_signal_26 (v := (-1)) rfl ?_
    cases hf
    exact s_ireturn (pc := 27) dX12_signal_27 rfl rfl ⟨rfl, rfl, rfl, rfl, rfl⟩
  · replace hf := p_ng hf hc
    refine s_iload_n (pc := 8) dX12_signal_8 2 rfl rfl ?_
    refine s_iload_n (pc := 9) dX12_signal_9 3 rfl rfl ?_
    obtain ⟨q3, h4, hf⟩ := p_bd hf
    refine y_callS1 (pc := 10) dX12_signal_10 (c_X12_isPoint (p_dd hd (by decide)) hW  h4) mk_X12_isPoint mz_X12_isPoint ml_X12_218 rfl rfl (Nat.le_of_ble_eq_true rfl) (p_d1 hd (by decide)) (Nat.le_of_ble_eq_true rfl) ?_
    refine s_if_eq (pc := 13) (tgt := 26) dX12_signal_13 rfl (fun hc => ?_) (fun hc => ?_)
    · replace hf := p_ps hf hc
      refine s_iconst (pc := 26) dX12_signal_26 (v := (-1)) rfl ?_
      cases hf
      exact s_ireturn (pc := 27) dX12_signal_27 rfl rfl ⟨rfl, rfl, rfl, rfl, rfl⟩
    · replace hf := p_ng hf hc
      refine s_aload_n (pc := 16) dX12_signal_16 0 rfl rfl ?_
      refine s_iload_n (pc := 17) dX12_signal_17 1 rfl rfl ?_
      refine s_iload_n (pc := 18) dX12_signal_18 2 rfl rfl ?_
      refine s_iload_n (pc := 19) dX12_signal_19 3 rfl rfl ?_
      obtain ⟨q5, h6, hf⟩ := p_bd hf
      refine y_callV1 (pc := 20) dX12_signal_20 (c_X12_signalOf (p_dd hd (by decide)) hW ha0 h6) mk_X12_signalOf mv_X12_signalOf ml_X12_244 rfl rfl (Nat.le_of_ble_eq_true rfl) ha0 rfl (p_d1 hd (by decide)) (Nat.le_of_ble_eq_true rfl) ?_
      refine s_goto (pc := 23) (tgt := 27) dX12_signal_23 rfl ?_
      cases hf
      exact s_ireturn (pc := 27) dX12_signal_27 rfl rfl ⟨rfl, rfl, rfl, rfl, rfl⟩
def B_X12_isHeard_13 (n : Nat) (N : pN) (P : pR) (a0 : Nat) (x1 : Int32) (x2 : Int32) (x3 : Int32) (rec0 : (Int64 × Int32 × pI × pL) → Option (Int64 × pI × pL)) (s0 : Int64 × Int32 × pI × pL) : Option (Int64 × pI × pL) :=
  Option.bind (P a0 0) fun q9 =>
  p_ck (p_ib N q9 (nI 1)) <|
  (if (s0.2.2.1 q9 (Int32.toNatClampNeg (nI 1))) ≤ s0.2.1 then
    some (s0.1, s0.2.2.1, s0.2.2.2)
  else
    Option.bind (α := Int64 × pI × pL) ((if s0.2.1 = x1 then
      some (s0.1, s0.2.2.1, s0.2.2.2)
    else
      Option.bind (f_X12_seesSender N s0.2.2.1 P a0 s0.2.1) fun q15 =>
      (if q15 = 0 then
        some (s0.1, s0.2.2.1, s0.2.2.2)
      else
        Option.bind (f_X12_senderOf N s0.2.2.1 P a0 s0.2.1 (nI 2)) fun q17 =>
        Option.bind (f_X12_senderOf N s0.2.2.1 P a0 x1 (nI 2)) fun q19 =>
        (if q17 = q19 then
          Option.bind (f_X12_signalOf n N s0.2.2.1 s0.2.2.2 P a0 s0.2.1 x2 x3) fun q21 =>
          p_let (s0.1 + (Int32.toInt64 q21.1)) fun v23 =>
          some (v23, q21.2.1, q21.2.2)
        else
          some (s0.1, s0.2.2.1, s0.2.2.2))))) fun t13 =>
    rec0 (t13.1, s0.2.1 + nI 1, t13.2.1, t13.2.2))
def f_X12_isHeard (n : Nat) (N : pN) (I : pI) (L : pL) (P : pR) (a0 : Nat) (x1 : Int32) (x2 : Int32) (x3 : Int32) : Option (Int32 × pI × pL) :=
  Option.bind (P a0 0) fun q1 =>
  p_ck (p_ib N q1 (nI 13)) <|
  p_let (Int32.toInt64 (I q1 (Int32.toNatClampNeg (nI 13)))) fun v5 =>
  Option.bind (p_it (B_X12_isHeard_13 n N P a0 x1 x2 x3) n (v5, nI 0, I, L)) fun t7 =>
  Option.bind (f_X12_signalOf n N t7.2.1 t7.2.2 P a0 x1 x2 x3) fun q42 =>
  (if (Int32.toInt64 q42.1) ≤ 0 then
    some (nI 0, q42.2.1, q42.2.2)
  else
    Option.bind (P a0 0) fun q44 =>
    p_ck (p_ib N q44 (nI 14)) <|
    (if ((Int32.toInt64 q42.1) * 100) < ((Int32.toInt64 (q42.2.1 q44 (Int32.toNatClampNeg (nI 14)))) * t7.1) then
      some (nI 0, q42.2.1, q42.2.2)
    else
      some (nI 1, q42.2.1, q42.2.2)))
theorem c_X12_isHeard {G : pG} {d : Nat} {n : Nat} {N : pN} {I : pI} {L : pL} {P : pR} {a0 : Nat} {x1 : Int32} {x2 : Int32} {x3 : Int32} {qq : Int32 × pI × pL} (hd : 8 ≤ d) (hW : WT N P) (ha0 : p_tp N a0 15) (hf : f_X12_isHeard n N I L P a0 x1 x2 x3 = some qq) : MT G mX12_isHeard d 0 0 [.ref a0, .int x1, .int x2, .int x3] N I L P (p_R (some (.int qq.1)) N qq.2.1 qq.2.2 P) := by
  refine MT.of rfl (Nat.le_of_ble_eq_true rfl) ?_
  show SW G mX12_isHeard (p_rm d 0 0) 0 0 0 0 (p_R (some (.int qq.1)) N qq.2.1 qq.2.2 P) 0 [(0, .ref a0), (1, .int x1), (2, .int x2), (3, .int x3)] [] N I L P
  unfold f_X12_isHeard at hf
  refine s_aload_n (pc := 0) dX12_isHeard_0 0 rfl rfl ?_
  obtain ⟨q1, h2, hf⟩ := p_bd hf
  have t3 : p_tp N q1 0 := WT.get hW ha0 h2
  refine x_getR (pc := 1) dX12_isHeard_1 fl_X12_7 rfl ha0 h2 ?_
  refine s_bipush (pc := 4) dX12_isHeard_4 (v := nI 13) rfl ?_
  obtain ⟨c4, hf⟩ := p_ckx hf
  refine x_iald (pc := 6) dX12_isHeard_6 t3 c4 ?_
  refine s_i2l (pc := 7) dX12_isHeard_7 ?_
  refine s_topl (fun v5 e6 => ?_)
  replace hf := p_lx hf e6
  refine s_lstore (pc := 8) (lo' := [(4, .long v5), (0, .ref a0), (1, .int x1), (2, .int x2), (3, .int x3)]) dX12_isHeard_8 (Nat.le_of_ble_eq_true rfl) rfl ?_
  refine s_iconst (pc := 10) dX12_isHeard_10 (v := nI 0) rfl ?_
  refine s_istore (pc := 11) (lo' := [(6, .int (nI 0)), (4, .long v5), (0, .ref a0), (1, .int x1), (2, .int x2), (3, .int x3)]) dX12_isHeard_11 (Nat.le_of_ble_eq_true rfl) rfl ?_
  obtain ⟨t7, hg, hf⟩ := p_bd hf
  have k8 : SW G mX12_isHeard (p_rm d 0 0) 0 0 0 0 (p_R (some (.int qq.1)) N qq.2.1 qq.2.2 P) 75 [(0, .ref a0), (1, .int x1), (2, .int x2), (3, .int x3), (4, .long t7.1)] [] N t7.2.1 t7.2.2 P := by
    refine s_aload_n (pc := 75) dX12_isHeard_75 0 rfl rfl ?_
    refine s_iload_n (pc := 76) dX12_isHeard_76 1 rfl rfl ?_
    refine s_iload_n (pc := 77) dX12_isHeard_77 2 rfl rfl ?_
    refine s_iload_n (pc := 78) dX12_isHeard_78 3 rfl rfl ?_
    obtain ⟨q42, h43, hf⟩ := p_bd hf
    refine y_callV1 (pc := 79) dX12_isHeard_79 (c_X12_signalOf (p_dd hd (by decide)) hW ha0 h43) mk_X12_signalOf mv_X12_signalOf ml_X12_244 rfl rfl (Nat.le_of_ble_eq_true rfl) ha0 rfl (p_d1 hd (by decide)) (Nat.le_of_ble_eq_true rfl) ?_
    refine s_i2l (pc := 82) dX12_isHeard_82 ?_
    refine s_lstore (pc := 83) (lo' := [(6, .long (Int32.toInt64 q42.1)), (0, .ref a0), (1, .int x1), (2, .int x2), (3, .int x3), (4, .long t7.1)]) dX12_isHeard_83 (Nat.le_of_ble_eq_true rfl) rfl ?_
    refine s_lload (pc := 85) dX12_isHeard_85 0 rfl ?_
    refine s_lconst (pc := 87) dX12_isHeard_87 (v := 0) rfl ?_
    refine x_lcmp_le (pc := 88) (tgt := 117) dX12_isHeard_88 dX12_isHeard_89 rfl (fun hc => ?_) (fun hc => ?_)
    · replace hf := p_ps hf hc
      refine s_iconst (pc := 117) dX12_isHeard_117 (v := nI 0) rfl ?_
      cases hf
      exact s_ireturn (pc := 118) dX12_isHeard_118 rfl rfl ⟨rfl, rfl, rfl, rfl, rfl⟩
    · replace hf := p_ng hf hc
      refine s_lload (pc := 92) dX12_isHeard_92 0 rfl ?_
      refine s_ldc2 (pc := 94) kl_X12_111 dX12_isHeard_94 ?_
      refine s_lmul (pc := 97) dX12_isHeard_97 ?_
      refine s_aload_n (pc := 98) dX12_isHeard_98 1 rfl rfl ?_
      obtain ⟨q44, h45, hf⟩ := p_bd hf
      have t46 : p_tp N q44 0 := WT.get hW ha0 h45
      refine x_getR (pc := 99) dX12_isHeard_99 fl_X12_7 rfl ha0 h45 ?_
      refine s_bipush (pc := 102) dX12_isHeard_102 (v := nI 14) rfl ?_
      obtain ⟨c47, hf⟩ := p_ckx hf
      refine x_iald (pc := 104) dX12_isHeard_104 t46 c47 ?_
      refine s_i2l (pc := 105) dX12_isHeard_105 ?_
      refine s_lload (pc := 106) dX12_isHeard_106 5 rfl ?_
      refine s_lmul (pc := 108) dX12_isHeard_108 ?_
      refine x_lcmp_lt (pc := 109) (tgt := 117) dX12_isHeard_109 dX12_isHeard_110 rfl (fun hc => ?_) (fun hc => ?_)
      · replace hf := p_ps hf hc
        refine s_iconst (pc := 117) dX12_isHeard_117 (v := nI 0) rfl ?_
        cases hf
        exact s_ireturn (pc := 118) dX12_isHeard_118 rfl rfl ⟨rfl, rfl, rfl, rfl, rfl⟩
      · replace hf := p_ng hf hc
        refine s_iconst (pc := 113) dX12_isHeard_113 (v := nI 1) rfl ?_
        refine s_goto (pc := 114) (tgt := 118) dX12_isHeard_114 rfl ?_
        cases hf
        exact s_ireturn (pc := 118) dX12_isHeard_118 rfl rfl ⟨rfl, rfl, rfl, rfl, rfl⟩
  replace hf := hg
  have k25 : ∀ (k : Nat) (s0 : Int64 × Int32 × pI × pL), p_it (B_X12_isHeard_13 n N P a0 x1 x2 x3) k s0 = some t7 → (SW G mX12_isHeard (p_rm d 0 0) 0 0 0 0 (p_R (some (.int qq.1)) N qq.2.1 qq.2.2 P) 13 [(0, .ref a0), (1, .int x1), (2, .int x2), (3, .int x3), (4, .long s0.1), (6, .int s0.2.1)] [] N s0.2.2.1 s0.2.2.2 P) := p_it_ind (C := fun (s0 : Int64 × Int32 × pI × pL) => SW G mX12_isHeard (p_rm d 0 0) 0 0 0 0 (p_R (some (.int qq.1)) N qq.2.1 qq.2.2 P) 13 [(0, .ref a0), (1, .int x1), (2, .int x2), (3, .int x3), (4, .long s0.1), (6, .int s0.2.1)] [] N s0.2.2.1 s0.2.2.2 P) (by
    intro rec0 hrec0 s0 hf
    unfold B_X12_isHeard_13 at hf
    refine s_iload (pc := 13) dX12_isHeard_13 5 rfl ?_
    refine s_aload_n (pc := 15) dX12_isHeard_15 0 rfl rfl ?_
    obtain ⟨q26, h27, hf⟩ := p_bd hf
    have t28 : p_tp N q26 0 := WT.get hW ha0 h27
    refine x_getR (pc := 16) dX12_isHeard_16 fl_X12_7 rfl ha0 h27 ?_
    refine s_iconst (pc := 19) dX12_isHeard_19 (v := nI 1) rfl ?_
    obtain ⟨c29, hf⟩ := p_ckx hf
    refine x_iald (pc := 20) dX12_isHeard_20 t28 c29 ?_
    refine s_icmp_ge (pc := 21) (tgt := 75) dX12_isHeard_21 rfl (fun hc => ?_) (fun hc => ?_)
    · replace hf := p_ps hf hc
      cases hf
      exact s_lo [0, 1, 2, 3, 4] rfl (k8)
    · replace hf := p_ng hf hc
      refine s_iload (pc := 24) dX12_isHeard_24 5 rfl ?_
      refine s_iload_n (pc := 26) dX12_isHeard_26 1 rfl rfl ?_
      obtain ⟨t30, hg, hf⟩ := p_bd hf
      have k31 : SW G mX12_isHeard (p_rm d 0 0) 0 0 0 0 (p_R (some (.int qq.1)) N qq.2.1 qq.2.2 P) 69 [(0, .ref a0), (1, .int x1), (2, .int x2), (3, .int x3), (6, .int s0.2.1), (4, .long t30.1)] [] N t30.2.1 t30.2.2 P := by
        refine s_iinc (pc := 69) (lo' := [(6, .int (s0.2.1 + nI 1)), (0, .ref a0), (1, .int x1), (2, .int x2), (3, .int x3), (4, .long t30.1)]) dX12_isHeard_69 4 rfl (v := s0.2.1 + nI 1) rfl (Nat.le_of_ble_eq_true rfl) rfl ?_
        refine s_goto (pc := 72) (tgt := 13) dX12_isHeard_72 rfl ?_
        exact s_lo [1, 2, 3, 4, 5, 0] rfl (hrec0 (t30.1, s0.2.1 + nI 1, t30.2.1, t30.2.2) hf)
      replace hf := hg
      refine s_icmp_eq (pc := 27) (tgt := 69) dX12_isHeard_27 rfl (fun hc => ?_) (fun hc => ?_)
      · replace hf := p_ps hf hc
        cases hf
        exact s_lo [0, 1, 2, 3, 5, 4] rfl (k31)
      · replace hf := p_ng hf hc
        refine s_aload_n (pc := 30) dX12_isHeard_30 0 rfl rfl ?_
        refine s_iload (pc := 31) dX12_isHeard_31 5 rfl ?_
        obtain ⟨q32, h33, hf⟩ := p_bd hf
        refine y_callV1 (pc := 33) dX12_isHeard_33 (c_X12_seesSender (p_dd hd (by decide)) hW ha0 h33) mk_X12_seesSender mv_X12_seesSender ml_X12_215 rfl rfl (Nat.le_of_ble_eq_true rfl) ha0 rfl (p_d1 hd (by decide)) (Nat.le_of_ble_eq_true rfl) ?_
        refine s_if_eq (pc := 36) (tgt := 69) dX12_isHeard_36 rfl (fun hc => ?_) (fun hc => ?_)
        · replace hf := p_ps hf hc
          cases hf
          exact s_lo [0, 1, 2, 3, 5, 4] rfl (k31)
        · replace hf := p_ng hf hc
          refine s_aload_n (pc := 39) dX12_isHeard_39 0 rfl rfl ?_
          refine s_iload (pc := 40) dX12_isHeard_40 5 rfl ?_
          refine s_iconst (pc := 42) dX12_isHeard_42 (v := nI 2) rfl ?_
          obtain ⟨q34, h35, hf⟩ := p_bd hf
          refine y_callV1 (pc := 43) dX12_isHeard_43 (c_X12_senderOf (p_dd hd (by decide)) hW ha0 h35) mk_X12_senderOf mv_X12_senderOf ml_X12_83 rfl rfl (Nat.le_of_ble_eq_true rfl) ha0 rfl (p_d1 hd (by decide)) (Nat.le_of_ble_eq_true rfl) ?_
          refine s_aload_n (pc := 46) dX12_isHeard_46 0 rfl rfl ?_
          refine s_iload_n (pc := 47) dX12_isHeard_47 1 rfl rfl ?_
          refine s_iconst (pc := 48) dX12_isHeard_48 (v := nI 2) rfl ?_
          obtain ⟨q36, h37, hf⟩ := p_bd hf
          refine y_callV1 (pc := 49) dX12_isHeard_49 (c_X12_senderOf (p_dd hd (by decide)) hW ha0 h37) mk_X12_senderOf mv_X12_senderOf ml_X12_83 rfl rfl (Nat.le_of_ble_eq_true rfl) ha0 rfl (p_d1 hd (by decide)) (Nat.le_of_ble_eq_true rfl) ?_
          refine s_icmp_ne (pc := 52) (tgt := 69) dX12_isHeard_52 rfl (fun hc => ?_) (fun hc => ?_)
          · replace hf := p_ng hf hc
            cases hf
            exact s_lo [0, 1, 2, 3, 5, 4] rfl (k31)
          · replace hf := p_ps hf hc
            refine s_lload (pc := 55) dX12_isHeard_55 4 rfl ?_
            refine s_aload_n (pc := 57) dX12_isHeard_57 0 rfl rfl ?_
            refine s_iload (pc := 58) dX12_isHeard_58 5 rfl ?_
            refine s_iload_n (pc := 60) dX12_isHeard_60 2 rfl rfl ?_
            refine s_iload_n (pc := 61) dX12_isHeard_61 3 rfl rfl ?_
            obtain ⟨q38, h39, hf⟩ := p_bd hf
            refine y_callV1 (pc := 62) dX12_isHeard_62 (c_X12_signalOf (p_dd hd (by decide)) hW ha0 h39) mk_X12_signalOf mv_X12_signalOf ml_X12_244 rfl rfl (Nat.le_of_ble_eq_true rfl) ha0 rfl (p_d1 hd (by decide)) (Nat.le_of_ble_eq_true rfl) ?_
            refine s_i2l (pc := 65) dX12_isHeard_65 ?_
            refine s_ladd (pc := 66) dX12_isHeard_66 ?_
            refine s_topl (fun v40 e41 => ?_)
            replace hf := p_lx hf e41
            refine s_lstore (pc := 67) (lo' := [(4, .long v40), (0, .ref a0), (1, .int x1), (2, .int x2), (3, .int x3), (6, .int s0.2.1)]) dX12_isHeard_67 (Nat.le_of_ble_eq_true rfl) rfl ?_
            cases hf
            exact s_lo [1, 2, 3, 4, 5, 0] rfl (k31))
  exact s_lo [2, 3, 4, 5, 1, 0] rfl (k25 n (v5, nI 0, I, L) hf)
def B_X12_heard_15 (n : Nat) (N : pN) (P : pR) (a0 : Nat) (x1 : Int32) (x2 : Int32) (rec0 : (Int32 × Int32 × pI × pL) → Option (Int32 × pI × pL)) (s0 : Int32 × Int32 × pI × pL) : Option (Int32 × pI × pL) :=
  Option.bind (P a0 0) fun q5 =>
  p_ck (p_ib N q5 (nI 1)) <|
  (if (s0.2.2.1 q5 (Int32.toNatClampNeg (nI 1))) ≤ s0.2.1 then
    some (s0.1, s0.2.2.1, s0.2.2.2)
  else
    Option.bind (f_X12_seesSender N s0.2.2.1 P a0 s0.2.1) fun q9 =>
    Option.bind (α := Int32 × pI × pL) ((if q9 = 0 then
      some (nI 0, s0.2.2.1, s0.2.2.2)
    else
      Option.bind (f_X12_isHeard n N s0.2.2.1 s0.2.2.2 P a0 s0.2.1 x1 x2) fun q13 =>
      (if q13.1 = 0 then
        some (nI 0, q13.2.1, q13.2.2)
      else
        some ((nI 1) <<< (s0.2.1 &&& 31), q13.2.1, q13.2.2)))) fun t11 =>
    rec0 (s0.1 ||| t11.1, s0.2.1 + nI 1, t11.2.1, t11.2.2))
def f_X12_heard (n : Nat) (N : pN) (I : pI) (L : pL) (P : pR) (a0 : Nat) (x1 : Int32) (x2 : Int32) : Option (Int32 × pI × pL) :=
  Option.bind (f_X12_isPoint x1 x2) fun q1 =>
  (if q1 = 0 then
    some ((-1), I, L)
  else
    Option.bind (p_it (B_X12_heard_15 n N P a0 x1 x2) n (nI 0, nI 0, I, L)) fun t3 =>
    some (t3.1, t3.2.1, t3.2.2))
theorem c_X12_heard {G : pG} {d : Nat} {n : Nat} {N : pN} {I : pI} {L : pL} {P : pR} {a0 : Nat} {x1 : Int32} {x2 : Int32} {qq : Int32 × pI × pL} (hd : 9 ≤ d) (hW : WT N P) (ha0 : p_tp N a0 15) (hf : f_X12_heard n N I L P a0 x1 x2 = some qq) : MT G mX12_heard d 0 0 [.ref a0, .int x1, .int x2] N I L P (p_R (some (.int qq.1)) N qq.2.1 qq.2.2 P) := by
  refine MT.of rfl (Nat.le_of_ble_eq_true rfl) ?_
  show SW G mX12_heard (p_rm d 0 0) 0 0 0 0 (p_R (some (.int qq.1)) N qq.2.1 qq.2.2 P) 0 [(0, .ref a0), (1, .int x1), (2, .int x2)] [] N I L P
  unfold f_X12_heard at hf
  refine s_iload_n (pc := 0) dX12_heard_0 1 rfl rfl ?_
  refine s_iload_n (pc := 1) dX12_heard_1 2 rfl rfl ?_
  obtain ⟨q1, h2, hf⟩ := p_bd hf
  refine y_callS1 (pc := 2) dX12_heard_2 (c_X12_isPoint (p_dd hd (by decide)) hW  h2) mk_X12_isPoint mz_X12_isPoint ml_X12_218 rfl rfl (Nat.le_of_ble_eq_true rfl) (p_d1 hd (by decide)) (Nat.le_of_ble_eq_true rfl) ?_
  refine s_if_ne (pc := 5) (tgt := 10) dX12_heard_5 rfl (fun hc => ?_) (fun hc => ?_)
  · replace hf := p_ng hf hc
    refine s_iconst (pc := 10) dX12_heard_10 (v := nI 0) rfl ?_
    refine s_istore_n (pc := 11) (lo' := [(3, .int (nI 0)), (0, .ref a0), (1, .int x1), (2, .int x2)]) dX12_heard_11 rfl (Nat.le_of_ble_eq_true rfl) rfl ?_
    refine s_iconst (pc := 12) dX12_heard_12 (v := nI 0) rfl ?_
    refine s_istore (pc := 13) (lo' := [(4, .int (nI 0)), (3, .int (nI 0)), (0, .ref a0), (1, .int x1), (2, .int x2)]) dX12_heard_13 (Nat.le_of_ble_eq_true rfl) rfl ?_
    obtain ⟨t3, hg, hf⟩ := p_bd hf
    have k4 : SW G mX12_heard (p_rm d 0 0) 0 0 0 0 (p_R (some (.int qq.1)) N qq.2.1 qq.2.2 P) 63 [(3, .int t3.1)] [] N t3.2.1 t3.2.2 P := by
      refine s_iload_n (pc := 63) dX12_heard_63 0 rfl rfl ?_
      cases hf
      exact s_ireturn (pc := 64) dX12_heard_64 rfl rfl ⟨rfl, rfl, rfl, rfl, rfl⟩
    replace hf := hg
    have k15 : ∀ (k : Nat) (s0 : Int32 × Int32 × pI × pL), p_it (B_X12_heard_15 n N P a0 x1 x2) k s0 = some t3 → (SW G mX12_heard (p_rm d 0 0) 0 0 0 0 (p_R (some (.int qq.1)) N qq.2.1 qq.2.2 P) 15 [(0, .ref a0), (1, .int x1), (2, .int x2), (3, .int s0.1), (4, .int s0.2.1)] [] N s0.2.2.1 s0.2.2.2 P) := p_it_ind (C := fun (s0 : Int32 × Int32 × pI × pL) => SW G mX12_heard (p_rm d 0 0) 0 0 0 0 (p_R (some (.int qq.1)) N qq.2.1 qq.2.2 P) 15 [(0, .ref a0), (1, .int x1), (2, .int x2), (3, .int s0.1), (4, .int s0.2.1)] [] N s0.2.2.1 s0.2.2.2 P) (by
      intro rec0 hrec0 s0 hf
      unfold B_X12_heard_15 at hf
      refine s_iload (pc := 15) dX12_heard_15 4 rfl ?_
      refine s_aload_n (pc := 17) dX12_heard_17 0 rfl rfl ?_
      obtain ⟨q16, h17, hf⟩ := p_bd hf
      have t18 : p_tp N q16 0 := WT.get hW ha0 h17
      refine x_getR (pc := 18) dX12_heard_18 fl_X12_7 rfl ha0 h17 ?_
      refine s_iconst (pc := 21) dX12_heard_21 (v := nI 1) rfl ?_
      obtain ⟨c19, hf⟩ := p_ckx hf
      refine x_iald (pc := 22) dX12_heard_22 t18 c19 ?_
      refine s_icmp_ge (pc := 23) (tgt := 63) dX12_heard_23 rfl (fun hc => ?_) (fun hc => ?_)
      · replace hf := p_ps hf hc
        cases hf
        exact s_lo [3] rfl (k4)
      · replace hf := p_ng hf hc
        refine s_iload_n (pc := 26) dX12_heard_26 3 rfl rfl ?_
        refine s_aload_n (pc := 27) dX12_heard_27 0 rfl rfl ?_
        refine s_iload (pc := 28) dX12_heard_28 4 rfl ?_
        obtain ⟨q20, h21, hf⟩ := p_bd hf
        refine y_callV1 (pc := 30) dX12_heard_30 (c_X12_seesSender (p_dd hd (by decide)) hW ha0 h21) mk_X12_seesSender mv_X12_seesSender ml_X12_215 rfl rfl (Nat.le_of_ble_eq_true rfl) ha0 rfl (p_d1 hd (by decide)) (Nat.le_of_ble_eq_true rfl) ?_
        obtain ⟨t22, hg, hf⟩ := p_bd hf
        have k23 : SW G mX12_heard (p_rm d 0 0) 0 0 0 0 (p_R (some (.int qq.1)) N qq.2.1 qq.2.2 P) 55 [(0, .ref a0), (1, .int x1), (2, .int x2), (4, .int s0.2.1)] [.int t22.1, .int s0.1] N t22.2.1 t22.2.2 P := by
          refine s_ior (pc := 55) dX12_heard_55 ?_
          refine s_istore_n (pc := 56) (lo' := [(3, .int (s0.1 ||| t22.1)), (0, .ref a0), (1, .int x1), (2, .int x2), (4, .int s0.2.1)]) dX12_heard_56 rfl (Nat.le_of_ble_eq_true rfl) rfl ?_
          refine s_iinc (pc := 57) (lo' := [(4, .int (s0.2.1 + nI 1)), (3, .int (s0.1 ||| t22.1)), (0, .ref a0), (1, .int x1), (2, .int x2)]) dX12_heard_57 4 rfl (v := s0.2.1 + nI 1) rfl (Nat.le_of_ble_eq_true rfl) rfl ?_
          refine s_goto (pc := 60) (tgt := 15) dX12_heard_60 rfl ?_
          exact s_lo [2, 3, 4, 1, 0] rfl (hrec0 (s0.1 ||| t22.1, s0.2.1 + nI 1, t22.2.1, t22.2.2) hf)
        replace hf := hg
        refine s_if_eq (pc := 33) (tgt := 54) dX12_heard_33 rfl (fun hc => ?_) (fun hc => ?_)
        · replace hf := p_ps hf hc
          refine s_iconst (pc := 54) dX12_heard_54 (v := nI 0) rfl ?_
          cases hf
          exact s_lo [0, 1, 2, 4] rfl (k23)
        · replace hf := p_ng hf hc
          refine s_aload_n (pc := 36) dX12_heard_36 0 rfl rfl ?_
          refine s_iload (pc := 37) dX12_heard_37 4 rfl ?_
          refine s_iload_n (pc := 39) dX12_heard_39 1 rfl rfl ?_
          refine s_iload_n (pc := 40) dX12_heard_40 2 rfl rfl ?_
          obtain ⟨q24, h25, hf⟩ := p_bd hf
          refine y_callV1 (pc := 41) dX12_heard_41 (c_X12_isHeard (p_dd hd (by decide)) hW ha0 h25) mk_X12_isHeard mv_X12_isHeard ml_X12_248 rfl rfl (Nat.le_of_ble_eq_true rfl) ha0 rfl (p_d1 hd (by decide)) (Nat.le_of_ble_eq_true rfl) ?_
          refine s_if_eq (pc := 44) (tgt := 54) dX12_heard_44 rfl (fun hc => ?_) (fun hc => ?_)
          · replace hf := p_ps hf hc
            refine s_iconst (pc := 54) dX12_heard_54 (v := nI 0) rfl ?_
            cases hf
            exact s_lo [0, 1, 2, 4] rfl (k23)
          · replace hf := p_ng hf hc
            refine s_iconst (pc := 47) dX12_heard_47 (v := nI 1) rfl ?_
            refine s_iload (pc := 48) dX12_heard_48 4 rfl ?_
            refine s_ishl (pc := 50) dX12_heard_50 ?_
            refine s_goto (pc := 51) (tgt := 55) dX12_heard_51 rfl ?_
            cases hf
            exact s_lo [0, 1, 2, 4] rfl (k23))
    exact s_lo [2, 3, 4, 1, 0] rfl (k15 n (nI 0, nI 0, I, L) hf)
  · replace hf := p_ps hf hc
    refine s_iconst (pc := 8) dX12_heard_8 (v := (-1)) rfl ?_
    cases hf
    exact s_ireturn (pc := 9) dX12_heard_9 rfl rfl ⟨rfl, rfl, rfl, rfl, rfl⟩
def B_X12_bestAt_5 (n : Nat) (N : pN) (P : pR) (a0 : Nat) (x1 : Int32) (x2 : Int32) (rec0 : (Int32 × Int32 × pI × pL) → Option (Int32 × pI × pL)) (s0 : Int32 × Int32 × pI × pL) : Option (Int32 × pI × pL) :=
  Option.bind (P a0 0) fun q3 =>
  p_ck (p_ib N q3 (nI 1)) <|
  (if (s0.2.2.1 q3 (Int32.toNatClampNeg (nI 1))) ≤ s0.2.1 then
    some (s0.1, s0.2.2.1, s0.2.2.2)
  else
    Option.bind (f_X12_seesSender N s0.2.2.1 P a0 s0.2.1) fun q7 =>
    Option.bind (α := Int32 × pI × pL) ((if q7 = 0 then
      some (s0.1, s0.2.2.1, s0.2.2.2)
    else
      Option.bind (f_X12_isHeard n N s0.2.2.1 s0.2.2.2 P a0 s0.2.1 x1 x2) fun q11 =>
      (if q11.1 = 0 then
        some (s0.1, q11.2.1, q11.2.2)
      else
        (if s0.1 < 0 then
          some (s0.2.1, q11.2.1, q11.2.2)
        else
          Option.bind (f_X12_signalOf n N q11.2.1 q11.2.2 P a0 s0.2.1 x1 x2) fun q13 =>
          Option.bind (f_X12_signalOf n N q13.2.1 q13.2.2 P a0 s0.1 x1 x2) fun q15 =>
          (if q13.1 ≤ q15.1 then
            some (s0.1, q15.2.1, q15.2.2)
          else
            some (s0.2.1, q15.2.1, q15.2.2)))))) fun t9 =>
    rec0 (t9.1, s0.2.1 + nI 1, t9.2.1, t9.2.2))
def f_X12_bestAt (n : Nat) (N : pN) (I : pI) (L : pL) (P : pR) (a0 : Nat) (x1 : Int32) (x2 : Int32) : Option (Int32 × pI × pL) :=
  Option.bind (p_it (B_X12_bestAt_5 n N P a0 x1 x2) n ((-1), nI 0, I, L)) fun t1 =>
  some (t1.1, t1.2.1, t1.2.2)
theorem c_X12_bestAt {G : pG} {d : Nat} {n : Nat} {N : pN} {I : pI} {L : pL} {P : pR} {a0 : Nat} {x1 : Int32} {x2 : Int32} {qq : Int32 × pI × pL} (hd : 9 ≤ d) (hW : WT N P) (ha0 : p_tp N a0 15) (hf : f_X12_bestAt n N I L P a0 x1 x2 = some qq) : MT G mX12_bestAt d 0 0 [.ref a0, .int x1, .int x2] N I L P (p_R (some (.int qq.1)) N qq.2.1 qq.2.2 P) := by
  refine MT.of rfl (Nat.le_of_ble_eq_true rfl) ?_
  show SW G mX12_bestAt (p_rm d 0 0) 0 0 0 0 (p_R (some (.int qq.1)) N qq.2.1 qq.2.2 P) 0 [(0, .ref a0), (1, .int x1), (2, .int x2)] [] N I L P
  unfold f_X12_bestAt at hf
  refine s_iconst (pc := 0) dX12_bestAt_0 (v := (-1)) rfl ?_
  refine s_istore_n (pc := 1) (lo' := [(3, .int (-1)), (0, .ref a0), (1, .int x1), (2, .int x2)]) dX12_bestAt_1 rfl (Nat.le_of_ble_eq_true rfl) rfl ?_
  refine s_iconst (pc := 2) dX12_bestAt_2 (v := nI 0) rfl ?_
  refine s_istore (pc := 3) (lo' := [(4, .int (nI 0)), (3, .int (-1)), (0, .ref a0), (1, .int x1), (2, .int x2)]) dX12_bestAt_3 (Nat.le_of_ble_eq_true rfl) rfl ?_
  obtain ⟨t1, hg, hf⟩ := p_bd hf
  have k2 : SW G mX12_bestAt (p_rm d 0 0) 0 0 0 0 (p_R (some (.int qq.1)) N qq.2.1 qq.2.2 P) 67 [(3, .int t1.1)] [] N t1.2.1 t1.2.2 P := by
    refine s_iload_n (pc := 67) dX12_bestAt_67 0 rfl rfl ?_
    cases hf
    exact s_ireturn (pc := 68) dX12_bestAt_68 rfl rfl ⟨rfl, rfl, rfl, rfl, rfl⟩
  replace hf := hg
  have k17 : ∀ (k : Nat) (s0 : Int32 × Int32 × pI × pL), p_it (B_X12_bestAt_5 n N P a0 x1 x2) k s0 = some t1 → (SW G mX12_bestAt (p_rm d 0 0) 0 0 0 0 (p_R (some (.int qq.1)) N qq.2.1 qq.2.2 P) 5 [(0, .ref a0), (1, .int x1), (2, .int x2), (3, .int s0.1), (4, .int s0.2.1)] [] N s0.2.2.1 s0.2.2.2 P) := p_it_ind (C := fun (s0 : Int32 × Int32 × pI × pL) => SW G mX12_bestAt (p_rm d 0 0) 0 0 0 0 (p_R (some (.int qq.1)) N qq.2.1 qq.2.2 P) 5 [(0, .ref a0), (1, .int x1), (2, .int x2), (3, .int s0.1), (4, .int s0.2.1)] [] N s0.2.2.1 s0.2.2.2 P) (by
    intro rec0 hrec0 s0 hf
    unfold B_X12_bestAt_5 at hf
    refine s_iload (pc := 5) dX12_bestAt_5 4 rfl ?_
    refine s_aload_n (pc := 7) dX12_bestAt_7 0 rfl rfl ?_
    obtain ⟨q18, h19, hf⟩ := p_bd hf
    have t20 : p_tp N q18 0 := WT.get hW ha0 h19
    refine x_getR (pc := 8) dX12_bestAt_8 fl_X12_7 rfl ha0 h19 ?_
    refine s_iconst (pc := 11) dX12_bestAt_11 (v := nI 1) rfl ?_
    obtain ⟨c21, hf⟩ := p_ckx hf
    refine x_iald (pc := 12) dX12_bestAt_12 t20 c21 ?_
    refine s_icmp_ge (pc := 13) (tgt := 67) dX12_bestAt_13 rfl (fun hc => ?_) (fun hc => ?_)
    · replace hf := p_ps hf hc
      cases hf
      exact s_lo [3] rfl (k2)
    · replace hf := p_ng hf hc
      refine s_aload_n (pc := 16) dX12_bestAt_16 0 rfl rfl ?_
      refine s_iload (pc := 17) dX12_bestAt_17 4 rfl ?_
      obtain ⟨q22, h23, hf⟩ := p_bd hf
      refine y_callV1 (pc := 19) dX12_bestAt_19 (c_X12_seesSender (p_dd hd (by decide)) hW ha0 h23) mk_X12_seesSender mv_X12_seesSender ml_X12_215 rfl rfl (Nat.le_of_ble_eq_true rfl) ha0 rfl (p_d1 hd (by decide)) (Nat.le_of_ble_eq_true rfl) ?_
      obtain ⟨t24, hg, hf⟩ := p_bd hf
      have k25 : SW G mX12_bestAt (p_rm d 0 0) 0 0 0 0 (p_R (some (.int qq.1)) N qq.2.1 qq.2.2 P) 61 [(0, .ref a0), (1, .int x1), (2, .int x2), (4, .int s0.2.1), (3, .int t24.1)] [] N t24.2.1 t24.2.2 P := by
        refine s_iinc (pc := 61) (lo' := [(4, .int (s0.2.1 + nI 1)), (0, .ref a0), (1, .int x1), (2, .int x2), (3, .int t24.1)]) dX12_bestAt_61 3 rfl (v := s0.2.1 + nI 1) rfl (Nat.le_of_ble_eq_true rfl) rfl ?_
        refine s_goto (pc := 64) (tgt := 5) dX12_bestAt_64 rfl ?_
        exact s_lo [1, 2, 3, 4, 0] rfl (hrec0 (t24.1, s0.2.1 + nI 1, t24.2.1, t24.2.2) hf)
      replace hf := hg
      refine s_if_eq (pc := 22) (tgt := 61) dX12_bestAt_22 rfl (fun hc => ?_) (fun hc => ?_)
      · replace hf := p_ps hf hc
        cases hf
        exact s_lo [0, 1, 2, 4, 3] rfl (k25)
      · replace hf := p_ng hf hc
        refine s_aload_n (pc := 25) dX12_bestAt_25 0 rfl rfl ?_
        refine s_iload (pc := 26) dX12_bestAt_26 4 rfl ?_
        refine s_iload_n (pc := 28) dX12_bestAt_28 1 rfl rfl ?_
        refine s_iload_n (pc := 29) dX12_bestAt_29 2 rfl rfl ?_
        obtain ⟨q26, h27, hf⟩ := p_bd hf
        refine y_callV1 (pc := 30) dX12_bestAt_30 (c_X12_isHeard (p_dd hd (by decide)) hW ha0 h27) mk_X12_isHeard mv_X12_isHeard ml_X12_248 rfl rfl (Nat.le_of_ble_eq_true rfl) ha0 rfl (p_d1 hd (by decide)) (Nat.le_of_ble_eq_true rfl) ?_
        refine s_if_eq (pc := 33) (tgt := 61) dX12_bestAt_33 rfl (fun hc => ?_) (fun hc => ?_)
        · replace hf := p_ps hf hc
          cases hf
          exact s_lo [0, 1, 2, 4, 3] rfl (k25)
        · replace hf := p_ng hf hc
          refine s_iload_n (pc := 36) dX12_bestAt_36 3 rfl rfl ?_
          refine s_if_lt (pc := 37) (tgt := 58) dX12_bestAt_37 rfl (fun hc => ?_) (fun hc => ?_)
          · replace hf := p_ps hf hc
            refine s_iload (pc := 58) dX12_bestAt_58 4 rfl ?_
            refine s_istore_n (pc := 60) (lo' := [(3, .int s0.2.1), (0, .ref a0), (1, .int x1), (2, .int x2), (4, .int s0.2.1)]) dX12_bestAt_60 rfl (Nat.le_of_ble_eq_true rfl) rfl ?_
            cases hf
            exact s_lo [1, 2, 3, 4, 0] rfl (k25)
          · replace hf := p_ng hf hc
            refine s_aload_n (pc := 40) dX12_bestAt_40 0 rfl rfl ?_
            refine s_iload (pc := 41) dX12_bestAt_41 4 rfl ?_
            refine s_iload_n (pc := 43) dX12_bestAt_43 1 rfl rfl ?_
            refine s_iload_n (pc := 44) dX12_bestAt_44 2 rfl rfl ?_
            obtain ⟨q28, h29, hf⟩ := p_bd hf
            refine y_callV1 (pc := 45) dX12_bestAt_45 (c_X12_signalOf (p_dd hd (by decide)) hW ha0 h29) mk_X12_signalOf mv_X12_signalOf ml_X12_244 rfl rfl (Nat.le_of_ble_eq_true rfl) ha0 rfl (p_d1 hd (by decide)) (Nat.le_of_ble_eq_true rfl) ?_
            refine s_aload_n (pc := 48) dX12_bestAt_48 0 rfl rfl ?_
            refine s_iload_n (pc := 49) dX12_bestAt_49 3 rfl rfl ?_
            refine s_iload_n (pc := 50) dX12_bestAt_50 1 rfl rfl ?_
            refine s_iload_n (pc := 51) dX12_bestAt_51 2 rfl rfl ?_
            obtain ⟨q30, h31, hf⟩ := p_bd hf
            refine y_callV1 (pc := 52) dX12_bestAt_52 (c_X12_signalOf (p_dd hd (by decide)) hW ha0 h31) mk_X12_signalOf mv_X12_signalOf ml_X12_244 rfl rfl (Nat.le_of_ble_eq_true rfl) ha0 rfl (p_d1 hd (by decide)) (Nat.le_of_ble_eq_true rfl) ?_
            refine s_icmp_le (pc := 55) (tgt := 61) dX12_bestAt_55 rfl (fun hc => ?_) (fun hc => ?_)
            · replace hf := p_ps hf hc
              cases hf
              exact s_lo [0, 1, 2, 4, 3] rfl (k25)
            · replace hf := p_ng hf hc
              refine s_iload (pc := 58) dX12_bestAt_58 4 rfl ?_
              refine s_istore_n (pc := 60) (lo' := [(3, .int s0.2.1), (0, .ref a0), (1, .int x1), (2, .int x2), (4, .int s0.2.1)]) dX12_bestAt_60 rfl (Nat.le_of_ble_eq_true rfl) rfl ?_
              cases hf
              exact s_lo [1, 2, 3, 4, 0] rfl (k25))
  exact s_lo [2, 3, 4, 1, 0] rfl (k17 n ((-1), nI 0, I, L) hf)
def f_X12_best (n : Nat) (N : pN) (I : pI) (L : pL) (P : pR) (a0 : Nat) (x1 : Int32) (x2 : Int32) : Option (Int32 × pI × pL) :=
  Option.bind (f_X12_isPoint x1 x2) fun q1 =>
  (if q1 = 0 then
    some ((-1), I, L)
  else
    Option.bind (f_X12_bestAt n N I L P a0 x1 x2) fun q3 =>
    some (q3.1, q3.2.1, q3.2.2))
theorem c_X12_best {G : pG} {d : Nat} {n : Nat} {N : pN} {I : pI} {L : pL} {P : pR} {a0 : Nat} {x1 : Int32} {x2 : Int32} {qq : Int32 × pI × pL} (hd : 10 ≤ d) (hW : WT N P) (ha0 : p_tp N a0 15) (hf : f_X12_best n N I L P a0 x1 x2 = some qq) : MT G mX12_best d 0 0 [.ref a0, .int x1, .int x2] N I L P (p_R (some (.int qq.1)) N qq.2.1 qq.2.2 P) := by
  refine MT.of rfl (Nat.le_of_ble_eq_true rfl) ?_
  show SW G mX12_best (p_rm d 0 0) 0 0 0 0 (p_R (some (.int qq.1)) N qq.2.1 qq.2.2 P) 0 [(0, .ref a0), (1, .int x1), (2, .int x2)] [] N I L P
  unfold f_X12_best at hf
  refine s_iload_n (pc := 0) dX12_best_0 1 rfl rfl ?_
  refine s_iload_n (pc := 1) dX12_best_1 2 rfl rfl ?_
  obtain ⟨q1, h2, hf⟩ := p_bd hf
  refine y_callS1 (pc := 2) dX12_best_2 (c_X12_isPoint (p_dd hd (by decide)) hW  h2) mk_X12_isPoint mz_X12_isPoint ml_X12_218 rfl rfl (Nat.le_of_ble_eq_true rfl) (p_d1 hd (by decide)) (Nat.le_of_ble_eq_true rfl) ?_
  refine s_if_eq (pc := 5) (tgt := 17) dX12_best_5 rfl (fun hc => ?_) (fun hc => ?_)
  · replace hf := p_ps hf hc
    refine s_iconst (pc := 17) dX12_best_17 (v := (-1)) rfl ?_
    cases hf
    exact s_ireturn (pc := 18) dX12_best_18 rfl rfl ⟨rfl, rfl, rfl, rfl, rfl⟩
  · replace hf := p_ng hf hc
    refine s_aload_n (pc := 8) dX12_best_8 0 rfl rfl ?_
    refine s_iload_n (pc := 9) dX12_best_9 1 rfl rfl ?_
    refine s_iload_n (pc := 10) dX12_best_10 2 rfl rfl ?_
    obtain ⟨q3, h4, hf⟩ := p_bd hf
    refine y_callV1 (pc := 11) dX12_best_11 (c_X12_bestAt (p_dd hd (by decide)) hW ha0 h4) mk_X12_bestAt mv_X12_bestAt ml_X12_251 rfl rfl (Nat.le_of_ble_eq_true rfl) ha0 rfl (p_d1 hd (by decide)) (Nat.le_of_ble_eq_true rfl) ?_
    refine s_goto (pc := 14) (tgt := 18) dX12_best_14 rfl ?_
    cases hf
    exact s_ireturn (pc := 18) dX12_best_18 rfl rfl ⟨rfl, rfl, rfl, rfl, rfl⟩
def f_X12_step (N : pN) (I : pI) (P : pR) (a0 : Nat) (x1 : Int32) (x2 : Int32) : Option (Int32 × pI) :=
  Option.bind (P a0 0) fun q1 =>
  p_ck (p_ib N q1 (nI 7)) <|
  (if (I q1 (Int32.toNatClampNeg (nI 7))) = (nI 60) then
    some ((-1), I)
  else
    Option.bind (f_X12_isPoint x1 x2) fun q5 =>
    (if q5 = 0 then
      some ((-1), I)
    else
      Option.bind (P a0 0) fun q7 =>
      Option.bind (P a0 0) fun q10 =>
      p_ck (p_ib N q10 (nI 7)) <|
      p_ck (p_ib N q7 ((nI 220) + ((nI 2) * (I q10 (Int32.toNatClampNeg (nI 7)))))) <|
      p_let (p_u I q7 (Int32.toNatClampNeg ((nI 220) + ((nI 2) * (I q10 (Int32.toNatClampNeg (nI 7)))))) x1) fun I15 =>
      Option.bind (P a0 0) fun q17 =>
      Option.bind (P a0 0) fun q20 =>
      p_ck (p_ib N q20 (nI 7)) <|
      p_ck (p_ib N q17 (((nI 220) + ((nI 2) * (I15 q20 (Int32.toNatClampNeg (nI 7))))) + (nI 1))) <|
      p_let (p_u I15 q17 (Int32.toNatClampNeg (((nI 220) + ((nI 2) * (I15 q20 (Int32.toNatClampNeg (nI 7))))) + (nI 1))) x2) fun I25 =>
      Option.bind (P a0 0) fun q27 =>
      p_ck (p_ib N q27 (nI 7)) <|
      p_ck (p_ib N q27 (nI 7)) <|
      p_let (p_u I25 q27 (Int32.toNatClampNeg (nI 7)) ((I25 q27 (Int32.toNatClampNeg (nI 7))) + (nI 1))) fun I32 =>
      Option.bind (P a0 0) fun q34 =>
      p_ck (p_ib N q34 (nI 7)) <|
      some (I32 q34 (Int32.toNatClampNeg (nI 7)), I32)))
theorem c_X12_step {G : pG} {d : Nat} {N : pN} {I : pI} {L : pL} {P : pR} {a0 : Nat} {x1 : Int32} {x2 : Int32} {qq : Int32 × pI} (hd : 2 ≤ d) (hW : WT N P) (ha0 : p_tp N a0 15) (hf : f_X12_step N I P a0 x1 x2 = some qq) : MT G mX12_step d 0 0 [.ref a0, .int x1, .int x2] N I L P (p_R (some (.int qq.1)) N qq.2 L P) := by
  refine MT.of rfl (Nat.le_of_ble_eq_true rfl) ?_
  show SW G mX12_step (p_rm d 0 0) 0 0 0 0 (p_R (some (.int qq.1)) N qq.2 L P) 0 [(0, .ref a0), (1, .int x1), (2, .int x2)] [] N I L P
  unfold f_X12_step at hf
  refine s_aload_n (pc := 0) dX12_step_0 0 rfl rfl ?_
  obtain ⟨q1, h2, hf⟩ := p_bd hf
  have t3 : p_tp N q1 0 := WT.get hW ha0 h2
  refine x_getR (pc := 1) dX12_step_1 fl_X12_7 rfl ha0 h2 ?_
  refine s_bipush (pc := 4) dX12_step_4 (v := nI 7) rfl ?_
  obtain ⟨c4, hf⟩ := p_ckx hf
  refine x_iald (pc := 6) dX12_step_6 t3 c4 ?_
  refine s_bipush (pc := 7) dX12_step_7 (v := nI 60) rfl ?_
  refine s_icmp_eq (pc := 9) (tgt := 20) dX12_step_9 rfl (fun hc => ?_) (fun hc => ?_)
  · replace hf := p_ps hf hc
    refine s_iconst (pc := 20) dX12_step_20 (v := (-1)) rfl ?_
    cases hf
    exact s_ireturn (pc := 21) dX12_step_21 rfl rfl ⟨rfl, rfl, rfl, rfl, rfl⟩
  · replace hf := p_ng hf hc
    refine s_iload_n (pc := 12) dX12_step_12 1 rfl rfl ?_
    refine s_iload_n (pc := 13) dX12_step_13 2 rfl rfl ?_
    obtain ⟨q5, h6, hf⟩ := p_bd hf
    refine y_callS1 (pc := 14) dX12_step_14 (c_X12_isPoint (p_dd hd (by decide)) hW  h6) mk_X12_isPoint mz_X12_isPoint ml_X12_218 rfl rfl (Nat.le_of_ble_eq_true rfl) (p_d1 hd (by decide)) (Nat.le_of_ble_eq_true rfl) ?_
    refine s_if_ne (pc := 17) (tgt := 22) dX12_step_17 rfl (fun hc => ?_) (fun hc => ?_)
    · replace hf := p_ng hf hc
      refine s_aload_n (pc := 22) dX12_step_22 0 rfl rfl ?_
      obtain ⟨q7, h8, hf⟩ := p_bd hf
      have t9 : p_tp N q7 0 := WT.get hW ha0 h8
      refine x_getR (pc := 23) dX12_step_23 fl_X12_7 rfl ha0 h8 ?_
      refine s_sipush (pc := 26) dX12_step_26 (v := nI 220) rfl ?_
      refine s_iconst (pc := 29) dX12_step_29 (v := nI 2) rfl ?_
      refine s_aload_n (pc := 30) dX12_step_30 0 rfl rfl ?_
      obtain ⟨q10, h11, hf⟩ := p_bd hf
      have t12 : p_tp N q10 0 := WT.get hW ha0 h11
      refine x_getR (pc := 31) dX12_step_31 fl_X12_7 rfl ha0 h11 ?_
      refine s_bipush (pc := 34) dX12_step_34 (v := nI 7) rfl ?_
      obtain ⟨c13, hf⟩ := p_ckx hf
      refine x_iald (pc := 36) dX12_step_36 t12 c13 ?_
      refine s_imul (pc := 37) dX12_step_37 ?_
      refine s_iadd (pc := 38) dX12_step_38 ?_
      refine s_iload_n (pc := 39) dX12_step_39 1 rfl rfl ?_
      obtain ⟨c14, hf⟩ := p_ckx hf
      refine x_iast (pc := 40) dX12_step_40 t9 c14 ?_
      refine s_nmI (fun I15 e16 => ?_)
      replace hf := p_lx hf e16
      refine s_aload_n (pc := 41) dX12_step_41 0 rfl rfl ?_
      obtain ⟨q17, h18, hf⟩ := p_bd hf
      have t19 : p_tp N q17 0 := WT.get hW ha0 h18
      refine x_getR (pc := 42) dX12_step_42 fl_X12_7 rfl ha0 h18 ?_
      refine s_sipush (pc := 45) dX12_step_45 (v := nI 220) rfl ?_
      refine s_iconst (pc := 48) dX12_step_48 (v := nI 2) rfl ?_
      refine s_aload_n (pc := 49) dX12_step_49 0 rfl rfl ?_
      obtain ⟨q20, h21, hf⟩ := p_bd hf
      have t22 : p_tp N q20 0 := WT.get hW ha0 h21
      refine x_getR (pc := 50) dX12_step_50 fl_X12_7 rfl ha0 h21 ?_
      refine s_bipush (pc := 53) dX12_step_53 (v := nI 7) rfl ?_
      obtain ⟨c23, hf⟩ := p_ckx hf
      refine x_iald (pc := 55) dX12_step_55 t22 c23 ?_
      refine s_imul (pc := 56) dX12_step_56 ?_
      refine s_iadd (pc := 57) dX12_step_57 ?_
      refine s_iconst (pc := 58) dX12_step_58 (v := nI 1) rfl ?_
      refine s_iadd (pc := 59) dX12_step_59 ?_
      refine s_iload_n (pc := 60) dX12_step_60 2 rfl rfl ?_
      obtain ⟨c24, hf⟩ := p_ckx hf
      refine x_iast (pc := 61) dX12_step_61 t19 c24 ?_
      refine s_nmI (fun I25 e26 => ?_)
      replace hf := p_lx hf e26
      refine s_aload_n (pc := 62) dX12_step_62 0 rfl rfl ?_
      obtain ⟨q27, h28, hf⟩ := p_bd hf
      have t29 : p_tp N q27 0 := WT.get hW ha0 h28
      refine x_getR (pc := 63) dX12_step_63 fl_X12_7 rfl ha0 h28 ?_
      refine s_bipush (pc := 66) dX12_step_66 (v := nI 7) rfl ?_
      refine s_dup2_11 (pc := 68) dX12_step_68 rfl rfl ?_
      obtain ⟨c30, hf⟩ := p_ckx hf
      refine x_iald (pc := 69) dX12_step_69 t29 c30 ?_
      refine s_iconst (pc := 70) dX12_step_70 (v := nI 1) rfl ?_
      refine s_iadd (pc := 71) dX12_step_71 ?_
      obtain ⟨c31, hf⟩ := p_ckx hf
      refine x_iast (pc := 72) dX12_step_72 t29 c31 ?_
      refine s_nmI (fun I32 e33 => ?_)
      replace hf := p_lx hf e33
      refine s_aload_n (pc := 73) dX12_step_73 0 rfl rfl ?_
      obtain ⟨q34, h35, hf⟩ := p_bd hf
      have t36 : p_tp N q34 0 := WT.get hW ha0 h35
      refine x_getR (pc := 74) dX12_step_74 fl_X12_7 rfl ha0 h35 ?_
      refine s_bipush (pc := 77) dX12_step_77 (v := nI 7) rfl ?_
      obtain ⟨c37, hf⟩ := p_ckx hf
      refine x_iald (pc := 79) dX12_step_79 t36 c37 ?_
      cases hf
      exact s_ireturn (pc := 80) dX12_step_80 rfl rfl ⟨rfl, rfl, rfl, rfl, rfl⟩
    · replace hf := p_ps hf hc
      refine s_iconst (pc := 20) dX12_step_20 (v := (-1)) rfl ?_
      cases hf
      exact s_ireturn (pc := 21) dX12_step_21 rfl rfl ⟨rfl, rfl, rfl, rfl, rfl⟩
def f_X12_unwalk (N : pN) (I : pI) (P : pR) (a0 : Nat) : Option pI :=
  Option.bind (P a0 0) fun q1 =>
  p_ck (p_ib N q1 (nI 7)) <|
  p_let (p_u I q1 (Int32.toNatClampNeg (nI 7)) (nI 0)) fun I5 =>
  some I5
theorem c_X12_unwalk {G : pG} {d : Nat} {N : pN} {I : pI} {L : pL} {P : pR} {a0 : Nat} {qq : pI} (hd : 0 ≤ d) (hW : WT N P) (ha0 : p_tp N a0 15) (hf : f_X12_unwalk N I P a0 = some qq) : MT G mX12_unwalk d 0 0 [.ref a0] N I L P (p_R none N qq L P) := by
  refine MT.of rfl (Nat.le_of_ble_eq_true rfl) ?_
  show SW G mX12_unwalk (p_rm d 0 0) 0 0 0 0 (p_R none N qq L P) 0 [(0, .ref a0)] [] N I L P
  unfold f_X12_unwalk at hf
  refine s_aload_n (pc := 0) dX12_unwalk_0 0 rfl rfl ?_
  obtain ⟨q1, h2, hf⟩ := p_bd hf
  have t3 : p_tp N q1 0 := WT.get hW ha0 h2
  refine x_getR (pc := 1) dX12_unwalk_1 fl_X12_7 rfl ha0 h2 ?_
  refine s_bipush (pc := 4) dX12_unwalk_4 (v := nI 7) rfl ?_
  refine s_iconst (pc := 6) dX12_unwalk_6 (v := nI 0) rfl ?_
  obtain ⟨c4, hf⟩ := p_ckx hf
  refine x_iast (pc := 7) dX12_unwalk_7 t3 c4 ?_
  refine s_nmI (fun I5 e6 => ?_)
  replace hf := p_lx hf e6
  cases hf
  exact s_return (pc := 8) dX12_unwalk_8 rfl ⟨rfl, rfl, rfl, rfl, rfl⟩
def B_X12_walks_6 (n : Nat) (N : pN) (P : pR) (a0 : Nat) (rec0 : (Int32 × Int32 × Int32 × pI × pL) → Option (pI × pL)) (s0 : Int32 × Int32 × Int32 × pI × pL) : Option (pI × pL) :=
  Option.bind (P a0 0) fun q3 =>
  p_ck (p_ib N q3 (nI 7)) <|
  (if (s0.2.2.2.1 q3 (Int32.toNatClampNeg (nI 7))) ≤ s0.2.2.1 then
    some (s0.2.2.2.1, s0.2.2.2.2)
  else
    Option.bind (P a0 0) fun q7 =>
    p_ck (p_ib N q7 ((nI 220) + ((nI 2) * s0.2.2.1))) <|
    p_let (s0.2.2.2.1 q7 (Int32.toNatClampNeg ((nI 220) + ((nI 2) * s0.2.2.1)))) fun v11 =>
    Option.bind (P a0 0) fun q13 =>
    p_ck (p_ib N q13 (((nI 220) + ((nI 2) * s0.2.2.1)) + (nI 1))) <|
    p_let (s0.2.2.2.1 q13 (Int32.toNatClampNeg (((nI 220) + ((nI 2) * s0.2.2.1)) + (nI 1)))) fun v17 =>
    Option.bind (f_X12_bestAt n N s0.2.2.2.1 s0.2.2.2.2 P a0 v11 v17) fun q19 =>
    Option.bind (α := Int32 × Int32 × pI × pL) ((if s0.1 < 0 then
      some (q19.1, nI 0, q19.2.1, q19.2.2)
    else
      Option.bind (f_X12_seesSender N q19.2.1 P a0 s0.1) fun q23 =>
      (if q23 = 0 then
        some (q19.1, nI 0, q19.2.1, q19.2.2)
      else
        Option.bind (f_X12_isHeard n N q19.2.1 q19.2.2 P a0 s0.1 v11 v17) fun q25 =>
        (if q25.1 = 0 then
          some (q19.1, nI 0, q25.2.1, q25.2.2)
        else
          (if q19.1 = s0.1 then
            some (s0.1, nI 0, q25.2.1, q25.2.2)
          else
            Option.bind (f_X12_signalOf n N q25.2.1 q25.2.2 P a0 q19.1 v11 v17) fun q27 =>
            Option.bind (P a0 0) fun q29 =>
            p_ck (p_ib N q29 (nI 16)) <|
            Option.bind (f_X12_signalOf n N q27.2.1 q27.2.2 P a0 s0.1 v11 v17) fun q33 =>
            (if ((Int32.toInt64 q27.1) * 100) ≤ ((100 + (Int32.toInt64 (q27.2.1 q29 (Int32.toNatClampNeg (nI 16))))) * (Int32.toInt64 q33.1)) then
              some (s0.1, nI 0, q33.2.1, q33.2.2)
            else
              Option.bind (P a0 0) fun q35 =>
              p_ck (p_ib N q35 (nI 17)) <|
              (if (s0.2.1 + nI 1) = (q33.2.1 q35 (Int32.toNatClampNeg (nI 17))) then
                some (q19.1, nI 0, q33.2.1, q33.2.2)
              else
                some (s0.1, s0.2.1 + nI 1, q33.2.1, q33.2.2)))))))) fun t21 =>
    Option.bind (P a0 21) fun q39 =>
    p_ck (p_ib N q39 s0.2.2.1) <|
    p_let (p_u t21.2.2.1 q39 (Int32.toNatClampNeg s0.2.2.1) t21.1) fun I43 =>
    rec0 (t21.1, t21.2.1, s0.2.2.1 + nI 1, I43, t21.2.2.2))
def f_X12_walks (n : Nat) (N : pN) (I : pI) (L : pL) (P : pR) (a0 : Nat) : Option (pI × pL) :=
  Option.bind (p_it (B_X12_walks_6 n N P a0) n ((-1), nI 0, nI 0, I, L)) fun t1 =>
  some (t1.1, t1.2)
theorem c_X12_walks {G : pG} {d : Nat} {n : Nat} {N : pN} {I : pI} {L : pL} {P : pR} {a0 : Nat} {qq : pI × pL} (hd : 10 ≤ d) (hW : WT N P) (ha0 : p_tp N a0 15) (hf : f_X12_walks n N I L P a0 = some qq) : MT G mX12_walks d 0 0 [.ref a0] N I L P (p_R none N qq.1 qq.2 P) := by
  refine MT.of rfl (Nat.le_of_ble_eq_true rfl) ?_
  show SW G mX12_walks (p_rm d 0 0) 0 0 0 0 (p_R none N qq.1 qq.2 P) 0 [(0, .ref a0)] [] N I L P
  unfold f_X12_walks at hf
  refine s_iconst (pc := 0) dX12_walks_0 (v := (-1)) rfl ?_
  refine s_istore_n (pc := 1) (lo' := [(1, .int (-1)), (0, .ref a0)]) dX12_walks_1 rfl (Nat.le_of_ble_eq_true rfl) rfl ?_
  refine s_iconst (pc := 2) dX12_walks_2 (v := nI 0) rfl ?_
  refine s_istore_n (pc := 3) (lo' := [(2, .int (nI 0)), (1, .int (-1)), (0, .ref a0)]) dX12_walks_3 rfl (Nat.le_of_ble_eq_true rfl) rfl ?_
  refine s_iconst (pc := 4) dX12_walks_4 (v := nI 0) rfl ?_
  refine s_istore_n (pc := 5) (lo' := [(3, .int (nI 0)), (2, .int (nI 0)), (1, .int (-1)), (0, .ref a0)]) dX12_walks_5 rfl (Nat.le_of_ble_eq_true rfl) rfl ?_
  obtain ⟨t1, hg, hf⟩ := p_bd hf
  have k2 : SW G mX12_walks (p_rm d 0 0) 0 0 0 0 (p_R none N qq.1 qq.2 P) 174 [] [] N t1.1 t1.2 P := by
    cases hf
    exact s_return (pc := 174) dX12_walks_174 rfl ⟨rfl, rfl, rfl, rfl, rfl⟩
  replace hf := hg
  have k45 : ∀ (k : Nat) (s0 : Int32 × Int32 × Int32 × pI × pL), p_it (B_X12_walks_6 n N P a0) k s0 = some t1 → (SW G mX12_walks (p_rm d 0 0) 0 0 0 0 (p_R none N qq.1 qq.2 P) 6 [(0, .ref a0), (1, .int s0.1), (2, .int s0.2.1), (3, .int s0.2.2.1)] [] N s0.2.2.2.1 s0.2.2.2.2 P) := p_it_ind (C := fun (s0 : Int32 × Int32 × Int32 × pI × pL) => SW G mX12_walks (p_rm d 0 0) 0 0 0 0 (p_R none N qq.1 qq.2 P) 6 [(0, .ref a0), (1, .int s0.1), (2, .int s0.2.1), (3, .int s0.2.2.1)] [] N s0.2.2.2.1 s0.2.2.2.2 P) (by
    intro rec0 hrec0 s0 hf
    unfold B_X12_walks_6 at hf
    refine s_iload_n (pc := 6) dX12_walks_6 3 rfl rfl ?_
    refine s_aload_n (pc := 7) dX12_walks_7 0 rfl rfl ?_
    obtain ⟨q46, h47, hf⟩ := p_bd hf
    have t48 : p_tp N q46 0 := WT.get hW ha0 h47
    refine x_getR (pc := 8) dX12_walks_8 fl_X12_7 rfl ha0 h47 ?_
    refine s_bipush (pc := 11) dX12_walks_11 (v := nI 7) rfl ?_
    obtain ⟨c49, hf⟩ := p_ckx hf
    refine x_iald (pc := 13) dX12_walks_13 t48 c49 ?_
    refine s_icmp_ge (pc := 14) (tgt := 174) dX12_walks_14 rfl (fun hc => ?_) (fun hc => ?_)
    · replace hf := p_ps hf hc
      cases hf
      exact s_lo [] rfl (k2)
    · replace hf := p_ng hf hc
      refine s_aload_n (pc := 17) dX12_walks_17 0 rfl rfl ?_
      obtain ⟨q50, h51, hf⟩ := p_bd hf
      have t52 : p_tp N q50 0 := WT.get hW ha0 h51
      refine x_getR (pc := 18) dX12_walks_18 fl_X12_7 rfl ha0 h51 ?_
      refine s_sipush (pc := 21) dX12_walks_21 (v := nI 220) rfl ?_
      refine s_iconst (pc := 24) dX12_walks_24 (v := nI 2) rfl ?_
      refine s_iload_n (pc := 25) dX12_walks_25 3 rfl rfl ?_
      refine s_imul (pc := 26) dX12_walks_26 ?_
      refine s_iadd (pc := 27) dX12_walks_27 ?_
      obtain ⟨c53, hf⟩ := p_ckx hf
      refine x_iald (pc := 28) dX12_walks_28 t52 c53 ?_
      refine s_topi (fun v54 e55 => ?_)
      replace hf := p_lx hf e55
      refine s_istore (pc := 29) (lo' := [(4, .int v54), (0, .ref a0), (1, .int s0.1), (2, .int s0.2.1), (3, .int s0.2.2.1)]) dX12_walks_29 (Nat.le_of_ble_eq_true rfl) rfl ?_
      refine s_aload_n (pc := 31) dX12_walks_31 1 rfl rfl ?_
      obtain ⟨q56, h57, hf⟩ := p_bd hf
      have t58 : p_tp N q56 0 := WT.get hW ha0 h57
      refine x_getR (pc := 32) dX12_walks_32 fl_X12_7 rfl ha0 h57 ?_
      refine s_sipush (pc := 35) dX12_walks_35 (v := nI 220) rfl ?_
      refine s_iconst (pc := 38) dX12_walks_38 (v := nI 2) rfl ?_
      refine s_iload_n (pc := 39) dX12_walks_39 4 rfl rfl ?_
      refine s_imul (pc := 40) dX12_walks_40 ?_
      refine s_iadd (pc := 41) dX12_walks_41 ?_
      refine s_iconst (pc := 42) dX12_walks_42 (v := nI 1) rfl ?_
      refine s_iadd (pc := 43) dX12_walks_43 ?_
      obtain ⟨c59, hf⟩ := p_ckx hf
      refine x_iald (pc := 44) dX12_walks_44 t58 c59 ?_
      refine s_topi (fun v60 e61 => ?_)
      replace hf := p_lx hf e61
      refine s_istore (pc := 45) (lo' := [(5, .int v60), (4, .int v54), (0, .ref a0), (1, .int s0.1), (2, .int s0.2.1), (3, .int s0.2.2.1)]) dX12_walks_45 (Nat.le_of_ble_eq_true rfl) rfl ?_
      refine s_aload_n (pc := 47) dX12_walks_47 2 rfl rfl ?_
      refine s_iload (pc := 48) dX12_walks_48 1 rfl ?_
      refine s_iload (pc := 50) dX12_walks_50 0 rfl ?_
      obtain ⟨q62, h63, hf⟩ := p_bd hf
      refine y_callV1 (pc := 52) dX12_walks_52 (c_X12_bestAt (p_dd hd (by decide)) hW ha0 h63) mk_X12_bestAt mv_X12_bestAt ml_X12_251 rfl rfl (Nat.le_of_ble_eq_true rfl) ha0 rfl (p_d1 hd (by decide)) (Nat.le_of_ble_eq_true rfl) ?_
      refine s_istore (pc := 55) (lo' := [(6, .int q62.1), (5, .int v60), (4, .int v54), (0, .ref a0), (1, .int s0.1), (2, .int s0.2.1), (3, .int s0.2.2.1)]) dX12_walks_55 (Nat.le_of_ble_eq_true rfl) rfl ?_
      refine s_iload_n (pc := 57) dX12_walks_57 4 rfl rfl ?_
      obtain ⟨t64, hg, hf⟩ := p_bd hf
      have k65 : SW G mX12_walks (p_rm d 0 0) 0 0 0 0 (p_R none N qq.1 qq.2 P) 161 [(0, .ref a0), (3, .int s0.2.2.1), (1, .int t64.1), (2, .int t64.2.1)] [] N t64.2.2.1 t64.2.2.2 P := by
        refine s_aload_n (pc := 161) dX12_walks_161 0 rfl rfl ?_
        obtain ⟨q82, h83, hf⟩ := p_bd hf
        have t84 : p_tp N q82 0 := WT.get hW ha0 h83
        refine x_getR (pc := 162) dX12_walks_162 fl_X12_41 rfl ha0 h83 ?_
        refine s_iload_n (pc := 165) dX12_walks_165 1 rfl rfl ?_
        refine s_iload_n (pc := 166) dX12_walks_166 2 rfl rfl ?_
        obtain ⟨c85, hf⟩ := p_ckx hf
        refine x_iast (pc := 167) dX12_walks_167 t84 c85 ?_
        refine s_nmI (fun I86 e87 => ?_)
        replace hf := p_lx hf e87
        refine s_iinc (pc := 168) (lo' := [(3, .int (s0.2.2.1 + nI 1)), (0, .ref a0), (1, .int t64.1), (2, .int t64.2.1)]) dX12_walks_168 1 rfl (v := s0.2.2.1 + nI 1) rfl (Nat.le_of_ble_eq_true rfl) rfl ?_
        refine s_goto (pc := 171) (tgt := 6) dX12_walks_171 rfl ?_
        exact s_lo [1, 2, 3, 0] rfl (hrec0 (t64.1, t64.2.1, s0.2.2.1 + nI 1, I86, t64.2.2.2) hf)
      replace hf := hg
      refine s_if_lt (pc := 58) (tgt := 81) dX12_walks_58 rfl (fun hc => ?_) (fun hc => ?_)
      · replace hf := p_ps hf hc
        refine s_iload (pc := 81) dX12_walks_81 0 rfl ?_
        refine s_istore_n (pc := 83) (lo' := [(1, .int q62.1), (6, .int q62.1), (5, .int v60), (4, .int v54), (0, .ref a0), (2, .int s0.2.1), (3, .int s0.2.2.1)]) dX12_walks_83 rfl (Nat.le_of_ble_eq_true rfl) rfl ?_
        refine s_iconst (pc := 84) dX12_walks_84 (v := nI 0) rfl ?_
        refine s_istore_n (pc := 85) (lo' := [(2, .int (nI 0)), (1, .int q62.1), (6, .int q62.1), (5, .int v60), (4, .int v54), (0, .ref a0), (3, .int s0.2.2.1)]) dX12_walks_85 rfl (Nat.le_of_ble_eq_true rfl) rfl ?_
        refine s_goto (pc := 86) (tgt := 161) dX12_walks_86 rfl ?_
        cases hf
        exact s_lo [5, 6, 1, 0] rfl (k65)
      · replace hf := p_ng hf hc
        refine s_aload_n (pc := 61) dX12_walks_61 3 rfl rfl ?_
        refine s_iload_n (pc := 62) dX12_walks_62 4 rfl rfl ?_
        obtain ⟨q66, h67, hf⟩ := p_bd hf
        refine y_callV1 (pc := 63) dX12_walks_63 (c_X12_seesSender (p_dd hd (by decide)) hW ha0 h67) mk_X12_seesSender mv_X12_seesSender ml_X12_215 rfl rfl (Nat.le_of_ble_eq_true rfl) ha0 rfl (p_d1 hd (by decide)) (Nat.le_of_ble_eq_true rfl) ?_
        refine s_if_eq (pc := 66) (tgt := 81) dX12_walks_66 rfl (fun hc => ?_) (fun hc => ?_)
        · replace hf := p_ps hf hc
          refine s_iload (pc := 81) dX12_walks_81 0 rfl ?_
          refine s_istore_n (pc := 83) (lo' := [(1, .int q62.1), (6, .int q62.1), (5, .int v60), (4, .int v54), (0, .ref a0), (2, .int s0.2.1), (3, .int s0.2.2.1)]) dX12_walks_83 rfl (Nat.le_of_ble_eq_true rfl) rfl ?_
          refine s_iconst (pc := 84) dX12_walks_84 (v := nI 0) rfl ?_
          refine s_istore_n (pc := 85) (lo' := [(2, .int (nI 0)), (1, .int q62.1), (6, .int q62.1), (5, .int v60), (4, .int v54), (0, .ref a0), (3, .int s0.2.2.1)]) dX12_walks_85 rfl (Nat.le_of_ble_eq_true rfl) rfl ?_
          refine s_goto (pc := 86) (tgt := 161) dX12_walks_86 rfl ?_
          cases hf
          exact s_lo [5, 6, 1, 0] rfl (k65)
        · replace hf := p_ng hf hc
          refine s_aload_n (pc := 69) dX12_walks_69 3 rfl rfl ?_
          refine s_iload_n (pc := 70) dX12_walks_70 4 rfl rfl ?_
          refine s_iload (pc := 71) dX12_walks_71 2 rfl ?_
          refine s_iload (pc := 73) dX12_walks_73 1 rfl ?_
          obtain ⟨q68, h69, hf⟩ := p_bd hf
          refine y_callV1 (pc := 75) dX12_walks_75 (c_X12_isHeard (p_dd hd (by decide)) hW ha0 h69) mk_X12_isHeard mv_X12_isHeard ml_X12_248 rfl rfl (Nat.le_of_ble_eq_true rfl) ha0 rfl (p_d1 hd (by decide)) (Nat.le_of_ble_eq_true rfl) ?_
          refine s_if_ne (pc := 78) (tgt := 89) dX12_walks_78 rfl (fun hc => ?_) (fun hc => ?_)
          · replace hf := p_ng hf hc
            refine s_iload (pc := 89) dX12_walks_89 0 rfl ?_
            refine s_iload_n (pc := 91) dX12_walks_91 4 rfl rfl ?_
            refine s_icmp_eq (pc := 92) (tgt := 159) dX12_walks_92 rfl (fun hc => ?_) (fun hc => ?_)
            · replace hf := p_ps hf hc
              refine s_iconst (pc := 159) dX12_walks_159 (v := nI 0) rfl ?_
              refine s_istore_n (pc := 160) (lo' := [(2, .int (nI 0)), (6, .int q62.1), (5, .int v60), (4, .int v54), (0, .ref a0), (1, .int s0.1), (3, .int s0.2.2.1)]) dX12_walks_160 rfl (Nat.le_of_ble_eq_true rfl) rfl ?_
              cases hf
              exact s_lo [4, 6, 5, 0] rfl (k65)
            · replace hf := p_ng hf hc
              refine s_aload_n (pc := 95) dX12_walks_95 3 rfl rfl ?_
              refine s_iload (pc := 96) dX12_walks_96 0 rfl ?_
              refine s_iload (pc := 98) dX12_walks_98 2 rfl ?_
              refine s_iload (pc := 100) dX12_walks_100 1 rfl ?_
              obtain ⟨q70, h71, hf⟩ := p_bd hf
              refine y_callV1 (pc := 102) dX12_walks_102 (c_X12_signalOf (p_dd hd (by decide)) hW ha0 h71) mk_X12_signalOf mv_X12_signalOf ml_X12_244 rfl rfl (Nat.le_of_ble_eq_true rfl) ha0 rfl (p_d1 hd (by decide)) (Nat.le_of_ble_eq_true rfl) ?_
              refine s_i2l (pc := 105) dX12_walks_105 ?_
              refine s_ldc2 (pc := 106) kl_X12_111 dX12_walks_106 ?_
              refine s_lmul (pc := 109) dX12_walks_109 ?_
              refine s_ldc2 (pc := 110) kl_X12_111 dX12_walks_110 ?_
              refine s_aload_n (pc := 113) dX12_walks_113 3 rfl rfl ?_
              obtain ⟨q72, h73, hf⟩ := p_bd hf
              have t74 : p_tp N q72 0 := WT.get hW ha0 h73
              refine x_getR (pc := 114) dX12_walks_114 fl_X12_7 rfl ha0 h73 ?_
              refine s_bipush (pc := 117) dX12_walks_117 (v := nI 16) rfl ?_
              obtain ⟨c75, hf⟩ := p_ckx hf
              refine x_iald (pc := 119) dX12_walks_119 t74 c75 ?_
              refine s_i2l (pc := 120) dX12_walks_120 ?_
              refine s_ladd (pc := 121) dX12_walks_121 ?_
              refine s_aload_n (pc := 122) dX12_walks_122 3 rfl rfl ?_
              refine s_iload_n (pc := 123) dX12_walks_123 4 rfl rfl ?_
              refine s_iload (pc := 124) dX12_walks_124 2 rfl ?_
              refine s_iload (pc := 126) dX12_walks_126 1 rfl ?_
              obtain ⟨q76, h77, hf⟩ := p_bd hf
              refine y_callV1 (pc := 128) dX12_walks_128 (c_X12_signalOf (p_dd hd (by decide)) hW ha0 h77) mk_X12_signalOf mv_X12_signalOf ml_X12_244 rfl rfl (Nat.le_of_ble_eq_true rfl) ha0 rfl (p_d1 hd (by decide)) (Nat.le_of_ble_eq_true rfl) ?_
              refine s_i2l (pc := 131) dX12_walks_131 ?_
              refine s_lmul (pc := 132) dX12_walks_132 ?_
              refine x_lcmp_le (pc := 133) (tgt := 159) dX12_walks_133 dX12_walks_134 rfl (fun hc => ?_) (fun hc => ?_)
              · replace hf := p_ps hf hc
                refine s_iconst (pc := 159) dX12_walks_159 (v := nI 0) rfl ?_
                refine s_istore_n (pc := 160) (lo' := [(2, .int (nI 0)), (6, .int q62.1), (5, .int v60), (4, .int v54), (0, .ref a0), (1, .int s0.1), (3, .int s0.2.2.1)]) dX12_walks_160 rfl (Nat.le_of_ble_eq_true rfl) rfl ?_
                cases hf
                exact s_lo [4, 6, 5, 0] rfl (k65)
              · replace hf := p_ng hf hc
                refine s_iinc (pc := 137) (lo' := [(2, .int (s0.2.1 + nI 1)), (6, .int q62.1), (5, .int v60), (4, .int v54), (0, .ref a0), (1, .int s0.1), (3, .int s0.2.2.1)]) dX12_walks_137 5 rfl (v := s0.2.1 + nI 1) rfl (Nat.le_of_ble_eq_true rfl) rfl ?_
                refine s_iload_n (pc := 140) dX12_walks_140 0 rfl rfl ?_
                refine s_aload_n (pc := 141) dX12_walks_141 4 rfl rfl ?_
                obtain ⟨q78, h79, hf⟩ := p_bd hf
                have t80 : p_tp N q78 0 := WT.get hW ha0 h79
                refine x_getR (pc := 142) dX12_walks_142 fl_X12_7 rfl ha0 h79 ?_
                refine s_bipush (pc := 145) dX12_walks_145 (v := nI 17) rfl ?_
                obtain ⟨c81, hf⟩ := p_ckx hf
                refine x_iald (pc := 147) dX12_walks_147 t80 c81 ?_
                refine s_icmp_ne (pc := 148) (tgt := 161) dX12_walks_148 rfl (fun hc => ?_) (fun hc => ?_)
                · replace hf := p_ng hf hc
                  cases hf
                  exact s_lo [4, 6, 5, 0] rfl (k65)
                · replace hf := p_ps hf hc
                  refine s_iload (pc := 151) dX12_walks_151 1 rfl ?_
                  refine s_istore_n (pc := 153) (lo' := [(1, .int q62.1), (2, .int (s0.2.1 + nI 1)), (6, .int q62.1), (5, .int v60), (4, .int v54), (0, .ref a0), (3, .int s0.2.2.1)]) dX12_walks_153 rfl (Nat.le_of_ble_eq_true rfl) rfl ?_
                  refine s_iconst (pc := 154) dX12_walks_154 (v := nI 0) rfl ?_
                  refine s_istore_n (pc := 155) (lo' := [(2, .int (nI 0)), (1, .int q62.1), (6, .int q62.1), (5, .int v60), (4, .int v54), (0, .ref a0), (3, .int s0.2.2.1)]) dX12_walks_155 rfl (Nat.le_of_ble_eq_true rfl) rfl ?_
                  refine s_goto (pc := 156) (tgt := 161) dX12_walks_156 rfl ?_
                  cases hf
                  exact s_lo [5, 6, 1, 0] rfl (k65)
          · replace hf := p_ps hf hc
            refine s_iload (pc := 81) dX12_walks_81 0 rfl ?_
            refine s_istore_n (pc := 83) (lo' := [(1, .int q62.1), (6, .int q62.1), (5, .int v60), (4, .int v54), (0, .ref a0), (2, .int s0.2.1), (3, .int s0.2.2.1)]) dX12_walks_83 rfl (Nat.le_of_ble_eq_true rfl) rfl ?_
            refine s_iconst (pc := 84) dX12_walks_84 (v := nI 0) rfl ?_
            refine s_istore_n (pc := 85) (lo' := [(2, .int (nI 0)), (1, .int q62.1), (6, .int q62.1), (5, .int v60), (4, .int v54), (0, .ref a0), (3, .int s0.2.2.1)]) dX12_walks_85 rfl (Nat.le_of_ble_eq_true rfl) rfl ?_
            refine s_goto (pc := 86) (tgt := 161) dX12_walks_86 rfl ?_
            cases hf
            exact s_lo [5, 6, 1, 0] rfl (k65))
  exact s_lo [3, 2, 1, 0] rfl (k45 n ((-1), nI 0, nI 0, I, L) hf)
