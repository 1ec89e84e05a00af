def B_X12_count_7 (N : pN) (I : pI) (P : pR) (a0 : Nat) (rec0 : (Int32 × Int32) → Option Int32) (s0 : Int32 × Int32) : Option Int32 :=
  Option.bind (P a0 0) fun q3 =>
  p_ck (p_ib N q3 (nI 0)) <|
  (if (I q3 (Int32.toNatClampNeg (nI 0))) ≤ s0.2 then
    some s0.1
  else
    Option.bind (f_X12_seesWall N I P a0 s0.2) fun q7 =>
    p_let (α := Int32) ((if q7 = 0 then
      nI 0
    else
      nI 1)) fun t9 =>
    rec0 (s0.1 + t9, s0.2 + nI 1))
def B_X12_count_44 (N : pN) (I : pI) (P : pR) (a0 : Nat) (rec0 : (Int32 × Int32) → Option Int32) (s0 : Int32 × Int32) : Option Int32 :=
  Option.bind (P a0 0) fun q22 =>
  p_ck (p_ib N q22 (nI 1)) <|
  (if (I q22 (Int32.toNatClampNeg (nI 1))) ≤ s0.2 then
    some s0.1
  else
    Option.bind (f_X12_seesSender N I P a0 s0.2) fun q26 =>
    p_let (α := Int32) ((if q26 = 0 then
      nI 0
    else
      nI 1)) fun t28 =>
    rec0 (s0.1 + t28, s0.2 + nI 1))
def f_X12_count (n : Nat) (N : pN) (I : pI) (L : pL) (P : pR) (a0 : Nat) (x1 : Int32) : Option (Int32 × pI × pL) :=
  Option.bind (p_it (B_X12_count_7 N I P a0) n (nI 0, nI 0)) fun t1 =>
  Option.bind (p_it (B_X12_count_44 N I P a0) n (nI 0, nI 0)) fun t20 =>
  (if x1 = nI 0 then
    some (t1, I, L)
  else
    (if x1 = nI 1 then
      some (t20, I, L)
    else
      (if x1 = nI 2 then
        Option.bind (P a0 0) fun q65 =>
        p_ck (p_ib N q65 (nI 0)) <|
        some (I q65 (Int32.toNatClampNeg (nI 0)), I, L)
      else
        (if x1 = nI 3 then
          Option.bind (P a0 0) fun q61 =>
          p_ck (p_ib N q61 (nI 1)) <|
          some (I q61 (Int32.toNatClampNeg (nI 1)), I, L)
        else
          (if x1 = nI 4 then
            Option.bind (P a0 0) fun q57 =>
            p_ck (p_ib N q57 (nI 2)) <|
            some (I q57 (Int32.toNatClampNeg (nI 2)), I, L)
          else
            (if x1 = nI 5 then
              Option.bind (P a0 0) fun q53 =>
              p_ck (p_ib N q53 (nI 3)) <|
              some (I q53 (Int32.toNatClampNeg (nI 3)), I, L)
            else
              (if x1 = nI 6 then
                Option.bind (P a0 0) fun q49 =>
                p_ck (p_ib N q49 (nI 4)) <|
                some (I q49 (Int32.toNatClampNeg (nI 4)), I, L)
              else
                (if x1 = nI 7 then
                  Option.bind (P a0 0) fun q45 =>
                  p_ck (p_ib N q45 (nI 5)) <|
                  some (I q45 (Int32.toNatClampNeg (nI 5)), I, L)
                else
                  (if x1 = nI 8 then
                    Option.bind (P a0 0) fun q41 =>
                    p_ck (p_ib N q41 (nI 6)) <|
                    some (I q41 (Int32.toNatClampNeg (nI 6)), I, L)
                  else
                    (if x1 = nI 9 then
                      Option.bind (f_X12_colouring n N I L P a0) fun q39 =>
                      some (q39.1, q39.2.1, q39.2.2)
                    else
                      some ((-2), I, L)))))))))))
theorem c_X12_count {G : pG} {d : Nat} {n : Nat} {N : pN} {I : pI} {L : pL} {P : pR} {a0 : Nat} {x1 : Int32} {qq : Int32 × pI × pL} (hd : 10 ≤ d) (hW : WT N P) (ha0 : p_tp N a0 15) (hf : f_X12_count n N I L P a0 x1 = some qq) : MT G mX12_count d 0 0 [.ref a0, .int x1] N I L P (p_R (some (.int qq.1)) N qq.2.1 qq.2.2 P) := by
  refine MT.of rfl (Nat.le_of_ble_eq_true rfl) ?_
  show SW G mX12_count (p_rm d 0 0) 0 0 0 0 (p_R (some (.int qq.1)) N qq.2.1 qq.2.2 P) 0 [(0, .ref a0), (1, .int x1)] [] N I L P
  unfold f_X12_count at hf
  refine s_iconst (pc := 0) dX12_count_0 (v := nI 0) rfl ?_
  refine s_istore_n (pc := 1) (lo' := [(2, .int (nI 0)), (0, .ref a0), (1, .int x1)]) dX12_count_1 rfl (Nat.le_of_ble_eq_true rfl) rfl ?_
  refine s_iconst (pc := 2) dX12_count_2 (v := nI 0) rfl ?_
  refine s_istore_n (pc := 3) (lo' := [(3, .int (nI 0)), (2, .int (nI 0)), (0, .ref a0), (1, .int x1)]) dX12_count_3 rfl (Nat.le_of_ble_eq_true rfl) rfl ?_
  refine s_iconst (pc := 4) dX12_count_4 (v := nI 0) rfl ?_
  refine s_istore (pc := 5) (lo' := [(4, .int (nI 0)), (3, .int (nI 0)), (2, .int (nI 0)), (0, .ref a0), (1, .int x1)]) dX12_count_5 (Nat.le_of_ble_eq_true rfl) rfl ?_
  obtain ⟨t1, hg, hf⟩ := p_bd hf
  have k2 : SW G mX12_count (p_rm d 0 0) 0 0 0 0 (p_R (some (.int qq.1)) N qq.2.1 qq.2.2 P) 41 [(3, .int (nI 0)), (0, .ref a0), (1, .int x1), (2, .int t1)] [] N I L P := by
    refine s_iconst (pc := 41) dX12_count_41 (v := nI 0) rfl ?_
    refine s_istore (pc := 42) (lo' := [(4, .int (nI 0)), (3, .int (nI 0)), (0, .ref a0), (1, .int x1), (2, .int t1)]) dX12_count_42 (Nat.le_of_ble_eq_true rfl) rfl ?_
    obtain ⟨t20, hg, hf⟩ := p_bd hf
    have k21 : SW G mX12_count (p_rm d 0 0) 0 0 0 0 (p_R (some (.int qq.1)) N qq.2.1 qq.2.2 P) 78 [(0, .ref a0), (1, .int x1), (2, .int t1), (3, .int t20)] [] N I L P := by
      refine s_iload_n (pc := 78) dX12_count_78 1 rfl rfl ?_
      by_cases hc0 : x1 = nI 0
      · replace hf := p_ps hf hc0
        refine s_tableIn (pc := 79) (tgt := 132) (off := 53) dX12_count_79 (by rw [hc0]; decide) (by rw [hc0]; decide) (by rw [hc0]; rfl) rfl ?_
        refine s_iload_n (pc := 132) dX12_count_132 2 rfl rfl ?_
        cases hf
        exact s_ireturn (pc := 133) dX12_count_133 rfl rfl ⟨rfl, rfl, rfl, rfl, rfl⟩
      · replace hf := p_ng hf hc0
        by_cases hc1 : x1 = nI 1
        · replace hf := p_ps hf hc1
          refine s_tableIn (pc := 79) (tgt := 134) (off := 55) dX12_count_79 (by rw [hc1]; decide) (by rw [hc1]; decide) (by rw [hc1]; rfl) rfl ?_
          refine s_iload_n (pc := 134) dX12_count_134 3 rfl rfl ?_
          cases hf
          exact s_ireturn (pc := 135) dX12_count_135 rfl rfl ⟨rfl, rfl, rfl, rfl, rfl⟩
        · replace hf := p_ng hf hc1
          by_cases hc2 : x1 = nI 2
          · replace hf := p_ps hf hc2
            refine s_tableIn (pc := 79) (tgt := 136) (off := 57) dX12_count_79 (by rw [hc2]; decide) (by rw [hc2]; decide) (by rw [hc2]; rfl) rfl ?_
            refine s_aload_n (pc := 136) dX12_count_136 0 rfl rfl ?_
            obtain ⟨q65, h66, hf⟩ := p_bd hf
            have t67 : p_tp N q65 0 := WT.get hW ha0 h66
            refine x_getR (pc := 137) dX12_count_137 fl_X12_7 rfl ha0 h66 ?_
            refine s_iconst (pc := 140) dX12_count_140 (v := nI 0) rfl ?_
            obtain ⟨c68, hf⟩ := p_ckx hf
            refine x_iald (pc := 141) dX12_count_141 t67 c68 ?_
            cases hf
            exact s_ireturn (pc := 142) dX12_count_142 rfl rfl ⟨rfl, rfl, rfl, rfl, rfl⟩
          · replace hf := p_ng hf hc2
            by_cases hc3 : x1 = nI 3
            · replace hf := p_ps hf hc3
              refine s_tableIn (pc := 79) (tgt := 143) (off := 64) dX12_count_79 (by rw [hc3]; decide) (by rw [hc3]; decide) (by rw [hc3]; rfl) rfl ?_
              refine s_aload_n (pc := 143) dX12_count_143 0 rfl rfl ?_
              obtain ⟨q61, h62, hf⟩ := p_bd hf
              have t63 : p_tp N q61 0 := WT.get hW ha0 h62
              refine x_getR (pc := 144) dX12_count_144 fl_X12_7 rfl ha0 h62 ?_
              refine s_iconst (pc := 147) dX12_count_147 (v := nI 1) rfl ?_
              obtain ⟨c64, hf⟩ := p_ckx hf
              refine x_iald (pc := 148) dX12_count_148 t63 c64 ?_
              cases hf
              exact s_ireturn (pc := 149) dX12_count_149 rfl rfl ⟨rfl, rfl, rfl, rfl, rfl⟩
            · replace hf := p_ng hf hc3
              by_cases hc4 : x1 = nI 4
              · replace hf := p_ps hf hc4
                refine s_tableIn (pc := 79) (tgt := 150) (off := 71) dX12_count_79 (by rw [hc4]; decide) (by rw [hc4]; decide) (by rw [hc4]; rfl) rfl ?_
                refine s_aload_n (pc := 150) dX12_count_150 0 rfl rfl ?_
                obtain ⟨q57, h58, hf⟩ := p_bd hf
                have t59 : p_tp N q57 0 := WT.get hW ha0 h58
                refine x_getR (pc := 151) dX12_count_151 fl_X12_7 rfl ha0 h58 ?_
                refine s_iconst (pc := 154) dX12_count_154 (v := nI 2) rfl ?_
                obtain ⟨c60, hf⟩ := p_ckx hf
                refine x_iald (pc := 155) dX12_count_155 t59 c60 ?_
                cases hf
                exact s_ireturn (pc := 156) dX12_count_156 rfl rfl ⟨rfl, rfl, rfl, rfl, rfl⟩
              · replace hf := p_ng hf hc4
                by_cases hc5 : x1 = nI 5
                · replace hf := p_ps hf hc5
                  refine s_tableIn (pc := 79) (tgt := 157) (off := 78) dX12_count_79 (by rw [hc5]; decide) (by rw [hc5]; decide) (by rw [hc5]; rfl) rfl ?_
                  refine s_aload_n (pc := 157) dX12_count_157 0 rfl rfl ?_
                  obtain ⟨q53, h54, hf⟩ := p_bd hf
                  have t55 : p_tp N q53 0 := WT.get hW ha0 h54
                  refine x_getR (pc := 158) dX12_count_158 fl_X12_7 rfl ha0 h54 ?_
                  refine s_iconst (pc := 161) dX12_count_161 (v := nI 3) rfl ?_
                  obtain ⟨c56, hf⟩ := p_ckx hf
                  refine x_iald (pc := 162) dX12_count_162 t55 c56 ?_
                  cases hf
                  exact s_ireturn (pc := 163) dX12_count_163 rfl rfl ⟨rfl, rfl, rfl, rfl, rfl⟩
                · replace hf := p_ng hf hc5
                  by_cases hc6 : x1 = nI 6
                  · replace hf := p_ps hf hc6
                    refine s_tableIn (pc := 79) (tgt := 164) (off := 85) dX12_count_79 (by rw [hc6]; decide) (by rw [hc6]; decide) (by rw [hc6]; rfl) rfl ?_
                    refine s_aload_n (pc := 164) dX12_count_164 0 rfl rfl ?_
                    obtain ⟨q49, h50, hf⟩ := p_bd hf
                    have t51 : p_tp N q49 0 := WT.get hW ha0 h50
                    refine x_getR (pc := 165) dX12_count_165 fl_X12_7 rfl ha0 h50 ?_
                    refine s_iconst (pc := 168) dX12_count_168 (v := nI 4) rfl ?_
                    obtain ⟨c52, hf⟩ := p_ckx hf
                    refine x_iald (pc := 169) dX12_count_169 t51 c52 ?_
                    cases hf
                    exact s_ireturn (pc := 170) dX12_count_170 rfl rfl ⟨rfl, rfl, rfl, rfl, rfl⟩
                  · replace hf := p_ng hf hc6
                    by_cases hc7 : x1 = nI 7
                    · replace hf := p_ps hf hc7
                      refine s_tableIn (pc := 79) (tgt := 171) (off := 92) dX12_count_79 (by rw [hc7]; decide) (by rw [hc7]; decide) (by rw [hc7]; rfl) rfl ?_
                      refine s_aload_n (pc := 171) dX12_count_171 0 rfl rfl ?_
                      obtain ⟨q45, h46, hf⟩ := p_bd hf
                      have t47 : p_tp N q45 0 := WT.get hW ha0 h46
                      refine x_getR (pc := 172) dX12_count_172 fl_X12_7 rfl ha0 h46 ?_
                      refine s_iconst (pc := 175) dX12_count_175 (v := nI 5) rfl ?_
                      obtain ⟨c48, hf⟩ := p_ckx hf
                      refine x_iald (pc := 176) dX12_count_176 t47 c48 ?_
                      cases hf
                      exact s_ireturn (pc := 177) dX12_count_177 rfl rfl ⟨rfl, rfl, rfl, rfl, rfl⟩
                    · replace hf := p_ng hf hc7
                      by_cases hc8 : x1 = nI 8
                      · replace hf := p_ps hf hc8
                        refine s_tableIn (pc := 79) (tgt := 178) (off := 99) dX12_count_79 (by rw [hc8]; decide) (by rw [hc8]; decide) (by rw [hc8]; rfl) rfl ?_
                        refine s_aload_n (pc := 178) dX12_count_178 0 rfl rfl ?_
                        obtain ⟨q41, h42, hf⟩ := p_bd hf
                        have t43 : p_tp N q41 0 := WT.get hW ha0 h42
                        refine x_getR (pc := 179) dX12_count_179 fl_X12_7 rfl ha0 h42 ?_
                        refine s_bipush (pc := 182) dX12_count_182 (v := nI 6) rfl ?_
                        obtain ⟨c44, hf⟩ := p_ckx hf
                        refine x_iald (pc := 184) dX12_count_184 t43 c44 ?_
                        cases hf
                        exact s_ireturn (pc := 185) dX12_count_185 rfl rfl ⟨rfl, rfl, rfl, rfl, rfl⟩
                      · replace hf := p_ng hf hc8
                        by_cases hc9 : x1 = nI 9
                        · replace hf := p_ps hf hc9
                          refine s_tableIn (pc := 79) (tgt := 186) (off := 107) dX12_count_79 (by rw [hc9]; decide) (by rw [hc9]; decide) (by rw [hc9]; rfl) rfl ?_
                          refine s_aload_n (pc := 186) dX12_count_186 0 rfl rfl ?_
                          obtain ⟨q39, h40, hf⟩ := p_bd hf
                          refine y_callV1 (pc := 187) dX12_count_187 (c_X12_colouring (p_dd hd (by decide)) hW ha0 h40) mk_X12_colouring mv_X12_colouring ml_X12_282 rfl rfl (Nat.le_of_ble_eq_true rfl) ha0 rfl (p_d1 hd (by decide)) (Nat.le_of_ble_eq_true rfl) ?_
                          cases hf
                          exact s_ireturn (pc := 190) dX12_count_190 rfl rfl ⟨rfl, rfl, rfl, rfl, rfl⟩
                        · replace hf := p_ng hf hc9
                          have hout : x1.toInt < 0 ∨ 9 < x1.toInt := p_out (fun i h1 h2 => by
                            have hh : i = 0 ∨ i = 1 ∨ i = 2 ∨ i = 3 ∨ i = 4 ∨ i = 5 ∨ i = 6 ∨ i = 7 ∨ i = 8 ∨ i = 9 := by omega
                            rcases hh with rfl | rfl | rfl | rfl | rfl | rfl | rfl | rfl | rfl | rfl
                            · exact p_ne hc0 rfl
                            · exact p_ne hc1 rfl
                            · exact p_ne hc2 rfl
                            · exact p_ne hc3 rfl
                            · exact p_ne hc4 rfl
                            · exact p_ne hc5 rfl
                            · exact p_ne hc6 rfl
                            · exact p_ne hc7 rfl
                            · exact p_ne hc8 rfl
                            · exact p_ne hc9 rfl)
                          refine s_tableOut (pc := 79) (tgt := 191) dX12_count_79 hout rfl ?_
                          refine s_bipush (pc := 191) dX12_count_191 (v := (-2)) rfl ?_
                          cases hf
                          exact s_ireturn (pc := 193) dX12_count_193 rfl rfl ⟨rfl, rfl, rfl, rfl, rfl⟩
    replace hf := hg
    have k30 : ∀ (k : Nat) (s0 : Int32 × Int32), p_it (B_X12_count_44 N I P a0) k s0 = some t20 → (SW G mX12_count (p_rm d 0 0) 0 0 0 0 (p_R (some (.int qq.1)) N qq.2.1 qq.2.2 P) 44 [(0, .ref a0), (1, .int x1), (2, .int t1), (3, .int s0.1), (4, .int s0.2)] [] N I L P) := p_it_ind (C := fun (s0 : Int32 × Int32) => SW G mX12_count (p_rm d 0 0) 0 0 0 0 (p_R (some (.int qq.1)) N qq.2.1 qq.2.2 P) 44 [(0, .ref a0), (1, .int x1), (2, .int t1), (3, .int s0.1), (4, .int s0.2)] [] N I L P) (by
      intro rec0 hrec0 s0 hf
      unfold B_X12_count_44 at hf
      refine s_iload (pc := 44) dX12_count_44 4 rfl ?_
      refine s_aload_n (pc := 46) dX12_count_46 0 rfl rfl ?_
      obtain ⟨q31, h32, hf⟩ := p_bd hf
      have t33 : p_tp N q31 0 := WT.get hW ha0 h32
      refine x_getR (pc := 47) dX12_count_47 fl_X12_7 rfl ha0 h32 ?_
      refine s_iconst (pc := 50) dX12_count_50 (v := nI 1) rfl ?_
      obtain ⟨c34, hf⟩ := p_ckx hf
      refine x_iald (pc := 51) dX12_count_51 t33 c34 ?_
      refine s_icmp_ge (pc := 52) (tgt := 78) dX12_count_52 rfl (fun hc => ?_) (fun hc => ?_)
      · replace hf := p_ps hf hc
        cases hf
        exact s_lo [0, 1, 2, 3] rfl (k21)
      · replace hf := p_ng hf hc
        refine s_iload_n (pc := 55) dX12_count_55 3 rfl rfl ?_
        refine s_aload_n (pc := 56) dX12_count_56 0 rfl rfl ?_
        refine s_iload (pc := 57) dX12_count_57 4 rfl ?_
        obtain ⟨q35, h36, hf⟩ := p_bd hf
        refine y_callV1 (pc := 59) dX12_count_59 (c_X12_seesSender (p_dd hd (by decide)) hW ha0 h36) mk_X12_seesSender mv_X12_seesSender ml_X12_215 rfl rfl (Nat.le_of_ble_eq_true rfl) ha0 rfl (p_d1 hd (by decide)) (Nat.le_of_ble_eq_true rfl) ?_
        obtain ⟨t37, hg, hf⟩ := p_lx2 hf
        have k38 : SW G mX12_count (p_rm d 0 0) 0 0 0 0 (p_R (some (.int qq.1)) N qq.2.1 qq.2.2 P) 70 [(0, .ref a0), (1, .int x1), (2, .int t1), (4, .int s0.2)] [.int t37, .int s0.1] N I L P := by
          refine s_iadd (pc := 70) dX12_count_70 ?_
          refine s_istore_n (pc := 71) (lo' := [(3, .int (s0.1 + t37)), (0, .ref a0), (1, .int x1), (2, .int t1), (4, .int s0.2)]) dX12_count_71 rfl (Nat.le_of_ble_eq_true rfl) rfl ?_
          refine s_iinc (pc := 72) (lo' := [(4, .int (s0.2 + nI 1)), (3, .int (s0.1 + t37)), (0, .ref a0), (1, .int x1), (2, .int t1)]) dX12_count_72 4 rfl (v := s0.2 + nI 1) rfl (Nat.le_of_ble_eq_true rfl) rfl ?_
          refine s_goto (pc := 75) (tgt := 44) dX12_count_75 rfl ?_
          exact s_lo [2, 3, 4, 1, 0] rfl (hrec0 (s0.1 + t37, s0.2 + nI 1) hf)
        replace hf := hg.symm
        refine s_if_eq (pc := 62) (tgt := 69) dX12_count_62 rfl (fun hc => ?_) (fun hc => ?_)
        · replace hf := p_ps hf hc
          refine s_iconst (pc := 69) dX12_count_69 (v := nI 0) rfl ?_
          cases hf
          exact s_lo [0, 1, 2, 4] rfl (k38)
        · replace hf := p_ng hf hc
          refine s_iconst (pc := 65) dX12_count_65 (v := nI 1) rfl ?_
          refine s_goto (pc := 66) (tgt := 70) dX12_count_66 rfl ?_
          cases hf
          exact s_lo [0, 1, 2, 4] rfl (k38))
    exact s_lo [2, 3, 4, 1, 0] rfl (k30 n (nI 0, nI 0) hf)
  replace hf := hg
  have k11 : ∀ (k : Nat) (s0 : Int32 × Int32), p_it (B_X12_count_7 N I P a0) k s0 = some t1 → (SW G mX12_count (p_rm d 0 0) 0 0 0 0 (p_R (some (.int qq.1)) N qq.2.1 qq.2.2 P) 7 [(3, .int (nI 0)), (0, .ref a0), (1, .int x1), (2, .int s0.1), (4, .int s0.2)] [] N I L P) := p_it_ind (C := fun (s0 : Int32 × Int32) => SW G mX12_count (p_rm d 0 0) 0 0 0 0 (p_R (some (.int qq.1)) N qq.2.1 qq.2.2 P) 7 [(3, .int (nI 0)), (0, .ref a0), (1, .int x1), (2, .int s0.1), (4, .int s0.2)] [] N I L P) (by
    intro rec0 hrec0 s0 hf
    unfold B_X12_count_7 at hf
    refine s_iload (pc := 7) dX12_count_7 4 rfl ?_
    refine s_aload_n (pc := 9) dX12_count_9 1 rfl rfl ?_
    obtain ⟨q12, h13, hf⟩ := p_bd hf
    have t14 : p_tp N q12 0 := WT.get hW ha0 h13
    refine x_getR (pc := 10) dX12_count_10 fl_X12_7 rfl ha0 h13 ?_
    refine s_iconst (pc := 13) dX12_count_13 (v := nI 0) rfl ?_
    obtain ⟨c15, hf⟩ := p_ckx hf
    refine x_iald (pc := 14) dX12_count_14 t14 c15 ?_
    refine s_icmp_ge (pc := 15) (tgt := 41) dX12_count_15 rfl (fun hc => ?_) (fun hc => ?_)
    · replace hf := p_ps hf hc
      cases hf
      exact s_lo [0, 1, 2, 3] rfl (k2)
    · replace hf := p_ng hf hc
      refine s_iload_n (pc := 18) dX12_count_18 3 rfl rfl ?_
      refine s_aload_n (pc := 19) dX12_count_19 1 rfl rfl ?_
      refine s_iload (pc := 20) dX12_count_20 4 rfl ?_
      obtain ⟨q16, h17, hf⟩ := p_bd hf
      refine y_callV1 (pc := 22) dX12_count_22 (c_X12_seesWall (p_dd hd (by decide)) hW ha0 h17) mk_X12_seesWall mv_X12_seesWall ml_X12_113 rfl rfl (Nat.le_of_ble_eq_true rfl) ha0 rfl (p_d1 hd (by decide)) (Nat.le_of_ble_eq_true rfl) ?_
      obtain ⟨t18, hg, hf⟩ := p_lx2 hf
      have k19 : SW G mX12_count (p_rm d 0 0) 0 0 0 0 (p_R (some (.int qq.1)) N qq.2.1 qq.2.2 P) 33 [(3, .int (nI 0)), (0, .ref a0), (1, .int x1), (4, .int s0.2)] [.int t18, .int s0.1] N I L P := by
        refine s_iadd (pc := 33) dX12_count_33 ?_
        refine s_istore_n (pc := 34) (lo' := [(2, .int (s0.1 + t18)), (3, .int (nI 0)), (0, .ref a0), (1, .int x1), (4, .int s0.2)]) dX12_count_34 rfl (Nat.le_of_ble_eq_true rfl) rfl ?_
        refine s_iinc (pc := 35) (lo' := [(4, .int (s0.2 + nI 1)), (2, .int (s0.1 + t18)), (3, .int (nI 0)), (0, .ref a0), (1, .int x1)]) dX12_count_35 4 rfl (v := s0.2 + nI 1) rfl (Nat.le_of_ble_eq_true rfl) rfl ?_
        refine s_goto (pc := 38) (tgt := 7) dX12_count_38 rfl ?_
        exact s_lo [2, 3, 4, 1, 0] rfl (hrec0 (s0.1 + t18, s0.2 + nI 1) hf)
      replace hf := hg.symm
      refine s_if_eq (pc := 25) (tgt := 32) dX12_count_25 rfl (fun hc => ?_) (fun hc => ?_)
      · replace hf := p_ps hf hc
        refine s_iconst (pc := 32) dX12_count_32 (v := nI 0) rfl ?_
        cases hf
        exact s_lo [0, 1, 2, 4] rfl (k19)
      · replace hf := p_ng hf hc
        refine s_iconst (pc := 28) dX12_count_28 (v := nI 1) rfl ?_
        refine s_goto (pc := 29) (tgt := 33) dX12_count_29 rfl ?_
        cases hf
        exact s_lo [0, 1, 2, 4] rfl (k19))
  exact s_lo [1, 3, 4, 2, 0] rfl (k11 n (nI 0, nI 0) hf)
def B_X12_image_20 (N : pN) (P : pR) (a0 : Nat) (x1 : Int32) (rec0 : (Int32 × pI) → Option pI) (s0 : Int32 × pI) : Option pI :=
  (if (nI 1160) ≤ s0.1 then
    some s0.2
  else
    Option.bind (P a0 0) fun q11 =>
    Option.bind (P a0 0) fun q14 =>
    p_ck (p_ib N q14 s0.1) <|
    p_ck (p_ib N q11 (((nI 1160) * (x1 + (nI 1))) + s0.1)) <|
    p_let (p_u s0.2 q11 (Int32.toNatClampNeg (((nI 1160) * (x1 + (nI 1))) + s0.1)) (s0.2 q14 (Int32.toNatClampNeg s0.1))) fun I19 =>
    rec0 (s0.1 + nI 1, I19))
def f_X12_image (n : Nat) (N : pN) (I : pI) (P : pR) (a0 : Nat) (x1 : Int32) : Option (Int32 × pI) :=
  Option.bind (f_X12_isIn x1 (nI 0) (nI 2)) fun q1 =>
  (if q1 = 0 then
    some (nI 0, I)
  else
    Option.bind (P a0 1) fun q3 =>
    p_ck (p_ib N q3 x1) <|
    p_let (p_u I q3 (Int32.toNatClampNeg x1) (nI 1)) fun I7 =>
    Option.bind (p_it (B_X12_image_20 N P a0 x1) n (nI 0, I7)) fun t9 =>
    some (nI 1, t9))
theorem c_X12_image {G : pG} {d : Nat} {n : Nat} {N : pN} {I : pI} {L : pL} {P : pR} {a0 : Nat} {x1 : Int32} {qq : Int32 × pI} (hd : 1 ≤ d) (hW : WT N P) (ha0 : p_tp N a0 15) (hf : f_X12_image n N I P a0 x1 = some qq) : MT G mX12_image d 0 0 [.ref a0, .int x1] N I L P (p_R (some (.int qq.1)) N qq.2 L P) := by
  refine MT.of rfl (Nat.le_of_ble_eq_true rfl) ?_
  show SW G mX12_image (p_rm d 0 0) 0 0 0 0 (p_R (some (.int qq.1)) N qq.2 L P) 0 [(0, .ref a0), (1, .int x1)] [] N I L P
  unfold f_X12_image at hf
  refine s_iload_n (pc := 0) dX12_image_0 1 rfl rfl ?_
  refine s_iconst (pc := 1) dX12_image_1 (v := nI 0) rfl ?_
  refine s_iconst (pc := 2) dX12_image_2 (v := nI 2) rfl ?_
  obtain ⟨q1, h2, hf⟩ := p_bd hf
  refine y_callS1 (pc := 3) dX12_image_3 (c_X12_isIn (p_dd hd (by decide)) hW  h2) mk_X12_isIn mz_X12_isIn ml_X12_68 rfl rfl (Nat.le_of_ble_eq_true rfl) (p_d1 hd (by decide)) (Nat.le_of_ble_eq_true rfl) ?_
  refine s_if_ne (pc := 6) (tgt := 11) dX12_image_6 rfl (fun hc => ?_) (fun hc => ?_)
  · replace hf := p_ng hf hc
    refine s_aload_n (pc := 11) dX12_image_11 0 rfl rfl ?_
    obtain ⟨q3, h4, hf⟩ := p_bd hf
    have t5 : p_tp N q3 1 := WT.get hW ha0 h4
    refine x_getR (pc := 12) dX12_image_12 fl_X12_13 rfl ha0 h4 ?_
    refine s_iload_n (pc := 15) dX12_image_15 1 rfl rfl ?_
    refine s_iconst (pc := 16) dX12_image_16 (v := nI 1) rfl ?_
    obtain ⟨c6, hf⟩ := p_ckx hf
    refine x_zast (pc := 17) dX12_image_17 t5 c6 (by decide) ?_
    refine s_nmI (fun I7 e8 => ?_)
    replace hf := p_lx hf e8
    refine s_iconst (pc := 18) dX12_image_18 (v := nI 0) rfl ?_
    refine s_istore_n (pc := 19) (lo' := [(2, .int (nI 0)), (0, .ref a0), (1, .int x1)]) dX12_image_19 rfl (Nat.le_of_ble_eq_true rfl) rfl ?_
    obtain ⟨t9, hg, hf⟩ := p_bd hf
    have k10 : SW G mX12_image (p_rm d 0 0) 0 0 0 0 (p_R (some (.int qq.1)) N qq.2 L P) 53 [] [] N t9 L P := by
      refine s_iconst (pc := 53) dX12_image_53 (v := nI 1) rfl ?_
      cases hf
      exact s_ireturn (pc := 54) dX12_image_54 rfl rfl ⟨rfl, rfl, rfl, rfl, rfl⟩
    replace hf := hg
    have k21 : ∀ (k : Nat) (s0 : Int32 × pI), p_it (B_X12_image_20 N P a0 x1) k s0 = some t9 → (SW G mX12_image (p_rm d 0 0) 0 0 0 0 (p_R (some (.int qq.1)) N qq.2 L P) 20 [(0, .ref a0), (1, .int x1), (2, .int s0.1)] [] N s0.2 L P) := p_it_ind (C := fun (s0 : Int32 × pI) => SW G mX12_image (p_rm d 0 0) 0 0 0 0 (p_R (some (.int qq.1)) N qq.2 L P) 20 [(0, .ref a0), (1, .int x1), (2, .int s0.1)] [] N s0.2 L P) (by
      intro rec0 hrec0 s0 hf
      unfold B_X12_image_20 at hf
      refine s_iload_n (pc := 20) dX12_image_20 2 rfl rfl ?_
      refine s_sipush (pc := 21) dX12_image_21 (v := nI 1160) rfl ?_
      refine s_icmp_ge (pc := 24) (tgt := 53) dX12_image_24 rfl (fun hc => ?_) (fun hc => ?_)
      · replace hf := p_ps hf hc
        cases hf
        exact s_lo [] rfl (k10)
      · replace hf := p_ng hf hc
        refine s_aload_n (pc := 27) dX12_image_27 0 rfl rfl ?_
        obtain ⟨q22, h23, hf⟩ := p_bd hf
        have t24 : p_tp N q22 0 := WT.get hW ha0 h23
        refine x_getR (pc := 28) dX12_image_28 fl_X12_7 rfl ha0 h23 ?_
        refine s_sipush (pc := 31) dX12_image_31 (v := nI 1160) rfl ?_
        refine s_iload_n (pc := 34) dX12_image_34 1 rfl rfl ?_
        refine s_iconst (pc := 35) dX12_image_35 (v := nI 1) rfl ?_
        refine s_iadd (pc := 36) dX12_image_36 ?_
        refine s_imul (pc := 37) dX12_image_37 ?_
        refine s_iload_n (pc := 38) dX12_image_38 2 rfl rfl ?_
        refine s_iadd (pc := 39) dX12_image_39 ?_
        refine s_aload_n (pc := 40) dX12_image_40 0 rfl rfl ?_
        obtain ⟨q25, h26, hf⟩ := p_bd hf
        have t27 : p_tp N q25 0 := WT.get hW ha0 h26
        refine x_getR (pc := 41) dX12_image_41 fl_X12_7 rfl ha0 h26 ?_
        refine s_iload_n (pc := 44) dX12_image_44 2 rfl rfl ?_
        obtain ⟨c28, hf⟩ := p_ckx hf
        refine x_iald (pc := 45) dX12_image_45 t27 c28 ?_
        obtain ⟨c29, hf⟩ := p_ckx hf
        refine x_iast (pc := 46) dX12_image_46 t24 c29 ?_
        refine s_nmI (fun I30 e31 => ?_)
        replace hf := p_lx hf e31
        refine s_iinc (pc := 47) (lo' := [(2, .int (s0.1 + nI 1)), (0, .ref a0), (1, .int x1)]) dX12_image_47 2 rfl (v := s0.1 + nI 1) rfl (Nat.le_of_ble_eq_true rfl) rfl ?_
        refine s_goto (pc := 50) (tgt := 20) dX12_image_50 rfl ?_
        exact s_lo [1, 2, 0] rfl (hrec0 (s0.1 + nI 1, I30) hf))
    exact s_lo [1, 2, 0] rfl (k21 n (nI 0, I7) hf)
  · replace hf := p_ps hf hc
    refine s_iconst (pc := 9) dX12_image_9 (v := nI 0) rfl ?_
    cases hf
    exact s_ireturn (pc := 10) dX12_image_10 rfl rfl ⟨rfl, rfl, rfl, rfl, rfl⟩
def B_X12_again_22 (N : pN) (P : pR) (a0 : Nat) (x1 : Int32) (rec0 : (Int32 × pI) → Option pI) (s0 : Int32 × pI) : Option pI :=
  (if (nI 1160) ≤ s0.1 then
    some s0.2
  else
    Option.bind (P a0 0) fun q9 =>
    Option.bind (P a0 0) fun q12 =>
    p_ck (p_ib N q12 (((nI 1160) * (x1 + (nI 1))) + s0.1)) <|
    p_ck (p_ib N q9 s0.1) <|
    p_let (p_u s0.2 q9 (Int32.toNatClampNeg s0.1) (s0.2 q12 (Int32.toNatClampNeg (((nI 1160) * (x1 + (nI 1))) + s0.1)))) fun I17 =>
    rec0 (s0.1 + nI 1, I17))
def f_X12_again (n : Nat) (N : pN) (I : pI) (P : pR) (a0 : Nat) (x1 : Int32) : Option (Int32 × pI) :=
  Option.bind (f_X12_isIn x1 (nI 0) (nI 2)) fun q1 =>
  (if q1 = 0 then
    some (nI 0, I)
  else
    Option.bind (P a0 1) fun q3 =>
    p_ck (p_ib N q3 x1) <|
    (if (I q3 (Int32.toNatClampNeg x1)) = 0 then
      some (nI 0, I)
    else
      Option.bind (p_it (B_X12_again_22 N P a0 x1) n (nI 0, I)) fun t7 =>
      Option.bind (f_X12_forgets n N t7 P a0) fun q30 =>
      some (nI 1, q30)))
theorem c_X12_again {G : pG} {d : Nat} {n : Nat} {N : pN} {I : pI} {L : pL} {P : pR} {a0 : Nat} {x1 : Int32} {qq : Int32 × pI} (hd : 1 ≤ d) (hW : WT N P) (ha0 : p_tp N a0 15) (hf : f_X12_again n N I P a0 x1 = some qq) : MT G mX12_again d 0 0 [.ref a0, .int x1] N I L P (p_R (some (.int qq.1)) N qq.2 L P) := by
  refine MT.of rfl (Nat.le_of_ble_eq_true rfl) ?_
  show SW G mX12_again (p_rm d 0 0) 0 0 0 0 (p_R (some (.int qq.1)) N qq.2 L P) 0 [(0, .ref a0), (1, .int x1)] [] N I L P
  unfold f_X12_again at hf
  refine s_iload_n (pc := 0) dX12_again_0 1 rfl rfl ?_
  refine s_iconst (pc := 1) dX12_again_1 (v := nI 0) rfl ?_
  refine s_iconst (pc := 2) dX12_again_2 (v := nI 2) rfl ?_
  obtain ⟨q1, h2, hf⟩ := p_bd hf
  refine y_callS1 (pc := 3) dX12_again_3 (c_X12_isIn (p_dd hd (by decide)) hW  h2) mk_X12_isIn mz_X12_isIn ml_X12_68 rfl rfl (Nat.le_of_ble_eq_true rfl) (p_d1 hd (by decide)) (Nat.le_of_ble_eq_true rfl) ?_
  refine s_if_eq (pc := 6) (tgt := 18) dX12_again_6 rfl (fun hc => ?_) (fun hc => ?_)
  · replace hf := p_ps hf hc
    refine s_iconst (pc := 18) dX12_again_18 (v := nI 0) rfl ?_
    cases hf
    exact s_ireturn (pc := 19) dX12_again_19 rfl rfl ⟨rfl, rfl, rfl, rfl, rfl⟩
  · replace hf := p_ng hf hc
    refine s_aload_n (pc := 9) dX12_again_9 0 rfl rfl ?_
    obtain ⟨q3, h4, hf⟩ := p_bd hf
    have t5 : p_tp N q3 1 := WT.get hW ha0 h4
    refine x_getR (pc := 10) dX12_again_10 fl_X12_13 rfl ha0 h4 ?_
    refine s_iload_n (pc := 13) dX12_again_13 1 rfl rfl ?_
    obtain ⟨c6, hf⟩ := p_ckx hf
    refine x_zald (pc := 14) dX12_again_14 t5 c6 ?_
    refine s_if_ne (pc := 15) (tgt := 20) dX12_again_15 rfl (fun hc => ?_) (fun hc => ?_)
    · replace hf := p_ng hf hc
      refine s_iconst (pc := 20) dX12_again_20 (v := nI 0) rfl ?_
      refine s_istore_n (pc := 21) (lo' := [(2, .int (nI 0)), (0, .ref a0), (1, .int x1)]) dX12_again_21 rfl (Nat.le_of_ble_eq_true rfl) rfl ?_
      obtain ⟨t7, hg, hf⟩ := p_bd hf
      have k8 : SW G mX12_again (p_rm d 0 0) 0 0 0 0 (p_R (some (.int qq.1)) N qq.2 L P) 55 [(0, .ref a0)] [] N t7 L P := by
        refine s_aload_n (pc := 55) dX12_again_55 0 rfl rfl ?_
        obtain ⟨q30, h31, hf⟩ := p_bd hf
        refine y_callV0 (pc := 56) dX12_again_56 (c_X12_forgets (p_dd hd (by decide)) hW ha0 h31) mk_X12_forgets mv_X12_forgets ml_X12_65 rfl rfl (Nat.le_of_ble_eq_true rfl) ha0 rfl (p_d1 hd (by decide)) (Nat.le_of_ble_eq_true rfl) ?_
        refine s_iconst (pc := 59) dX12_again_59 (v := nI 1) rfl ?_
        cases hf
        exact s_ireturn (pc := 60) dX12_again_60 rfl rfl ⟨rfl, rfl, rfl, rfl, rfl⟩
      replace hf := hg
      have k19 : ∀ (k : Nat) (s0 : Int32 × pI), p_it (B_X12_again_22 N P a0 x1) k s0 = some t7 → (SW G mX12_again (p_rm d 0 0) 0 0 0 0 (p_R (some (.int qq.1)) N qq.2 L P) 22 [(0, .ref a0), (1, .int x1), (2, .int s0.1)] [] N s0.2 L P) := p_it_ind (C := fun (s0 : Int32 × pI) => SW G mX12_again (p_rm d 0 0) 0 0 0 0 (p_R (some (.int qq.1)) N qq.2 L P) 22 [(0, .ref a0), (1, .int x1), (2, .int s0.1)] [] N s0.2 L P) (by
        intro rec0 hrec0 s0 hf
        unfold B_X12_again_22 at hf
        refine s_iload_n (pc := 22) dX12_again_22 2 rfl rfl ?_
        refine s_sipush (pc := 23) dX12_again_23 (v := nI 1160) rfl ?_
        refine s_icmp_ge (pc := 26) (tgt := 55) dX12_again_26 rfl (fun hc => ?_) (fun hc => ?_)
        · replace hf := p_ps hf hc
          cases hf
          exact s_lo [0] rfl (k8)
        · replace hf := p_ng hf hc
          refine s_aload_n (pc := 29) dX12_again_29 0 rfl rfl ?_
          obtain ⟨q20, h21, hf⟩ := p_bd hf
          have t22 : p_tp N q20 0 := WT.get hW ha0 h21
          refine x_getR (pc := 30) dX12_again_30 fl_X12_7 rfl ha0 h21 ?_
          refine s_iload_n (pc := 33) dX12_again_33 2 rfl rfl ?_
          refine s_aload_n (pc := 34) dX12_again_34 0 rfl rfl ?_
          obtain ⟨q23, h24, hf⟩ := p_bd hf
          have t25 : p_tp N q23 0 := WT.get hW ha0 h24
          refine x_getR (pc := 35) dX12_again_35 fl_X12_7 rfl ha0 h24 ?_
          refine s_sipush (pc := 38) dX12_again_38 (v := nI 1160) rfl ?_
          refine s_iload_n (pc := 41) dX12_again_41 1 rfl rfl ?_
          refine s_iconst (pc := 42) dX12_again_42 (v := nI 1) rfl ?_
          refine s_iadd (pc := 43) dX12_again_43 ?_
          refine s_imul (pc := 44) dX12_again_44 ?_
          refine s_iload_n (pc := 45) dX12_again_45 2 rfl rfl ?_
          refine s_iadd (pc := 46) dX12_again_46 ?_
          obtain ⟨c26, hf⟩ := p_ckx hf
          refine x_iald (pc := 47) dX12_again_47 t25 c26 ?_
          obtain ⟨c27, hf⟩ := p_ckx hf
          refine x_iast (pc := 48) dX12_again_48 t22 c27 ?_
          refine s_nmI (fun I28 e29 => ?_)
          replace hf := p_lx hf e29
          refine s_iinc (pc := 49) (lo' := [(2, .int (s0.1 + nI 1)), (0, .ref a0), (1, .int x1)]) dX12_again_49 2 rfl (v := s0.1 + nI 1) rfl (Nat.le_of_ble_eq_true rfl) rfl ?_
          refine s_goto (pc := 52) (tgt := 22) dX12_again_52 rfl ?_
          exact s_lo [1, 2, 0] rfl (hrec0 (s0.1 + nI 1, I28) hf))
      exact s_lo [1, 2, 0] rfl (k19 n (nI 0, I) hf)
    · replace hf := p_ps hf hc
      refine s_iconst (pc := 18) dX12_again_18 (v := nI 0) rfl ?_
      cases hf
      exact s_ireturn (pc := 19) dX12_again_19 rfl rfl ⟨rfl, rfl, rfl, rfl, rfl⟩
