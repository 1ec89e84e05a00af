def f_X12_puts (N : pN) (I : pI) (P : pR) (a0 : Nat) (x1 : Int32) (x2 : Int32) : Option pI :=
  (if 16 ≤ (I a0 38) then
    some I
  else
    Option.bind (P a0 39) fun q1 =>
    p_ck (p_ib N q1 ((20 * (I a0 38)) + x1)) <|
    p_let (p_u I q1 (Int32.toNatClampNeg ((20 * (I a0 38)) + x1)) x2) fun I5 =>
    some I5)
theorem c_X12_puts {G : pG} {d : Nat} {N : pN} {I : pI} {L : pL} {P : pR} {a0 : Nat} {x1 : Int32} {x2 : Int32} {qq : pI} (hd : 0 ≤ d) (hW : WT N P) (ha0 : p_tp N a0 15) (hf : f_X12_puts N I P a0 x1 x2 = some qq) : MT G mX12_puts d 0 0 [.ref a0, .int x1, .int x2] N I L P (p_R none N qq L P) := by
  refine MT.of rfl (Nat.le_of_ble_eq_true rfl) ?_
  show SW G mX12_puts (p_rm d 0 0) 0 0 0 0 (p_R none N qq L P) 0 [(0, .ref a0), (1, .int x1), (2, .int x2)] [] N I L P
  unfold f_X12_puts at hf
  refine s_aload_n (pc := 0) dX12_puts_0 0 rfl rfl ?_
  refine x_getI (pc := 1) dX12_puts_1 fl_X12_363 rfl ha0 ?_
  refine s_bipush (pc := 4) dX12_puts_4 (v := 16) rfl ?_
  refine s_icmp_ge (pc := 6) (tgt := 24) dX12_puts_6 rfl (fun hc => ?_) (fun hc => ?_)
  · replace hf := p_ps hf hc
    cases hf
    exact s_return (pc := 24) dX12_puts_24 rfl ⟨rfl, rfl, rfl, rfl, rfl⟩
  · replace hf := p_ng hf hc
    refine s_aload_n (pc := 9) dX12_puts_9 0 rfl rfl ?_
    obtain ⟨q1, h2, hf⟩ := p_bd hf
    have t3 : p_tp N q1 0 := WT.get hW ha0 h2
    refine x_getR (pc := 10) dX12_puts_10 fl_X12_59 rfl ha0 h2 ?_
    refine s_bipush (pc := 13) dX12_puts_13 (v := 20) rfl ?_
    refine s_aload_n (pc := 15) dX12_puts_15 0 rfl rfl ?_
    refine x_getI (pc := 16) dX12_puts_16 fl_X12_363 rfl ha0 ?_
    refine s_imul (pc := 19) dX12_puts_19 ?_
    refine s_iload_n (pc := 20) dX12_puts_20 1 rfl rfl ?_
    refine s_iadd (pc := 21) dX12_puts_21 ?_
    refine s_iload_n (pc := 22) dX12_puts_22 2 rfl rfl ?_
    obtain ⟨c4, hf⟩ := p_ckx hf
    refine x_iast (pc := 23) dX12_puts_23 t3 c4 ?_
    refine s_nmI (fun I5 e6 => ?_)
    replace hf := p_lx hf e6
    cases hf
    exact s_return (pc := 24) dX12_puts_24 rfl ⟨rfl, rfl, rfl, rfl, rfl⟩
def B_X12_aLawLine_55 (N : pN) (P : pR) (a0 : Nat) (x1 : Int32) (rec1 : (Int32 × pI) → Option pI) (s1 : Int32 × pI) : Option pI :=
  (if 4 ≤ s1.1 then
    some s1.2
  else
    (if 4 ≤ x1 then
      some s1.2
    else
      Option.bind (P a0 40) fun q19 =>
      p_ck (p_ib N q19 s1.1) <|
      Option.bind (f_X12_puts N s1.2 P a0 ((1 + (4 * x1)) + s1.1) (s1.2 q19 (Int32.toNatClampNeg s1.1))) fun q23 =>
      rec1 (s1.1 + 1, q23)))
def B_X12_aLawLine_31 (n : Nat) (N : pN) (P : pR) (a0 : Nat) (rec0 : (Int32 × Int32 × pI) → Option (Int32 × pI)) (s0 : Int32 × Int32 × pI) : Option (Int32 × pI) :=
  (if s0.2.1 = 0 then
    some (s0.1, s0.2.2)
  else
    Option.bind (α := pI) ((if s0.1 ≤ 3 then
      some s0.2.2
    else
      Option.bind (f_X12_also N s0.2.2 P a0 5 (s0.2.2 a0 30)) fun q13 =>
      some q13)) fun t11 =>
    Option.bind (f_X12_aTest n N t11 P a0) fun q15 =>
    Option.bind (p_it (B_X12_aLawLine_55 N P a0 s0.1) n (0, q15)) fun t17 =>
    Option.bind (f_X12_takes n N t17 P a0 31) fun q32 =>
    rec0 (s0.1 + 1, q32.1, q32.2))
def f_X12_aLawLine (n : Nat) (N : pN) (I : pI) (P : pR) (a0 : Nat) : Option pI :=
  Option.bind (α := pI) ((if (I a0 38) < 16 then
    some I
  else
    Option.bind (f_X12_also N I P a0 5 (I a0 30)) fun q3 =>
    some q3)) fun t1 =>
  Option.bind (f_X12_takes n N t1 P a0 30) fun q5 =>
  Option.bind (α := Int32 × pI) ((if q5.1 = 0 then
    some (0, q5.2)
  else
    Option.bind (p_it (B_X12_aLawLine_31 n N P a0) n (0, 1, q5.2)) fun t9 =>
    Option.bind (f_X12_must n N t9.2 P a0 58) fun q52 =>
    some (t9.1, q52))) fun t7 =>
  (if (t7.2 a0 35) = 0 then
    (if (t7.2 a0 31) = 3 then
      Option.bind (f_X12_isIn (t7.2 a0 34) 20 21) fun q58 =>
      (if q58 = 0 then
        Option.bind (f_X12_stops N t7.2 P a0) fun q70 =>
        some q70
      else
        Option.bind (f_X12_puts N t7.2 P a0 17 (t7.2 a0 34)) fun q60 =>
        Option.bind (f_X12_advance n N q60 P a0) fun q62 =>
        Option.bind (f_X12_must n N q62 P a0 59) fun q64 =>
        Option.bind (f_X12_puts N q64 P a0 0 t7.1) fun q66 =>
        p_let (p_u q66 a0 38 ((q66 a0 38) + 1)) fun I68 =>
        some I68)
    else
      Option.bind (f_X12_stops N t7.2 P a0) fun q56 =>
      some q56)
  else
    Option.bind (f_X12_stops N t7.2 P a0) fun q54 =>
    some q54)
theorem c_X12_aLawLine {G : pG} {d : Nat} {n : Nat} {N : pN} {I : pI} {L : pL} {P : pR} {a0 : Nat} {qq : pI} (hd : 6 ≤ d) (hW : WT N P) (ha0 : p_tp N a0 15) (hf : f_X12_aLawLine n N I P a0 = some qq) : MT G mX12_aLawLine d 0 0 [.ref a0] N I L P (p_R none N qq L P) := by
  refine MT.of rfl (Nat.le_of_ble_eq_true rfl) ?_
  show SW G mX12_aLawLine (p_rm d 0 0) 0 0 0 0 (p_R none N qq L P) 0 [(0, .ref a0)] [] N I L P
  unfold f_X12_aLawLine at hf
  refine s_aload_n (pc := 0) dX12_aLawLine_0 0 rfl rfl ?_
  refine x_getI (pc := 1) dX12_aLawLine_1 fl_X12_363 rfl ha0 ?_
  refine s_bipush (pc := 4) dX12_aLawLine_4 (v := 16) rfl ?_
  obtain ⟨t1, hg, hf⟩ := p_bd hf
  have k2 : SW G mX12_aLawLine (p_rm d 0 0) 0 0 0 0 (p_R none N qq L P) 18 [(0, .ref a0)] [] N t1 L P := by
    refine s_iconst (pc := 18) dX12_aLawLine_18 (v := 0) rfl ?_
    refine s_istore_n (pc := 19) dX12_aLawLine_19 rfl (Nat.le_of_ble_eq_true rfl) rfl ?_
    refine s_aload_n (pc := 20) dX12_aLawLine_20 1 rfl rfl ?_
    refine s_bipush (pc := 21) dX12_aLawLine_21 (v := 30) rfl ?_
    obtain ⟨q5, h6, hf⟩ := p_bd hf
    refine y_callV1 (pc := 23) dX12_aLawLine_23 (c_X12_takes (p_dd hd (by decide)) hW ha0 h6) mk_X12_takes mv_X12_takes ml_X12_393 rfl rfl (Nat.le_of_ble_eq_true rfl) ha0 rfl (p_d1 hd (by decide)) (Nat.le_of_ble_eq_true rfl) ?_
    obtain ⟨t7, hg, hf⟩ := p_bd hf
    have k8 : SW G mX12_aLawLine (p_rm d 0 0) 0 0 0 0 (p_R none N qq L P) 107 [(0, .ref a0), (1, .int t7.1)] [] N t7.2 L P := by
      refine s_aload_n (pc := 107) dX12_aLawLine_107 0 rfl rfl ?_
      refine x_getI (pc := 108) dX12_aLawLine_108 fl_X12_354 rfl ha0 ?_
      refine s_if_ne (pc := 111) (tgt := 136) dX12_aLawLine_111 rfl (fun hc => ?_) (fun hc => ?_)
      · replace hf := p_ng hf hc
        refine s_aload_n (pc := 136) dX12_aLawLine_136 0 rfl rfl ?_
        obtain ⟨q54, h55, hf⟩ := p_bd hf
        refine y_callV0 (pc := 137) dX12_aLawLine_137 (c_X12_stops (p_dd hd (by decide)) hW ha0 h55) mk_X12_stops mv_X12_stops ml_X12_360 rfl rfl (Nat.le_of_ble_eq_true rfl) ha0 rfl (p_d1 hd (by decide)) (Nat.le_of_ble_eq_true rfl) ?_
        cases hf
        exact s_return (pc := 140) dX12_aLawLine_140 rfl ⟨rfl, rfl, rfl, rfl, rfl⟩
      · replace hf := p_ps hf hc
        refine s_aload_n (pc := 114) dX12_aLawLine_114 0 rfl rfl ?_
        refine x_getI (pc := 115) dX12_aLawLine_115 fl_X12_330 rfl ha0 ?_
        refine s_iconst (pc := 118) dX12_aLawLine_118 (v := 3) rfl ?_
        refine s_icmp_ne (pc := 119) (tgt := 136) dX12_aLawLine_119 rfl (fun hc => ?_) (fun hc => ?_)
        · replace hf := p_ng hf hc
          refine s_aload_n (pc := 136) dX12_aLawLine_136 0 rfl rfl ?_
          obtain ⟨q56, h57, hf⟩ := p_bd hf
          refine y_callV0 (pc := 137) dX12_aLawLine_137 (c_X12_stops (p_dd hd (by decide)) hW ha0 h57) mk_X12_stops mv_X12_stops ml_X12_360 rfl rfl (Nat.le_of_ble_eq_true rfl) ha0 rfl (p_d1 hd (by decide)) (Nat.le_of_ble_eq_true rfl) ?_
          cases hf
          exact s_return (pc := 140) dX12_aLawLine_140 rfl ⟨rfl, rfl, rfl, rfl, rfl⟩
        · replace hf := p_ps hf hc
          refine s_aload_n (pc := 122) dX12_aLawLine_122 0 rfl rfl ?_
          refine x_getI (pc := 123) dX12_aLawLine_123 fl_X12_339 rfl ha0 ?_
          refine s_bipush (pc := 126) dX12_aLawLine_126 (v := 20) rfl ?_
          refine s_bipush (pc := 128) dX12_aLawLine_128 (v := 21) rfl ?_
          obtain ⟨q58, h59, hf⟩ := p_bd hf
          refine y_callS1 (pc := 130) dX12_aLawLine_130 (c_X12_isIn (p_dd hd (by decide)) hW  h59) mk_X12_isIn mz_X12_isIn ml_X12_68 rfl rfl (Nat.le_of_ble_eq_true rfl) (p_d1 hd (by decide)) (Nat.le_of_ble_eq_true rfl) ?_
          refine s_if_ne (pc := 133) (tgt := 141) dX12_aLawLine_133 rfl (fun hc => ?_) (fun hc => ?_)
          · replace hf := p_ng hf hc
            refine s_aload_n (pc := 141) dX12_aLawLine_141 0 rfl rfl ?_
            refine s_bipush (pc := 142) dX12_aLawLine_142 (v := 17) rfl ?_
            refine s_aload_n (pc := 144) dX12_aLawLine_144 0 rfl rfl ?_
            refine x_getI (pc := 145) dX12_aLawLine_145 fl_X12_339 rfl ha0 ?_
            obtain ⟨q60, h61, hf⟩ := p_bd hf
            refine y_callV0 (pc := 148) dX12_aLawLine_148 (c_X12_puts (p_dd hd (by decide)) hW ha0 h61) mk_X12_puts mv_X12_puts ml_X12_399 rfl rfl (Nat.le_of_ble_eq_true rfl) ha0 rfl (p_d1 hd (by decide)) (Nat.le_of_ble_eq_true rfl) ?_
            refine s_aload_n (pc := 151) dX12_aLawLine_151 0 rfl rfl ?_
            obtain ⟨q62, h63, hf⟩ := p_bd hf
            refine y_callV0 (pc := 152) dX12_aLawLine_152 (c_X12_advance (p_dd hd (by decide)) hW ha0 h63) mk_X12_advance mv_X12_advance ml_X12_357 rfl rfl (Nat.le_of_ble_eq_true rfl) ha0 rfl (p_d1 hd (by decide)) (Nat.le_of_ble_eq_true rfl) ?_
            refine s_aload_n (pc := 155) dX12_aLawLine_155 0 rfl rfl ?_
            refine s_bipush (pc := 156) dX12_aLawLine_156 (v := 59) rfl ?_
            obtain ⟨q64, h65, hf⟩ := p_bd hf
            refine y_callV0 (pc := 158) dX12_aLawLine_158 (c_X12_must (p_dd hd (by decide)) hW ha0 h65) mk_X12_must mv_X12_must ml_X12_378 rfl rfl (Nat.le_of_ble_eq_true rfl) ha0 rfl (p_d1 hd (by decide)) (Nat.le_of_ble_eq_true rfl) ?_
            refine s_aload_n (pc := 161) dX12_aLawLine_161 0 rfl rfl ?_
            refine s_iconst (pc := 162) dX12_aLawLine_162 (v := 0) rfl ?_
            refine s_iload_n (pc := 163) dX12_aLawLine_163 1 rfl rfl ?_
            obtain ⟨q66, h67, hf⟩ := p_bd hf
            refine y_callV0 (pc := 164) dX12_aLawLine_164 (c_X12_puts (p_dd hd (by decide)) hW ha0 h67) mk_X12_puts mv_X12_puts ml_X12_399 rfl rfl (Nat.le_of_ble_eq_true rfl) ha0 rfl (p_d1 hd (by decide)) (Nat.le_of_ble_eq_true rfl) ?_
            refine s_aload_n (pc := 167) dX12_aLawLine_167 0 rfl rfl ?_
            refine s_dup (pc := 168) dX12_aLawLine_168 rfl ?_
            refine x_getI (pc := 169) dX12_aLawLine_169 fl_X12_363 rfl ha0 ?_
            refine s_iconst (pc := 172) dX12_aLawLine_172 (v := 1) rfl ?_
            refine s_iadd (pc := 173) dX12_aLawLine_173 ?_
            refine x_putI (pc := 174) dX12_aLawLine_174 fl_X12_363 (Or.inl rfl) rfl ha0 ?_
            refine s_nmI (fun I68 e69 => ?_)
            replace hf := p_lx hf e69
            cases hf
            exact s_return (pc := 177) dX12_aLawLine_177 rfl ⟨rfl, rfl, rfl, rfl, rfl⟩
          · replace hf := p_ps hf hc
            refine s_aload_n (pc := 136) dX12_aLawLine_136 0 rfl rfl ?_
            obtain ⟨q70, h71, hf⟩ := p_bd hf
            refine y_callV0 (pc := 137) dX12_aLawLine_137 (c_X12_stops (p_dd hd (by decide)) hW ha0 h71) mk_X12_stops mv_X12_stops ml_X12_360 rfl rfl (Nat.le_of_ble_eq_true rfl) ha0 rfl (p_d1 hd (by decide)) (Nat.le_of_ble_eq_true rfl) ?_
            cases hf
            exact s_return (pc := 140) dX12_aLawLine_140 rfl ⟨rfl, rfl, rfl, rfl, rfl⟩
    replace hf := hg
    refine s_if_eq (pc := 26) (tgt := 107) dX12_aLawLine_26 rfl (fun hc => ?_) (fun hc => ?_)
    · replace hf := p_ps hf hc
      cases hf
      exact s_lo [1, 0] rfl (k8)
    · replace hf := p_ng hf hc
      refine s_iconst (pc := 29) dX12_aLawLine_29 (v := 1) rfl ?_
      refine s_istore_n (pc := 30) dX12_aLawLine_30 rfl (Nat.le_of_ble_eq_true rfl) rfl ?_
      obtain ⟨t9, hg, hf⟩ := p_bd hf
      have k10 : SW G mX12_aLawLine (p_rm d 0 0) 0 0 0 0 (p_R none N qq L P) 101 [(0, .ref a0), (1, .int t9.1)] [] N t9.2 L P := by
        refine s_aload_n (pc := 101) dX12_aLawLine_101 0 rfl rfl ?_
        refine s_bipush (pc := 102) dX12_aLawLine_102 (v := 58) rfl ?_
        obtain ⟨q52, h53, hf⟩ := p_bd hf
        refine y_callV0 (pc := 104) dX12_aLawLine_104 (c_X12_must (p_dd hd (by decide)) hW ha0 h53) mk_X12_must mv_X12_must ml_X12_378 rfl rfl (Nat.le_of_ble_eq_true rfl) ha0 rfl (p_d1 hd (by decide)) (Nat.le_of_ble_eq_true rfl) ?_
        cases hf
        exact s_lo [0, 1] rfl (k8)
      replace hf := hg
      have k34 : ∀ (k : Nat) (s0 : Int32 × Int32 × pI), p_it (B_X12_aLawLine_31 n N P a0) k s0 = some t9 → (SW G mX12_aLawLine (p_rm d 0 0) 0 0 0 0 (p_R none N qq L P) 31 [(0, .ref a0), (1, .int s0.1), (2, .int s0.2.1)] [] N s0.2.2 L P) := p_it_ind (C := fun (s0 : Int32 × Int32 × pI) => SW G mX12_aLawLine (p_rm d 0 0) 0 0 0 0 (p_R none N qq L P) 31 [(0, .ref a0), (1, .int s0.1), (2, .int s0.2.1)] [] N s0.2.2 L P) (by
        intro rec0 hrec0 s0 hf
        unfold B_X12_aLawLine_31 at hf
        refine s_iload_n (pc := 31) dX12_aLawLine_31 2 rfl rfl ?_
        refine s_if_eq (pc := 32) (tgt := 101) dX12_aLawLine_32 rfl (fun hc => ?_) (fun hc => ?_)
        · replace hf := p_ps hf hc
          cases hf
          exact s_lo [0, 1] rfl (k10)
        · replace hf := p_ng hf hc
          refine s_iload_n (pc := 35) dX12_aLawLine_35 1 rfl rfl ?_
          refine s_iconst (pc := 36) dX12_aLawLine_36 (v := 3) rfl ?_
          obtain ⟨t35, hg, hf⟩ := p_bd hf
          have k36 : SW G mX12_aLawLine (p_rm d 0 0) 0 0 0 0 (p_R none N qq L P) 49 [(0, .ref a0), (1, .int s0.1)] [] N t35 L P := by
            refine s_aload_n (pc := 49) dX12_aLawLine_49 0 rfl rfl ?_
            obtain ⟨q39, h40, hf⟩ := p_bd hf
            refine y_callV0 (pc := 50) dX12_aLawLine_50 (c_X12_aTest (p_dd hd (by decide)) hW ha0 h40) mk_X12_aTest mv_X12_aTest ml_X12_396 rfl rfl (Nat.le_of_ble_eq_true rfl) ha0 rfl (p_d1 hd (by decide)) (Nat.le_of_ble_eq_true rfl) ?_
            refine s_iconst (pc := 53) dX12_aLawLine_53 (v := 0) rfl ?_
            refine s_istore_n (pc := 54) dX12_aLawLine_54 rfl (Nat.le_of_ble_eq_true rfl) rfl ?_
            obtain ⟨t41, hg, hf⟩ := p_bd hf
            have k42 : SW G mX12_aLawLine (p_rm d 0 0) 0 0 0 0 (p_R none N qq L P) 88 [(0, .ref a0), (1, .int s0.1)] [] N t41 L P := by
              refine s_iinc (pc := 88) dX12_aLawLine_88 1 rfl (v := s0.1 + 1) rfl (Nat.le_of_ble_eq_true rfl) rfl ?_
              refine s_aload_n (pc := 91) dX12_aLawLine_91 1 rfl rfl ?_
              refine s_bipush (pc := 92) dX12_aLawLine_92 (v := 31) rfl ?_
              obtain ⟨q50, h51, hf⟩ := p_bd hf
              refine y_callV1 (pc := 94) dX12_aLawLine_94 (c_X12_takes (p_dd hd (by decide)) hW ha0 h51) mk_X12_takes mv_X12_takes ml_X12_393 rfl rfl (Nat.le_of_ble_eq_true rfl) ha0 rfl (p_d1 hd (by decide)) (Nat.le_of_ble_eq_true rfl) ?_
              refine s_istore_n (pc := 97) dX12_aLawLine_97 rfl (Nat.le_of_ble_eq_true rfl) rfl ?_
              refine s_goto (pc := 98) (tgt := 31) dX12_aLawLine_98 rfl ?_
              exact s_lo [2, 1, 0] rfl (hrec0 _ hf)
            replace hf := hg
            have k43 : ∀ (k : Nat) (s1 : Int32 × pI), p_it (B_X12_aLawLine_55 N P a0 s0.1) k s1 = some t41 → (SW G mX12_aLawLine (p_rm d 0 0) 0 0 0 0 (p_R none N qq L P) 55 [(0, .ref a0), (1, .int s0.1), (3, .int s1.1)] [] N s1.2 L P) := p_it_ind (C := fun (s1 : Int32 × pI) => SW G mX12_aLawLine (p_rm d 0 0) 0 0 0 0 (p_R none N qq L P) 55 [(0, .ref a0), (1, .int s0.1), (3, .int s1.1)] [] N s1.2 L P) (by
              intro rec1 hrec1 s1 hf
              unfold B_X12_aLawLine_55 at hf
              refine s_iload_n (pc := 55) dX12_aLawLine_55 2 rfl rfl ?_
              refine s_iconst (pc := 56) dX12_aLawLine_56 (v := 4) rfl ?_
              refine s_icmp_ge (pc := 57) (tgt := 88) dX12_aLawLine_57 rfl (fun hc => ?_) (fun hc => ?_)
              · replace hf := p_ps hf hc
                cases hf
                exact s_lo [0, 1] rfl (k42)
              · replace hf := p_ng hf hc
                refine s_iload_n (pc := 60) dX12_aLawLine_60 1 rfl rfl ?_
                refine s_iconst (pc := 61) dX12_aLawLine_61 (v := 4) rfl ?_
                refine s_icmp_ge (pc := 62) (tgt := 88) dX12_aLawLine_62 rfl (fun hc => ?_) (fun hc => ?_)
                · replace hf := p_ps hf hc
                  cases hf
                  exact s_lo [0, 1] rfl (k42)
                · replace hf := p_ng hf hc
                  refine s_aload_n (pc := 65) dX12_aLawLine_65 0 rfl rfl ?_
                  refine s_iconst (pc := 66) dX12_aLawLine_66 (v := 1) rfl ?_
                  refine s_iconst (pc := 67) dX12_aLawLine_67 (v := 4) rfl ?_
                  refine s_iload_n (pc := 68) dX12_aLawLine_68 1 rfl rfl ?_
                  refine s_imul (pc := 69) dX12_aLawLine_69 ?_
                  refine s_iadd (pc := 70) dX12_aLawLine_70 ?_
                  refine s_iload_n (pc := 71) dX12_aLawLine_71 2 rfl rfl ?_
                  refine s_iadd (pc := 72) dX12_aLawLine_72 ?_
                  refine s_aload_n (pc := 73) dX12_aLawLine_73 0 rfl rfl ?_
                  obtain ⟨q44, h45, hf⟩ := p_bd hf
                  have t46 : p_tp N q44 0 := WT.get hW ha0 h45
                  refine x_getR (pc := 74) dX12_aLawLine_74 fl_X12_62 rfl ha0 h45 ?_
                  refine s_iload_n (pc := 77) dX12_aLawLine_77 2 rfl rfl ?_
                  obtain ⟨c47, hf⟩ := p_ckx hf
                  refine x_iald (pc := 78) dX12_aLawLine_78 t46 c47 ?_
                  obtain ⟨q48, h49, hf⟩ := p_bd hf
                  refine y_callV0 (pc := 79) dX12_aLawLine_79 (c_X12_puts (p_dd hd (by decide)) hW ha0 h49) mk_X12_puts mv_X12_puts ml_X12_399 rfl rfl (Nat.le_of_ble_eq_true rfl) ha0 rfl (p_d1 hd (by decide)) (Nat.le_of_ble_eq_true rfl) ?_
                  refine s_iinc (pc := 82) dX12_aLawLine_82 2 rfl (v := s1.1 + 1) rfl (Nat.le_of_ble_eq_true rfl) rfl ?_
                  refine s_goto (pc := 85) (tgt := 55) dX12_aLawLine_85 rfl ?_
                  exact s_lo [1, 2, 0] rfl (hrec1 _ hf))
            exact s_lo [1, 2, 0] rfl (k43 _ _ hf)
          replace hf := hg
          refine s_icmp_le (pc := 37) (tgt := 49) dX12_aLawLine_37 rfl (fun hc => ?_) (fun hc => ?_)
          · replace hf := p_ps hf hc
            cases hf
            exact s_lo [0, 1] rfl (k36)
          · replace hf := p_ng hf hc
            refine s_aload_n (pc := 40) dX12_aLawLine_40 0 rfl rfl ?_
            refine s_iconst (pc := 41) dX12_aLawLine_41 (v := 5) rfl ?_
            refine s_aload_n (pc := 42) dX12_aLawLine_42 0 rfl rfl ?_
            refine x_getI (pc := 43) dX12_aLawLine_43 fl_X12_327 rfl ha0 ?_
            obtain ⟨q37, h38, hf⟩ := p_bd hf
            refine y_callV0 (pc := 46) dX12_aLawLine_46 (c_X12_also (p_dd hd (by decide)) hW ha0 h38) mk_X12_also mv_X12_also ml_X12_375 rfl rfl (Nat.le_of_ble_eq_true rfl) ha0 rfl (p_d1 hd (by decide)) (Nat.le_of_ble_eq_true rfl) ?_
            cases hf
            exact s_lo [0, 1] rfl (k36))
      exact s_lo [2, 1, 0] rfl (k34 _ _ hf)
  replace hf := hg
  refine s_icmp_lt (pc := 6) (tgt := 18) dX12_aLawLine_6 rfl (fun hc => ?_) (fun hc => ?_)
  · replace hf := p_ps hf hc
    cases hf
    exact s_lo [0] rfl (k2)
  · replace hf := p_ng hf hc
    refine s_aload_n (pc := 9) dX12_aLawLine_9 0 rfl rfl ?_
    refine s_iconst (pc := 10) dX12_aLawLine_10 (v := 5) rfl ?_
    refine s_aload_n (pc := 11) dX12_aLawLine_11 0 rfl rfl ?_
    refine x_getI (pc := 12) dX12_aLawLine_12 fl_X12_327 rfl ha0 ?_
    obtain ⟨q3, h4, hf⟩ := p_bd hf
    refine y_callV0 (pc := 15) dX12_aLawLine_15 (c_X12_also (p_dd hd (by decide)) hW ha0 h4) mk_X12_also mv_X12_also ml_X12_375 rfl rfl (Nat.le_of_ble_eq_true rfl) ha0 rfl (p_d1 hd (by decide)) (Nat.le_of_ble_eq_true rfl) ?_
    cases hf
    exact s_lo [0] rfl (k2)
def B_X12_law_4 (n : Nat) (N : pN) (P : pR) (a0 : Nat) (rec0 : pI → Option pI) (s0 : pI) : Option pI :=
  (if (s0 a0 35) = 0 then
    (if (s0 a0 31) = 0 then
      some s0
    else
      Option.bind (f_X12_aLawLine n N s0 P a0) fun q5 =>
      rec0 q5)
  else
    some s0)
def B_X12_law_39 (N : pN) (P : pR) (a0 : Nat) (rec0 : (Int32 × pI) → Option pI) (s0 : Int32 × pI) : Option pI :=
  (if 320 ≤ s0.1 then
    some s0.2
  else
    Option.bind (P a0 0) fun q16 =>
    Option.bind (P a0 39) fun q19 =>
    p_ck (p_ib N q19 s0.1) <|
    p_ck (p_ib N q16 (340 + s0.1)) <|
    p_let (p_u s0.2 q16 (Int32.toNatClampNeg (340 + s0.1)) (s0.2 q19 (Int32.toNatClampNeg s0.1))) fun I24 =>
    rec0 (s0.1 + 1, I24))
def f_X12_law (n : Nat) (N : pN) (I : pI) (P : pR) (a0 : Nat) : Option (Int32 × pI) :=
  Option.bind (f_X12_reads n N I P a0) fun q1 =>
  Option.bind (p_it (B_X12_law_4 n N P a0) n q1) fun t3 =>
  Option.bind (P a0 0) fun q10 =>
  p_ck (p_ib N q10 9) <|
  (if (t3 q10 (Int32.toNatClampNeg 9)) = 0 then
    Option.bind (p_it (B_X12_law_39 N P a0) n (0, t3)) fun t14 =>
    Option.bind (P a0 0) fun q37 =>
    p_ck (p_ib N q37 6) <|
    p_let (p_u t14 q37 (Int32.toNatClampNeg 6) (t14 a0 38)) fun I41 =>
    some (I41 a0 38, I41)
  else
    some ((-1), t3))
theorem c_X12_law {G : pG} {d : Nat} {n : Nat} {N : pN} {I : pI} {L : pL} {P : pR} {a0 : Nat} {qq : Int32 × pI} (hd : 7 ≤ d) (hW : WT N P) (ha0 : p_tp N a0 15) (hf : f_X12_law n N I P a0 = some qq) : MT G mX12_law d 0 0 [.ref a0] N I L P (p_R (some (.int qq.1)) N qq.2 L P) := by
  refine MT.of rfl (Nat.le_of_ble_eq_true rfl) ?_
  show SW G mX12_law (p_rm d 0 0) 0 0 0 0 (p_R (some (.int qq.1)) N qq.2 L P) 0 [(0, .ref a0)] [] N I L P
  unfold f_X12_law at hf
  refine s_aload_n (pc := 0) dX12_law_0 0 rfl rfl ?_
  obtain ⟨q1, h2, hf⟩ := p_bd hf
  refine y_callV0 (pc := 1) dX12_law_1 (c_X12_reads (p_dd hd (by decide)) hW ha0 h2) mk_X12_reads mv_X12_reads ml_X12_384 rfl rfl (Nat.le_of_ble_eq_true rfl) ha0 rfl (p_d1 hd (by decide)) (Nat.le_of_ble_eq_true rfl) ?_
  obtain ⟨t3, hg, hf⟩ := p_bd hf
  have k4 : SW G mX12_law (p_rm d 0 0) 0 0 0 0 (p_R (some (.int qq.1)) N qq.2 L P) 25 [(0, .ref a0)] [] N t3 L P := by
    refine s_aload_n (pc := 25) dX12_law_25 0 rfl rfl ?_
    obtain ⟨q10, h11, hf⟩ := p_bd hf
    have t12 : p_tp N q10 0 := WT.get hW ha0 h11
    refine x_getR (pc := 26) dX12_law_26 fl_X12_7 rfl ha0 h11 ?_
    refine s_bipush (pc := 29) dX12_law_29 (v := 9) rfl ?_
    obtain ⟨c13, hf⟩ := p_ckx hf
    refine x_iald (pc := 31) dX12_law_31 t12 c13 ?_
    refine s_if_eq (pc := 32) (tgt := 37) dX12_law_32 rfl (fun hc => ?_) (fun hc => ?_)
    · replace hf := p_ps hf hc
      refine s_iconst (pc := 37) dX12_law_37 (v := 0) rfl ?_
      refine s_istore_n (pc := 38) dX12_law_38 rfl (Nat.le_of_ble_eq_true rfl) rfl ?_
      obtain ⟨t14, hg, hf⟩ := p_bd hf
      have k15 : SW G mX12_law (p_rm d 0 0) 0 0 0 0 (p_R (some (.int qq.1)) N qq.2 L P) 68 [(0, .ref a0)] [] N t14 L P := by
        refine s_aload_n (pc := 68) dX12_law_68 0 rfl rfl ?_
        obtain ⟨q37, h38, hf⟩ := p_bd hf
        have t39 : p_tp N q37 0 := WT.get hW ha0 h38
        refine x_getR (pc := 69) dX12_law_69 fl_X12_7 rfl ha0 h38 ?_
        refine s_bipush (pc := 72) dX12_law_72 (v := 6) rfl ?_
        refine s_aload_n (pc := 74) dX12_law_74 0 rfl rfl ?_
        refine x_getI (pc := 75) dX12_law_75 fl_X12_363 rfl ha0 ?_
        obtain ⟨c40, hf⟩ := p_ckx hf
        refine x_iast (pc := 78) dX12_law_78 t39 c40 ?_
        refine s_nmI (fun I41 e42 => ?_)
        replace hf := p_lx hf e42
        refine s_aload_n (pc := 79) dX12_law_79 0 rfl rfl ?_
        refine x_getI (pc := 80) dX12_law_80 fl_X12_363 rfl ha0 ?_
        cases hf
        exact s_ireturn (pc := 83) dX12_law_83 rfl rfl ⟨rfl, rfl, rfl, rfl, rfl⟩
      replace hf := hg
      have k26 : ∀ (k : Nat) (s0 : Int32 × pI), p_it (B_X12_law_39 N P a0) k s0 = some t14 → (SW G mX12_law (p_rm d 0 0) 0 0 0 0 (p_R (some (.int qq.1)) N qq.2 L P) 39 [(0, .ref a0), (1, .int s0.1)] [] N s0.2 L P) := p_it_ind (C := fun (s0 : Int32 × pI) => SW G mX12_law (p_rm d 0 0) 0 0 0 0 (p_R (some (.int qq.1)) N qq.2 L P) 39 [(0, .ref a0), (1, .int s0.1)] [] N s0.2 L P) (by
        intro rec0 hrec0 s0 hf
        unfold B_X12_law_39 at hf
        refine s_iload_n (pc := 39) dX12_law_39 1 rfl rfl ?_
        refine s_sipush (pc := 40) dX12_law_40 (v := 320) rfl ?_
        refine s_icmp_ge (pc := 43) (tgt := 68) dX12_law_43 rfl (fun hc => ?_) (fun hc => ?_)
        · replace hf := p_ps hf hc
          cases hf
          exact s_lo [0] rfl (k15)
        · replace hf := p_ng hf hc
          refine s_aload_n (pc := 46) dX12_law_46 0 rfl rfl ?_
          obtain ⟨q27, h28, hf⟩ := p_bd hf
          have t29 : p_tp N q27 0 := WT.get hW ha0 h28
          refine x_getR (pc := 47) dX12_law_47 fl_X12_7 rfl ha0 h28 ?_
          refine s_sipush (pc := 50) dX12_law_50 (v := 340) rfl ?_
          refine s_iload_n (pc := 53) dX12_law_53 1 rfl rfl ?_
          refine s_iadd (pc := 54) dX12_law_54 ?_
          refine s_aload_n (pc := 55) dX12_law_55 0 rfl rfl ?_
          obtain ⟨q30, h31, hf⟩ := p_bd hf
          have t32 : p_tp N q30 0 := WT.get hW ha0 h31
          refine x_getR (pc := 56) dX12_law_56 fl_X12_59 rfl ha0 h31 ?_
          refine s_iload_n (pc := 59) dX12_law_59 1 rfl rfl ?_
          obtain ⟨c33, hf⟩ := p_ckx hf
          refine x_iald (pc := 60) dX12_law_60 t32 c33 ?_
          obtain ⟨c34, hf⟩ := p_ckx hf
          refine x_iast (pc := 61) dX12_law_61 t29 c34 ?_
          refine s_nmI (fun I35 e36 => ?_)
          replace hf := p_lx hf e36
          refine s_iinc (pc := 62) dX12_law_62 1 rfl (v := s0.1 + 1) rfl (Nat.le_of_ble_eq_true rfl) rfl ?_
          refine s_goto (pc := 65) (tgt := 39) dX12_law_65 rfl ?_
          exact s_lo [1, 0] rfl (hrec0 _ hf))
      exact s_lo [1, 0] rfl (k26 _ _ hf)
    · replace hf := p_ng hf hc
      refine s_iconst (pc := 35) dX12_law_35 (v := -1) rfl ?_
      cases hf
      exact s_ireturn (pc := 36) dX12_law_36 rfl rfl ⟨rfl, rfl, rfl, rfl, rfl⟩
  replace hf := hg
  have k7 : ∀ (k : Nat) (s0 : pI), p_it (B_X12_law_4 n N P a0) k s0 = some t3 → (SW G mX12_law (p_rm d 0 0) 0 0 0 0 (p_R (some (.int qq.1)) N qq.2 L P) 4 [(0, .ref a0)] [] N s0 L P) := p_it_ind (C := fun (s0 : pI) => SW G mX12_law (p_rm d 0 0) 0 0 0 0 (p_R (some (.int qq.1)) N qq.2 L P) 4 [(0, .ref a0)] [] N s0 L P) (by
    intro rec0 hrec0 s0 hf
    unfold B_X12_law_4 at hf
    refine s_aload_n (pc := 4) dX12_law_4 0 rfl rfl ?_
    refine x_getI (pc := 5) dX12_law_5 fl_X12_354 rfl ha0 ?_
    refine s_if_ne (pc := 8) (tgt := 25) dX12_law_8 rfl (fun hc => ?_) (fun hc => ?_)
    · replace hf := p_ng hf hc
      cases hf
      exact s_lo [0] rfl (k4)
    · replace hf := p_ps hf hc
      refine s_aload_n (pc := 11) dX12_law_11 0 rfl rfl ?_
      refine x_getI (pc := 12) dX12_law_12 fl_X12_330 rfl ha0 ?_
      refine s_if_eq (pc := 15) (tgt := 25) dX12_law_15 rfl (fun hc => ?_) (fun hc => ?_)
      · replace hf := p_ps hf hc
        cases hf
        exact s_lo [0] rfl (k4)
      · replace hf := p_ng hf hc
        refine s_aload_n (pc := 18) dX12_law_18 0 rfl rfl ?_
        obtain ⟨q8, h9, hf⟩ := p_bd hf
        refine y_callV0 (pc := 19) dX12_law_19 (c_X12_aLawLine (p_dd hd (by decide)) hW ha0 h9) mk_X12_aLawLine mv_X12_aLawLine ml_X12_402 rfl rfl (Nat.le_of_ble_eq_true rfl) ha0 rfl (p_d1 hd (by decide)) (Nat.le_of_ble_eq_true rfl) ?_
        refine s_goto (pc := 22) (tgt := 4) dX12_law_22 rfl ?_
        exact s_lo [0] rfl (hrec0 _ hf))
  exact s_lo [0] rfl (k7 _ _ hf)
def f_X12_fault (N : pN) (I : pI) (P : pR) (a0 : Nat) (x1 : Int32) : Option Int32 :=
  (if x1 = 0 then
    Option.bind (P a0 0) fun q5 =>
    p_ck (p_ib N q5 9) <|
    some (I q5 (Int32.toNatClampNeg 9))
  else
    (if x1 = 1 then
      Option.bind (P a0 0) fun q1 =>
      p_ck (p_ib N q1 10) <|
      some (I q1 (Int32.toNatClampNeg 10))
    else
      some (-1)))
theorem c_X12_fault {G : pG} {d : Nat} {N : pN} {I : pI} {L : pL} {P : pR} {a0 : Nat} {x1 : Int32} {qq : Int32} (hd : 0 ≤ d) (hW : WT N P) (ha0 : p_tp N a0 15) (hf : f_X12_fault N I P a0 x1 = some qq) : MT G mX12_fault d 0 0 [.ref a0, .int x1] N I L P (p_R (some (.int qq)) N I L P) := by
  refine MT.of rfl (Nat.le_of_ble_eq_true rfl) ?_
  show SW G mX12_fault (p_rm d 0 0) 0 0 0 0 (p_R (some (.int qq)) N I L P) 0 [(0, .ref a0), (1, .int x1)] [] N I L P
  unfold f_X12_fault at hf
  refine s_iload_n (pc := 0) dX12_fault_0 1 rfl rfl ?_
  refine s_if_ne (pc := 1) (tgt := 14) dX12_fault_1 rfl (fun hc => ?_) (fun hc => ?_)
  · replace hf := p_ng hf hc
    refine s_iload_n (pc := 14) dX12_fault_14 1 rfl rfl ?_
    refine s_iconst (pc := 15) dX12_fault_15 (v := 1) rfl ?_
    refine s_icmp_ne (pc := 16) (tgt := 29) dX12_fault_16 rfl (fun hc => ?_) (fun hc => ?_)
    · replace hf := p_ng hf hc
      refine s_iconst (pc := 29) dX12_fault_29 (v := -1) rfl ?_
      cases hf
      exact s_ireturn (pc := 30) dX12_fault_30 rfl rfl ⟨rfl, rfl, rfl, rfl, rfl⟩
    · replace hf := p_ps hf hc
      refine s_aload_n (pc := 19) dX12_fault_19 0 rfl rfl ?_
      obtain ⟨q1, h2, hf⟩ := p_bd hf
      have t3 : p_tp N q1 0 := WT.get hW ha0 h2
      refine x_getR (pc := 20) dX12_fault_20 fl_X12_7 rfl ha0 h2 ?_
      refine s_bipush (pc := 23) dX12_fault_23 (v := 10) rfl ?_
      obtain ⟨c4, hf⟩ := p_ckx hf
      refine x_iald (pc := 25) dX12_fault_25 t3 c4 ?_
      refine s_goto (pc := 26) (tgt := 30) dX12_fault_26 rfl ?_
      cases hf
      exact s_ireturn (pc := 30) dX12_fault_30 rfl rfl ⟨rfl, rfl, rfl, rfl, rfl⟩
  · replace hf := p_ps hf hc
    refine s_aload_n (pc := 4) dX12_fault_4 0 rfl rfl ?_
    obtain ⟨q5, h6, hf⟩ := p_bd hf
    have t7 : p_tp N q5 0 := WT.get hW ha0 h6
    refine x_getR (pc := 5) dX12_fault_5 fl_X12_7 rfl ha0 h6 ?_
    refine s_bipush (pc := 8) dX12_fault_8 (v := 9) rfl ?_
    obtain ⟨c8, hf⟩ := p_ckx hf
    refine x_iald (pc := 10) dX12_fault_10 t7 c8 ?_
    refine s_goto (pc := 11) (tgt := 30) dX12_fault_11 rfl ?_
    cases hf
    exact s_ireturn (pc := 30) dX12_fault_30 rfl rfl ⟨rfl, rfl, rfl, rfl, rfl⟩
def B_X12_isAlone_4 (N : pN) (I : pI) (P : pR) (a0 : Nat) (x1 : Int32) (rec0 : (Int32 × Int32) → Option Int32) (s0 : Int32 × Int32) : Option Int32 :=
  Option.bind (P a0 0) fun q3 =>
  p_ck (p_ib N q3 1) <|
  (if (I q3 (Int32.toNatClampNeg 1)) ≤ s0.2 then
    some s0.1
  else
    Option.bind (α := Int32) ((if s0.1 = 0 then
      some 0
    else
      (if s0.2 = x1 then
        some 1
      else
        Option.bind (f_X12_seesSender N I P a0 s0.2) fun q9 =>
        (if q9 = 0 then
          some 1
        else
          Option.bind (f_X12_senderOf N I P a0 s0.2 2) fun q11 =>
          Option.bind (f_X12_senderOf N I P a0 x1 2) fun q13 =>
          (if q11 = q13 then
            some 0
          else
            some 1))))) fun t7 =>
    rec0 (t7, s0.2 + 1))
def f_X12_isAlone (n : Nat) (N : pN) (I : pI) (P : pR) (a0 : Nat) (x1 : Int32) : Option Int32 :=
  Option.bind (p_it (B_X12_isAlone_4 N I P a0 x1) n (1, 0)) fun t1 =>
  p_ck (decide (t1 = 0 ∨ t1 = 1)) <|
  some t1
theorem c_X12_isAlone {G : pG} {d : Nat} {n : Nat} {N : pN} {I : pI} {L : pL} {P : pR} {a0 : Nat} {x1 : Int32} {qq : Int32} (hd : 3 ≤ d) (hW : WT N P) (ha0 : p_tp N a0 15) (hf : f_X12_isAlone n N I P a0 x1 = some qq) : MT G mX12_isAlone d 0 0 [.ref a0, .int x1] N I L P (p_R (some (.int qq)) N I L P) := by
  refine MT.of rfl (Nat.le_of_ble_eq_true rfl) ?_
  show SW G mX12_isAlone (p_rm d 0 0) 0 0 0 0 (p_R (some (.int qq)) N I L P) 0 [(0, .ref a0), (1, .int x1)] [] N I L P
  unfold f_X12_isAlone at hf
  refine s_iconst (pc := 0) dX12_isAlone_0 (v := 1) rfl ?_
  refine s_istore_n (pc := 1) dX12_isAlone_1 rfl (Nat.le_of_ble_eq_true rfl) rfl ?_
  refine s_iconst (pc := 2) dX12_isAlone_2 (v := 0) rfl ?_
  refine s_istore_n (pc := 3) dX12_isAlone_3 rfl (Nat.le_of_ble_eq_true rfl) rfl ?_
  obtain ⟨t1, hg, hf⟩ := p_bd hf
  have k2 : SW G mX12_isAlone (p_rm d 0 0) 0 0 0 0 (p_R (some (.int qq)) N I L P) 58 [(2, .int t1)] [] N I L P := by
    refine s_iload_n (pc := 58) dX12_isAlone_58 0 rfl rfl ?_
    obtain ⟨c28, hf⟩ := p_ckx hf
    cases hf
    exact s_ireturn (pc := 59) dX12_isAlone_59 rfl (p_nr (of_decide_eq_true c28)) ⟨rfl, rfl, rfl, rfl, rfl⟩
  replace hf := hg
  have k15 : ∀ (k : Nat) (s0 : Int32 × Int32), p_it (B_X12_isAlone_4 N I P a0 x1) k s0 = some t1 → (SW G mX12_isAlone (p_rm d 0 0) 0 0 0 0 (p_R (some (.int qq)) N I L P) 4 [(0, .ref a0), (1, .int x1), (2, .int s0.1), (3, .int s0.2)] [] N I L P) := p_it_ind (C := fun (s0 : Int32 × Int32) => SW G mX12_isAlone (p_rm d 0 0) 0 0 0 0 (p_R (some (.int qq)) N I L P) 4 [(0, .ref a0), (1, .int x1), (2, .int s0.1), (3, .int s0.2)] [] N I L P) (by
    intro rec0 hrec0 s0 hf
    unfold B_X12_isAlone_4 at hf
    refine s_iload_n (pc := 4) dX12_isAlone_4 3 rfl rfl ?_
    refine s_aload_n (pc := 5) dX12_isAlone_5 0 rfl rfl ?_
    obtain ⟨q16, h17, hf⟩ := p_bd hf
    have t18 : p_tp N q16 0 := WT.get hW ha0 h17
    refine x_getR (pc := 6) dX12_isAlone_6 fl_X12_7 rfl ha0 h17 ?_
    refine s_iconst (pc := 9) dX12_isAlone_9 (v := 1) rfl ?_
    obtain ⟨c19, hf⟩ := p_ckx hf
    refine x_iald (pc := 10) dX12_isAlone_10 t18 c19 ?_
    refine s_icmp_ge (pc := 11) (tgt := 58) dX12_isAlone_11 rfl (fun hc => ?_) (fun hc => ?_)
    · replace hf := p_ps hf hc
      cases hf
      exact s_lo [2] rfl (k2)
    · replace hf := p_ng hf hc
      refine s_iload_n (pc := 14) dX12_isAlone_14 2 rfl rfl ?_
      obtain ⟨t20, hg, hf⟩ := p_bd hf
      have k21 : SW G mX12_isAlone (p_rm d 0 0) 0 0 0 0 (p_R (some (.int qq)) N I L P) 51 [(0, .ref a0), (1, .int x1), (3, .int s0.2)] [.int t20] N I L P := by
        refine s_istore_n (pc := 51) dX12_isAlone_51 rfl (Nat.le_of_ble_eq_true rfl) rfl ?_
        refine s_iinc (pc := 52) dX12_isAlone_52 3 rfl (v := s0.2 + 1) rfl (Nat.le_of_ble_eq_true rfl) rfl ?_
        refine s_goto (pc := 55) (tgt := 4) dX12_isAlone_55 rfl ?_
        exact s_lo [2, 3, 1, 0] rfl (hrec0 _ hf)
      replace hf := hg
      refine s_if_eq (pc := 15) (tgt := 50) dX12_isAlone_15 rfl (fun hc => ?_) (fun hc => ?_)
      · replace hf := p_ps hf hc
        refine s_iconst (pc := 50) dX12_isAlone_50 (v := 0) rfl ?_
        cases hf
        exact s_lo [0, 1, 3] rfl (k21)
      · replace hf := p_ng hf hc
        refine s_iload_n (pc := 18) dX12_isAlone_18 3 rfl rfl ?_
        refine s_iload_n (pc := 19) dX12_isAlone_19 1 rfl rfl ?_
        refine s_icmp_eq (pc := 20) (tgt := 46) dX12_isAlone_20 rfl (fun hc => ?_) (fun hc => ?_)
        · replace hf := p_ps hf hc
          refine s_iconst (pc := 46) dX12_isAlone_46 (v := 1) rfl ?_
          refine s_goto (pc := 47) (tgt := 51) dX12_isAlone_47 rfl ?_
          cases hf
          exact s_lo [0, 1, 3] rfl (k21)
        · replace hf := p_ng hf hc
          refine s_aload_n (pc := 23) dX12_isAlone_23 0 rfl rfl ?_
          refine s_iload_n (pc := 24) dX12_isAlone_24 3 rfl rfl ?_
          obtain ⟨q22, h23, hf⟩ := p_bd hf
          refine y_callV1 (pc := 25) dX12_isAlone_25 (c_X12_seesSender (p_dd hd (by decide)) hW ha0 h23) mk_X12_seesSender mv_X12_seesSender ml_X12_215 rfl rfl (Nat.le_of_ble_eq_true rfl) ha0 rfl (p_d1 hd (by decide)) (Nat.le_of_ble_eq_true rfl) ?_
          refine s_if_eq (pc := 28) (tgt := 46) dX12_isAlone_28 rfl (fun hc => ?_) (fun hc => ?_)
          · replace hf := p_ps hf hc
            refine s_iconst (pc := 46) dX12_isAlone_46 (v := 1) rfl ?_
            refine s_goto (pc := 47) (tgt := 51) dX12_isAlone_47 rfl ?_
            cases hf
            exact s_lo [0, 1, 3] rfl (k21)
          · replace hf := p_ng hf hc
            refine s_aload_n (pc := 31) dX12_isAlone_31 0 rfl rfl ?_
            refine s_iload_n (pc := 32) dX12_isAlone_32 3 rfl rfl ?_
            refine s_iconst (pc := 33) dX12_isAlone_33 (v := 2) rfl ?_
            obtain ⟨q24, h25, hf⟩ := p_bd hf
            refine y_callV1 (pc := 34) dX12_isAlone_34 (c_X12_senderOf (p_dd hd (by decide)) hW ha0 h25) mk_X12_senderOf mv_X12_senderOf ml_X12_83 rfl rfl (Nat.le_of_ble_eq_true rfl) ha0 rfl (p_d1 hd (by decide)) (Nat.le_of_ble_eq_true rfl) ?_
            refine s_aload_n (pc := 37) dX12_isAlone_37 0 rfl rfl ?_
            refine s_iload_n (pc := 38) dX12_isAlone_38 1 rfl rfl ?_
            refine s_iconst (pc := 39) dX12_isAlone_39 (v := 2) rfl ?_
            obtain ⟨q26, h27, hf⟩ := p_bd hf
            refine y_callV1 (pc := 40) dX12_isAlone_40 (c_X12_senderOf (p_dd hd (by decide)) hW ha0 h27) mk_X12_senderOf mv_X12_senderOf ml_X12_83 rfl rfl (Nat.le_of_ble_eq_true rfl) ha0 rfl (p_d1 hd (by decide)) (Nat.le_of_ble_eq_true rfl) ?_
            refine s_icmp_eq (pc := 43) (tgt := 50) dX12_isAlone_43 rfl (fun hc => ?_) (fun hc => ?_)
            · replace hf := p_ps hf hc
              refine s_iconst (pc := 50) dX12_isAlone_50 (v := 0) rfl ?_
              cases hf
              exact s_lo [0, 1, 3] rfl (k21)
            · replace hf := p_ng hf hc
              refine s_iconst (pc := 46) dX12_isAlone_46 (v := 1) rfl ?_
              refine s_goto (pc := 47) (tgt := 51) dX12_isAlone_47 rfl ?_
              cases hf
              exact s_lo [0, 1, 3] rfl (k21))
  exact s_lo [2, 3, 1, 0] rfl (k15 _ _ hf)
def B_X12_greatest_4 (n : Nat) (N : pN) (P : pR) (a0 : Nat) (x1 : Int32) (rec0 : (Int32 × Int32 × pI × pL) → Option (Int32 × pI × pL)) (s0 : Int32 × Int32 × pI × pL) : Option (Int32 × pI × pL) :=
  Option.bind (P a0 0) fun q3 =>
  p_ck (p_ib N q3 3) <|
  (if (s0.2.2.1 q3 (Int32.toNatClampNeg 3)) ≤ s0.2.1 then
    some (s0.1, s0.2.2.1, s0.2.2.2)
  else
    Option.bind (P a0 0) fun q7 =>
    p_ck (p_ib N q7 (202 + (2 * s0.2.1))) <|
    Option.bind (P a0 0) fun q11 =>
    p_ck (p_ib N q11 ((202 + (2 * s0.2.1)) + 1)) <|
    Option.bind (f_X12_signalOf n N s0.2.2.1 s0.2.2.2 P a0 x1 (s0.2.2.1 q7 (Int32.toNatClampNeg (202 + (2 * s0.2.1)))) (s0.2.2.1 q11 (Int32.toNatClampNeg ((202 + (2 * s0.2.1)) + 1)))) fun q15 =>
    p_let (α := Int32) ((if q15.1 ≤ s0.1 then
      s0.1
    else
      q15.1)) fun t17 =>
    rec0 (t17, s0.2.1 + 1, q15.2.1, q15.2.2))
def f_X12_greatest (n : Nat) (N : pN) (I : pI) (L : pL) (P : pR) (a0 : Nat) (x1 : Int32) : Option (Int32 × pI × pL) :=
  Option.bind (p_it (B_X12_greatest_4 n N P a0 x1) n (0, 0, I, L)) fun t1 =>
  (if 9999 ≤ t1.1 then
    some (9999, t1.2.1, t1.2.2)
  else
    some (t1.1, t1.2.1, t1.2.2))
theorem c_X12_greatest {G : pG} {d : Nat} {n : Nat} {N : pN} {I : pI} {L : pL} {P : pR} {a0 : Nat} {x1 : Int32} {qq : Int32 × pI × pL} (hd : 8 ≤ d) (hW : WT N P) (ha0 : p_tp N a0 15) (hf : f_X12_greatest n N I L P a0 x1 = some qq) : MT G mX12_greatest d 0 0 [.ref a0, .int x1] N I L P (p_R (some (.int qq.1)) N qq.2.1 qq.2.2 P) := by
  refine MT.of rfl (Nat.le_of_ble_eq_true rfl) ?_
  show SW G mX12_greatest (p_rm d 0 0) 0 0 0 0 (p_R (some (.int qq.1)) N qq.2.1 qq.2.2 P) 0 [(0, .ref a0), (1, .int x1)] [] N I L P
  unfold f_X12_greatest at hf
  refine s_iconst (pc := 0) dX12_greatest_0 (v := 0) rfl ?_
  refine s_istore_n (pc := 1) dX12_greatest_1 rfl (Nat.le_of_ble_eq_true rfl) rfl ?_
  refine s_iconst (pc := 2) dX12_greatest_2 (v := 0) rfl ?_
  refine s_istore_n (pc := 3) dX12_greatest_3 rfl (Nat.le_of_ble_eq_true rfl) rfl ?_
  obtain ⟨t1, hg, hf⟩ := p_bd hf
  have k2 : SW G mX12_greatest (p_rm d 0 0) 0 0 0 0 (p_R (some (.int qq.1)) N qq.2.1 qq.2.2 P) 66 [(2, .int t1.1)] [] N t1.2.1 t1.2.2 P := by
    refine s_iload_n (pc := 66) dX12_greatest_66 0 rfl rfl ?_
    refine s_sipush (pc := 67) dX12_greatest_67 (v := 9999) rfl ?_
    refine s_icmp_ge (pc := 70) (tgt := 77) dX12_greatest_70 rfl (fun hc => ?_) (fun hc => ?_)
    · replace hf := p_ps hf hc
      refine s_sipush (pc := 77) dX12_greatest_77 (v := 9999) rfl ?_
      cases hf
      exact s_ireturn (pc := 80) dX12_greatest_80 rfl rfl ⟨rfl, rfl, rfl, rfl, rfl⟩
    · replace hf := p_ng hf hc
      refine s_iload_n (pc := 73) dX12_greatest_73 0 rfl rfl ?_
      refine s_goto (pc := 74) (tgt := 80) dX12_greatest_74 rfl ?_
      cases hf
      exact s_ireturn (pc := 80) dX12_greatest_80 rfl rfl ⟨rfl, rfl, rfl, rfl, rfl⟩
  replace hf := hg
  have k19 : ∀ (k : Nat) (s0 : Int32 × Int32 × pI × pL), p_it (B_X12_greatest_4 n N P a0 x1) k s0 = some t1 → (SW G mX12_greatest (p_rm d 0 0) 0 0 0 0 (p_R (some (.int qq.1)) N qq.2.1 qq.2.2 P) 4 [(0, .ref a0), (1, .int x1), (2, .int s0.1), (3, .int s0.2.1)] [] N s0.2.2.1 s0.2.2.2 P) := p_it_ind (C := fun (s0 : Int32 × Int32 × pI × pL) => SW G mX12_greatest (p_rm d 0 0) 0 0 0 0 (p_R (some (.int qq.1)) N qq.2.1 qq.2.2 P) 4 [(0, .ref a0), (1, .int x1), (2, .int s0.1), (3, .int s0.2.1)] [] N s0.2.2.1 s0.2.2.2 P) (by
    intro rec0 hrec0 s0 hf
    unfold B_X12_greatest_4 at hf
    refine s_iload_n (pc := 4) dX12_greatest_4 3 rfl rfl ?_
    refine s_aload_n (pc := 5) dX12_greatest_5 0 rfl rfl ?_
    obtain ⟨q20, h21, hf⟩ := p_bd hf
    have t22 : p_tp N q20 0 := WT.get hW ha0 h21
    refine x_getR (pc := 6) dX12_greatest_6 fl_X12_7 rfl ha0 h21 ?_
    refine s_iconst (pc := 9) dX12_greatest_9 (v := 3) rfl ?_
    obtain ⟨c23, hf⟩ := p_ckx hf
    refine x_iald (pc := 10) dX12_greatest_10 t22 c23 ?_
    refine s_icmp_ge (pc := 11) (tgt := 66) dX12_greatest_11 rfl (fun hc => ?_) (fun hc => ?_)
    · replace hf := p_ps hf hc
      cases hf
      exact s_lo [2] rfl (k2)
    · replace hf := p_ng hf hc
      refine s_aload_n (pc := 14) dX12_greatest_14 0 rfl rfl ?_
      refine s_iload_n (pc := 15) dX12_greatest_15 1 rfl rfl ?_
      refine s_aload_n (pc := 16) dX12_greatest_16 0 rfl rfl ?_
      obtain ⟨q24, h25, hf⟩ := p_bd hf
      have t26 : p_tp N q24 0 := WT.get hW ha0 h25
      refine x_getR (pc := 17) dX12_greatest_17 fl_X12_7 rfl ha0 h25 ?_
      refine s_sipush (pc := 20) dX12_greatest_20 (v := 202) rfl ?_
      refine s_iconst (pc := 23) dX12_greatest_23 (v := 2) rfl ?_
      refine s_iload_n (pc := 24) dX12_greatest_24 3 rfl rfl ?_
      refine s_imul (pc := 25) dX12_greatest_25 ?_
      refine s_iadd (pc := 26) dX12_greatest_26 ?_
      obtain ⟨c27, hf⟩ := p_ckx hf
      refine x_iald (pc := 27) dX12_greatest_27 t26 c27 ?_
      refine s_aload_n (pc := 28) dX12_greatest_28 0 rfl rfl ?_
      obtain ⟨q28, h29, hf⟩ := p_bd hf
      have t30 : p_tp N q28 0 := WT.get hW ha0 h29
      refine x_getR (pc := 29) dX12_greatest_29 fl_X12_7 rfl ha0 h29 ?_
      refine s_sipush (pc := 32) dX12_greatest_32 (v := 202) rfl ?_
      refine s_iconst (pc := 35) dX12_greatest_35 (v := 2) rfl ?_
      refine s_iload_n (pc := 36) dX12_greatest_36 3 rfl rfl ?_
      refine s_imul (pc := 37) dX12_greatest_37 ?_
      refine s_iadd (pc := 38) dX12_greatest_38 ?_
      refine s_iconst (pc := 39) dX12_greatest_39 (v := 1) rfl ?_
      refine s_iadd (pc := 40) dX12_greatest_40 ?_
      obtain ⟨c31, hf⟩ := p_ckx hf
      refine x_iald (pc := 41) dX12_greatest_41 t30 c31 ?_
      obtain ⟨q32, h33, hf⟩ := p_bd hf
      refine y_callV1 (pc := 42) dX12_greatest_42 (c_X12_signalOf (p_dd hd (by decide)) hW ha0 h33) mk_X12_signalOf mv_X12_signalOf ml_X12_244 rfl rfl (Nat.le_of_ble_eq_true rfl) ha0 rfl (p_d1 hd (by decide)) (Nat.le_of_ble_eq_true rfl) ?_
      refine s_istore (pc := 45) dX12_greatest_45 (Nat.le_of_ble_eq_true rfl) rfl ?_
      refine s_iload (pc := 47) dX12_greatest_47 0 rfl ?_
      refine s_iload_n (pc := 49) dX12_greatest_49 3 rfl rfl ?_
      obtain ⟨t34, hg, hf⟩ := p_lx2 hf
      have k35 : SW G mX12_greatest (p_rm d 0 0) 0 0 0 0 (p_R (some (.int qq.1)) N qq.2.1 qq.2.2 P) 59 [(0, .ref a0), (1, .int x1), (3, .int s0.2.1)] [.int t34] N q32.2.1 q32.2.2 P := by
        refine s_istore_n (pc := 59) dX12_greatest_59 rfl (Nat.le_of_ble_eq_true rfl) rfl ?_
        refine s_iinc (pc := 60) dX12_greatest_60 3 rfl (v := s0.2.1 + 1) rfl (Nat.le_of_ble_eq_true rfl) rfl ?_
        refine s_goto (pc := 63) (tgt := 4) dX12_greatest_63 rfl ?_
        exact s_lo [2, 3, 1, 0] rfl (hrec0 _ hf)
      replace hf := hg.symm
      refine s_icmp_le (pc := 50) (tgt := 58) dX12_greatest_50 rfl (fun hc => ?_) (fun hc => ?_)
      · replace hf := p_ps hf hc
        refine s_iload_n (pc := 58) dX12_greatest_58 3 rfl rfl ?_
        cases hf
        exact s_lo [1, 2, 4] rfl (k35)
      · replace hf := p_ng hf hc
        refine s_iload (pc := 53) dX12_greatest_53 0 rfl ?_
        refine s_goto (pc := 55) (tgt := 59) dX12_greatest_55 rfl ?_
        cases hf
        exact s_lo [1, 2, 4] rfl (k35))
  exact s_lo [2, 3, 1, 0] rfl (k19 _ _ hf)
def f_X12_asked (n : Nat) (N : pN) (I : pI) (L : pL) (P : pR) (a0 : Nat) (x1 : Int32) (x2 : Int32) (x3 : Int32) : Option (Int32 × pI × pL) :=
  (if x1 = 10 then
    Option.bind (f_X12_isAlone n N I P a0 x2) fun q13 =>
    (if q13 = 0 then
      some (0, I, L)
    else
      some (1, I, L))
  else
    (if x1 = 11 then
      Option.bind (f_X12_senderOf N I P a0 x2 2) fun q11 =>
      some (q11, I, L)
    else
      (if x1 = 12 then
        Option.bind (f_X12_senderOf N I P a0 x2 3) fun q9 =>
        some (q9, I, L)
      else
        (if x1 = 13 then
          Option.bind (f_X12_senderOf N I P a0 x2 0) fun q7 =>
          some (q7, I, L)
        else
          (if x1 = 14 then
            Option.bind (f_X12_senderOf N I P a0 x2 1) fun q5 =>
            some (q5, I, L)
          else
            (if x1 = 15 then
              some (x3, I, L)
            else
              Option.bind (f_X12_greatest n N I L P a0 x2) fun q3 =>
              some (q3.1, q3.2.1, q3.2.2)))))))
theorem c_X12_asked {G : pG} {d : Nat} {n : Nat} {N : pN} {I : pI} {L : pL} {P : pR} {a0 : Nat} {x1 : Int32} {x2 : Int32} {x3 : Int32} {qq : Int32 × pI × pL} (hd : 9 ≤ d) (hW : WT N P) (ha0 : p_tp N a0 15) (hf : f_X12_asked n N I L P a0 x1 x2 x3 = some qq) : MT G mX12_asked d 0 0 [.ref a0, .int x1, .int x2, .int x3] N I L P (p_R (some (.int qq.1)) N qq.2.1 qq.2.2 P) := by
  refine MT.of rfl (Nat.le_of_ble_eq_true rfl) ?_
  show SW G mX12_asked (p_rm d 0 0) 0 0 0 0 (p_R (some (.int qq.1)) N qq.2.1 qq.2.2 P) 0 [(0, .ref a0), (1, .int x1), (2, .int x2), (3, .int x3)] [] N I L P
  unfold f_X12_asked at hf
  refine s_iload_n (pc := 0) dX12_asked_0 1 rfl rfl ?_
  by_cases hc0 : x1 = 10
  · replace hf := p_ps hf hc0
    refine s_tableIn (pc := 1) (tgt := 40) (off := 39) dX12_asked_1 (by rw [hc0]; decide) (by rw [hc0]; decide) (by rw [hc0]; rfl) rfl ?_
    refine s_aload_n (pc := 40) dX12_asked_40 0 rfl rfl ?_
    refine s_iload_n (pc := 41) dX12_asked_41 2 rfl rfl ?_
    obtain ⟨q13, h14, hf⟩ := p_bd hf
    refine y_callV1 (pc := 42) dX12_asked_42 (c_X12_isAlone (p_dd hd (by decide)) hW ha0 h14) mk_X12_isAlone mv_X12_isAlone ml_X12_405 rfl rfl (Nat.le_of_ble_eq_true rfl) ha0 rfl (p_d1 hd (by decide)) (Nat.le_of_ble_eq_true rfl) ?_
    refine s_if_eq (pc := 45) (tgt := 52) dX12_asked_45 rfl (fun hc => ?_) (fun hc => ?_)
    · replace hf := p_ps hf hc
      refine s_iconst (pc := 52) dX12_asked_52 (v := 0) rfl ?_
      cases hf
      exact s_ireturn (pc := 53) dX12_asked_53 rfl rfl ⟨rfl, rfl, rfl, rfl, rfl⟩
    · replace hf := p_ng hf hc
      refine s_iconst (pc := 48) dX12_asked_48 (v := 1) rfl ?_
      refine s_goto (pc := 49) (tgt := 53) dX12_asked_49 rfl ?_
      cases hf
      exact s_ireturn (pc := 53) dX12_asked_53 rfl rfl ⟨rfl, rfl, rfl, rfl, rfl⟩
  · replace hf := p_ng hf hc0
    by_cases hc1 : x1 = 11
    · replace hf := p_ps hf hc1
      refine s_tableIn (pc := 1) (tgt := 54) (off := 53) dX12_asked_1 (by rw [hc1]; decide) (by rw [hc1]; decide) (by rw [hc1]; rfl) rfl ?_
      refine s_aload_n (pc := 54) dX12_asked_54 0 rfl rfl ?_
      refine s_iload_n (pc := 55) dX12_asked_55 2 rfl rfl ?_
      refine s_iconst (pc := 56) dX12_asked_56 (v := 2) rfl ?_
      obtain ⟨q11, h12, hf⟩ := p_bd hf
      refine y_callV1 (pc := 57) dX12_asked_57 (c_X12_senderOf (p_dd hd (by decide)) hW ha0 h12) mk_X12_senderOf mv_X12_senderOf ml_X12_83 rfl rfl (Nat.le_of_ble_eq_true rfl) ha0 rfl (p_d1 hd (by decide)) (Nat.le_of_ble_eq_true rfl) ?_
      cases hf
      exact s_ireturn (pc := 60) dX12_asked_60 rfl rfl ⟨rfl, rfl, rfl, rfl, rfl⟩
    · replace hf := p_ng hf hc1
      by_cases hc2 : x1 = 12
      · replace hf := p_ps hf hc2
        refine s_tableIn (pc := 1) (tgt := 61) (off := 60) dX12_asked_1 (by rw [hc2]; decide) (by rw [hc2]; decide) (by rw [hc2]; rfl) rfl ?_
        refine s_aload_n (pc := 61) dX12_asked_61 0 rfl rfl ?_
        refine s_iload_n (pc := 62) dX12_asked_62 2 rfl rfl ?_
        refine s_iconst (pc := 63) dX12_asked_63 (v := 3) rfl ?_
        obtain ⟨q9, h10, hf⟩ := p_bd hf
        refine y_callV1 (pc := 64) dX12_asked_64 (c_X12_senderOf (p_dd hd (by decide)) hW ha0 h10) mk_X12_senderOf mv_X12_senderOf ml_X12_83 rfl rfl (Nat.le_of_ble_eq_true rfl) ha0 rfl (p_d1 hd (by decide)) (Nat.le_of_ble_eq_true rfl) ?_
        cases hf
        exact s_ireturn (pc := 67) dX12_asked_67 rfl rfl ⟨rfl, rfl, rfl, rfl, rfl⟩
      · replace hf := p_ng hf hc2
        by_cases hc3 : x1 = 13
        · replace hf := p_ps hf hc3
          refine s_tableIn (pc := 1) (tgt := 68) (off := 67) dX12_asked_1 (by rw [hc3]; decide) (by rw [hc3]; decide) (by rw [hc3]; rfl) rfl ?_
          refine s_aload_n (pc := 68) dX12_asked_68 0 rfl rfl ?_
          refine s_iload_n (pc := 69) dX12_asked_69 2 rfl rfl ?_
          refine s_iconst (pc := 70) dX12_asked_70 (v := 0) rfl ?_
          obtain ⟨q7, h8, hf⟩ := p_bd hf
          refine y_callV1 (pc := 71) dX12_asked_71 (c_X12_senderOf (p_dd hd (by decide)) hW ha0 h8) mk_X12_senderOf mv_X12_senderOf ml_X12_83 rfl rfl (Nat.le_of_ble_eq_true rfl) ha0 rfl (p_d1 hd (by decide)) (Nat.le_of_ble_eq_true rfl) ?_
          cases hf
          exact s_ireturn (pc := 74) dX12_asked_74 rfl rfl ⟨rfl, rfl, rfl, rfl, rfl⟩
        · replace hf := p_ng hf hc3
          by_cases hc4 : x1 = 14
          · replace hf := p_ps hf hc4
            refine s_tableIn (pc := 1) (tgt := 75) (off := 74) dX12_asked_1 (by rw [hc4]; decide) (by rw [hc4]; decide) (by rw [hc4]; rfl) rfl ?_
            refine s_aload_n (pc := 75) dX12_asked_75 0 rfl rfl ?_
            refine s_iload_n (pc := 76) dX12_asked_76 2 rfl rfl ?_
            refine s_iconst (pc := 77) dX12_asked_77 (v := 1) rfl ?_
            obtain ⟨q5, h6, hf⟩ := p_bd hf
            refine y_callV1 (pc := 78) dX12_asked_78 (c_X12_senderOf (p_dd hd (by decide)) hW ha0 h6) mk_X12_senderOf mv_X12_senderOf ml_X12_83 rfl rfl (Nat.le_of_ble_eq_true rfl) ha0 rfl (p_d1 hd (by decide)) (Nat.le_of_ble_eq_true rfl) ?_
            cases hf
            exact s_ireturn (pc := 81) dX12_asked_81 rfl rfl ⟨rfl, rfl, rfl, rfl, rfl⟩
          · replace hf := p_ng hf hc4
            by_cases hc5 : x1 = 15
            · replace hf := p_ps hf hc5
              refine s_tableIn (pc := 1) (tgt := 82) (off := 81) dX12_asked_1 (by rw [hc5]; decide) (by rw [hc5]; decide) (by rw [hc5]; rfl) rfl ?_
              refine s_iload_n (pc := 82) dX12_asked_82 3 rfl rfl ?_
              cases hf
              exact s_ireturn (pc := 83) dX12_asked_83 rfl rfl ⟨rfl, rfl, rfl, rfl, rfl⟩
            · replace hf := p_ng hf hc5
              have hout : x1.toInt < 10 ∨ 15 < x1.toInt := p_out (fun i h1 h2 => by
                have hh : i = 10 ∨ i = 11 ∨ i = 12 ∨ i = 13 ∨ i = 14 ∨ i = 15 := by omega
                rcases hh with rfl | rfl | rfl | rfl | rfl | rfl
                · exact p_ne hc0 rfl
                · exact p_ne hc1 rfl
                · exact p_ne hc2 rfl
                · exact p_ne hc3 rfl
                · exact p_ne hc4 rfl
                · exact p_ne hc5 rfl)
              refine s_tableOut (pc := 1) (tgt := 84) dX12_asked_1 hout rfl ?_
              refine s_aload_n (pc := 84) dX12_asked_84 0 rfl rfl ?_
              refine s_iload_n (pc := 85) dX12_asked_85 2 rfl rfl ?_
              obtain ⟨q3, h4, hf⟩ := p_bd hf
              refine y_callV1 (pc := 86) dX12_asked_86 (c_X12_greatest (p_dd hd (by decide)) hW ha0 h4) mk_X12_greatest mv_X12_greatest ml_X12_408 rfl rfl (Nat.le_of_ble_eq_true rfl) ha0 rfl (p_d1 hd (by decide)) (Nat.le_of_ble_eq_true rfl) ?_
              cases hf
              exact s_ireturn (pc := 89) dX12_asked_89 rfl rfl ⟨rfl, rfl, rfl, rfl, rfl⟩
def B_X12_holds_6 (n : Nat) (N : pN) (P : pR) (a0 : Nat) (x1 : Int32) (x2 : Int32) (x3 : Int32) (rec0 : (Int32 × Int32 × pI × pL) → Option (Int32 × pI × pL)) (s0 : Int32 × Int32 × pI × pL) : Option (Int32 × pI × pL) :=
  Option.bind (P a0 0) fun q3 =>
  p_ck (p_ib N q3 x1) <|
  (if (s0.2.2.1 q3 (Int32.toNatClampNeg x1)) ≤ s0.2.1 then
    some (s0.1, s0.2.2.1, s0.2.2.2)
  else
    (if s0.1 = 0 then
      some (s0.1, s0.2.2.1, s0.2.2.2)
    else
      Option.bind (P a0 0) fun q7 =>
      p_ck (p_ib N q7 (((x1 + 1) + (4 * s0.2.1)) + 1)) <|
      Option.bind (f_X12_asked n N s0.2.2.1 s0.2.2.2 P a0 (s0.2.2.1 q7 (Int32.toNatClampNeg (((x1 + 1) + (4 * s0.2.1)) + 1))) x2 x3) fun q11 =>
      Option.bind (P a0 0) fun q13 =>
      p_ck (p_ib N q13 (((x1 + 1) + (4 * s0.2.1)) + 3)) <|
      p_let (q11.2.1 q13 (Int32.toNatClampNeg (((x1 + 1) + (4 * s0.2.1)) + 3))) fun v17 =>
      Option.bind (P a0 0) fun q19 =>
      p_ck (p_ib N q19 (((x1 + 1) + (4 * s0.2.1)) + 2)) <|
      Option.bind (α := Int32) ((if (q11.2.1 q19 (Int32.toNatClampNeg (((x1 + 1) + (4 * s0.2.1)) + 2))) = 60 then
        (if v17 ≤ q11.1 then
          some 0
        else
          some 1)
      else
        Option.bind (P a0 0) fun q25 =>
        p_ck (p_ib N q25 (((x1 + 1) + (4 * s0.2.1)) + 2)) <|
        (if (q11.2.1 q25 (Int32.toNatClampNeg (((x1 + 1) + (4 * s0.2.1)) + 2))) = 62 then
          (if q11.1 ≤ v17 then
            some 0
          else
            some 1)
        else
          (if q11.1 = v17 then
            some 1
          else
            some 0)))) fun t23 =>
      Option.bind (P a0 0) fun q29 =>
      p_ck (p_ib N q29 ((x1 + 1) + (4 * s0.2.1))) <|
      p_let (α := Int32) ((if (q11.2.1 q29 (Int32.toNatClampNeg ((x1 + 1) + (4 * s0.2.1)))) = 1 then
        1
      else
        0)) fun t33 =>
      p_let (α := Int32) ((if t23 = t33 then
        0
      else
        1)) fun t35 =>
      rec0 (t35, s0.2.1 + 1, q11.2.1, q11.2.2)))
def f_X12_holds (n : Nat) (N : pN) (I : pI) (L : pL) (P : pR) (a0 : Nat) (x1 : Int32) (x2 : Int32) (x3 : Int32) : Option (Int32 × pI × pL) :=
  Option.bind (p_it (B_X12_holds_6 n N P a0 x1 x2 x3) n (1, 0, I, L)) fun t1 =>
  p_ck (decide (t1.1 = 0 ∨ t1.1 = 1)) <|
  some (t1.1, t1.2.1, t1.2.2)
theorem c_X12_holds {G : pG} {d : Nat} {n : Nat} {N : pN} {I : pI} {L : pL} {P : pR} {a0 : Nat} {x1 : Int32} {x2 : Int32} {x3 : Int32} {qq : Int32 × pI × pL} (hd : 10 ≤ d) (hW : WT N P) (ha0 : p_tp N a0 15) (hf : f_X12_holds n N I L P a0 x1 x2 x3 = some qq) : MT G mX12_holds d 0 0 [.ref a0, .int x1, .int x2, .int x3] N I L P (p_R (some (.int qq.1)) N qq.2.1 qq.2.2 P) := by
  refine MT.of rfl (Nat.le_of_ble_eq_true rfl) ?_
  show SW G mX12_holds (p_rm d 0 0) 0 0 0 0 (p_R (some (.int qq.1)) N qq.2.1 qq.2.2 P) 0 [(0, .ref a0), (1, .int x1), (2, .int x2), (3, .int x3)] [] N I L P
  unfold f_X12_holds at hf
  refine s_iconst (pc := 0) dX12_holds_0 (v := 1) rfl ?_
  refine s_istore (pc := 1) dX12_holds_1 (Nat.le_of_ble_eq_true rfl) rfl ?_
  refine s_iconst (pc := 3) dX12_holds_3 (v := 0) rfl ?_
  refine s_istore (pc := 4) dX12_holds_4 (Nat.le_of_ble_eq_true rfl) rfl ?_
  obtain ⟨t1, hg, hf⟩ := p_bd hf
  have k2 : SW G mX12_holds (p_rm d 0 0) 0 0 0 0 (p_R (some (.int qq.1)) N qq.2.1 qq.2.2 P) 166 [(4, .int t1.1)] [] N t1.2.1 t1.2.2 P := by
    refine s_iload (pc := 166) dX12_holds_166 0 rfl ?_
    obtain ⟨c72, hf⟩ := p_ckx hf
    cases hf
    exact s_ireturn (pc := 168) dX12_holds_168 rfl (p_nr (of_decide_eq_true c72)) ⟨rfl, rfl, rfl, rfl, rfl⟩
  replace hf := hg
  have k37 : ∀ (k : Nat) (s0 : Int32 × Int32 × pI × pL), p_it (B_X12_holds_6 n N P a0 x1 x2 x3) k s0 = some t1 → (SW G mX12_holds (p_rm d 0 0) 0 0 0 0 (p_R (some (.int qq.1)) N qq.2.1 qq.2.2 P) 6 [(0, .ref a0), (1, .int x1), (2, .int x2), (3, .int x3), (4, .int s0.1), (5, .int s0.2.1)] [] N s0.2.2.1 s0.2.2.2 P) := p_it_ind (C := fun (s0 : Int32 × Int32 × pI × pL) => SW G mX12_holds (p_rm d 0 0) 0 0 0 0 (p_R (some (.int qq.1)) N qq.2.1 qq.2.2 P) 6 [(0, .ref a0), (1, .int x1), (2, .int x2), (3, .int x3), (4, .int s0.1), (5, .int s0.2.1)] [] N s0.2.2.1 s0.2.2.2 P) (by
    intro rec0 hrec0 s0 hf
    unfold B_X12_holds_6 at hf
    refine s_iload (pc := 6) dX12_holds_6 5 rfl ?_
    refine s_aload_n (pc := 8) dX12_holds_8 0 rfl rfl ?_
    obtain ⟨q38, h39, hf⟩ := p_bd hf
    have t40 : p_tp N q38 0 := WT.get hW ha0 h39
    refine x_getR (pc := 9) dX12_holds_9 fl_X12_7 rfl ha0 h39 ?_
    refine s_iload_n (pc := 12) dX12_holds_12 1 rfl rfl ?_
    obtain ⟨c41, hf⟩ := p_ckx hf
    refine x_iald (pc := 13) dX12_holds_13 t40 c41 ?_
    refine s_icmp_ge (pc := 14) (tgt := 166) dX12_holds_14 rfl (fun hc => ?_) (fun hc => ?_)
    · replace hf := p_ps hf hc
      cases hf
      exact s_lo [4] rfl (k2)
    · replace hf := p_ng hf hc
      refine s_iload (pc := 17) dX12_holds_17 4 rfl ?_
      refine s_if_eq (pc := 19) (tgt := 166) dX12_holds_19 rfl (fun hc => ?_) (fun hc => ?_)
      · replace hf := p_ps hf hc
        cases hf
        exact s_lo [4] rfl (k2)
      · replace hf := p_ng hf hc
        refine s_iload_n (pc := 22) dX12_holds_22 1 rfl rfl ?_
        refine s_iconst (pc := 23) dX12_holds_23 (v := 1) rfl ?_
        refine s_iadd (pc := 24) dX12_holds_24 ?_
        refine s_iconst (pc := 25) dX12_holds_25 (v := 4) rfl ?_
        refine s_iload (pc := 26) dX12_holds_26 5 rfl ?_
        refine s_imul (pc := 28) dX12_holds_28 ?_
        refine s_iadd (pc := 29) dX12_holds_29 ?_
        refine s_istore (pc := 30) dX12_holds_30 (Nat.le_of_ble_eq_true rfl) rfl ?_
        refine s_aload_n (pc := 32) dX12_holds_32 1 rfl rfl ?_
        refine s_aload_n (pc := 33) dX12_holds_33 1 rfl rfl ?_
        obtain ⟨q42, h43, hf⟩ := p_bd hf
        have t44 : p_tp N q42 0 := WT.get hW ha0 h43
        refine x_getR (pc := 34) dX12_holds_34 fl_X12_7 rfl ha0 h43 ?_
        refine s_iload (pc := 37) dX12_holds_37 0 rfl ?_
        refine s_iconst (pc := 39) dX12_holds_39 (v := 1) rfl ?_
        refine s_iadd (pc := 40) dX12_holds_40 ?_
        obtain ⟨c45, hf⟩ := p_ckx hf
        refine x_iald (pc := 41) dX12_holds_41 t44 c45 ?_
        refine s_iload_n (pc := 42) dX12_holds_42 3 rfl rfl ?_
        refine s_iload_n (pc := 43) dX12_holds_43 4 rfl rfl ?_
        obtain ⟨q46, h47, hf⟩ := p_bd hf
        refine y_callV1 (pc := 44) dX12_holds_44 (c_X12_asked (p_dd hd (by decide)) hW ha0 h47) mk_X12_asked mv_X12_asked ml_X12_411 rfl rfl (Nat.le_of_ble_eq_true rfl) ha0 rfl (p_d1 hd (by decide)) (Nat.le_of_ble_eq_true rfl) ?_
        refine s_istore (pc := 47) dX12_holds_47 (Nat.le_of_ble_eq_true rfl) rfl ?_
        refine s_aload_n (pc := 49) dX12_holds_49 2 rfl rfl ?_
        obtain ⟨q48, h49, hf⟩ := p_bd hf
        have t50 : p_tp N q48 0 := WT.get hW ha0 h49
        refine x_getR (pc := 50) dX12_holds_50 fl_X12_7 rfl ha0 h49 ?_
        refine s_iload (pc := 53) dX12_holds_53 1 rfl ?_
        refine s_iconst (pc := 55) dX12_holds_55 (v := 3) rfl ?_
        refine s_iadd (pc := 56) dX12_holds_56 ?_
        obtain ⟨c51, hf⟩ := p_ckx hf
        refine x_iald (pc := 57) dX12_holds_57 t50 c51 ?_
        refine s_topi (fun v52 e53 => ?_)
        replace hf := p_lx hf e53
        refine s_istore (pc := 58) dX12_holds_58 (Nat.le_of_ble_eq_true rfl) rfl ?_
        refine s_aload_n (pc := 60) dX12_holds_60 3 rfl rfl ?_
        obtain ⟨q54, h55, hf⟩ := p_bd hf
        have t56 : p_tp N q54 0 := WT.get hW ha0 h55
        refine x_getR (pc := 61) dX12_holds_61 fl_X12_7 rfl ha0 h55 ?_
        refine s_iload (pc := 64) dX12_holds_64 2 rfl ?_
        refine s_iconst (pc := 66) dX12_holds_66 (v := 2) rfl ?_
        refine s_iadd (pc := 67) dX12_holds_67 ?_
        obtain ⟨c57, hf⟩ := p_ckx hf
        refine x_iald (pc := 68) dX12_holds_68 t56 c57 ?_
        refine s_bipush (pc := 69) dX12_holds_69 (v := 60) rfl ?_
        obtain ⟨t58, hg, hf⟩ := p_bd hf
        have k59 : SW G mX12_holds (p_rm d 0 0) 0 0 0 0 (p_R (some (.int qq.1)) N qq.2.1 qq.2.2 P) 130 [(6, .int ((x1 + 1) + (4 * s0.2.1))), (0, .ref a0), (1, .int x1), (2, .int x2), (3, .int x3), (5, .int s0.2.1)] [.int t58] N q46.2.1 q46.2.2 P := by
          refine s_istore (pc := 130) dX12_holds_130 (Nat.le_of_ble_eq_true rfl) rfl ?_
          refine s_iload (pc := 132) dX12_holds_132 0 rfl ?_
          refine s_aload_n (pc := 134) dX12_holds_134 2 rfl rfl ?_
          obtain ⟨q64, h65, hf⟩ := p_bd hf
          have t66 : p_tp N q64 0 := WT.get hW ha0 h65
          refine x_getR (pc := 135) dX12_holds_135 fl_X12_7 rfl ha0 h65 ?_
          refine s_iload (pc := 138) dX12_holds_138 1 rfl ?_
          obtain ⟨c67, hf⟩ := p_ckx hf
          refine x_iald (pc := 140) dX12_holds_140 t66 c67 ?_
          refine s_iconst (pc := 141) dX12_holds_141 (v := 1) rfl ?_
          obtain ⟨t68, hg, hf⟩ := p_lx2 hf
          have k69 : SW G mX12_holds (p_rm d 0 0) 0 0 0 0 (p_R (some (.int qq.1)) N qq.2.1 qq.2.2 P) 150 [(0, .ref a0), (1, .int x1), (2, .int x2), (3, .int x3), (5, .int s0.2.1)] [.int t68, .int t58] N q46.2.1 q46.2.2 P := by
            obtain ⟨t70, hg, hf⟩ := p_lx2 hf
            have k71 : SW G mX12_holds (p_rm d 0 0) 0 0 0 0 (p_R (some (.int qq.1)) N qq.2.1 qq.2.2 P) 158 [(0, .ref a0), (1, .int x1), (2, .int x2), (3, .int x3), (5, .int s0.2.1)] [.int t70] N q46.2.1 q46.2.2 P := by
              refine s_istore (pc := 158) dX12_holds_158 (Nat.le_of_ble_eq_true rfl) rfl ?_
              refine s_iinc (pc := 160) dX12_holds_160 5 rfl (v := s0.2.1 + 1) rfl (Nat.le_of_ble_eq_true rfl) rfl ?_
              refine s_goto (pc := 163) (tgt := 6) dX12_holds_163 rfl ?_
              exact s_lo [2, 3, 4, 5, 1, 0] rfl (hrec0 _ hf)
            replace hf := hg.symm
            refine s_icmp_eq (pc := 150) (tgt := 157) dX12_holds_150 rfl (fun hc => ?_) (fun hc => ?_)
            · replace hf := p_ps hf hc
              refine s_iconst (pc := 157) dX12_holds_157 (v := 0) rfl ?_
              cases hf
              exact s_lo [0, 1, 2, 3, 4] rfl (k71)
            · replace hf := p_ng hf hc
              refine s_iconst (pc := 153) dX12_holds_153 (v := 1) rfl ?_
              refine s_goto (pc := 154) (tgt := 158) dX12_holds_154 rfl ?_
              cases hf
              exact s_lo [0, 1, 2, 3, 4] rfl (k71)
          replace hf := hg.symm
          refine s_icmp_ne (pc := 142) (tgt := 149) dX12_holds_142 rfl (fun hc => ?_) (fun hc => ?_)
          · replace hf := p_ng hf hc
            refine s_iconst (pc := 149) dX12_holds_149 (v := 0) rfl ?_
            cases hf
            exact s_lo [2, 3, 4, 5, 6] rfl (k69)
          · replace hf := p_ps hf hc
            refine s_iconst (pc := 145) dX12_holds_145 (v := 1) rfl ?_
            refine s_goto (pc := 146) (tgt := 150) dX12_holds_146 rfl ?_
            cases hf
            exact s_lo [2, 3, 4, 5, 6] rfl (k69)
        replace hf := hg
        refine s_icmp_ne (pc := 71) (tgt := 89) dX12_holds_71 rfl (fun hc => ?_) (fun hc => ?_)
        · replace hf := p_ng hf hc
          refine s_aload_n (pc := 89) dX12_holds_89 3 rfl rfl ?_
          obtain ⟨q60, h61, hf⟩ := p_bd hf
          have t62 : p_tp N q60 0 := WT.get hW ha0 h61
          refine x_getR (pc := 90) dX12_holds_90 fl_X12_7 rfl ha0 h61 ?_
          refine s_iload (pc := 93) dX12_holds_93 2 rfl ?_
          refine s_iconst (pc := 95) dX12_holds_95 (v := 2) rfl ?_
          refine s_iadd (pc := 96) dX12_holds_96 ?_
          obtain ⟨c63, hf⟩ := p_ckx hf
          refine x_iald (pc := 97) dX12_holds_97 t62 c63 ?_
          refine s_bipush (pc := 98) dX12_holds_98 (v := 62) rfl ?_
          refine s_icmp_ne (pc := 100) (tgt := 118) dX12_holds_100 rfl (fun hc => ?_) (fun hc => ?_)
          · replace hf := p_ng hf hc
            refine s_iload (pc := 118) dX12_holds_118 1 rfl ?_
            refine s_iload (pc := 120) dX12_holds_120 0 rfl ?_
            refine s_icmp_ne (pc := 122) (tgt := 129) dX12_holds_122 rfl (fun hc => ?_) (fun hc => ?_)
            · replace hf := p_ng hf hc
              refine s_iconst (pc := 129) dX12_holds_129 (v := 0) rfl ?_
              cases hf
              exact s_lo [2, 3, 4, 5, 6, 8] rfl (k59)
            · replace hf := p_ps hf hc
              refine s_iconst (pc := 125) dX12_holds_125 (v := 1) rfl ?_
              refine s_goto (pc := 126) (tgt := 130) dX12_holds_126 rfl ?_
              cases hf
              exact s_lo [2, 3, 4, 5, 6, 8] rfl (k59)
          · replace hf := p_ps hf hc
            refine s_iload (pc := 103) dX12_holds_103 1 rfl ?_
            refine s_iload (pc := 105) dX12_holds_105 0 rfl ?_
            refine s_icmp_le (pc := 107) (tgt := 114) dX12_holds_107 rfl (fun hc => ?_) (fun hc => ?_)
            · replace hf := p_ps hf hc
              refine s_iconst (pc := 114) dX12_holds_114 (v := 0) rfl ?_
              refine s_goto (pc := 115) (tgt := 130) dX12_holds_115 rfl ?_
              cases hf
              exact s_lo [2, 3, 4, 5, 6, 8] rfl (k59)
            · replace hf := p_ng hf hc
              refine s_iconst (pc := 110) dX12_holds_110 (v := 1) rfl ?_
              refine s_goto (pc := 111) (tgt := 130) dX12_holds_111 rfl ?_
              cases hf
              exact s_lo [2, 3, 4, 5, 6, 8] rfl (k59)
        · replace hf := p_ps hf hc
          refine s_iload (pc := 74) dX12_holds_74 1 rfl ?_
          refine s_iload (pc := 76) dX12_holds_76 0 rfl ?_
          refine s_icmp_ge (pc := 78) (tgt := 85) dX12_holds_78 rfl (fun hc => ?_) (fun hc => ?_)
          · replace hf := p_ps hf hc
            refine s_iconst (pc := 85) dX12_holds_85 (v := 0) rfl ?_
            refine s_goto (pc := 86) (tgt := 130) dX12_holds_86 rfl ?_
            cases hf
            exact s_lo [2, 3, 4, 5, 6, 8] rfl (k59)
          · replace hf := p_ng hf hc
            refine s_iconst (pc := 81) dX12_holds_81 (v := 1) rfl ?_
            refine s_goto (pc := 82) (tgt := 130) dX12_holds_82 rfl ?_
            cases hf
            exact s_lo [2, 3, 4, 5, 6, 8] rfl (k59))
  exact s_lo [2, 3, 4, 5, 1, 0] rfl (k37 _ _ hf)
def B_X12_lineOf_2 (n : Nat) (N : pN) (P : pR) (a0 : Nat) (x1 : Int32) (x2 : Int32) (rec0 : (Int32 × pI × pL) → Option (Int32 × pI × pL)) (s0 : Int32 × pI × pL) : Option (Int32 × pI × pL) :=
  Option.bind (P a0 0) fun q1 =>
  p_ck (p_ib N q1 6) <|
  (if (s0.2.1 q1 (Int32.toNatClampNeg 6)) ≤ s0.1 then
    some ((-1), s0.2.1, s0.2.2)
  else
    Option.bind (f_X12_holds n N s0.2.1 s0.2.2 P a0 (340 + (20 * s0.1)) x1 x2) fun q5 =>
    (if q5.1 = 0 then
      rec0 (s0.1 + 1, q5.2.1, q5.2.2)
    else
      some (s0.1, q5.2.1, q5.2.2)))
def f_X12_lineOf (n : Nat) (N : pN) (I : pI) (L : pL) (P : pR) (a0 : Nat) (x1 : Int32) (x2 : Int32) : Option (Int32 × pI × pL) :=
  p_it (B_X12_lineOf_2 n N P a0 x1 x2) n (0, I, L)
theorem c_X12_lineOf {G : pG} {d : Nat} {n : Nat} {N : pN} {I : pI} {L : pL} {P : pR} {a0 : Nat} {x1 : Int32} {x2 : Int32} {qq : Int32 × pI × pL} (hd : 11 ≤ d) (hW : WT N P) (ha0 : p_tp N a0 15) (hf : f_X12_lineOf n N I L P a0 x1 x2 = some qq) : MT G mX12_lineOf d 0 0 [.ref a0, .int x1, .int x2] N I L P (p_R (some (.int qq.1)) N qq.2.1 qq.2.2 P) := by
  refine MT.of rfl (Nat.le_of_ble_eq_true rfl) ?_
  show SW G mX12_lineOf (p_rm d 0 0) 0 0 0 0 (p_R (some (.int qq.1)) N qq.2.1 qq.2.2 P) 0 [(0, .ref a0), (1, .int x1), (2, .int x2)] [] N I L P
  unfold f_X12_lineOf at hf
  refine s_iconst (pc := 0) dX12_lineOf_0 (v := 0) rfl ?_
  refine s_istore_n (pc := 1) dX12_lineOf_1 rfl (Nat.le_of_ble_eq_true rfl) rfl ?_
  have k7 : ∀ (k : Nat) (s0 : Int32 × pI × pL), p_it (B_X12_lineOf_2 n N P a0 x1 x2) k s0 = some qq → (SW G mX12_lineOf (p_rm d 0 0) 0 0 0 0 (p_R (some (.int qq.1)) N qq.2.1 qq.2.2 P) 2 [(0, .ref a0), (1, .int x1), (2, .int x2), (3, .int s0.1)] [] N s0.2.1 s0.2.2 P) := p_it_ind (C := fun (s0 : Int32 × pI × pL) => SW G mX12_lineOf (p_rm d 0 0) 0 0 0 0 (p_R (some (.int qq.1)) N qq.2.1 qq.2.2 P) 2 [(0, .ref a0), (1, .int x1), (2, .int x2), (3, .int s0.1)] [] N s0.2.1 s0.2.2 P) (by
    intro rec0 hrec0 s0 hf
    unfold B_X12_lineOf_2 at hf
    refine s_iload_n (pc := 2) dX12_lineOf_2 3 rfl rfl ?_
    refine s_aload_n (pc := 3) dX12_lineOf_3 0 rfl rfl ?_
    obtain ⟨q8, h9, hf⟩ := p_bd hf
    have t10 : p_tp N q8 0 := WT.get hW ha0 h9
    refine x_getR (pc := 4) dX12_lineOf_4 fl_X12_7 rfl ha0 h9 ?_
    refine s_bipush (pc := 7) dX12_lineOf_7 (v := 6) rfl ?_
    obtain ⟨c11, hf⟩ := p_ckx hf
    refine x_iald (pc := 9) dX12_lineOf_9 t10 c11 ?_
    refine s_icmp_ge (pc := 10) (tgt := 38) dX12_lineOf_10 rfl (fun hc => ?_) (fun hc => ?_)
    · replace hf := p_ps hf hc
      refine s_iconst (pc := 38) dX12_lineOf_38 (v := -1) rfl ?_
      cases hf
      exact s_ireturn (pc := 39) dX12_lineOf_39 rfl rfl ⟨rfl, rfl, rfl, rfl, rfl⟩
    · replace hf := p_ng hf hc
      refine s_aload_n (pc := 13) dX12_lineOf_13 0 rfl rfl ?_
      refine s_sipush (pc := 14) dX12_lineOf_14 (v := 340) rfl ?_
      refine s_bipush (pc := 17) dX12_lineOf_17 (v := 20) rfl ?_
      refine s_iload_n (pc := 19) dX12_lineOf_19 3 rfl rfl ?_
      refine s_imul (pc := 20) dX12_lineOf_20 ?_
      refine s_iadd (pc := 21) dX12_lineOf_21 ?_
      refine s_iload_n (pc := 22) dX12_lineOf_22 1 rfl rfl ?_
      refine s_iload_n (pc := 23) dX12_lineOf_23 2 rfl rfl ?_
      obtain ⟨q12, h13, hf⟩ := p_bd hf
      refine y_callV1 (pc := 24) dX12_lineOf_24 (c_X12_holds (p_dd hd (by decide)) hW ha0 h13) mk_X12_holds mv_X12_holds ml_X12_414 rfl rfl (Nat.le_of_ble_eq_true rfl) ha0 rfl (p_d1 hd (by decide)) (Nat.le_of_ble_eq_true rfl) ?_
      refine s_if_eq (pc := 27) (tgt := 32) dX12_lineOf_27 rfl (fun hc => ?_) (fun hc => ?_)
      · replace hf := p_ps hf hc
        refine s_iinc (pc := 32) dX12_lineOf_32 3 rfl (v := s0.1 + 1) rfl (Nat.le_of_ble_eq_true rfl) rfl ?_
        refine s_goto (pc := 35) (tgt := 2) dX12_lineOf_35 rfl ?_
        exact s_lo [1, 2, 3, 0] rfl (hrec0 _ hf)
      · replace hf := p_ng hf hc
        refine s_iload_n (pc := 30) dX12_lineOf_30 3 rfl rfl ?_
        cases hf
        exact s_ireturn (pc := 31) dX12_lineOf_31 rfl rfl ⟨rfl, rfl, rfl, rfl, rfl⟩)
  exact s_lo [1, 2, 3, 0] rfl (k7 _ _ hf)
def f_X12_why (n : Nat) (N : pN) (I : pI) (L : pL) (P : pR) (a0 : Nat) (x1 : Int32) (x2 : Int32) : Option (Int32 × pI × pL) :=
  Option.bind (f_X12_seesSender N I P a0 x1) fun q1 =>
  (if q1 = 0 then
    some ((-1), I, L)
  else
    Option.bind (f_X12_isIn x2 0 23) fun q3 =>
    (if q3 = 0 then
      some ((-1), I, L)
    else
      Option.bind (f_X12_lineOf n N I L P a0 x1 x2) fun q5 =>
      some (q5.1, q5.2.1, q5.2.2)))
theorem c_X12_why {G : pG} {d : Nat} {n : Nat} {N : pN} {I : pI} {L : pL} {P : pR} {a0 : Nat} {x1 : Int32} {x2 : Int32} {qq : Int32 × pI × pL} (hd : 12 ≤ d) (hW : WT N P) (ha0 : p_tp N a0 15) (hf : f_X12_why n N I L P a0 x1 x2 = some qq) : MT G mX12_why d 0 0 [.ref a0, .int x1, .int x2] N I L P (p_R (some (.int qq.1)) N qq.2.1 qq.2.2 P) := by
  refine MT.of rfl (Nat.le_of_ble_eq_true rfl) ?_
  show SW G mX12_why (p_rm d 0 0) 0 0 0 0 (p_R (some (.int qq.1)) N qq.2.1 qq.2.2 P) 0 [(0, .ref a0), (1, .int x1), (2, .int x2)] [] N I L P
  unfold f_X12_why at hf
  refine s_aload_n (pc := 0) dX12_why_0 0 rfl rfl ?_
  refine s_iload_n (pc := 1) dX12_why_1 1 rfl rfl ?_
  obtain ⟨q1, h2, hf⟩ := p_bd hf
  refine y_callV1 (pc := 2) dX12_why_2 (c_X12_seesSender (p_dd hd (by decide)) hW ha0 h2) mk_X12_seesSender mv_X12_seesSender ml_X12_215 rfl rfl (Nat.le_of_ble_eq_true rfl) ha0 rfl (p_d1 hd (by decide)) (Nat.le_of_ble_eq_true rfl) ?_
  refine s_if_eq (pc := 5) (tgt := 27) dX12_why_5 rfl (fun hc => ?_) (fun hc => ?_)
  · replace hf := p_ps hf hc
    refine s_iconst (pc := 27) dX12_why_27 (v := -1) rfl ?_
    cases hf
    exact s_ireturn (pc := 28) dX12_why_28 rfl rfl ⟨rfl, rfl, rfl, rfl, rfl⟩
  · replace hf := p_ng hf hc
    refine s_iload_n (pc := 8) dX12_why_8 2 rfl rfl ?_
    refine s_iconst (pc := 9) dX12_why_9 (v := 0) rfl ?_
    refine s_bipush (pc := 10) dX12_why_10 (v := 23) rfl ?_
    obtain ⟨q3, h4, hf⟩ := p_bd hf
    refine y_callS1 (pc := 12) dX12_why_12 (c_X12_isIn (p_dd hd (by decide)) hW  h4) mk_X12_isIn mz_X12_isIn ml_X12_68 rfl rfl (Nat.le_of_ble_eq_true rfl) (p_d1 hd (by decide)) (Nat.le_of_ble_eq_true rfl) ?_
    refine s_if_eq (pc := 15) (tgt := 27) dX12_why_15 rfl (fun hc => ?_) (fun hc => ?_)
    · replace hf := p_ps hf hc
      refine s_iconst (pc := 27) dX12_why_27 (v := -1) rfl ?_
      cases hf
      exact s_ireturn (pc := 28) dX12_why_28 rfl rfl ⟨rfl, rfl, rfl, rfl, rfl⟩
    · replace hf := p_ng hf hc
      refine s_aload_n (pc := 18) dX12_why_18 0 rfl rfl ?_
      refine s_iload_n (pc := 19) dX12_why_19 1 rfl rfl ?_
      refine s_iload_n (pc := 20) dX12_why_20 2 rfl rfl ?_
      obtain ⟨q5, h6, hf⟩ := p_bd hf
      refine y_callV1 (pc := 21) dX12_why_21 (c_X12_lineOf (p_dd hd (by decide)) hW ha0 h6) mk_X12_lineOf mv_X12_lineOf ml_X12_417 rfl rfl (Nat.le_of_ble_eq_true rfl) ha0 rfl (p_d1 hd (by decide)) (Nat.le_of_ble_eq_true rfl) ?_
      refine s_goto (pc := 24) (tgt := 28) dX12_why_24 rfl ?_
      cases hf
      exact s_ireturn (pc := 28) dX12_why_28 rfl rfl ⟨rfl, rfl, rfl, rfl, rfl⟩
def B_X12_breach_19 (n : Nat) (N : pN) (P : pR) (rec0 : (Int32 × pI × pL) → Option (Int32 × pI × pL)) (a0 : Nat) (x1 : Int32) (x2 : Int32) (rec1 : (Int32 × pI × pL) → Option (Int32 × pI × pL)) (s1 : Int32 × pI × pL) : Option (Int32 × pI × pL) :=
  Option.bind (P a0 0) fun q3 =>
  p_ck (p_ib N q3 1) <|
  (if (s1.2.1 q3 (Int32.toNatClampNeg 1)) ≤ s1.1 then
    rec0 (x2 + 1, s1.2.1, s1.2.2)
  else
    Option.bind (f_X12_seesSender N s1.2.1 P a0 s1.1) fun q7 =>
    (if q7 = 0 then
      rec1 (s1.1 + 1, s1.2.1, s1.2.2)
    else
      Option.bind (f_X12_lineOf n N s1.2.1 s1.2.2 P a0 s1.1 x2) fun q9 =>
      (if q9.1 < 0 then
        rec1 (s1.1 + 1, q9.2.1, q9.2.2)
      else
        Option.bind (P a0 0) fun q11 =>
        p_ck (p_ib N q11 ((340 + (20 * q9.1)) + 17)) <|
        (if (q9.2.1 q11 (Int32.toNatClampNeg ((340 + (20 * q9.1)) + 17))) = 20 then
          (if x1 = 0 then
            some (x2, q9.2.1, q9.2.2)
          else
            some (s1.1, q9.2.1, q9.2.2))
        else
          rec1 (s1.1 + 1, q9.2.1, q9.2.2)))))
def B_X12_breach_2 (n : Nat) (N : pN) (P : pR) (a0 : Nat) (x1 : Int32) (rec0 : (Int32 × pI × pL) → Option (Int32 × pI × pL)) (s0 : Int32 × pI × pL) : Option (Int32 × pI × pL) :=
  (if 24 ≤ s0.1 then
    some ((-1), s0.2.1, s0.2.2)
  else
    Option.bind (f_X12_isIn x1 0 1) fun q1 =>
    (if q1 = 0 then
      some ((-1), s0.2.1, s0.2.2)
    else
      p_it (B_X12_breach_19 n N P rec0 a0 x1 s0.1) n (0, s0.2.1, s0.2.2)))
def f_X12_breach (n : Nat) (N : pN) (I : pI) (L : pL) (P : pR) (a0 : Nat) (x1 : Int32) : Option (Int32 × pI × pL) :=
  p_it (B_X12_breach_2 n N P a0 x1) n (0, I, L)
theorem c_X12_breach {G : pG} {d : Nat} {n : Nat} {N : pN} {I : pI} {L : pL} {P : pR} {a0 : Nat} {x1 : Int32} {qq : Int32 × pI × pL} (hd : 12 ≤ d) (hW : WT N P) (ha0 : p_tp N a0 15) (hf : f_X12_breach n N I L P a0 x1 = some qq) : MT G mX12_breach d 0 0 [.ref a0, .int x1] N I L P (p_R (some (.int qq.1)) N qq.2.1 qq.2.2 P) := by
  refine MT.of rfl (Nat.le_of_ble_eq_true rfl) ?_
  show SW G mX12_breach (p_rm d 0 0) 0 0 0 0 (p_R (some (.int qq.1)) N qq.2.1 qq.2.2 P) 0 [(0, .ref a0), (1, .int x1)] [] N I L P
  unfold f_X12_breach at hf
  refine s_iconst (pc := 0) dX12_breach_0 (v := 0) rfl ?_
  refine s_istore_n (pc := 1) dX12_breach_1 rfl (Nat.le_of_ble_eq_true rfl) rfl ?_
  have k28 : ∀ (k : Nat) (s0 : Int32 × pI × pL), p_it (B_X12_breach_2 n N P a0 x1) k s0 = some qq → (SW G mX12_breach (p_rm d 0 0) 0 0 0 0 (p_R (some (.int qq.1)) N qq.2.1 qq.2.2 P) 2 [(0, .ref a0), (1, .int x1), (2, .int s0.1)] [] N s0.2.1 s0.2.2 P) := p_it_ind (C := fun (s0 : Int32 × pI × pL) => SW G mX12_breach (p_rm d 0 0) 0 0 0 0 (p_R (some (.int qq.1)) N qq.2.1 qq.2.2 P) 2 [(0, .ref a0), (1, .int x1), (2, .int s0.1)] [] N s0.2.1 s0.2.2 P) (by
    intro rec0 hrec0 s0 hf
    unfold B_X12_breach_2 at hf
    refine s_iload_n (pc := 2) dX12_breach_2 2 rfl rfl ?_
    refine s_bipush (pc := 3) dX12_breach_3 (v := 24) rfl ?_
    refine s_icmp_ge (pc := 5) (tgt := 97) dX12_breach_5 rfl (fun hc => ?_) (fun hc => ?_)
    · replace hf := p_ps hf hc
      refine s_iconst (pc := 97) dX12_breach_97 (v := -1) rfl ?_
      cases hf
      exact s_ireturn (pc := 98) dX12_breach_98 rfl rfl ⟨rfl, rfl, rfl, rfl, rfl⟩
    · replace hf := p_ng hf hc
      refine s_iload_n (pc := 8) dX12_breach_8 1 rfl rfl ?_
      refine s_iconst (pc := 9) dX12_breach_9 (v := 0) rfl ?_
      refine s_iconst (pc := 10) dX12_breach_10 (v := 1) rfl ?_
      obtain ⟨q29, h30, hf⟩ := p_bd hf
      refine y_callS1 (pc := 11) dX12_breach_11 (c_X12_isIn (p_dd hd (by decide)) hW  h30) mk_X12_isIn mz_X12_isIn ml_X12_68 rfl rfl (Nat.le_of_ble_eq_true rfl) (p_d1 hd (by decide)) (Nat.le_of_ble_eq_true rfl) ?_
      refine s_if_eq (pc := 14) (tgt := 97) dX12_breach_14 rfl (fun hc => ?_) (fun hc => ?_)
      · replace hf := p_ps hf hc
        refine s_iconst (pc := 97) dX12_breach_97 (v := -1) rfl ?_
        cases hf
        exact s_ireturn (pc := 98) dX12_breach_98 rfl rfl ⟨rfl, rfl, rfl, rfl, rfl⟩
      · replace hf := p_ng hf hc
        refine s_iconst (pc := 17) dX12_breach_17 (v := 0) rfl ?_
        refine s_istore_n (pc := 18) dX12_breach_18 rfl (Nat.le_of_ble_eq_true rfl) rfl ?_
        have k31 : ∀ (k : Nat) (s1 : Int32 × pI × pL), p_it (B_X12_breach_19 n N P rec0 a0 x1 s0.1) k s1 = some qq → (SW G mX12_breach (p_rm d 0 0) 0 0 0 0 (p_R (some (.int qq.1)) N qq.2.1 qq.2.2 P) 19 [(0, .ref a0), (1, .int x1), (2, .int s0.1), (3, .int s1.1)] [] N s1.2.1 s1.2.2 P) := p_it_ind (C := fun (s1 : Int32 × pI × pL) => SW G mX12_breach (p_rm d 0 0) 0 0 0 0 (p_R (some (.int qq.1)) N qq.2.1 qq.2.2 P) 19 [(0, .ref a0), (1, .int x1), (2, .int s0.1), (3, .int s1.1)] [] N s1.2.1 s1.2.2 P) (by
          intro rec1 hrec1 s1 hf
          unfold B_X12_breach_19 at hf
          refine s_iload_n (pc := 19) dX12_breach_19 3 rfl rfl ?_
          refine s_aload_n (pc := 20) dX12_breach_20 0 rfl rfl ?_
          obtain ⟨q32, h33, hf⟩ := p_bd hf
          have t34 : p_tp N q32 0 := WT.get hW ha0 h33
          refine x_getR (pc := 21) dX12_breach_21 fl_X12_7 rfl ha0 h33 ?_
          refine s_iconst (pc := 24) dX12_breach_24 (v := 1) rfl ?_
          obtain ⟨c35, hf⟩ := p_ckx hf
          refine x_iald (pc := 25) dX12_breach_25 t34 c35 ?_
          refine s_icmp_ge (pc := 26) (tgt := 91) dX12_breach_26 rfl (fun hc => ?_) (fun hc => ?_)
          · replace hf := p_ps hf hc
            refine s_iinc (pc := 91) dX12_breach_91 2 rfl (v := s0.1 + 1) rfl (Nat.le_of_ble_eq_true rfl) rfl ?_
            refine s_goto (pc := 94) (tgt := 2) dX12_breach_94 rfl ?_
            exact s_lo [1, 2, 0] rfl (hrec0 _ hf)
          · replace hf := p_ng hf hc
            refine s_aload_n (pc := 29) dX12_breach_29 0 rfl rfl ?_
            refine s_iload_n (pc := 30) dX12_breach_30 3 rfl rfl ?_
            obtain ⟨q36, h37, hf⟩ := p_bd hf
            refine y_callV1 (pc := 31) dX12_breach_31 (c_X12_seesSender (p_dd hd (by decide)) hW ha0 h37) mk_X12_seesSender mv_X12_seesSender ml_X12_215 rfl rfl (Nat.le_of_ble_eq_true rfl) ha0 rfl (p_d1 hd (by decide)) (Nat.le_of_ble_eq_true rfl) ?_
            refine s_if_ne (pc := 34) (tgt := 40) dX12_breach_34 rfl (fun hc => ?_) (fun hc => ?_)
            · replace hf := p_ng hf hc
              refine s_aload_n (pc := 40) dX12_breach_40 0 rfl rfl ?_
              refine s_iload_n (pc := 41) dX12_breach_41 3 rfl rfl ?_
              refine s_iload_n (pc := 42) dX12_breach_42 2 rfl rfl ?_
              obtain ⟨q38, h39, hf⟩ := p_bd hf
              refine y_callV1 (pc := 43) dX12_breach_43 (c_X12_lineOf (p_dd hd (by decide)) hW ha0 h39) mk_X12_lineOf mv_X12_lineOf ml_X12_417 rfl rfl (Nat.le_of_ble_eq_true rfl) ha0 rfl (p_d1 hd (by decide)) (Nat.le_of_ble_eq_true rfl) ?_
              refine s_istore (pc := 46) dX12_breach_46 (Nat.le_of_ble_eq_true rfl) rfl ?_
              refine s_iload (pc := 48) dX12_breach_48 0 rfl ?_
              refine s_if_lt (pc := 50) (tgt := 85) dX12_breach_50 rfl (fun hc => ?_) (fun hc => ?_)
              · replace hf := p_ps hf hc
                refine s_iinc (pc := 85) dX12_breach_85 4 rfl (v := s1.1 + 1) rfl (Nat.le_of_ble_eq_true rfl) rfl ?_
                refine s_goto (pc := 88) (tgt := 19) dX12_breach_88 rfl ?_
                exact s_lo [2, 3, 4, 0] rfl (hrec1 _ hf)
              · replace hf := p_ng hf hc
                refine s_aload_n (pc := 53) dX12_breach_53 1 rfl rfl ?_
                obtain ⟨q40, h41, hf⟩ := p_bd hf
                have t42 : p_tp N q40 0 := WT.get hW ha0 h41
                refine x_getR (pc := 54) dX12_breach_54 fl_X12_7 rfl ha0 h41 ?_
                refine s_sipush (pc := 57) dX12_breach_57 (v := 340) rfl ?_
                refine s_bipush (pc := 60) dX12_breach_60 (v := 20) rfl ?_
                refine s_iload (pc := 62) dX12_breach_62 0 rfl ?_
                refine s_imul (pc := 64) dX12_breach_64 ?_
                refine s_iadd (pc := 65) dX12_breach_65 ?_
                refine s_bipush (pc := 66) dX12_breach_66 (v := 17) rfl ?_
                refine s_iadd (pc := 68) dX12_breach_68 ?_
                obtain ⟨c43, hf⟩ := p_ckx hf
                refine x_iald (pc := 69) dX12_breach_69 t42 c43 ?_
                refine s_bipush (pc := 70) dX12_breach_70 (v := 20) rfl ?_
                refine s_icmp_ne (pc := 72) (tgt := 85) dX12_breach_72 rfl (fun hc => ?_) (fun hc => ?_)
                · replace hf := p_ng hf hc
                  refine s_iinc (pc := 85) dX12_breach_85 4 rfl (v := s1.1 + 1) rfl (Nat.le_of_ble_eq_true rfl) rfl ?_
                  refine s_goto (pc := 88) (tgt := 19) dX12_breach_88 rfl ?_
                  exact s_lo [2, 3, 4, 0] rfl (hrec1 _ hf)
                · replace hf := p_ps hf hc
                  refine s_iload_n (pc := 75) dX12_breach_75 2 rfl rfl ?_
                  refine s_if_ne (pc := 76) (tgt := 83) dX12_breach_76 rfl (fun hc => ?_) (fun hc => ?_)
                  · replace hf := p_ng hf hc
                    refine s_iload_n (pc := 83) dX12_breach_83 4 rfl rfl ?_
                    cases hf
                    exact s_ireturn (pc := 84) dX12_breach_84 rfl rfl ⟨rfl, rfl, rfl, rfl, rfl⟩
                  · replace hf := p_ps hf hc
                    refine s_iload_n (pc := 79) dX12_breach_79 3 rfl rfl ?_
                    refine s_goto (pc := 80) (tgt := 84) dX12_breach_80 rfl ?_
                    cases hf
                    exact s_ireturn (pc := 84) dX12_breach_84 rfl rfl ⟨rfl, rfl, rfl, rfl, rfl⟩
            · replace hf := p_ps hf hc
              refine s_goto (pc := 37) (tgt := 85) dX12_breach_37 rfl ?_
              refine s_iinc (pc := 85) dX12_breach_85 3 rfl (v := s1.1 + 1) rfl (Nat.le_of_ble_eq_true rfl) rfl ?_
              refine s_goto (pc := 88) (tgt := 19) dX12_breach_88 rfl ?_
              exact s_lo [1, 2, 3, 0] rfl (hrec1 _ hf))
        exact s_lo [1, 2, 3, 0] rfl (k31 _ _ hf))
  exact s_lo [1, 2, 0] rfl (k28 _ _ hf)
def f_X12_day (n : Nat) (N : pN) (I : pI) (P : pR) (a0 : Nat) (x1 : Int32) : Option (Int32 × pI) :=
  Option.bind (P a0 0) fun q1 =>
  p_ck (p_ib N q1 4) <|
  Option.bind (f_X12_isIn x1 (I q1 (Int32.toNatClampNeg 4)) 999) fun q5 =>
  (if q5 = 0 then
    some (0, I)
  else
    Option.bind (P a0 0) fun q7 =>
    p_ck (p_ib N q7 4) <|
    p_let (p_u I q7 (Int32.toNatClampNeg 4) x1) fun I11 =>
    Option.bind (f_X12_forgets n N I11 P a0) fun q13 =>
    some (1, q13))
theorem c_X12_day {G : pG} {d : Nat} {n : Nat} {N : pN} {I : pI} {L : pL} {P : pR} {a0 : Nat} {x1 : Int32} {qq : Int32 × pI} (hd : 1 ≤ d) (hW : WT N P) (ha0 : p_tp N a0 15) (hf : f_X12_day n N I P a0 x1 = some qq) : MT G mX12_day d 0 0 [.ref a0, .int x1] N I L P (p_R (some (.int qq.1)) N qq.2 L P) := by
  refine MT.of rfl (Nat.le_of_ble_eq_true rfl) ?_
  show SW G mX12_day (p_rm d 0 0) 0 0 0 0 (p_R (some (.int qq.1)) N qq.2 L P) 0 [(0, .ref a0), (1, .int x1)] [] N I L P
  unfold f_X12_day at hf
  refine s_iload_n (pc := 0) dX12_day_0 1 rfl rfl ?_
  refine s_aload_n (pc := 1) dX12_day_1 0 rfl rfl ?_
  obtain ⟨q1, h2, hf⟩ := p_bd hf
  have t3 : p_tp N q1 0 := WT.get hW ha0 h2
  refine x_getR (pc := 2) dX12_day_2 fl_X12_7 rfl ha0 h2 ?_
  refine s_iconst (pc := 5) dX12_day_5 (v := 4) rfl ?_
  obtain ⟨c4, hf⟩ := p_ckx hf
  refine x_iald (pc := 6) dX12_day_6 t3 c4 ?_
  refine s_sipush (pc := 7) dX12_day_7 (v := 999) rfl ?_
  obtain ⟨q5, h6, hf⟩ := p_bd hf
  refine y_callS1 (pc := 10) dX12_day_10 (c_X12_isIn (p_dd hd (by decide)) hW  h6) mk_X12_isIn mz_X12_isIn ml_X12_68 rfl rfl (Nat.le_of_ble_eq_true rfl) (p_d1 hd (by decide)) (Nat.le_of_ble_eq_true rfl) ?_
  refine s_if_ne (pc := 13) (tgt := 18) dX12_day_13 rfl (fun hc => ?_) (fun hc => ?_)
  · replace hf := p_ng hf hc
    refine s_aload_n (pc := 18) dX12_day_18 0 rfl rfl ?_
    obtain ⟨q7, h8, hf⟩ := p_bd hf
    have t9 : p_tp N q7 0 := WT.get hW ha0 h8
    refine x_getR (pc := 19) dX12_day_19 fl_X12_7 rfl ha0 h8 ?_
    refine s_iconst (pc := 22) dX12_day_22 (v := 4) rfl ?_
    refine s_iload_n (pc := 23) dX12_day_23 1 rfl rfl ?_
    obtain ⟨c10, hf⟩ := p_ckx hf
    refine x_iast (pc := 24) dX12_day_24 t9 c10 ?_
    refine s_nmI (fun I11 e12 => ?_)
    replace hf := p_lx hf e12
    refine s_aload_n (pc := 25) dX12_day_25 0 rfl rfl ?_
    obtain ⟨q13, h14, hf⟩ := p_bd hf
    refine y_callV0 (pc := 26) dX12_day_26 (c_X12_forgets (p_dd hd (by decide)) hW ha0 h14) mk_X12_forgets mv_X12_forgets ml_X12_65 rfl rfl (Nat.le_of_ble_eq_true rfl) ha0 rfl (p_d1 hd (by decide)) (Nat.le_of_ble_eq_true rfl) ?_
    refine s_iconst (pc := 29) dX12_day_29 (v := 1) rfl ?_
    cases hf
    exact s_ireturn (pc := 30) dX12_day_30 rfl rfl ⟨rfl, rfl, rfl, rfl, rfl⟩
  · replace hf := p_ps hf hc
    refine s_iconst (pc := 16) dX12_day_16 (v := 0) rfl ?_
    cases hf
    exact s_ireturn (pc := 17) dX12_day_17 rfl rfl ⟨rfl, rfl, rfl, rfl, rfl⟩
def f_X12_view (n : Nat) (N : pN) (I : pI) (P : pR) (a0 : Nat) (x1 : Int32) : Option (Int32 × pI) :=
  (if x1 = (-1) then
    Option.bind (P a0 0) fun q1 =>
    p_ck (p_ib N q1 5) <|
    p_let (p_u I q1 (Int32.toNatClampNeg 5) x1) fun I5 =>
    Option.bind (f_X12_forgets n N I5 P a0) fun q7 =>
    some (1, q7)
  else
    Option.bind (P a0 0) fun q9 =>
    p_ck (p_ib N q9 4) <|
    Option.bind (f_X12_isIn x1 0 (I q9 (Int32.toNatClampNeg 4))) fun q13 =>
    (if q13 = 0 then
      some (0, I)
    else
      Option.bind (P a0 0) fun q15 =>
      p_ck (p_ib N q15 5) <|
      p_let (p_u I q15 (Int32.toNatClampNeg 5) x1) fun I19 =>
      Option.bind (f_X12_forgets n N I19 P a0) fun q21 =>
      some (1, q21)))
theorem c_X12_view {G : pG} {d : Nat} {n : Nat} {N : pN} {I : pI} {L : pL} {P : pR} {a0 : Nat} {x1 : Int32} {qq : Int32 × pI} (hd : 1 ≤ d) (hW : WT N P) (ha0 : p_tp N a0 15) (hf : f_X12_view n N I P a0 x1 = some qq) : MT G mX12_view d 0 0 [.ref a0, .int x1] N I L P (p_R (some (.int qq.1)) N qq.2 L P) := by
  refine MT.of rfl (Nat.le_of_ble_eq_true rfl) ?_
  show SW G mX12_view (p_rm d 0 0) 0 0 0 0 (p_R (some (.int qq.1)) N qq.2 L P) 0 [(0, .ref a0), (1, .int x1)] [] N I L P
  unfold f_X12_view at hf
  refine s_iload_n (pc := 0) dX12_view_0 1 rfl rfl ?_
  refine s_iconst (pc := 1) dX12_view_1 (v := -1) rfl ?_
  refine s_icmp_eq (pc := 2) (tgt := 21) dX12_view_2 rfl (fun hc => ?_) (fun hc => ?_)
  · replace hf := p_ps hf hc
    refine s_aload_n (pc := 21) dX12_view_21 0 rfl rfl ?_
    obtain ⟨q1, h2, hf⟩ := p_bd hf
    have t3 : p_tp N q1 0 := WT.get hW ha0 h2
    refine x_getR (pc := 22) dX12_view_22 fl_X12_7 rfl ha0 h2 ?_
    refine s_iconst (pc := 25) dX12_view_25 (v := 5) rfl ?_
    refine s_iload_n (pc := 26) dX12_view_26 1 rfl rfl ?_
    obtain ⟨c4, hf⟩ := p_ckx hf
    refine x_iast (pc := 27) dX12_view_27 t3 c4 ?_
    refine s_nmI (fun I5 e6 => ?_)
    replace hf := p_lx hf e6
    refine s_aload_n (pc := 28) dX12_view_28 0 rfl rfl ?_
    obtain ⟨q7, h8, hf⟩ := p_bd hf
    refine y_callV0 (pc := 29) dX12_view_29 (c_X12_forgets (p_dd hd (by decide)) hW ha0 h8) mk_X12_forgets mv_X12_forgets ml_X12_65 rfl rfl (Nat.le_of_ble_eq_true rfl) ha0 rfl (p_d1 hd (by decide)) (Nat.le_of_ble_eq_true rfl) ?_
    refine s_iconst (pc := 32) dX12_view_32 (v := 1) rfl ?_
    cases hf
    exact s_ireturn (pc := 33) dX12_view_33 rfl rfl ⟨rfl, rfl, rfl, rfl, rfl⟩
  · replace hf := p_ng hf hc
    refine s_iload_n (pc := 5) dX12_view_5 1 rfl rfl ?_
    refine s_iconst (pc := 6) dX12_view_6 (v := 0) rfl ?_
    refine s_aload_n (pc := 7) dX12_view_7 0 rfl rfl ?_
    obtain ⟨q9, h10, hf⟩ := p_bd hf
    have t11 : p_tp N q9 0 := WT.get hW ha0 h10
    refine x_getR (pc := 8) dX12_view_8 fl_X12_7 rfl ha0 h10 ?_
    refine s_iconst (pc := 11) dX12_view_11 (v := 4) rfl ?_
    obtain ⟨c12, hf⟩ := p_ckx hf
    refine x_iald (pc := 12) dX12_view_12 t11 c12 ?_
    obtain ⟨q13, h14, hf⟩ := p_bd hf
    refine y_callS1 (pc := 13) dX12_view_13 (c_X12_isIn (p_dd hd (by decide)) hW  h14) mk_X12_isIn mz_X12_isIn ml_X12_68 rfl rfl (Nat.le_of_ble_eq_true rfl) (p_d1 hd (by decide)) (Nat.le_of_ble_eq_true rfl) ?_
    refine s_if_ne (pc := 16) (tgt := 21) dX12_view_16 rfl (fun hc => ?_) (fun hc => ?_)
    · replace hf := p_ng hf hc
      refine s_aload_n (pc := 21) dX12_view_21 0 rfl rfl ?_
      obtain ⟨q15, h16, hf⟩ := p_bd hf
      have t17 : p_tp N q15 0 := WT.get hW ha0 h16
      refine x_getR (pc := 22) dX12_view_22 fl_X12_7 rfl ha0 h16 ?_
      refine s_iconst (pc := 25) dX12_view_25 (v := 5) rfl ?_
      refine s_iload_n (pc := 26) dX12_view_26 1 rfl rfl ?_
      obtain ⟨c18, hf⟩ := p_ckx hf
      refine x_iast (pc := 27) dX12_view_27 t17 c18 ?_
      refine s_nmI (fun I19 e20 => ?_)
      replace hf := p_lx hf e20
      refine s_aload_n (pc := 28) dX12_view_28 0 rfl rfl ?_
      obtain ⟨q21, h22, hf⟩ := p_bd hf
      refine y_callV0 (pc := 29) dX12_view_29 (c_X12_forgets (p_dd hd (by decide)) hW ha0 h22) mk_X12_forgets mv_X12_forgets ml_X12_65 rfl rfl (Nat.le_of_ble_eq_true rfl) ha0 rfl (p_d1 hd (by decide)) (Nat.le_of_ble_eq_true rfl) ?_
      refine s_iconst (pc := 32) dX12_view_32 (v := 1) rfl ?_
      cases hf
      exact s_ireturn (pc := 33) dX12_view_33 rfl rfl ⟨rfl, rfl, rfl, rfl, rfl⟩
    · replace hf := p_ps hf hc
      refine s_iconst (pc := 19) dX12_view_19 (v := 0) rfl ?_
      cases hf
      exact s_ireturn (pc := 20) dX12_view_20 rfl rfl ⟨rfl, rfl, rfl, rfl, rfl⟩
def f_X12_pull (n : Nat) (N : pN) (I : pI) (P : pR) (a0 : Nat) (x1 : Int32) (x2 : Int32) : Option (Int32 × pI) :=
  p_let (α := Int32) ((if x1 = 0 then
    1
  else
    0)) fun t1 =>
  Option.bind (f_X12_isOf N I P a0 x2 t1) fun q3 =>
  (if q3 = 0 then
    some (0, I)
  else
    p_let (α := Int32) ((if x1 = 0 then
      (120 + (8 * x2)) + 5
    else
      (30 + (7 * x2)) + 6)) fun t5 =>
    Option.bind (P a0 0) fun q7 =>
    p_ck (p_ib N q7 t5) <|
    (if (I q7 (Int32.toNatClampNeg t5)) < 0 then
      Option.bind (P a0 0) fun q11 =>
      Option.bind (P a0 0) fun q14 =>
      p_ck (p_ib N q14 4) <|
      p_ck (p_ib N q11 t5) <|
      p_let (p_u I q11 (Int32.toNatClampNeg t5) (I q14 (Int32.toNatClampNeg 4))) fun I19 =>
      Option.bind (f_X12_forgets n N I19 P a0) fun q21 =>
      some (1, q21)
    else
      some (0, I)))
theorem c_X12_pull {G : pG} {d : Nat} {n : Nat} {N : pN} {I : pI} {L : pL} {P : pR} {a0 : Nat} {x1 : Int32} {x2 : Int32} {qq : Int32 × pI} (hd : 2 ≤ d) (hW : WT N P) (ha0 : p_tp N a0 15) (hf : f_X12_pull n N I P a0 x1 x2 = some qq) : MT G mX12_pull d 0 0 [.ref a0, .int x1, .int x2] N I L P (p_R (some (.int qq.1)) N qq.2 L P) := by
  refine MT.of rfl (Nat.le_of_ble_eq_true rfl) ?_
  show SW G mX12_pull (p_rm d 0 0) 0 0 0 0 (p_R (some (.int qq.1)) N qq.2 L P) 0 [(0, .ref a0), (1, .int x1), (2, .int x2)] [] N I L P
  unfold f_X12_pull at hf
  refine s_aload_n (pc := 0) dX12_pull_0 0 rfl rfl ?_
  refine s_iload_n (pc := 1) dX12_pull_1 2 rfl rfl ?_
  refine s_iload_n (pc := 2) dX12_pull_2 1 rfl rfl ?_
  obtain ⟨t1, hg, hf⟩ := p_lx2 hf
  have k2 : SW G mX12_pull (p_rm d 0 0) 0 0 0 0 (p_R (some (.int qq.1)) N qq.2 L P) 11 [(0, .ref a0), (1, .int x1), (2, .int x2)] [.int t1, .int x2, .ref a0] N I L P := by
    obtain ⟨q3, h4, hf⟩ := p_bd hf
    refine y_callV1 (pc := 11) dX12_pull_11 (c_X12_isOf (p_dd hd (by decide)) hW ha0 h4) mk_X12_isOf mv_X12_isOf ml_X12_80 rfl rfl (Nat.le_of_ble_eq_true rfl) ha0 rfl (p_d1 hd (by decide)) (Nat.le_of_ble_eq_true rfl) ?_
    refine s_if_ne (pc := 14) (tgt := 19) dX12_pull_14 rfl (fun hc => ?_) (fun hc => ?_)
    · replace hf := p_ng hf hc
      refine s_iload_n (pc := 19) dX12_pull_19 1 rfl rfl ?_
      obtain ⟨t5, hg, hf⟩ := p_lx2 hf
      have k6 : SW G mX12_pull (p_rm d 0 0) 0 0 0 0 (p_R (some (.int qq.1)) N qq.2 L P) 45 [(0, .ref a0)] [.int t5] N I L P := by
        refine s_istore_n (pc := 45) dX12_pull_45 rfl (Nat.le_of_ble_eq_true rfl) rfl ?_
        refine s_aload_n (pc := 46) dX12_pull_46 1 rfl rfl ?_
        obtain ⟨q7, h8, hf⟩ := p_bd hf
        have t9 : p_tp N q7 0 := WT.get hW ha0 h8
        refine x_getR (pc := 47) dX12_pull_47 fl_X12_7 rfl ha0 h8 ?_
        refine s_iload_n (pc := 50) dX12_pull_50 0 rfl rfl ?_
        obtain ⟨c10, hf⟩ := p_ckx hf
        refine x_iald (pc := 51) dX12_pull_51 t9 c10 ?_
        refine s_if_lt (pc := 52) (tgt := 57) dX12_pull_52 rfl (fun hc => ?_) (fun hc => ?_)
        · replace hf := p_ps hf hc
          refine s_aload_n (pc := 57) dX12_pull_57 1 rfl rfl ?_
          obtain ⟨q11, h12, hf⟩ := p_bd hf
          have t13 : p_tp N q11 0 := WT.get hW ha0 h12
          refine x_getR (pc := 58) dX12_pull_58 fl_X12_7 rfl ha0 h12 ?_
          refine s_iload_n (pc := 61) dX12_pull_61 0 rfl rfl ?_
          refine s_aload_n (pc := 62) dX12_pull_62 1 rfl rfl ?_
          obtain ⟨q14, h15, hf⟩ := p_bd hf
          have t16 : p_tp N q14 0 := WT.get hW ha0 h15
          refine x_getR (pc := 63) dX12_pull_63 fl_X12_7 rfl ha0 h15 ?_
          refine s_iconst (pc := 66) dX12_pull_66 (v := 4) rfl ?_
          obtain ⟨c17, hf⟩ := p_ckx hf
          refine x_iald (pc := 67) dX12_pull_67 t16 c17 ?_
          obtain ⟨c18, hf⟩ := p_ckx hf
          refine x_iast (pc := 68) dX12_pull_68 t13 c18 ?_
          refine s_nmI (fun I19 e20 => ?_)
          replace hf := p_lx hf e20
          refine s_aload_n (pc := 69) dX12_pull_69 1 rfl rfl ?_
          obtain ⟨q21, h22, hf⟩ := p_bd hf
          refine y_callV0 (pc := 70) dX12_pull_70 (c_X12_forgets (p_dd hd (by decide)) hW ha0 h22) mk_X12_forgets mv_X12_forgets ml_X12_65 rfl rfl (Nat.le_of_ble_eq_true rfl) ha0 rfl (p_d1 hd (by decide)) (Nat.le_of_ble_eq_true rfl) ?_
          refine s_iconst (pc := 73) dX12_pull_73 (v := 1) rfl ?_
          cases hf
          exact s_ireturn (pc := 74) dX12_pull_74 rfl rfl ⟨rfl, rfl, rfl, rfl, rfl⟩
        · replace hf := p_ng hf hc
          refine s_iconst (pc := 55) dX12_pull_55 (v := 0) rfl ?_
          cases hf
          exact s_ireturn (pc := 56) dX12_pull_56 rfl rfl ⟨rfl, rfl, rfl, rfl, rfl⟩
      replace hf := hg.symm
      refine s_if_eq (pc := 20) (tgt := 36) dX12_pull_20 rfl (fun hc => ?_) (fun hc => ?_)
      · replace hf := p_ps hf hc
        refine s_bipush (pc := 36) dX12_pull_36 (v := 120) rfl ?_
        refine s_bipush (pc := 38) dX12_pull_38 (v := 8) rfl ?_
        refine s_iload_n (pc := 40) dX12_pull_40 2 rfl rfl ?_
        refine s_imul (pc := 41) dX12_pull_41 ?_
        refine s_iadd (pc := 42) dX12_pull_42 ?_
        refine s_iconst (pc := 43) dX12_pull_43 (v := 5) rfl ?_
        refine s_iadd (pc := 44) dX12_pull_44 ?_
        cases hf
        exact s_lo [0] rfl (k6)
      · replace hf := p_ng hf hc
        refine s_bipush (pc := 23) dX12_pull_23 (v := 30) rfl ?_
        refine s_bipush (pc := 25) dX12_pull_25 (v := 7) rfl ?_
        refine s_iload_n (pc := 27) dX12_pull_27 2 rfl rfl ?_
        refine s_imul (pc := 28) dX12_pull_28 ?_
        refine s_iadd (pc := 29) dX12_pull_29 ?_
        refine s_bipush (pc := 30) dX12_pull_30 (v := 6) rfl ?_
        refine s_iadd (pc := 32) dX12_pull_32 ?_
        refine s_goto (pc := 33) (tgt := 45) dX12_pull_33 rfl ?_
        cases hf
        exact s_lo [0] rfl (k6)
    · replace hf := p_ps hf hc
      refine s_iconst (pc := 17) dX12_pull_17 (v := 0) rfl ?_
      cases hf
      exact s_ireturn (pc := 18) dX12_pull_18 rfl rfl ⟨rfl, rfl, rfl, rfl, rfl⟩
  replace hf := hg.symm
  refine s_if_eq (pc := 3) (tgt := 10) dX12_pull_3 rfl (fun hc => ?_) (fun hc => ?_)
  · replace hf := p_ps hf hc
    refine s_iconst (pc := 10) dX12_pull_10 (v := 1) rfl ?_
    cases hf
    exact s_lo [0, 1, 2] rfl (k2)
  · replace hf := p_ng hf hc
    refine s_iconst (pc := 6) dX12_pull_6 (v := 0) rfl ?_
    refine s_goto (pc := 7) (tgt := 11) dX12_pull_7 rfl ?_
    cases hf
    exact s_lo [0, 1, 2] rfl (k2)
