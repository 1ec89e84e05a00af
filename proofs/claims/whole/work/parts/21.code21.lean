def f_X6_mirror (I : pI) (L : pL) (a0 : Nat) (a1 : Nat) (a2 : Nat) : Option pL :=
  p_let (α := Int64) ((if (I a2 3) = 0 then
    L a1 0
  else
    ((2 * (Int32.toInt64 (I a2 4))) * (L a1 2)) - (L a1 0))) fun t1 =>
  p_let (p_u L a0 0 t1) fun L3 =>
  p_let (α := Int64) ((if (I a2 3) = 0 then
    ((2 * (Int32.toInt64 (I a2 4))) * (L3 a1 2)) - (L3 a1 1)
  else
    L3 a1 1)) fun t5 =>
  p_let (p_u L3 a0 1 t5) fun L7 =>
  p_let (p_u L7 a0 2 (L7 a1 2)) fun L9 =>
  some L9
theorem c_X6_mirror {G : pG} {d : Nat} {N : pN} {I : pI} {L : pL} {P : pR} {a0 : Nat} {a1 : Nat} {a2 : Nat} {qq : pL} (hd : 0 ≤ d) (hW : WT N P) (ha0 : p_tp N a0 9) (ha1 : p_tp N a1 9) (ha2 : p_tp N a2 3) (hf : f_X6_mirror I L a0 a1 a2 = some qq) : MT G mX6_mirror d 0 0 [.ref a0, .ref a1, .ref a2] N I L P (p_R none N I qq P) := by
  refine MT.of rfl (Nat.le_of_ble_eq_true rfl) ?_
  show SW G mX6_mirror (p_rm d 0 0) 0 0 0 0 (p_R none N I qq P) 0 [(0, .ref a0), (1, .ref a1), (2, .ref a2)] [] N I L P
  unfold f_X6_mirror at hf
  refine s_aload_n (pc := 0) dX6_mirror_0 0 rfl rfl ?_
  refine s_aload_n (pc := 1) dX6_mirror_1 2 rfl rfl ?_
  refine x_getI (pc := 2) dX6_mirror_2 fl_X6_19 rfl ha2 ?_
  obtain ⟨t1, hg, hf⟩ := p_lx2 hf
  have k2 : SW G mX6_mirror (p_rm d 0 0) 0 0 0 0 (p_R none N I qq P) 34 [(0, .ref a0), (1, .ref a1), (2, .ref a2)] [.long t1, .ref a0] N I L P := by
    refine x_putL (pc := 34) dX6_mirror_34 fl_X6_7 (Or.inl rfl) rfl ha0 ?_
    refine s_nmL (fun L3 e4 => ?_)
    replace hf := p_lx hf e4
    refine s_aload_n (pc := 37) dX6_mirror_37 0 rfl rfl ?_
    refine s_aload_n (pc := 38) dX6_mirror_38 2 rfl rfl ?_
    refine x_getI (pc := 39) dX6_mirror_39 fl_X6_19 rfl ha2 ?_
    obtain ⟨t5, hg, hf⟩ := p_lx2 hf
    have k6 : SW G mX6_mirror (p_rm d 0 0) 0 0 0 0 (p_R none N I qq P) 71 [(0, .ref a0), (1, .ref a1)] [.long t5, .ref a0] N I L3 P := by
      refine x_putL (pc := 71) dX6_mirror_71 fl_X6_13 (Or.inl rfl) rfl ha0 ?_
      refine s_nmL (fun L7 e8 => ?_)
      replace hf := p_lx hf e8
      refine s_aload_n (pc := 74) dX6_mirror_74 0 rfl rfl ?_
      refine s_aload_n (pc := 75) dX6_mirror_75 1 rfl rfl ?_
      refine x_getL (pc := 76) dX6_mirror_76 fl_X6_16 rfl ha1 ?_
      refine x_putL (pc := 79) dX6_mirror_79 fl_X6_16 (Or.inl rfl) rfl ha0 ?_
      refine s_nmL (fun L9 e10 => ?_)
      replace hf := p_lx hf e10
      cases hf
      exact s_return (pc := 82) dX6_mirror_82 rfl ⟨rfl, rfl, rfl, rfl, rfl⟩
    replace hf := hg.symm
    refine s_if_eq (pc := 42) (tgt := 52) dX6_mirror_42 rfl (fun hc => ?_) (fun hc => ?_)
    · replace hf := p_ps hf hc
      refine s_ldc2 (pc := 52) kl_X6_25 dX6_mirror_52 ?_
      refine s_aload_n (pc := 55) dX6_mirror_55 2 rfl rfl ?_
      refine x_getI (pc := 56) dX6_mirror_56 fl_X6_27 rfl ha2 ?_
      refine s_i2l (pc := 59) dX6_mirror_59 ?_
      refine s_lmul (pc := 60) dX6_mirror_60 ?_
      refine s_aload_n (pc := 61) dX6_mirror_61 1 rfl rfl ?_
      refine x_getL (pc := 62) dX6_mirror_62 fl_X6_16 rfl ha1 ?_
      refine s_lmul (pc := 65) dX6_mirror_65 ?_
      refine s_aload_n (pc := 66) dX6_mirror_66 1 rfl rfl ?_
      refine x_getL (pc := 67) dX6_mirror_67 fl_X6_13 rfl ha1 ?_
      refine s_lsub (pc := 70) dX6_mirror_70 ?_
      cases hf
      exact s_lo [0, 1] rfl (k6)
    · replace hf := p_ng hf hc
      refine s_aload_n (pc := 45) dX6_mirror_45 1 rfl rfl ?_
      refine x_getL (pc := 46) dX6_mirror_46 fl_X6_13 rfl ha1 ?_
      refine s_goto (pc := 49) (tgt := 71) dX6_mirror_49 rfl ?_
      cases hf
      exact s_lo [0, 1] rfl (k6)
  replace hf := hg.symm
  refine s_if_eq (pc := 5) (tgt := 30) dX6_mirror_5 rfl (fun hc => ?_) (fun hc => ?_)
  · replace hf := p_ps hf hc
    refine s_aload_n (pc := 30) dX6_mirror_30 1 rfl rfl ?_
    refine x_getL (pc := 31) dX6_mirror_31 fl_X6_7 rfl ha1 ?_
    cases hf
    exact s_lo [0, 1, 2] rfl (k2)
  · replace hf := p_ng hf hc
    refine s_ldc2 (pc := 8) kl_X6_25 dX6_mirror_8 ?_
    refine s_aload_n (pc := 11) dX6_mirror_11 2 rfl rfl ?_
    refine x_getI (pc := 12) dX6_mirror_12 fl_X6_27 rfl ha2 ?_
    refine s_i2l (pc := 15) dX6_mirror_15 ?_
    refine s_lmul (pc := 16) dX6_mirror_16 ?_
    refine s_aload_n (pc := 17) dX6_mirror_17 1 rfl rfl ?_
    refine x_getL (pc := 18) dX6_mirror_18 fl_X6_16 rfl ha1 ?_
    refine s_lmul (pc := 21) dX6_mirror_21 ?_
    refine s_aload_n (pc := 22) dX6_mirror_22 1 rfl rfl ?_
    refine x_getL (pc := 23) dX6_mirror_23 fl_X6_7 rfl ha1 ?_
    refine s_lsub (pc := 26) dX6_mirror_26 ?_
    refine s_goto (pc := 27) (tgt := 34) dX6_mirror_27 rfl ?_
    cases hf
    exact s_lo [0, 1, 2] rfl (k2)
def B_X2_searchMirrors_5 (n : Nat) (N : pN) (P : pR) (a0 : Nat) (rec0 : ((Option Nat) × pI × pL) → Option (pI × pL)) (s0 : (Option Nat) × pI × pL) : Option (pI × pL) :=
  p_cs s0.1 (some (s0.2.1, s0.2.2)) fun q4 =>
  Option.bind (P a0 3) fun q7 =>
  Option.bind (P a0 1) fun q10 =>
  Option.bind (f_X6_mirror s0.2.1 s0.2.2 q7 q10 q4) fun q13 =>
  Option.bind (α := pI × pL) ((if (s0.2.1 q4 2) = 0 then
    some (s0.2.1, q13)
  else
    Option.bind (P a0 3) fun q17 =>
    Option.bind (P a0 2) fun q20 =>
    Option.bind (P a0 5) fun q23 =>
    Option.bind (f_X0_meets s0.2.1 q13 q4 q17 q20 q23) fun q26 =>
    (if q26.1 = 0 then
      some (s0.2.1, q26.2)
    else
      Option.bind (P a0 3) fun q28 =>
      Option.bind (P a0 2) fun q31 =>
      Option.bind (f_X6_squareTo q26.2 q28 q31) fun q34 =>
      Option.bind (f_X2_spread s0.2.1 a0 q34) fun q36 =>
      p_let ((q36 * (s0.2.1 q4 7)) / (nI 100)) fun v38 =>
      Option.bind (P a0 1) fun q40 =>
      Option.bind (P a0 5) fun q43 =>
      Option.bind (f_X2_carry n s0.2.1 q26.2 P a0 v38 q40 q43) fun q46 =>
      Option.bind (P a0 5) fun q48 =>
      Option.bind (P a0 2) fun q51 =>
      Option.bind (f_X2_carry n s0.2.1 q46.2 P a0 q46.1 q48 q51) fun q54 =>
      Option.bind (f_X2_keep N s0.2.1 P a0 (nI 1) (s0.2.1 q4 0) (-1) q34 (nI 0) q54.1) fun q56 =>
      some (q56, q54.2)))) fun t15 =>
  rec0 (P q4 1, t15.1, t15.2)
def f_X2_searchMirrors (n : Nat) (N : pN) (I : pI) (L : pL) (P : pR) (a0 : Nat) : Option (pI × pL) :=
  Option.bind (p_it (B_X2_searchMirrors_5 n N P a0) n (P a0 0, I, L)) fun t1 =>
  some (t1.1, t1.2)
theorem c_X2_searchMirrors {G : pG} {d : Nat} {n : Nat} {N : pN} {I : pI} {L : pL} {P : pR} {a0 : Nat} {qq : pI × pL} (hd : 2 ≤ d) (hW : WT N P) (ha0 : p_tp N a0 5) (hf : f_X2_searchMirrors n N I L P a0 = some qq) : MT G mX2_searchMirrors d 0 0 [.ref a0] N I L P (p_R none N qq.1 qq.2 P) := by
  refine MT.of rfl (Nat.le_of_ble_eq_true rfl) ?_
  show SW G mX2_searchMirrors (p_rm d 0 0) 0 0 0 0 (p_R none N qq.1 qq.2 P) 0 [(0, .ref a0)] [] N I L P
  unfold f_X2_searchMirrors at hf
  refine s_aload_n (pc := 0) dX2_searchMirrors_0 0 rfl rfl ?_
  refine x_getQ (pc := 1) dX2_searchMirrors_1 fl_X2_67 rfl ha0 ?_
  refine x_astoreQ_n (pc := 4) (lo' := [(1, va_rf (P a0 0)), (0, .ref a0)]) dX2_searchMirrors_4 rfl (Nat.le_of_ble_eq_true rfl) rfl ?_
  obtain ⟨t1, hg, hf⟩ := p_bd hf
  have k2 : SW G mX2_searchMirrors (p_rm d 0 0) 0 0 0 0 (p_R none N qq.1 qq.2 P) 125 [] [] N t1.1 t1.2 P := by
    cases hf
    exact s_return (pc := 125) dX2_searchMirrors_125 rfl ⟨rfl, rfl, rfl, rfl, rfl⟩
  replace hf := hg
  have k59 : ∀ (k : Nat) (s0 : (Option Nat) × pI × pL), p_it (B_X2_searchMirrors_5 n N P a0) k s0 = some t1 → ((∀ q, s0.1 = some q → p_tp N q 3) → SW G mX2_searchMirrors (p_rm d 0 0) 0 0 0 0 (p_R none N qq.1 qq.2 P) 5 [(0, .ref a0), (1, va_rf s0.1)] [] N s0.2.1 s0.2.2 P) := p_it_ind (C := fun (s0 : (Option Nat) × pI × pL) => (∀ q, s0.1 = some q → p_tp N q 3) → SW G mX2_searchMirrors (p_rm d 0 0) 0 0 0 0 (p_R none N qq.1 qq.2 P) 5 [(0, .ref a0), (1, va_rf s0.1)] [] N s0.2.1 s0.2.2 P) (by
    intro rec0 hrec0 s0 hf y58
    unfold B_X2_searchMirrors_5 at hf
    refine x_aloadQ_n (pc := 5) dX2_searchMirrors_5 1 rfl rfl ?_
    refine y_ifnull (pc := 6) (tgt := 125) dX2_searchMirrors_6 rfl (fun hc => ?_) (fun q60 h61 => ?_)
    · replace hf := p_cs_n hf hc
      cases hf
      exact s_lo [] rfl (k2)
    · have t62 : p_tp N q60 3 := y58 q60 h61
      replace hf := p_cs_s hf h61
      have hz : va_rf s0.1 = .ref q60 := by rw [h61]; rfl
      rw [hz]
      refine s_aload_n (pc := 9) dX2_searchMirrors_9 0 rfl rfl ?_
      obtain ⟨q63, h64, hf⟩ := p_bd hf
      have t65 : p_tp N q63 9 := WT.get hW ha0 h64
      refine x_getR (pc := 10) dX2_searchMirrors_10 fl_X2_21 rfl ha0 h64 ?_
      refine s_aload_n (pc := 13) dX2_searchMirrors_13 0 rfl rfl ?_
      obtain ⟨q66, h67, hf⟩ := p_bd hf
      have t68 : p_tp N q66 9 := WT.get hW ha0 h67
      refine x_getR (pc := 14) dX2_searchMirrors_14 fl_X2_12 rfl ha0 h67 ?_
      refine s_aload_n (pc := 17) dX2_searchMirrors_17 1 rfl rfl ?_
      obtain ⟨q69, h70, hf⟩ := p_bd hf
      refine y_callV0 (pc := 18) dX2_searchMirrors_18 (c_X6_mirror (p_dd hd (by decide)) hW t65 t68 t62 h70) mk_X6_mirror mv_X6_mirror ml_X2_126 rfl rfl (Nat.le_of_ble_eq_true rfl) t65 rfl (p_d1 hd (by decide)) (Nat.le_of_ble_eq_true rfl) ?_
      refine s_aload_n (pc := 21) dX2_searchMirrors_21 1 rfl rfl ?_
      refine x_getI (pc := 22) dX2_searchMirrors_22 fl_X2_130 rfl t62 ?_
      obtain ⟨t71, hg, hf⟩ := p_bd hf
      have k72 : SW G mX2_searchMirrors (p_rm d 0 0) 0 0 0 0 (p_R none N qq.1 qq.2 P) 117 [(0, .ref a0), (1, .ref q60)] [] N t71.1 t71.2 P := by
        refine s_aload_n (pc := 117) dX2_searchMirrors_117 1 rfl rfl ?_
        refine x_getQ (pc := 118) dX2_searchMirrors_118 fl_X2_81 rfl t62 ?_
        refine x_astoreQ_n (pc := 121) (lo' := [(1, va_rf (P q60 1)), (0, .ref a0)]) dX2_searchMirrors_121 rfl (Nat.le_of_ble_eq_true rfl) rfl ?_
        refine s_goto (pc := 122) (tgt := 5) dX2_searchMirrors_122 rfl ?_
        exact s_lo [1, 0] rfl (hrec0 (P q60 1, t71.1, t71.2) hf (fun _ hq => WT.get hW t62 hq))
      replace hf := hg
      refine s_if_eq (pc := 25) (tgt := 117) dX2_searchMirrors_25 rfl (fun hc => ?_) (fun hc => ?_)
      · replace hf := p_ps hf hc
        cases hf
        exact s_lo [0, 1] rfl (k72)
      · replace hf := p_ng hf hc
        refine s_aload_n (pc := 28) dX2_searchMirrors_28 1 rfl rfl ?_
        refine s_aload_n (pc := 29) dX2_searchMirrors_29 0 rfl rfl ?_
        obtain ⟨q73, h74, hf⟩ := p_bd hf
        have t75 : p_tp N q73 9 := WT.get hW ha0 h74
        refine x_getR (pc := 30) dX2_searchMirrors_30 fl_X2_21 rfl ha0 h74 ?_
        refine s_aload_n (pc := 33) dX2_searchMirrors_33 0 rfl rfl ?_
        obtain ⟨q76, h77, hf⟩ := p_bd hf
        have t78 : p_tp N q76 9 := WT.get hW ha0 h77
        refine x_getR (pc := 34) dX2_searchMirrors_34 fl_X2_18 rfl ha0 h77 ?_
        refine s_aload_n (pc := 37) dX2_searchMirrors_37 0 rfl rfl ?_
        obtain ⟨q79, h80, hf⟩ := p_bd hf
        have t81 : p_tp N q79 9 := WT.get hW ha0 h80
        refine x_getR (pc := 38) dX2_searchMirrors_38 fl_X2_27 rfl ha0 h80 ?_
        obtain ⟨q82, h83, hf⟩ := p_bd hf
        refine y_callV1 (pc := 41) dX2_searchMirrors_41 (c_X0_meets (p_dd hd (by decide)) hW t62 t75 t78 t81 h83) mk_X0_meets mv_X0_meets ml_X2_134 rfl rfl (Nat.le_of_ble_eq_true rfl) t62 rfl (p_d1 hd (by decide)) (Nat.le_of_ble_eq_true rfl) ?_
        refine s_if_ne (pc := 44) (tgt := 50) dX2_searchMirrors_44 rfl (fun hc => ?_) (fun hc => ?_)
        · replace hf := p_ng hf hc
          refine s_aload_n (pc := 50) dX2_searchMirrors_50 0 rfl rfl ?_
          obtain ⟨q84, h85, hf⟩ := p_bd hf
          have t86 : p_tp N q84 9 := WT.get hW ha0 h85
          refine x_getR (pc := 51) dX2_searchMirrors_51 fl_X2_21 rfl ha0 h85 ?_
          refine s_aload_n (pc := 54) dX2_searchMirrors_54 0 rfl rfl ?_
          obtain ⟨q87, h88, hf⟩ := p_bd hf
          have t89 : p_tp N q87 9 := WT.get hW ha0 h88
          refine x_getR (pc := 55) dX2_searchMirrors_55 fl_X2_18 rfl ha0 h88 ?_
          obtain ⟨q90, h91, hf⟩ := p_bd hf
          refine y_callV1 (pc := 58) dX2_searchMirrors_58 (c_X6_squareTo (p_dd hd (by decide)) hW t86 t89 h91) mk_X6_squareTo mv_X6_squareTo ml_X2_111 rfl rfl (Nat.le_of_ble_eq_true rfl) t86 rfl (p_d1 hd (by decide)) (Nat.le_of_ble_eq_true rfl) ?_
          refine s_istore_n (pc := 61) (lo' := [(2, .int q90), (0, .ref a0), (1, .ref q60)]) dX2_searchMirrors_61 rfl (Nat.le_of_ble_eq_true rfl) rfl ?_
          refine s_aload_n (pc := 62) dX2_searchMirrors_62 1 rfl rfl ?_
          refine s_iload_n (pc := 63) dX2_searchMirrors_63 0 rfl rfl ?_
          obtain ⟨q92, h93, hf⟩ := p_bd hf
          refine y_callV1 (pc := 64) dX2_searchMirrors_64 (c_X2_spread (p_dd hd (by decide)) hW ha0 h93) mk_X2_spread mv_X2_spread ml_X2_115 rfl rfl (Nat.le_of_ble_eq_true rfl) ha0 rfl (p_d1 hd (by decide)) (Nat.le_of_ble_eq_true rfl) ?_
          refine s_aload_n (pc := 67) dX2_searchMirrors_67 2 rfl rfl ?_
          refine x_getI (pc := 68) dX2_searchMirrors_68 fl_X2_138 rfl t62 ?_
          refine s_imul (pc := 71) dX2_searchMirrors_71 ?_
          refine s_bipush (pc := 72) dX2_searchMirrors_72 (v := nI 100) rfl ?_
          refine s_idiv (pc := 74) dX2_searchMirrors_74 (by decide) ?_
          refine s_topi (fun v94 e95 => ?_)
          replace hf := p_lx hf e95
          refine s_istore_n (pc := 75) (lo' := [(3, .int v94), (2, .int q90), (0, .ref a0), (1, .ref q60)]) dX2_searchMirrors_75 rfl (Nat.le_of_ble_eq_true rfl) rfl ?_
          refine s_aload_n (pc := 76) dX2_searchMirrors_76 2 rfl rfl ?_
          refine s_iload_n (pc := 77) dX2_searchMirrors_77 0 rfl rfl ?_
          refine s_aload_n (pc := 78) dX2_searchMirrors_78 2 rfl rfl ?_
          obtain ⟨q96, h97, hf⟩ := p_bd hf
          have t98 : p_tp N q96 9 := WT.get hW ha0 h97
          refine x_getR (pc := 79) dX2_searchMirrors_79 fl_X2_12 rfl ha0 h97 ?_
          refine s_aload_n (pc := 82) dX2_searchMirrors_82 2 rfl rfl ?_
          obtain ⟨q99, h100, hf⟩ := p_bd hf
          have t101 : p_tp N q99 9 := WT.get hW ha0 h100
          refine x_getR (pc := 83) dX2_searchMirrors_83 fl_X2_27 rfl ha0 h100 ?_
          obtain ⟨q102, h103, hf⟩ := p_bd hf
          refine y_callV1 (pc := 86) dX2_searchMirrors_86 (c_X2_carry (p_dd hd (by decide)) hW ha0 t98 t101 h103) mk_X2_carry mv_X2_carry ml_X2_118 rfl rfl (Nat.le_of_ble_eq_true rfl) ha0 rfl (p_d1 hd (by decide)) (Nat.le_of_ble_eq_true rfl) ?_
          refine s_istore_n (pc := 89) (lo' := [(3, .int q102.1), (2, .int q90), (0, .ref a0), (1, .ref q60)]) dX2_searchMirrors_89 rfl (Nat.le_of_ble_eq_true rfl) rfl ?_
          refine s_aload_n (pc := 90) dX2_searchMirrors_90 2 rfl rfl ?_
          refine s_iload_n (pc := 91) dX2_searchMirrors_91 0 rfl rfl ?_
          refine s_aload_n (pc := 92) dX2_searchMirrors_92 2 rfl rfl ?_
          obtain ⟨q104, h105, hf⟩ := p_bd hf
          have t106 : p_tp N q104 9 := WT.get hW ha0 h105
          refine x_getR (pc := 93) dX2_searchMirrors_93 fl_X2_27 rfl ha0 h105 ?_
          refine s_aload_n (pc := 96) dX2_searchMirrors_96 2 rfl rfl ?_
          obtain ⟨q107, h108, hf⟩ := p_bd hf
          have t109 : p_tp N q107 9 := WT.get hW ha0 h108
          refine x_getR (pc := 97) dX2_searchMirrors_97 fl_X2_18 rfl ha0 h108 ?_
          obtain ⟨q110, h111, hf⟩ := p_bd hf
          refine y_callV1 (pc := 100) dX2_searchMirrors_100 (c_X2_carry (p_dd hd (by decide)) hW ha0 t106 t109 h111) mk_X2_carry mv_X2_carry ml_X2_118 rfl rfl (Nat.le_of_ble_eq_true rfl) ha0 rfl (p_d1 hd (by decide)) (Nat.le_of_ble_eq_true rfl) ?_
          refine s_istore_n (pc := 103) (lo' := [(3, .int q110.1), (2, .int q90), (0, .ref a0), (1, .ref q60)]) dX2_searchMirrors_103 rfl (Nat.le_of_ble_eq_true rfl) rfl ?_
          refine s_aload_n (pc := 104) dX2_searchMirrors_104 2 rfl rfl ?_
          refine s_iconst (pc := 105) dX2_searchMirrors_105 (v := nI 1) rfl ?_
          refine s_aload_n (pc := 106) dX2_searchMirrors_106 3 rfl rfl ?_
          refine x_getI (pc := 107) dX2_searchMirrors_107 fl_X2_141 rfl t62 ?_
          refine s_iconst (pc := 110) dX2_searchMirrors_110 (v := (-1)) rfl ?_
          refine s_iload_n (pc := 111) dX2_searchMirrors_111 1 rfl rfl ?_
          refine s_iconst (pc := 112) dX2_searchMirrors_112 (v := nI 0) rfl ?_
          refine s_iload_n (pc := 113) dX2_searchMirrors_113 0 rfl rfl ?_
          obtain ⟨q112, h113, hf⟩ := p_bd hf
          refine y_callV0 (pc := 114) dX2_searchMirrors_114 (c_X2_keep (p_dd hd (by decide)) hW ha0 h113) mk_X2_keep mv_X2_keep ml_X2_122 rfl rfl (Nat.le_of_ble_eq_true rfl) ha0 rfl (p_d1 hd (by decide)) (Nat.le_of_ble_eq_true rfl) ?_
          cases hf
          exact s_lo [2, 3] rfl (k72)
        · replace hf := p_ps hf hc
          refine s_goto (pc := 47) (tgt := 117) dX2_searchMirrors_47 rfl ?_
          cases hf
          exact s_lo [0, 1] rfl (k72))
  exact s_lo [1, 0] rfl (k59 n (P a0 0, I, L) hf (fun _ hq => WT.get hW ha0 hq))
def B_X2_searchPairs_26 (n : Nat) (N : pN) (P : pR) (a0 : Nat) (a1 : Nat) (rec1 : ((Option Nat) × pI × pL) → Option (pI × pL)) (s1 : (Option Nat) × pI × pL) : Option (pI × pL) :=
  p_cs s1.1 (some (s1.2.1, s1.2.2)) fun q18 =>
  (if (s1.2.1 a1 2) = 0 then
    some (s1.2.1, s1.2.2)
  else
    Option.bind (P a0 4) fun q21 =>
    Option.bind (P a0 3) fun q24 =>
    Option.bind (f_X6_mirror s1.2.1 s1.2.2 q21 q24 q18) fun q27 =>
    Option.bind (α := pI × pL) ((if q18 = a1 then
      some (s1.2.1, q27)
    else
      (if (s1.2.1 q18 2) = 0 then
        some (s1.2.1, q27)
      else
        Option.bind (P a0 4) fun q31 =>
        Option.bind (P a0 2) fun q34 =>
        Option.bind (P a0 6) fun q37 =>
        Option.bind (f_X0_meets s1.2.1 q27 q18 q31 q34 q37) fun q40 =>
        (if q40.1 = 0 then
          some (s1.2.1, q40.2)
        else
          Option.bind (P a0 3) fun q42 =>
          Option.bind (P a0 6) fun q45 =>
          Option.bind (P a0 5) fun q48 =>
          Option.bind (f_X0_meets s1.2.1 q40.2 a1 q42 q45 q48) fun q51 =>
          (if q51.1 = 0 then
            some (s1.2.1, q51.2)
          else
            Option.bind (P a0 4) fun q53 =>
            Option.bind (P a0 2) fun q56 =>
            Option.bind (f_X6_squareTo q51.2 q53 q56) fun q59 =>
            Option.bind (f_X2_spread s1.2.1 a0 q59) fun q61 =>
            p_let ((((q61 * (s1.2.1 a1 7)) / (nI 100)) * (s1.2.1 q18 7)) / (nI 100)) fun v63 =>
            Option.bind (P a0 1) fun q65 =>
            Option.bind (P a0 5) fun q68 =>
            Option.bind (f_X2_carry n s1.2.1 q51.2 P a0 v63 q65 q68) fun q71 =>
            Option.bind (P a0 5) fun q73 =>
            Option.bind (P a0 6) fun q76 =>
            Option.bind (f_X2_carry n s1.2.1 q71.2 P a0 q71.1 q73 q76) fun q79 =>
            Option.bind (P a0 6) fun q81 =>
            Option.bind (P a0 2) fun q84 =>
            Option.bind (f_X2_carry n s1.2.1 q79.2 P a0 q79.1 q81 q84) fun q87 =>
            Option.bind (f_X2_keep N s1.2.1 P a0 (nI 2) (s1.2.1 a1 0) (s1.2.1 q18 0) q59 (nI 0) q87.1) fun q89 =>
            some (q89, q87.2)))))) fun t29 =>
    rec1 (P q18 1, t29.1, t29.2))
def B_X2_searchPairs_5 (n : Nat) (N : pN) (P : pR) (a0 : Nat) (rec0 : ((Option Nat) × pI × pL) → Option (pI × pL)) (s0 : (Option Nat) × pI × pL) : Option (pI × pL) :=
  p_cs s0.1 (some (s0.2.1, s0.2.2)) fun q4 =>
  Option.bind (P a0 3) fun q7 =>
  Option.bind (P a0 1) fun q10 =>
  Option.bind (f_X6_mirror s0.2.1 s0.2.2 q7 q10 q4) fun q13 =>
  Option.bind (p_it (B_X2_searchPairs_26 n N P a0 q4) n (P a0 0, s0.2.1, q13)) fun t15 =>
  rec0 (P q4 1, t15.1, t15.2)
def f_X2_searchPairs (n : Nat) (N : pN) (I : pI) (L : pL) (P : pR) (a0 : Nat) : Option (pI × pL) :=
  Option.bind (p_it (B_X2_searchPairs_5 n N P a0) n (P a0 0, I, L)) fun t1 =>
  some (t1.1, t1.2)
theorem c_X2_searchPairs {G : pG} {d : Nat} {n : Nat} {N : pN} {I : pI} {L : pL} {P : pR} {a0 : Nat} {qq : pI × pL} (hd : 2 ≤ d) (hW : WT N P) (ha0 : p_tp N a0 5) (hf : f_X2_searchPairs n N I L P a0 = some qq) : MT G mX2_searchPairs d 0 0 [.ref a0] N I L P (p_R none N qq.1 qq.2 P) := by
  refine MT.of rfl (Nat.le_of_ble_eq_true rfl) ?_
  show SW G mX2_searchPairs (p_rm d 0 0) 0 0 0 0 (p_R none N qq.1 qq.2 P) 0 [(0, .ref a0)] [] N I L P
  unfold f_X2_searchPairs at hf
  refine s_aload_n (pc := 0) dX2_searchPairs_0 0 rfl rfl ?_
  refine x_getQ (pc := 1) dX2_searchPairs_1 fl_X2_67 rfl ha0 ?_
  refine x_astoreQ_n (pc := 4) (lo' := [(1, va_rf (P a0 0)), (0, .ref a0)]) dX2_searchPairs_4 rfl (Nat.le_of_ble_eq_true rfl) rfl ?_
  obtain ⟨t1, hg, hf⟩ := p_bd hf
  have k2 : SW G mX2_searchPairs (p_rm d 0 0) 0 0 0 0 (p_R none N qq.1 qq.2 P) 218 [] [] N t1.1 t1.2 P := by
    cases hf
    exact s_return (pc := 218) dX2_searchPairs_218 rfl ⟨rfl, rfl, rfl, rfl, rfl⟩
  replace hf := hg
  have k167 : ∀ (k : Nat) (s0 : (Option Nat) × pI × pL), p_it (B_X2_searchPairs_5 n N P a0) k s0 = some t1 → ((∀ q, s0.1 = some q → p_tp N q 3) → SW G mX2_searchPairs (p_rm d 0 0) 0 0 0 0 (p_R none N qq.1 qq.2 P) 5 [(0, .ref a0), (1, va_rf s0.1)] [] N s0.2.1 s0.2.2 P) := p_it_ind (C := fun (s0 : (Option Nat) × pI × pL) => (∀ q, s0.1 = some q → p_tp N q 3) → SW G mX2_searchPairs (p_rm d 0 0) 0 0 0 0 (p_R none N qq.1 qq.2 P) 5 [(0, .ref a0), (1, va_rf s0.1)] [] N s0.2.1 s0.2.2 P) (by
    intro rec0 hrec0 s0 hf y166
    unfold B_X2_searchPairs_5 at hf
    refine x_aloadQ_n (pc := 5) dX2_searchPairs_5 1 rfl rfl ?_
    refine y_ifnull (pc := 6) (tgt := 218) dX2_searchPairs_6 rfl (fun hc => ?_) (fun q168 h169 => ?_)
    · replace hf := p_cs_n hf hc
      cases hf
      exact s_lo [] rfl (k2)
    · have t170 : p_tp N q168 3 := y166 q168 h169
      replace hf := p_cs_s hf h169
      have hz : va_rf s0.1 = .ref q168 := by rw [h169]; rfl
      rw [hz]
      refine s_aload_n (pc := 9) dX2_searchPairs_9 0 rfl rfl ?_
      obtain ⟨q171, h172, hf⟩ := p_bd hf
      have t173 : p_tp N q171 9 := WT.get hW ha0 h172
      refine x_getR (pc := 10) dX2_searchPairs_10 fl_X2_21 rfl ha0 h172 ?_
      refine s_aload_n (pc := 13) dX2_searchPairs_13 0 rfl rfl ?_
      obtain ⟨q174, h175, hf⟩ := p_bd hf
      have t176 : p_tp N q174 9 := WT.get hW ha0 h175
      refine x_getR (pc := 14) dX2_searchPairs_14 fl_X2_12 rfl ha0 h175 ?_
      refine s_aload_n (pc := 17) dX2_searchPairs_17 1 rfl rfl ?_
      obtain ⟨q177, h178, hf⟩ := p_bd hf
      refine y_callV0 (pc := 18) dX2_searchPairs_18 (c_X6_mirror (p_dd hd (by decide)) hW t173 t176 t170 h178) mk_X6_mirror mv_X6_mirror ml_X2_126 rfl rfl (Nat.le_of_ble_eq_true rfl) t173 rfl (p_d1 hd (by decide)) (Nat.le_of_ble_eq_true rfl) ?_
      refine s_aload_n (pc := 21) dX2_searchPairs_21 0 rfl rfl ?_
      refine x_getQ (pc := 22) dX2_searchPairs_22 fl_X2_67 rfl ha0 ?_
      refine x_astoreQ_n (pc := 25) (lo' := [(2, va_rf (P a0 0)), (0, .ref a0), (1, .ref q168)]) dX2_searchPairs_25 rfl (Nat.le_of_ble_eq_true rfl) rfl ?_
      obtain ⟨t179, hg, hf⟩ := p_bd hf
      have k180 : SW G mX2_searchPairs (p_rm d 0 0) 0 0 0 0 (p_R none N qq.1 qq.2 P) 210 [(0, .ref a0), (1, .ref q168)] [] N t179.1 t179.2 P := by
        refine s_aload_n (pc := 210) dX2_searchPairs_210 1 rfl rfl ?_
        refine x_getQ (pc := 211) dX2_searchPairs_211 fl_X2_81 rfl t170 ?_
        refine x_astoreQ_n (pc := 214) (lo' := [(1, va_rf (P q168 1)), (0, .ref a0)]) dX2_searchPairs_214 rfl (Nat.le_of_ble_eq_true rfl) rfl ?_
        refine s_goto (pc := 215) (tgt := 5) dX2_searchPairs_215 rfl ?_
        exact s_lo [1, 0] rfl (hrec0 (P q168 1, t179.1, t179.2) hf (fun _ hq => WT.get hW t170 hq))
      replace hf := hg
      have k183 : ∀ (k : Nat) (s1 : (Option Nat) × pI × pL), p_it (B_X2_searchPairs_26 n N P a0 q168) k s1 = some t179 → ((∀ q, s1.1 = some q → p_tp N q 3) → SW G mX2_searchPairs (p_rm d 0 0) 0 0 0 0 (p_R none N qq.1 qq.2 P) 26 [(0, .ref a0), (1, .ref q168), (2, va_rf s1.1)] [] N s1.2.1 s1.2.2 P) := p_it_ind (C := fun (s1 : (Option Nat) × pI × pL) => (∀ q, s1.1 = some q → p_tp N q 3) → SW G mX2_searchPairs (p_rm d 0 0) 0 0 0 0 (p_R none N qq.1 qq.2 P) 26 [(0, .ref a0), (1, .ref q168), (2, va_rf s1.1)] [] N s1.2.1 s1.2.2 P) (by
        intro rec1 hrec1 s1 hf y182
        unfold B_X2_searchPairs_26 at hf
        refine x_aloadQ_n (pc := 26) dX2_searchPairs_26 2 rfl rfl ?_
        refine y_ifnull (pc := 27) (tgt := 210) dX2_searchPairs_27 rfl (fun hc => ?_) (fun q184 h185 => ?_)
        · replace hf := p_cs_n hf hc
          cases hf
          exact s_lo [0, 1] rfl (k180)
        · have t186 : p_tp N q184 3 := y182 q184 h185
          replace hf := p_cs_s hf h185
          have hz : va_rf s1.1 = .ref q184 := by rw [h185]; rfl
          rw [hz]
          refine s_aload_n (pc := 30) dX2_searchPairs_30 1 rfl rfl ?_
          refine x_getI (pc := 31) dX2_searchPairs_31 fl_X2_130 rfl t170 ?_
          refine s_if_eq (pc := 34) (tgt := 210) dX2_searchPairs_34 rfl (fun hc => ?_) (fun hc => ?_)
          · replace hf := p_ps hf hc
            cases hf
            exact s_lo [0, 1] rfl (k180)
          · replace hf := p_ng hf hc
            refine s_aload_n (pc := 37) dX2_searchPairs_37 0 rfl rfl ?_
            obtain ⟨q187, h188, hf⟩ := p_bd hf
            have t189 : p_tp N q187 9 := WT.get hW ha0 h188
            refine x_getR (pc := 38) dX2_searchPairs_38 fl_X2_24 rfl ha0 h188 ?_
            refine s_aload_n (pc := 41) dX2_searchPairs_41 0 rfl rfl ?_
            obtain ⟨q190, h191, hf⟩ := p_bd hf
            have t192 : p_tp N q190 9 := WT.get hW ha0 h191
            refine x_getR (pc := 42) dX2_searchPairs_42 fl_X2_21 rfl ha0 h191 ?_
            refine s_aload_n (pc := 45) dX2_searchPairs_45 2 rfl rfl ?_
            obtain ⟨q193, h194, hf⟩ := p_bd hf
            refine y_callV0 (pc := 46) dX2_searchPairs_46 (c_X6_mirror (p_dd hd (by decide)) hW t189 t192 t186 h194) mk_X6_mirror mv_X6_mirror ml_X2_126 rfl rfl (Nat.le_of_ble_eq_true rfl) t189 rfl (p_d1 hd (by decide)) (Nat.le_of_ble_eq_true rfl) ?_
            refine s_aload_n (pc := 49) dX2_searchPairs_49 2 rfl rfl ?_
            refine s_aload_n (pc := 50) dX2_searchPairs_50 1 rfl rfl ?_
            obtain ⟨t195, hg, hf⟩ := p_bd hf
            have k196 : SW G mX2_searchPairs (p_rm d 0 0) 0 0 0 0 (p_R none N qq.1 qq.2 P) 202 [(0, .ref a0), (1, .ref q168), (2, .ref q184)] [] N t195.1 t195.2 P := by
              refine s_aload_n (pc := 202) dX2_searchPairs_202 2 rfl rfl ?_
              refine x_getQ (pc := 203) dX2_searchPairs_203 fl_X2_81 rfl t186 ?_
              refine x_astoreQ_n (pc := 206) (lo' := [(2, va_rf (P q184 1)), (0, .ref a0), (1, .ref q168)]) dX2_searchPairs_206 rfl (Nat.le_of_ble_eq_true rfl) rfl ?_
              refine s_goto (pc := 207) (tgt := 26) dX2_searchPairs_207 rfl ?_
              exact s_lo [1, 2, 0] rfl (hrec1 (P q184 1, t195.1, t195.2) hf (fun _ hq => WT.get hW t186 hq))
            replace hf := hg
            refine y_acmp_eq (pc := 51) (tgt := 202) dX2_searchPairs_51 rfl t186 t170 (fun hc => ?_) (fun hc => ?_)
            · replace hf := p_ps hf hc
              cases hf
              exact s_lo [0, 1, 2] rfl (k196)
            · replace hf := p_ng hf hc
              refine s_aload_n (pc := 54) dX2_searchPairs_54 2 rfl rfl ?_
              refine x_getI (pc := 55) dX2_searchPairs_55 fl_X2_130 rfl t186 ?_
              refine s_if_eq (pc := 58) (tgt := 202) dX2_searchPairs_58 rfl (fun hc => ?_) (fun hc => ?_)
              · replace hf := p_ps hf hc
                cases hf
                exact s_lo [0, 1, 2] rfl (k196)
              · replace hf := p_ng hf hc
                refine s_aload_n (pc := 61) dX2_searchPairs_61 2 rfl rfl ?_
                refine s_aload_n (pc := 62) dX2_searchPairs_62 0 rfl rfl ?_
                obtain ⟨q197, h198, hf⟩ := p_bd hf
                have t199 : p_tp N q197 9 := WT.get hW ha0 h198
                refine x_getR (pc := 63) dX2_searchPairs_63 fl_X2_24 rfl ha0 h198 ?_
                refine s_aload_n (pc := 66) dX2_searchPairs_66 0 rfl rfl ?_
                obtain ⟨q200, h201, hf⟩ := p_bd hf
                have t202 : p_tp N q200 9 := WT.get hW ha0 h201
                refine x_getR (pc := 67) dX2_searchPairs_67 fl_X2_18 rfl ha0 h201 ?_
                refine s_aload_n (pc := 70) dX2_searchPairs_70 0 rfl rfl ?_
                obtain ⟨q203, h204, hf⟩ := p_bd hf
                have t205 : p_tp N q203 9 := WT.get hW ha0 h204
                refine x_getR (pc := 71) dX2_searchPairs_71 fl_X2_30 rfl ha0 h204 ?_
                obtain ⟨q206, h207, hf⟩ := p_bd hf
                refine y_callV1 (pc := 74) dX2_searchPairs_74 (c_X0_meets (p_dd hd (by decide)) hW t186 t199 t202 t205 h207) mk_X0_meets mv_X0_meets ml_X2_134 rfl rfl (Nat.le_of_ble_eq_true rfl) t186 rfl (p_d1 hd (by decide)) (Nat.le_of_ble_eq_true rfl) ?_
                refine s_if_eq (pc := 77) (tgt := 202) dX2_searchPairs_77 rfl (fun hc => ?_) (fun hc => ?_)
                · replace hf := p_ps hf hc
                  cases hf
                  exact s_lo [0, 1, 2] rfl (k196)
                · replace hf := p_ng hf hc
                  refine s_aload_n (pc := 80) dX2_searchPairs_80 1 rfl rfl ?_
                  refine s_aload_n (pc := 81) dX2_searchPairs_81 0 rfl rfl ?_
                  obtain ⟨q208, h209, hf⟩ := p_bd hf
                  have t210 : p_tp N q208 9 := WT.get hW ha0 h209
                  refine x_getR (pc := 82) dX2_searchPairs_82 fl_X2_21 rfl ha0 h209 ?_
                  refine s_aload_n (pc := 85) dX2_searchPairs_85 0 rfl rfl ?_
                  obtain ⟨q211, h212, hf⟩ := p_bd hf
                  have t213 : p_tp N q211 9 := WT.get hW ha0 h212
                  refine x_getR (pc := 86) dX2_searchPairs_86 fl_X2_30 rfl ha0 h212 ?_
                  refine s_aload_n (pc := 89) dX2_searchPairs_89 0 rfl rfl ?_
                  obtain ⟨q214, h215, hf⟩ := p_bd hf
                  have t216 : p_tp N q214 9 := WT.get hW ha0 h215
                  refine x_getR (pc := 90) dX2_searchPairs_90 fl_X2_27 rfl ha0 h215 ?_
                  obtain ⟨q217, h218, hf⟩ := p_bd hf
                  refine y_callV1 (pc := 93) dX2_searchPairs_93 (c_X0_meets (p_dd hd (by decide)) hW t170 t210 t213 t216 h218) mk_X0_meets mv_X0_meets ml_X2_134 rfl rfl (Nat.le_of_ble_eq_true rfl) t170 rfl (p_d1 hd (by decide)) (Nat.le_of_ble_eq_true rfl) ?_
                  refine s_if_ne (pc := 96) (tgt := 102) dX2_searchPairs_96 rfl (fun hc => ?_) (fun hc => ?_)
                  · replace hf := p_ng hf hc
                    refine s_aload_n (pc := 102) dX2_searchPairs_102 0 rfl rfl ?_
                    obtain ⟨q219, h220, hf⟩ := p_bd hf
                    have t221 : p_tp N q219 9 := WT.get hW ha0 h220
                    refine x_getR (pc := 103) dX2_searchPairs_103 fl_X2_24 rfl ha0 h220 ?_
                    refine s_aload_n (pc := 106) dX2_searchPairs_106 0 rfl rfl ?_
                    obtain ⟨q222, h223, hf⟩ := p_bd hf
                    have t224 : p_tp N q222 9 := WT.get hW ha0 h223
                    refine x_getR (pc := 107) dX2_searchPairs_107 fl_X2_18 rfl ha0 h223 ?_
                    obtain ⟨q225, h226, hf⟩ := p_bd hf
                    refine y_callV1 (pc := 110) dX2_searchPairs_110 (c_X6_squareTo (p_dd hd (by decide)) hW t221 t224 h226) mk_X6_squareTo mv_X6_squareTo ml_X2_111 rfl rfl (Nat.le_of_ble_eq_true rfl) t221 rfl (p_d1 hd (by decide)) (Nat.le_of_ble_eq_true rfl) ?_
                    refine s_istore_n (pc := 113) (lo' := [(3, .int q225), (0, .ref a0), (1, .ref q168), (2, .ref q184)]) dX2_searchPairs_113 rfl (Nat.le_of_ble_eq_true rfl) rfl ?_
                    refine s_aload_n (pc := 114) dX2_searchPairs_114 1 rfl rfl ?_
                    refine s_iload_n (pc := 115) dX2_searchPairs_115 0 rfl rfl ?_
                    obtain ⟨q227, h228, hf⟩ := p_bd hf
                    refine y_callV1 (pc := 116) dX2_searchPairs_116 (c_X2_spread (p_dd hd (by decide)) hW ha0 h228) mk_X2_spread mv_X2_spread ml_X2_115 rfl rfl (Nat.le_of_ble_eq_true rfl) ha0 rfl (p_d1 hd (by decide)) (Nat.le_of_ble_eq_true rfl) ?_
                    refine s_aload_n (pc := 119) dX2_searchPairs_119 2 rfl rfl ?_
                    refine x_getI (pc := 120) dX2_searchPairs_120 fl_X2_138 rfl t170 ?_
                    refine s_imul (pc := 123) dX2_searchPairs_123 ?_
                    refine s_bipush (pc := 124) dX2_searchPairs_124 (v := nI 100) rfl ?_
                    refine s_idiv (pc := 126) dX2_searchPairs_126 (by decide) ?_
                    refine s_aload_n (pc := 127) dX2_searchPairs_127 3 rfl rfl ?_
                    refine x_getI (pc := 128) dX2_searchPairs_128 fl_X2_138 rfl t186 ?_
                    refine s_imul (pc := 131) dX2_searchPairs_131 ?_
                    refine s_bipush (pc := 132) dX2_searchPairs_132 (v := nI 100) rfl ?_
                    refine s_idiv (pc := 134) dX2_searchPairs_134 (by decide) ?_
                    refine s_topi (fun v229 e230 => ?_)
                    replace hf := p_lx hf e230
                    refine s_istore (pc := 135) (lo' := [(4, .int v229), (3, .int q225), (0, .ref a0), (1, .ref q168), (2, .ref q184)]) dX2_searchPairs_135 (Nat.le_of_ble_eq_true rfl) rfl ?_
                    refine s_aload_n (pc := 137) dX2_searchPairs_137 2 rfl rfl ?_
                    refine s_iload (pc := 138) dX2_searchPairs_138 0 rfl ?_
                    refine s_aload_n (pc := 140) dX2_searchPairs_140 2 rfl rfl ?_
                    obtain ⟨q231, h232, hf⟩ := p_bd hf
                    have t233 : p_tp N q231 9 := WT.get hW ha0 h232
                    refine x_getR (pc := 141) dX2_searchPairs_141 fl_X2_12 rfl ha0 h232 ?_
                    refine s_aload_n (pc := 144) dX2_searchPairs_144 2 rfl rfl ?_
                    obtain ⟨q234, h235, hf⟩ := p_bd hf
                    have t236 : p_tp N q234 9 := WT.get hW ha0 h235
                    refine x_getR (pc := 145) dX2_searchPairs_145 fl_X2_27 rfl ha0 h235 ?_
                    obtain ⟨q237, h238, hf⟩ := p_bd hf
                    refine y_callV1 (pc := 148) dX2_searchPairs_148 (c_X2_carry (p_dd hd (by decide)) hW ha0 t233 t236 h238) mk_X2_carry mv_X2_carry ml_X2_118 rfl rfl (Nat.le_of_ble_eq_true rfl) ha0 rfl (p_d1 hd (by decide)) (Nat.le_of_ble_eq_true rfl) ?_
                    refine s_istore (pc := 151) (lo' := [(4, .int q237.1), (3, .int q225), (0, .ref a0), (1, .ref q168), (2, .ref q184)]) dX2_searchPairs_151 (Nat.le_of_ble_eq_true rfl) rfl ?_
                    refine s_aload_n (pc := 153) dX2_searchPairs_153 2 rfl rfl ?_
                    refine s_iload (pc := 154) dX2_searchPairs_154 0 rfl ?_
                    refine s_aload_n (pc := 156) dX2_searchPairs_156 2 rfl rfl ?_
                    obtain ⟨q239, h240, hf⟩ := p_bd hf
                    have t241 : p_tp N q239 9 := WT.get hW ha0 h240
                    refine x_getR (pc := 157) dX2_searchPairs_157 fl_X2_27 rfl ha0 h240 ?_
                    refine s_aload_n (pc := 160) dX2_searchPairs_160 2 rfl rfl ?_
                    obtain ⟨q242, h243, hf⟩ := p_bd hf
                    have t244 : p_tp N q242 9 := WT.get hW ha0 h243
                    refine x_getR (pc := 161) dX2_searchPairs_161 fl_X2_30 rfl ha0 h243 ?_
                    obtain ⟨q245, h246, hf⟩ := p_bd hf
                    refine y_callV1 (pc := 164) dX2_searchPairs_164 (c_X2_carry (p_dd hd (by decide)) hW ha0 t241 t244 h246) mk_X2_carry mv_X2_carry ml_X2_118 rfl rfl (Nat.le_of_ble_eq_true rfl) ha0 rfl (p_d1 hd (by decide)) (Nat.le_of_ble_eq_true rfl) ?_
                    refine s_istore (pc := 167) (lo' := [(4, .int q245.1), (3, .int q225), (0, .ref a0), (1, .ref q168), (2, .ref q184)]) dX2_searchPairs_167 (Nat.le_of_ble_eq_true rfl) rfl ?_
                    refine s_aload_n (pc := 169) dX2_searchPairs_169 2 rfl rfl ?_
                    refine s_iload (pc := 170) dX2_searchPairs_170 0 rfl ?_
                    refine s_aload_n (pc := 172) dX2_searchPairs_172 2 rfl rfl ?_
                    obtain ⟨q247, h248, hf⟩ := p_bd hf
                    have t249 : p_tp N q247 9 := WT.get hW ha0 h248
                    refine x_getR (pc := 173) dX2_searchPairs_173 fl_X2_30 rfl ha0 h248 ?_
                    refine s_aload_n (pc := 176) dX2_searchPairs_176 2 rfl rfl ?_
                    obtain ⟨q250, h251, hf⟩ := p_bd hf
                    have t252 : p_tp N q250 9 := WT.get hW ha0 h251
                    refine x_getR (pc := 177) dX2_searchPairs_177 fl_X2_18 rfl ha0 h251 ?_
                    obtain ⟨q253, h254, hf⟩ := p_bd hf
                    refine y_callV1 (pc := 180) dX2_searchPairs_180 (c_X2_carry (p_dd hd (by decide)) hW ha0 t249 t252 h254) mk_X2_carry mv_X2_carry ml_X2_118 rfl rfl (Nat.le_of_ble_eq_true rfl) ha0 rfl (p_d1 hd (by decide)) (Nat.le_of_ble_eq_true rfl) ?_
                    refine s_istore (pc := 183) (lo' := [(4, .int q253.1), (3, .int q225), (0, .ref a0), (1, .ref q168), (2, .ref q184)]) dX2_searchPairs_183 (Nat.le_of_ble_eq_true rfl) rfl ?_
                    refine s_aload_n (pc := 185) dX2_searchPairs_185 2 rfl rfl ?_
                    refine s_iconst (pc := 186) dX2_searchPairs_186 (v := nI 2) rfl ?_
                    refine s_aload_n (pc := 187) dX2_searchPairs_187 3 rfl rfl ?_
                    refine x_getI (pc := 188) dX2_searchPairs_188 fl_X2_141 rfl t170 ?_
                    refine s_aload_n (pc := 191) dX2_searchPairs_191 4 rfl rfl ?_
                    refine x_getI (pc := 192) dX2_searchPairs_192 fl_X2_141 rfl t186 ?_
                    refine s_iload_n (pc := 195) dX2_searchPairs_195 1 rfl rfl ?_
                    refine s_iconst (pc := 196) dX2_searchPairs_196 (v := nI 0) rfl ?_
                    refine s_iload (pc := 197) dX2_searchPairs_197 0 rfl ?_
                    obtain ⟨q255, h256, hf⟩ := p_bd hf
                    refine y_callV0 (pc := 199) dX2_searchPairs_199 (c_X2_keep (p_dd hd (by decide)) hW ha0 h256) mk_X2_keep mv_X2_keep ml_X2_122 rfl rfl (Nat.le_of_ble_eq_true rfl) ha0 rfl (p_d1 hd (by decide)) (Nat.le_of_ble_eq_true rfl) ?_
                    cases hf
                    exact s_lo [2, 3, 4] rfl (k196)
                  · replace hf := p_ps hf hc
                    refine s_goto (pc := 99) (tgt := 202) dX2_searchPairs_99 rfl ?_
                    cases hf
                    exact s_lo [0, 1, 2] rfl (k196))
      exact s_lo [1, 2, 0] rfl (k183 n (P a0 0, s0.2.1, q177) hf (fun _ hq => WT.get hW ha0 hq)))
  exact s_lo [1, 0] rfl (k167 n (P a0 0, I, L) hf (fun _ hq => WT.get hW ha0 hq))
def B_X2_isEarlierCorner_5 (I : pI) (L : pL) (P : pR) (a0 : Nat) (a1 : Nat) (rec0 : (Option Nat) → Option Int32) (s0 : (Option Nat)) : Option Int32 :=
  p_cs s0 (some (nI 0)) fun q2 =>
  (if q2 = a1 then
    some (nI 0)
  else
    (if (I q2 2) = 0 then
      rec0 (P q2 1)
    else
      Option.bind (P a0 5) fun q5 =>
      Option.bind (f_X0_endsAt I L q2 q5) fun q8 =>
      (if q8 = 0 then
        rec0 (P q2 1)
      else
        some (nI 1))))
def f_X2_isEarlierCorner (n : Nat) (I : pI) (L : pL) (P : pR) (a0 : Nat) (a1 : Nat) : Option Int32 :=
  p_it (B_X2_isEarlierCorner_5 I L P a0 a1) n (P a0 0)
theorem c_X2_isEarlierCorner {G : pG} {d : Nat} {n : Nat} {N : pN} {I : pI} {L : pL} {P : pR} {a0 : Nat} {a1 : Nat} {qq : Int32} (hd : 1 ≤ d) (hW : WT N P) (ha0 : p_tp N a0 5) (ha1 : p_tp N a1 3) (hf : f_X2_isEarlierCorner n I L P a0 a1 = some qq) : MT G mX2_isEarlierCorner d 0 0 [.ref a0, .ref a1] N I L P (p_R (some (.int qq)) N I L P) := by
  refine MT.of rfl (Nat.le_of_ble_eq_true rfl) ?_
  show SW G mX2_isEarlierCorner (p_rm d 0 0) 0 0 0 0 (p_R (some (.int qq)) N I L P) 0 [(0, .ref a0), (1, .ref a1)] [] N I L P
  unfold f_X2_isEarlierCorner at hf
  refine s_aload_n (pc := 0) dX2_isEarlierCorner_0 0 rfl rfl ?_
  refine x_getQ (pc := 1) dX2_isEarlierCorner_1 fl_X2_67 rfl ha0 ?_
  refine x_astoreQ_n (pc := 4) (lo' := [(2, va_rf (P a0 0)), (0, .ref a0), (1, .ref a1)]) dX2_isEarlierCorner_4 rfl (Nat.le_of_ble_eq_true rfl) rfl ?_
  have k11 : ∀ (k : Nat) (s0 : (Option Nat)), p_it (B_X2_isEarlierCorner_5 I L P a0 a1) k s0 = some qq → ((∀ q, s0 = some q → p_tp N q 3) → SW G mX2_isEarlierCorner (p_rm d 0 0) 0 0 0 0 (p_R (some (.int qq)) N I L P) 5 [(0, .ref a0), (1, .ref a1), (2, va_rf s0)] [] N I L P) := p_it_ind (C := fun (s0 : (Option Nat)) => (∀ q, s0 = some q → p_tp N q 3) → SW G mX2_isEarlierCorner (p_rm d 0 0) 0 0 0 0 (p_R (some (.int qq)) N I L P) 5 [(0, .ref a0), (1, .ref a1), (2, va_rf s0)] [] N I L P) (by
    intro rec0 hrec0 s0 hf y10
    unfold B_X2_isEarlierCorner_5 at hf
    refine x_aloadQ_n (pc := 5) dX2_isEarlierCorner_5 2 rfl rfl ?_
    refine y_ifnull (pc := 6) (tgt := 42) dX2_isEarlierCorner_6 rfl (fun hc => ?_) (fun q12 h13 => ?_)
    · replace hf := p_cs_n hf hc
      refine s_iconst (pc := 42) dX2_isEarlierCorner_42 (v := nI 0) rfl ?_
      cases hf
      exact s_ireturn (pc := 43) dX2_isEarlierCorner_43 rfl rfl ⟨rfl, rfl, rfl, rfl, rfl⟩
    · have t14 : p_tp N q12 3 := y10 q12 h13
      replace hf := p_cs_s hf h13
      have hz : va_rf s0 = .ref q12 := by rw [h13]; rfl
      rw [hz]
      refine s_aload_n (pc := 9) dX2_isEarlierCorner_9 2 rfl rfl ?_
      refine s_aload_n (pc := 10) dX2_isEarlierCorner_10 1 rfl rfl ?_
      refine y_acmp_eq (pc := 11) (tgt := 42) dX2_isEarlierCorner_11 rfl t14 ha1 (fun hc => ?_) (fun hc => ?_)
      · replace hf := p_ps hf hc
        refine s_iconst (pc := 42) dX2_isEarlierCorner_42 (v := nI 0) rfl ?_
        cases hf
        exact s_ireturn (pc := 43) dX2_isEarlierCorner_43 rfl rfl ⟨rfl, rfl, rfl, rfl, rfl⟩
      · replace hf := p_ng hf hc
        refine s_aload_n (pc := 14) dX2_isEarlierCorner_14 2 rfl rfl ?_
        refine x_getI (pc := 15) dX2_isEarlierCorner_15 fl_X2_130 rfl t14 ?_
        refine s_if_eq (pc := 18) (tgt := 34) dX2_isEarlierCorner_18 rfl (fun hc => ?_) (fun hc => ?_)
        · replace hf := p_ps hf hc
          refine s_aload_n (pc := 34) dX2_isEarlierCorner_34 2 rfl rfl ?_
          refine x_getQ (pc := 35) dX2_isEarlierCorner_35 fl_X2_81 rfl t14 ?_
          refine x_astoreQ_n (pc := 38) (lo' := [(2, va_rf (P q12 1)), (0, .ref a0), (1, .ref a1)]) dX2_isEarlierCorner_38 rfl (Nat.le_of_ble_eq_true rfl) rfl ?_
          refine s_goto (pc := 39) (tgt := 5) dX2_isEarlierCorner_39 rfl ?_
          exact s_lo [1, 2, 0] rfl (hrec0 (P q12 1) hf (fun _ hq => WT.get hW t14 hq))
        · replace hf := p_ng hf hc
          refine s_aload_n (pc := 21) dX2_isEarlierCorner_21 2 rfl rfl ?_
          refine s_aload_n (pc := 22) dX2_isEarlierCorner_22 0 rfl rfl ?_
          obtain ⟨q15, h16, hf⟩ := p_bd hf
          have t17 : p_tp N q15 9 := WT.get hW ha0 h16
          refine x_getR (pc := 23) dX2_isEarlierCorner_23 fl_X2_27 rfl ha0 h16 ?_
          obtain ⟨q18, h19, hf⟩ := p_bd hf
          refine y_callV1 (pc := 26) dX2_isEarlierCorner_26 (c_X0_endsAt (p_dd hd (by decide)) hW t14 t17 h19) mk_X0_endsAt mv_X0_endsAt ml_X2_155 rfl rfl (Nat.le_of_ble_eq_true rfl) t14 rfl (p_d1 hd (by decide)) (Nat.le_of_ble_eq_true rfl) ?_
          refine s_if_eq (pc := 29) (tgt := 34) dX2_isEarlierCorner_29 rfl (fun hc => ?_) (fun hc => ?_)
          · replace hf := p_ps hf hc
            refine s_aload_n (pc := 34) dX2_isEarlierCorner_34 2 rfl rfl ?_
            refine x_getQ (pc := 35) dX2_isEarlierCorner_35 fl_X2_81 rfl t14 ?_
            refine x_astoreQ_n (pc := 38) (lo' := [(2, va_rf (P q12 1)), (0, .ref a0), (1, .ref a1)]) dX2_isEarlierCorner_38 rfl (Nat.le_of_ble_eq_true rfl) rfl ?_
            refine s_goto (pc := 39) (tgt := 5) dX2_isEarlierCorner_39 rfl ?_
            exact s_lo [1, 2, 0] rfl (hrec0 (P q12 1) hf (fun _ hq => WT.get hW t14 hq))
          · replace hf := p_ng hf hc
            refine s_iconst (pc := 32) dX2_isEarlierCorner_32 (v := nI 1) rfl ?_
            cases hf
            exact s_ireturn (pc := 33) dX2_isEarlierCorner_33 rfl rfl ⟨rfl, rfl, rfl, rfl, rfl⟩)
  exact s_lo [1, 2, 0] rfl (k11 n (P a0 0) hf (fun _ hq => WT.get hW ha0 hq))
def B_X2_rootOf_5 (x0 : Int32) (rec0 : (Int32 × Int32) → Option Int32) (s0 : Int32 × Int32) : Option Int32 :=
  (if s0.2 ≤ 0 then
    some s0.1
  else
    p_let (Int32.toInt64 (s0.1 + s0.2)) fun v3 =>
    p_let (α := Int32) ((if (Int32.toInt64 x0) < (v3 * v3) then
      s0.1
    else
      s0.1 + s0.2)) fun t5 =>
    rec0 (t5, s0.2 >>> ((nI 1) &&& 31)))
def f_X2_rootOf (n : Nat) (x0 : Int32) : Option Int32 :=
  Option.bind (p_it (B_X2_rootOf_5 x0) n (nI 0, nI 32768)) fun t1 =>
  some t1
theorem c_X2_rootOf {G : pG} {d : Nat} {n : Nat} {N : pN} {I : pI} {L : pL} {P : pR} {x0 : Int32} {qq : Int32} (hd : 0 ≤ d) (hW : WT N P) (hf : f_X2_rootOf n x0 = some qq) : MT G mX2_rootOf d 0 0 [.int x0] N I L P (p_R (some (.int qq)) N I L P) := by
  refine MT.of rfl (Nat.le_of_ble_eq_true rfl) ?_
  show SW G mX2_rootOf (p_rm d 0 0) 0 0 0 0 (p_R (some (.int qq)) N I L P) 0 [(0, .int x0)] [] N I L P
  unfold f_X2_rootOf at hf
  refine s_iconst (pc := 0) dX2_rootOf_0 (v := nI 0) rfl ?_
  refine s_istore_n (pc := 1) (lo' := [(1, .int (nI 0)), (0, .int x0)]) dX2_rootOf_1 rfl (Nat.le_of_ble_eq_true rfl) rfl ?_
  refine s_ldc (pc := 2) (v := nI 32768) kc_X2_185 dX2_rootOf_2 ?_
  refine s_istore_n (pc := 4) (lo' := [(2, .int (nI 32768)), (1, .int (nI 0)), (0, .int x0)]) dX2_rootOf_4 rfl (Nat.le_of_ble_eq_true rfl) rfl ?_
  obtain ⟨t1, hg, hf⟩ := p_bd hf
  have k2 : SW G mX2_rootOf (p_rm d 0 0) 0 0 0 0 (p_R (some (.int qq)) N I L P) 34 [(1, .int t1)] [] N I L P := by
    refine s_iload_n (pc := 34) dX2_rootOf_34 0 rfl rfl ?_
    cases hf
    exact s_ireturn (pc := 35) dX2_rootOf_35 rfl rfl ⟨rfl, rfl, rfl, rfl, rfl⟩
  replace hf := hg
  have k7 : ∀ (k : Nat) (s0 : Int32 × Int32), p_it (B_X2_rootOf_5 x0) k s0 = some t1 → (SW G mX2_rootOf (p_rm d 0 0) 0 0 0 0 (p_R (some (.int qq)) N I L P) 5 [(0, .int x0), (1, .int s0.1), (2, .int s0.2)] [] N I L P) := p_it_ind (C := fun (s0 : Int32 × Int32) => SW G mX2_rootOf (p_rm d 0 0) 0 0 0 0 (p_R (some (.int qq)) N I L P) 5 [(0, .int x0), (1, .int s0.1), (2, .int s0.2)] [] N I L P) (by
    intro rec0 hrec0 s0 hf
    unfold B_X2_rootOf_5 at hf
    refine s_iload_n (pc := 5) dX2_rootOf_5 2 rfl rfl ?_
    refine s_if_le (pc := 6) (tgt := 34) dX2_rootOf_6 rfl (fun hc => ?_) (fun hc => ?_)
    · replace hf := p_ps hf hc
      cases hf
      exact s_lo [1] rfl (k2)
    · replace hf := p_ng hf hc
      refine s_iload_n (pc := 9) dX2_rootOf_9 1 rfl rfl ?_
      refine s_iload_n (pc := 10) dX2_rootOf_10 2 rfl rfl ?_
      refine s_iadd (pc := 11) dX2_rootOf_11 ?_
      refine s_i2l (pc := 12) dX2_rootOf_12 ?_
      refine s_topl (fun v8 e9 => ?_)
      replace hf := p_lx hf e9
      refine s_lstore_n (pc := 13) (lo' := [(3, .long v8), (0, .int x0), (1, .int s0.1), (2, .int s0.2)]) dX2_rootOf_13 rfl (Nat.le_of_ble_eq_true rfl) rfl ?_
      refine s_lload_n (pc := 14) dX2_rootOf_14 0 rfl rfl ?_
      refine s_lload_n (pc := 15) dX2_rootOf_15 0 rfl rfl ?_
      refine s_lmul (pc := 16) dX2_rootOf_16 ?_
      refine s_iload_n (pc := 17) dX2_rootOf_17 1 rfl rfl ?_
      refine s_i2l (pc := 18) dX2_rootOf_18 ?_
      obtain ⟨t10, hg, hf⟩ := p_lx2 hf
      have k11 : SW G mX2_rootOf (p_rm d 0 0) 0 0 0 0 (p_R (some (.int qq)) N I L P) 27 [(0, .int x0), (2, .int s0.2), (1, .int t10)] [] N I L P := by
        refine s_iload_n (pc := 27) dX2_rootOf_27 1 rfl rfl ?_
        refine s_iconst (pc := 28) dX2_rootOf_28 (v := nI 1) rfl ?_
        refine s_ishr (pc := 29) dX2_rootOf_29 ?_
        refine s_istore_n (pc := 30) (lo' := [(2, .int (s0.2 >>> ((nI 1) &&& 31))), (0, .int x0), (1, .int t10)]) dX2_rootOf_30 rfl (Nat.le_of_ble_eq_true rfl) rfl ?_
        refine s_goto (pc := 31) (tgt := 5) dX2_rootOf_31 rfl ?_
        exact s_lo [1, 2, 0] rfl (hrec0 (t10, s0.2 >>> ((nI 1) &&& 31)) hf)
      replace hf := hg.symm
      refine x_lcmp_gt (pc := 19) (tgt := 27) dX2_rootOf_19 dX2_rootOf_20 rfl (fun hc => ?_) (fun hc => ?_)
      · replace hf := p_ps hf hc
        cases hf
        exact s_lo [1, 3, 2] rfl (k11)
      · replace hf := p_ng hf hc
        refine s_iload_n (pc := 23) dX2_rootOf_23 2 rfl rfl ?_
        refine s_iload_n (pc := 24) dX2_rootOf_24 3 rfl rfl ?_
        refine s_iadd (pc := 25) dX2_rootOf_25 ?_
        refine s_istore_n (pc := 26) (lo' := [(1, .int (s0.1 + s0.2)), (3, .long v8), (0, .int x0), (2, .int s0.2)]) dX2_rootOf_26 rfl (Nat.le_of_ble_eq_true rfl) rfl ?_
        cases hf
        exact s_lo [2, 3, 0] rfl (k11))
  exact s_lo [2, 1, 0] rfl (k7 n (nI 0, nI 32768) hf)
def B_X2_searchCorners_11 (n : Nat) (N : pN) (P : pR) (a0 : Nat) (a1 : Nat) (rec1 : (Int32 × pI × pL) → Option (pI × pL)) (s1 : Int32 × pI × pL) : Option (pI × pL) :=
  (if (nI 2) ≤ s1.1 then
    some (s1.2.1, s1.2.2)
  else
    Option.bind (P a0 5) fun q9 =>
    Option.bind (f_X0_putEnd s1.2.1 s1.2.2 a1 s1.1 q9) fun q12 =>
    Option.bind (P a0 1) fun q14 =>
    Option.bind (P a0 5) fun q17 =>
    Option.bind (f_X6_squareTo q12 q14 q17) fun q20 =>
    Option.bind (P a0 5) fun q22 =>
    Option.bind (P a0 2) fun q25 =>
    Option.bind (f_X6_squareTo q12 q22 q25) fun q28 =>
    Option.bind (α := pI × pL) ((if (s1.2.1 a1 2) = 0 then
      some (s1.2.1, q12)
    else
      (if q20 = 0 then
        some (s1.2.1, q12)
      else
        (if q28 = 0 then
          some (s1.2.1, q12)
        else
          Option.bind (f_X2_isEarlierCorner n s1.2.1 q12 P a0 a1) fun q32 =>
          (if q32 = 0 then
            Option.bind (f_X2_rootOf n (q20 * q28)) fun q34 =>
            Option.bind (f_X2_spread s1.2.1 a0 ((q20 + q28) + ((nI 2) * q34))) fun q36 =>
            p_let ((q36 * (s1.2.1 a0 11)) / (nI 100)) fun v38 =>
            Option.bind (P a0 1) fun q40 =>
            Option.bind (P a0 5) fun q43 =>
            Option.bind (f_X2_carry n s1.2.1 q12 P a0 v38 q40 q43) fun q46 =>
            Option.bind (P a0 5) fun q48 =>
            Option.bind (P a0 2) fun q51 =>
            Option.bind (f_X2_carry n s1.2.1 q46.2 P a0 q46.1 q48 q51) fun q54 =>
            Option.bind (f_X2_keep N s1.2.1 P a0 (nI 3) (s1.2.1 a1 0) s1.1 q20 q28 q54.1) fun q56 =>
            some (q56, q54.2)
          else
            some (s1.2.1, q12)))))) fun t30 =>
    rec1 (s1.1 + nI 1, t30.1, t30.2))
def B_X2_searchCorners_5 (n : Nat) (N : pN) (P : pR) (a0 : Nat) (rec0 : ((Option Nat) × pI × pL) → Option (pI × pL)) (s0 : (Option Nat) × pI × pL) : Option (pI × pL) :=
  p_cs s0.1 (some (s0.2.1, s0.2.2)) fun q4 =>
  Option.bind (p_it (B_X2_searchCorners_11 n N P a0 q4) n (nI 0, s0.2.1, s0.2.2)) fun t7 =>
  rec0 (P q4 1, t7.1, t7.2)
def f_X2_searchCorners (n : Nat) (N : pN) (I : pI) (L : pL) (P : pR) (a0 : Nat) : Option (pI × pL) :=
  Option.bind (p_it (B_X2_searchCorners_5 n N P a0) n (P a0 0, I, L)) fun t1 =>
  some (t1.1, t1.2)
theorem c_X2_searchCorners {G : pG} {d : Nat} {n : Nat} {N : pN} {I : pI} {L : pL} {P : pR} {a0 : Nat} {qq : pI × pL} (hd : 2 ≤ d) (hW : WT N P) (ha0 : p_tp N a0 5) (hf : f_X2_searchCorners n N I L P a0 = some qq) : MT G mX2_searchCorners d 0 0 [.ref a0] N I L P (p_R none N qq.1 qq.2 P) := by
  refine MT.of rfl (Nat.le_of_ble_eq_true rfl) ?_
  show SW G mX2_searchCorners (p_rm d 0 0) 0 0 0 0 (p_R none N qq.1 qq.2 P) 0 [(0, .ref a0)] [] N I L P
  unfold f_X2_searchCorners at hf
  refine s_aload_n (pc := 0) dX2_searchCorners_0 0 rfl rfl ?_
  refine x_getQ (pc := 1) dX2_searchCorners_1 fl_X2_67 rfl ha0 ?_
  refine x_astoreQ_n (pc := 4) (lo' := [(1, va_rf (P a0 0)), (0, .ref a0)]) dX2_searchCorners_4 rfl (Nat.le_of_ble_eq_true rfl) rfl ?_
  obtain ⟨t1, hg, hf⟩ := p_bd hf
  have k2 : SW G mX2_searchCorners (p_rm d 0 0) 0 0 0 0 (p_R none N qq.1 qq.2 P) 166 [] [] N t1.1 t1.2 P := by
    cases hf
    exact s_return (pc := 166) dX2_searchCorners_166 rfl ⟨rfl, rfl, rfl, rfl, rfl⟩
  replace hf := hg
  have k109 : ∀ (k : Nat) (s0 : (Option Nat) × pI × pL), p_it (B_X2_searchCorners_5 n N P a0) k s0 = some t1 → ((∀ q, s0.1 = some q → p_tp N q 3) → SW G mX2_searchCorners (p_rm d 0 0) 0 0 0 0 (p_R none N qq.1 qq.2 P) 5 [(0, .ref a0), (1, va_rf s0.1)] [] N s0.2.1 s0.2.2 P) := p_it_ind (C := fun (s0 : (Option Nat) × pI × pL) => (∀ q, s0.1 = some q → p_tp N q 3) → SW G mX2_searchCorners (p_rm d 0 0) 0 0 0 0 (p_R none N qq.1 qq.2 P) 5 [(0, .ref a0), (1, va_rf s0.1)] [] N s0.2.1 s0.2.2 P) (by
    intro rec0 hrec0 s0 hf y108
    unfold B_X2_searchCorners_5 at hf
    refine x_aloadQ_n (pc := 5) dX2_searchCorners_5 1 rfl rfl ?_
    refine y_ifnull (pc := 6) (tgt := 166) dX2_searchCorners_6 rfl (fun hc => ?_) (fun q110 h111 => ?_)
    · replace hf := p_cs_n hf hc
      cases hf
      exact s_lo [] rfl (k2)
    · have t112 : p_tp N q110 3 := y108 q110 h111
      replace hf := p_cs_s hf h111
      have hz : va_rf s0.1 = .ref q110 := by rw [h111]; rfl
      rw [hz]
      refine s_iconst (pc := 9) dX2_searchCorners_9 (v := nI 0) rfl ?_
      refine s_istore_n (pc := 10) (lo' := [(2, .int (nI 0)), (0, .ref a0), (1, .ref q110)]) dX2_searchCorners_10 rfl (Nat.le_of_ble_eq_true rfl) rfl ?_
      obtain ⟨t113, hg, hf⟩ := p_bd hf
      have k114 : SW G mX2_searchCorners (p_rm d 0 0) 0 0 0 0 (p_R none N qq.1 qq.2 P) 158 [(0, .ref a0), (1, .ref q110)] [] N t113.1 t113.2 P := by
        refine s_aload_n (pc := 158) dX2_searchCorners_158 1 rfl rfl ?_
        refine x_getQ (pc := 159) dX2_searchCorners_159 fl_X2_81 rfl t112 ?_
        refine x_astoreQ_n (pc := 162) (lo' := [(1, va_rf (P q110 1)), (0, .ref a0)]) dX2_searchCorners_162 rfl (Nat.le_of_ble_eq_true rfl) rfl ?_
        refine s_goto (pc := 163) (tgt := 5) dX2_searchCorners_163 rfl ?_
        exact s_lo [1, 0] rfl (hrec0 (P q110 1, t113.1, t113.2) hf (fun _ hq => WT.get hW t112 hq))
      replace hf := hg
      have k115 : ∀ (k : Nat) (s1 : Int32 × pI × pL), p_it (B_X2_searchCorners_11 n N P a0 q110) k s1 = some t113 → (SW G mX2_searchCorners (p_rm d 0 0) 0 0 0 0 (p_R none N qq.1 qq.2 P) 11 [(0, .ref a0), (1, .ref q110), (2, .int s1.1)] [] N s1.2.1 s1.2.2 P) := p_it_ind (C := fun (s1 : Int32 × pI × pL) => SW G mX2_searchCorners (p_rm d 0 0) 0 0 0 0 (p_R none N qq.1 qq.2 P) 11 [(0, .ref a0), (1, .ref q110), (2, .int s1.1)] [] N s1.2.1 s1.2.2 P) (by
        intro rec1 hrec1 s1 hf
        unfold B_X2_searchCorners_11 at hf
        refine s_iload_n (pc := 11) dX2_searchCorners_11 2 rfl rfl ?_
        refine s_iconst (pc := 12) dX2_searchCorners_12 (v := nI 2) rfl ?_
        refine s_icmp_ge (pc := 13) (tgt := 158) dX2_searchCorners_13 rfl (fun hc => ?_) (fun hc => ?_)
        · replace hf := p_ps hf hc
          cases hf
          exact s_lo [0, 1] rfl (k114)
        · replace hf := p_ng hf hc
          refine s_aload_n (pc := 16) dX2_searchCorners_16 1 rfl rfl ?_
          refine s_iload_n (pc := 17) dX2_searchCorners_17 2 rfl rfl ?_
          refine s_aload_n (pc := 18) dX2_searchCorners_18 0 rfl rfl ?_
          obtain ⟨q116, h117, hf⟩ := p_bd hf
          have t118 : p_tp N q116 9 := WT.get hW ha0 h117
          refine x_getR (pc := 19) dX2_searchCorners_19 fl_X2_27 rfl ha0 h117 ?_
          obtain ⟨q119, h120, hf⟩ := p_bd hf
          refine y_callV0 (pc := 22) dX2_searchCorners_22 (c_X0_putEnd (p_dd hd (by decide)) hW t112 t118 h120) mk_X0_putEnd mv_X0_putEnd ml_X2_144 rfl rfl (Nat.le_of_ble_eq_true rfl) t112 rfl (p_d1 hd (by decide)) (Nat.le_of_ble_eq_true rfl) ?_
          refine s_aload_n (pc := 25) dX2_searchCorners_25 0 rfl rfl ?_
          obtain ⟨q121, h122, hf⟩ := p_bd hf
          have t123 : p_tp N q121 9 := WT.get hW ha0 h122
          refine x_getR (pc := 26) dX2_searchCorners_26 fl_X2_12 rfl ha0 h122 ?_
          refine s_aload_n (pc := 29) dX2_searchCorners_29 0 rfl rfl ?_
          obtain ⟨q124, h125, hf⟩ := p_bd hf
          have t126 : p_tp N q124 9 := WT.get hW ha0 h125
          refine x_getR (pc := 30) dX2_searchCorners_30 fl_X2_27 rfl ha0 h125 ?_
          obtain ⟨q127, h128, hf⟩ := p_bd hf
          refine y_callV1 (pc := 33) dX2_searchCorners_33 (c_X6_squareTo (p_dd hd (by decide)) hW t123 t126 h128) mk_X6_squareTo mv_X6_squareTo ml_X2_111 rfl rfl (Nat.le_of_ble_eq_true rfl) t123 rfl (p_d1 hd (by decide)) (Nat.le_of_ble_eq_true rfl) ?_
          refine s_istore_n (pc := 36) (lo' := [(3, .int q127), (0, .ref a0), (1, .ref q110), (2, .int s1.1)]) dX2_searchCorners_36 rfl (Nat.le_of_ble_eq_true rfl) rfl ?_
          refine s_aload_n (pc := 37) dX2_searchCorners_37 1 rfl rfl ?_
          obtain ⟨q129, h130, hf⟩ := p_bd hf
          have t131 : p_tp N q129 9 := WT.get hW ha0 h130
          refine x_getR (pc := 38) dX2_searchCorners_38 fl_X2_27 rfl ha0 h130 ?_
          refine s_aload_n (pc := 41) dX2_searchCorners_41 1 rfl rfl ?_
          obtain ⟨q132, h133, hf⟩ := p_bd hf
          have t134 : p_tp N q132 9 := WT.get hW ha0 h133
          refine x_getR (pc := 42) dX2_searchCorners_42 fl_X2_18 rfl ha0 h133 ?_
          obtain ⟨q135, h136, hf⟩ := p_bd hf
          refine y_callV1 (pc := 45) dX2_searchCorners_45 (c_X6_squareTo (p_dd hd (by decide)) hW t131 t134 h136) mk_X6_squareTo mv_X6_squareTo ml_X2_111 rfl rfl (Nat.le_of_ble_eq_true rfl) t131 rfl (p_d1 hd (by decide)) (Nat.le_of_ble_eq_true rfl) ?_
          refine s_istore (pc := 48) (lo' := [(4, .int q135), (3, .int q127), (0, .ref a0), (1, .ref q110), (2, .int s1.1)]) dX2_searchCorners_48 (Nat.le_of_ble_eq_true rfl) rfl ?_
          refine s_aload_n (pc := 50) dX2_searchCorners_50 3 rfl rfl ?_
          refine x_getI (pc := 51) dX2_searchCorners_51 fl_X2_130 rfl t112 ?_
          obtain ⟨t137, hg, hf⟩ := p_bd hf
          have k138 : SW G mX2_searchCorners (p_rm d 0 0) 0 0 0 0 (p_R none N qq.1 qq.2 P) 152 [(0, .ref a0), (1, .ref q110), (2, .int s1.1)] [] N t137.1 t137.2 P := by
            refine s_iinc (pc := 152) (lo' := [(2, .int (s1.1 + nI 1)), (0, .ref a0), (1, .ref q110)]) dX2_searchCorners_152 2 rfl (v := s1.1 + nI 1) rfl (Nat.le_of_ble_eq_true rfl) rfl ?_
            refine s_goto (pc := 155) (tgt := 11) dX2_searchCorners_155 rfl ?_
            exact s_lo [1, 2, 0] rfl (hrec1 (s1.1 + nI 1, t137.1, t137.2) hf)
          replace hf := hg
          refine s_if_eq (pc := 54) (tgt := 152) dX2_searchCorners_54 rfl (fun hc => ?_) (fun hc => ?_)
          · replace hf := p_ps hf hc
            cases hf
            exact s_lo [2, 3, 4] rfl (k138)
          · replace hf := p_ng hf hc
            refine s_iload_n (pc := 57) dX2_searchCorners_57 1 rfl rfl ?_
            refine s_if_eq (pc := 58) (tgt := 152) dX2_searchCorners_58 rfl (fun hc => ?_) (fun hc => ?_)
            · replace hf := p_ps hf hc
              cases hf
              exact s_lo [2, 3, 4] rfl (k138)
            · replace hf := p_ng hf hc
              refine s_iload (pc := 61) dX2_searchCorners_61 0 rfl ?_
              refine s_if_eq (pc := 63) (tgt := 152) dX2_searchCorners_63 rfl (fun hc => ?_) (fun hc => ?_)
              · replace hf := p_ps hf hc
                cases hf
                exact s_lo [2, 3, 4] rfl (k138)
              · replace hf := p_ng hf hc
                refine s_aload_n (pc := 66) dX2_searchCorners_66 2 rfl rfl ?_
                refine s_aload_n (pc := 67) dX2_searchCorners_67 3 rfl rfl ?_
                obtain ⟨q139, h140, hf⟩ := p_bd hf
                refine y_callV1 (pc := 68) dX2_searchCorners_68 (c_X2_isEarlierCorner (p_dd hd (by decide)) hW ha0 t112 h140) mk_X2_isEarlierCorner mv_X2_isEarlierCorner ml_X2_148 rfl rfl (Nat.le_of_ble_eq_true rfl) ha0 rfl (p_d1 hd (by decide)) (Nat.le_of_ble_eq_true rfl) ?_
                refine s_if_eq (pc := 71) (tgt := 77) dX2_searchCorners_71 rfl (fun hc => ?_) (fun hc => ?_)
                · replace hf := p_ps hf hc
                  refine s_aload_n (pc := 77) dX2_searchCorners_77 2 rfl rfl ?_
                  refine s_iload_n (pc := 78) dX2_searchCorners_78 1 rfl rfl ?_
                  refine s_iload (pc := 79) dX2_searchCorners_79 0 rfl ?_
                  refine s_iadd (pc := 81) dX2_searchCorners_81 ?_
                  refine s_iconst (pc := 82) dX2_searchCorners_82 (v := nI 2) rfl ?_
                  refine s_iload_n (pc := 83) dX2_searchCorners_83 1 rfl rfl ?_
                  refine s_iload (pc := 84) dX2_searchCorners_84 0 rfl ?_
                  refine s_imul (pc := 86) dX2_searchCorners_86 ?_
                  obtain ⟨q141, h142, hf⟩ := p_bd hf
                  refine y_callS1 (pc := 87) dX2_searchCorners_87 (c_X2_rootOf (p_dd hd (by decide)) hW  h142) mk_X2_rootOf mz_X2_rootOf ml_X2_152 rfl rfl (Nat.le_of_ble_eq_true rfl) (p_d1 hd (by decide)) (Nat.le_of_ble_eq_true rfl) ?_
                  refine s_imul (pc := 90) dX2_searchCorners_90 ?_
                  refine s_iadd (pc := 91) dX2_searchCorners_91 ?_
                  obtain ⟨q143, h144, hf⟩ := p_bd hf
                  refine y_callV1 (pc := 92) dX2_searchCorners_92 (c_X2_spread (p_dd hd (by decide)) hW ha0 h144) mk_X2_spread mv_X2_spread ml_X2_115 rfl rfl (Nat.le_of_ble_eq_true rfl) ha0 rfl (p_d1 hd (by decide)) (Nat.le_of_ble_eq_true rfl) ?_
                  refine s_aload_n (pc := 95) dX2_searchCorners_95 2 rfl rfl ?_
                  refine x_getI (pc := 96) dX2_searchCorners_96 fl_X2_53 rfl ha0 ?_
                  refine s_imul (pc := 99) dX2_searchCorners_99 ?_
                  refine s_bipush (pc := 100) dX2_searchCorners_100 (v := nI 100) rfl ?_
                  refine s_idiv (pc := 102) dX2_searchCorners_102 (by decide) ?_
                  refine s_topi (fun v145 e146 => ?_)
                  replace hf := p_lx hf e146
                  refine s_istore (pc := 103) (lo' := [(5, .int v145), (4, .int q135), (3, .int q127), (0, .ref a0), (1, .ref q110), (2, .int s1.1)]) dX2_searchCorners_103 (Nat.le_of_ble_eq_true rfl) rfl ?_
                  refine s_aload_n (pc := 105) dX2_searchCorners_105 3 rfl rfl ?_
                  refine s_iload (pc := 106) dX2_searchCorners_106 0 rfl ?_
                  refine s_aload_n (pc := 108) dX2_searchCorners_108 3 rfl rfl ?_
                  obtain ⟨q147, h148, hf⟩ := p_bd hf
                  have t149 : p_tp N q147 9 := WT.get hW ha0 h148
                  refine x_getR (pc := 109) dX2_searchCorners_109 fl_X2_12 rfl ha0 h148 ?_
                  refine s_aload_n (pc := 112) dX2_searchCorners_112 3 rfl rfl ?_
                  obtain ⟨q150, h151, hf⟩ := p_bd hf
                  have t152 : p_tp N q150 9 := WT.get hW ha0 h151
                  refine x_getR (pc := 113) dX2_searchCorners_113 fl_X2_27 rfl ha0 h151 ?_
                  obtain ⟨q153, h154, hf⟩ := p_bd hf
                  refine y_callV1 (pc := 116) dX2_searchCorners_116 (c_X2_carry (p_dd hd (by decide)) hW ha0 t149 t152 h154) mk_X2_carry mv_X2_carry ml_X2_118 rfl rfl (Nat.le_of_ble_eq_true rfl) ha0 rfl (p_d1 hd (by decide)) (Nat.le_of_ble_eq_true rfl) ?_
                  refine s_istore (pc := 119) (lo' := [(5, .int q153.1), (4, .int q135), (3, .int q127), (0, .ref a0), (1, .ref q110), (2, .int s1.1)]) dX2_searchCorners_119 (Nat.le_of_ble_eq_true rfl) rfl ?_
                  refine s_aload_n (pc := 121) dX2_searchCorners_121 3 rfl rfl ?_
                  refine s_iload (pc := 122) dX2_searchCorners_122 0 rfl ?_
                  refine s_aload_n (pc := 124) dX2_searchCorners_124 3 rfl rfl ?_
                  obtain ⟨q155, h156, hf⟩ := p_bd hf
                  have t157 : p_tp N q155 9 := WT.get hW ha0 h156
                  refine x_getR (pc := 125) dX2_searchCorners_125 fl_X2_27 rfl ha0 h156 ?_
                  refine s_aload_n (pc := 128) dX2_searchCorners_128 3 rfl rfl ?_
                  obtain ⟨q158, h159, hf⟩ := p_bd hf
                  have t160 : p_tp N q158 9 := WT.get hW ha0 h159
                  refine x_getR (pc := 129) dX2_searchCorners_129 fl_X2_18 rfl ha0 h159 ?_
                  obtain ⟨q161, h162, hf⟩ := p_bd hf
                  refine y_callV1 (pc := 132) dX2_searchCorners_132 (c_X2_carry (p_dd hd (by decide)) hW ha0 t157 t160 h162) mk_X2_carry mv_X2_carry ml_X2_118 rfl rfl (Nat.le_of_ble_eq_true rfl) ha0 rfl (p_d1 hd (by decide)) (Nat.le_of_ble_eq_true rfl) ?_
                  refine s_istore (pc := 135) (lo' := [(5, .int q161.1), (4, .int q135), (3, .int q127), (0, .ref a0), (1, .ref q110), (2, .int s1.1)]) dX2_searchCorners_135 (Nat.le_of_ble_eq_true rfl) rfl ?_
                  refine s_aload_n (pc := 137) dX2_searchCorners_137 3 rfl rfl ?_
                  refine s_iconst (pc := 138) dX2_searchCorners_138 (v := nI 3) rfl ?_
                  refine s_aload_n (pc := 139) dX2_searchCorners_139 4 rfl rfl ?_
                  refine x_getI (pc := 140) dX2_searchCorners_140 fl_X2_141 rfl t112 ?_
                  refine s_iload_n (pc := 143) dX2_searchCorners_143 5 rfl rfl ?_
                  refine s_iload_n (pc := 144) dX2_searchCorners_144 2 rfl rfl ?_
                  refine s_iload (pc := 145) dX2_searchCorners_145 1 rfl ?_
                  refine s_iload (pc := 147) dX2_searchCorners_147 0 rfl ?_
                  obtain ⟨q163, h164, hf⟩ := p_bd hf
                  refine y_callV0 (pc := 149) dX2_searchCorners_149 (c_X2_keep (p_dd hd (by decide)) hW ha0 h164) mk_X2_keep mv_X2_keep ml_X2_122 rfl rfl (Nat.le_of_ble_eq_true rfl) ha0 rfl (p_d1 hd (by decide)) (Nat.le_of_ble_eq_true rfl) ?_
                  cases hf
                  exact s_lo [3, 4, 5] rfl (k138)
                · replace hf := p_ng hf hc
                  refine s_goto (pc := 74) (tgt := 152) dX2_searchCorners_74 rfl ?_
                  cases hf
                  exact s_lo [2, 3, 4] rfl (k138))
      exact s_lo [1, 2, 0] rfl (k115 n (nI 0, s0.2.1, s0.2.2) hf))
  exact s_lo [1, 0] rfl (k109 n (P a0 0, I, L) hf (fun _ hq => WT.get hW ha0 hq))
def f_X2_search (n : Nat) (N : pN) (I : pI) (L : pL) (P : pR) (a0 : Nat) (a1 : Nat) (x2 : Int32) (x3 : Int32) (x4 : Int32) (x5 : Int32) : Option (Int32 × pI × pL) :=
  Option.bind (P a0 8) fun q1 =>
  Option.bind (f_X8_cut I q1 (nI 0)) fun q4 =>
  p_let (p_u q4 a0 13 (nI 0)) fun I6 =>
  Option.bind (f_X8_get N I6 P a1 x2 x3) fun q8 =>
  p_let (p_u I6 a0 12 q8) fun I10 =>
  Option.bind (P a0 1) fun q12 =>
  Option.bind (f_X8_get N I10 P a1 x2 (nI 0)) fun q15 =>
  Option.bind (f_X8_get N I10 P a1 x2 (nI 1)) fun q17 =>
  Option.bind (f_X6_put L q12 q15 q17) fun q19 =>
  Option.bind (P a0 2) fun q21 =>
  Option.bind (f_X6_put q19 q21 x4 x5) fun q24 =>
  Option.bind (f_X2_searchSight n N I10 q24 P a0) fun q26 =>
  Option.bind (P a0 8) fun q28 =>
  Option.bind (f_X8_size q26.1 q28) fun q31 =>
  p_let (α := Int32) ((if q31 = 0 then
    nI 1
  else
    nI 0)) fun t33 =>
  Option.bind (α := pI × pL) ((if (q26.1 a0 10) ≤ 0 then
    some (q26.1, q26.2)
  else
    Option.bind (f_X2_searchMirrors n N q26.1 q26.2 P a0) fun q37 =>
    some (q37.1, q37.2))) fun t35 =>
  Option.bind (α := pI × pL) ((if (t35.1 a0 10) ≤ (nI 1) then
    some (t35.1, t35.2)
  else
    Option.bind (f_X2_searchPairs n N t35.1 t35.2 P a0) fun q41 =>
    some (q41.1, q41.2))) fun t39 =>
  Option.bind (α := pI × pL) ((if (t39.1 a0 11) ≤ 0 then
    some (t39.1, t39.2)
  else
    (if t33 = 0 then
      some (t39.1, t39.2)
    else
      Option.bind (f_X2_searchCorners n N t39.1 t39.2 P a0) fun q45 =>
      some (q45.1, q45.2)))) fun t43 =>
  some (t43.1 a0 13, t43.1, t43.2)
theorem c_X2_search {G : pG} {d : Nat} {n : Nat} {N : pN} {I : pI} {L : pL} {P : pR} {a0 : Nat} {a1 : Nat} {x2 : Int32} {x3 : Int32} {x4 : Int32} {x5 : Int32} {qq : Int32 × pI × pL} (hd : 3 ≤ d) (hW : WT N P) (ha0 : p_tp N a0 5) (ha1 : p_tp N a1 11) (hf : f_X2_search n N I L P a0 a1 x2 x3 x4 x5 = some qq) : MT G mX2_search d 0 0 [.ref a0, .ref a1, .int x2, .int x3, .int x4, .int x5] N I L P (p_R (some (.int qq.1)) N qq.2.1 qq.2.2 P) := by
  refine MT.of rfl (Nat.le_of_ble_eq_true rfl) ?_
  show SW G mX2_search (p_rm d 0 0) 0 0 0 0 (p_R (some (.int qq.1)) N qq.2.1 qq.2.2 P) 0 [(0, .ref a0), (1, .ref a1), (2, .int x2), (3, .int x3), (4, .int x4), (5, .int x5)] [] N I L P
  unfold f_X2_search at hf
  refine s_aload_n (pc := 0) dX2_search_0 0 rfl rfl ?_
  obtain ⟨q1, h2, hf⟩ := p_bd hf
  have t3 : p_tp N q1 11 := WT.get hW ha0 h2
  refine x_getR (pc := 1) dX2_search_1 fl_X2_41 rfl ha0 h2 ?_
  refine s_iconst (pc := 4) dX2_search_4 (v := nI 0) rfl ?_
  obtain ⟨q4, h5, hf⟩ := p_bd hf
  refine y_callV0 (pc := 5) dX2_search_5 (c_X8_cut (p_dd hd (by decide)) hW t3 h5) mk_X8_cut mv_X8_cut ml_X2_84 rfl rfl (Nat.le_of_ble_eq_true rfl) t3 rfl (p_d1 hd (by decide)) (Nat.le_of_ble_eq_true rfl) ?_
  refine s_aload_n (pc := 8) dX2_search_8 0 rfl rfl ?_
  refine s_iconst (pc := 9) dX2_search_9 (v := nI 0) rfl ?_
  refine x_putI (pc := 10) dX2_search_10 fl_X2_59 (Or.inl rfl) rfl ha0 ?_
  refine s_nmI (fun I6 e7 => ?_)
  replace hf := p_lx hf e7
  refine s_aload_n (pc := 13) dX2_search_13 0 rfl rfl ?_
  refine s_aload_n (pc := 14) dX2_search_14 1 rfl rfl ?_
  refine s_iload_n (pc := 15) dX2_search_15 2 rfl rfl ?_
  refine s_iload_n (pc := 16) dX2_search_16 3 rfl rfl ?_
  obtain ⟨q8, h9, hf⟩ := p_bd hf
  refine y_callV1 (pc := 17) dX2_search_17 (c_X8_get (p_dd hd (by decide)) hW ha1 h9) mk_X8_get mv_X8_get ml_X2_88 rfl rfl (Nat.le_of_ble_eq_true rfl) ha1 rfl (p_d1 hd (by decide)) (Nat.le_of_ble_eq_true rfl) ?_
  refine x_putI (pc := 20) dX2_search_20 fl_X2_56 (Or.inl rfl) rfl ha0 ?_
  refine s_nmI (fun I10 e11 => ?_)
  replace hf := p_lx hf e11
  refine s_aload_n (pc := 23) dX2_search_23 0 rfl rfl ?_
  obtain ⟨q12, h13, hf⟩ := p_bd hf
  have t14 : p_tp N q12 9 := WT.get hW ha0 h13
  refine x_getR (pc := 24) dX2_search_24 fl_X2_12 rfl ha0 h13 ?_
  refine s_aload_n (pc := 27) dX2_search_27 1 rfl rfl ?_
  refine s_iload_n (pc := 28) dX2_search_28 2 rfl rfl ?_
  refine s_iconst (pc := 29) dX2_search_29 (v := nI 0) rfl ?_
  obtain ⟨q15, h16, hf⟩ := p_bd hf
  refine y_callV1 (pc := 30) dX2_search_30 (c_X8_get (p_dd hd (by decide)) hW ha1 h16) mk_X8_get mv_X8_get ml_X2_88 rfl rfl (Nat.le_of_ble_eq_true rfl) ha1 rfl (p_d1 hd (by decide)) (Nat.le_of_ble_eq_true rfl) ?_
  refine s_aload_n (pc := 33) dX2_search_33 1 rfl rfl ?_
  refine s_iload_n (pc := 34) dX2_search_34 2 rfl rfl ?_
  refine s_iconst (pc := 35) dX2_search_35 (v := nI 1) rfl ?_
  obtain ⟨q17, h18, hf⟩ := p_bd hf
  refine y_callV1 (pc := 36) dX2_search_36 (c_X8_get (p_dd hd (by decide)) hW ha1 h18) mk_X8_get mv_X8_get ml_X2_88 rfl rfl (Nat.le_of_ble_eq_true rfl) ha1 rfl (p_d1 hd (by decide)) (Nat.le_of_ble_eq_true rfl) ?_
  obtain ⟨q19, h20, hf⟩ := p_bd hf
  refine y_callV0 (pc := 39) dX2_search_39 (c_X6_put (p_dd hd (by decide)) hW t14 h20) mk_X6_put mv_X6_put ml_X2_92 rfl rfl (Nat.le_of_ble_eq_true rfl) t14 rfl (p_d1 hd (by decide)) (Nat.le_of_ble_eq_true rfl) ?_
  refine s_aload_n (pc := 42) dX2_search_42 0 rfl rfl ?_
  obtain ⟨q21, h22, hf⟩ := p_bd hf
  have t23 : p_tp N q21 9 := WT.get hW ha0 h22
  refine x_getR (pc := 43) dX2_search_43 fl_X2_18 rfl ha0 h22 ?_
  refine s_iload (pc := 46) dX2_search_46 4 rfl ?_
  refine s_iload (pc := 48) dX2_search_48 5 rfl ?_
  obtain ⟨q24, h25, hf⟩ := p_bd hf
  refine y_callV0 (pc := 50) dX2_search_50 (c_X6_put (p_dd hd (by decide)) hW t23 h25) mk_X6_put mv_X6_put ml_X2_92 rfl rfl (Nat.le_of_ble_eq_true rfl) t23 rfl (p_d1 hd (by decide)) (Nat.le_of_ble_eq_true rfl) ?_
  refine s_aload_n (pc := 53) dX2_search_53 0 rfl rfl ?_
  obtain ⟨q26, h27, hf⟩ := p_bd hf
  refine y_callV0 (pc := 54) dX2_search_54 (c_X2_searchSight (p_dd hd (by decide)) hW ha0 h27) mk_X2_searchSight mv_X2_searchSight ml_X2_95 rfl rfl (Nat.le_of_ble_eq_true rfl) ha0 rfl (p_d1 hd (by decide)) (Nat.le_of_ble_eq_true rfl) ?_
  refine s_aload_n (pc := 57) dX2_search_57 0 rfl rfl ?_
  obtain ⟨q28, h29, hf⟩ := p_bd hf
  have t30 : p_tp N q28 11 := WT.get hW ha0 h29
  refine x_getR (pc := 58) dX2_search_58 fl_X2_41 rfl ha0 h29 ?_
  obtain ⟨q31, h32, hf⟩ := p_bd hf
  refine y_callV1 (pc := 61) dX2_search_61 (c_X8_size (p_dd hd (by decide)) hW t30 h32) mk_X8_size mv_X8_size ml_X2_98 rfl rfl (Nat.le_of_ble_eq_true rfl) t30 rfl (p_d1 hd (by decide)) (Nat.le_of_ble_eq_true rfl) ?_
  obtain ⟨t33, hg, hf⟩ := p_lx2 hf
  have k34 : SW G mX2_search (p_rm d 0 0) 0 0 0 0 (p_R (some (.int qq.1)) N qq.2.1 qq.2.2 P) 72 [(0, .ref a0)] [.int t33] N q26.1 q26.2 P := by
    refine s_istore (pc := 72) (lo' := [(6, .int t33), (0, .ref a0)]) dX2_search_72 (Nat.le_of_ble_eq_true rfl) rfl ?_
    refine s_aload_n (pc := 74) dX2_search_74 1 rfl rfl ?_
    refine x_getI (pc := 75) dX2_search_75 fl_X2_49 rfl ha0 ?_
    obtain ⟨t35, hg, hf⟩ := p_bd hf
    have k36 : SW G mX2_search (p_rm d 0 0) 0 0 0 0 (p_R (some (.int qq.1)) N qq.2.1 qq.2.2 P) 85 [(6, .int t33), (0, .ref a0)] [] N t35.1 t35.2 P := by
      refine s_aload_n (pc := 85) dX2_search_85 1 rfl rfl ?_
      refine x_getI (pc := 86) dX2_search_86 fl_X2_49 rfl ha0 ?_
      refine s_iconst (pc := 89) dX2_search_89 (v := nI 1) rfl ?_
      obtain ⟨t39, hg, hf⟩ := p_bd hf
      have k40 : SW G mX2_search (p_rm d 0 0) 0 0 0 0 (p_R (some (.int qq.1)) N qq.2.1 qq.2.2 P) 97 [(6, .int t33), (0, .ref a0)] [] N t39.1 t39.2 P := by
        refine s_aload_n (pc := 97) dX2_search_97 1 rfl rfl ?_
        refine x_getI (pc := 98) dX2_search_98 fl_X2_53 rfl ha0 ?_
        obtain ⟨t43, hg, hf⟩ := p_bd hf
        have k44 : SW G mX2_search (p_rm d 0 0) 0 0 0 0 (p_R (some (.int qq.1)) N qq.2.1 qq.2.2 P) 113 [(0, .ref a0)] [] N t43.1 t43.2 P := by
          refine s_aload_n (pc := 113) dX2_search_113 0 rfl rfl ?_
          refine x_getI (pc := 114) dX2_search_114 fl_X2_59 rfl ha0 ?_
          cases hf
          exact s_ireturn (pc := 117) dX2_search_117 rfl rfl ⟨rfl, rfl, rfl, rfl, rfl⟩
        replace hf := hg
        refine s_if_le (pc := 101) (tgt := 113) dX2_search_101 rfl (fun hc => ?_) (fun hc => ?_)
        · replace hf := p_ps hf hc
          cases hf
          exact s_lo [1] rfl (k44)
        · replace hf := p_ng hf hc
          refine s_iload (pc := 104) dX2_search_104 0 rfl ?_
          refine s_if_eq (pc := 106) (tgt := 113) dX2_search_106 rfl (fun hc => ?_) (fun hc => ?_)
          · replace hf := p_ps hf hc
            cases hf
            exact s_lo [1] rfl (k44)
          · replace hf := p_ng hf hc
            refine s_aload_n (pc := 109) dX2_search_109 1 rfl rfl ?_
            obtain ⟨q45, h46, hf⟩ := p_bd hf
            refine y_callV0 (pc := 110) dX2_search_110 (c_X2_searchCorners (p_dd hd (by decide)) hW ha0 h46) mk_X2_searchCorners mv_X2_searchCorners ml_X2_108 rfl rfl (Nat.le_of_ble_eq_true rfl) ha0 rfl (p_d1 hd (by decide)) (Nat.le_of_ble_eq_true rfl) ?_
            cases hf
            exact s_lo [1] rfl (k44)
      replace hf := hg
      refine s_icmp_le (pc := 90) (tgt := 97) dX2_search_90 rfl (fun hc => ?_) (fun hc => ?_)
      · replace hf := p_ps hf hc
        cases hf
        exact s_lo [0, 1] rfl (k40)
      · replace hf := p_ng hf hc
        refine s_aload_n (pc := 93) dX2_search_93 1 rfl rfl ?_
        obtain ⟨q41, h42, hf⟩ := p_bd hf
        refine y_callV0 (pc := 94) dX2_search_94 (c_X2_searchPairs (p_dd hd (by decide)) hW ha0 h42) mk_X2_searchPairs mv_X2_searchPairs ml_X2_105 rfl rfl (Nat.le_of_ble_eq_true rfl) ha0 rfl (p_d1 hd (by decide)) (Nat.le_of_ble_eq_true rfl) ?_
        cases hf
        exact s_lo [0, 1] rfl (k40)
    replace hf := hg
    refine s_if_le (pc := 78) (tgt := 85) dX2_search_78 rfl (fun hc => ?_) (fun hc => ?_)
    · replace hf := p_ps hf hc
      cases hf
      exact s_lo [0, 1] rfl (k36)
    · replace hf := p_ng hf hc
      refine s_aload_n (pc := 81) dX2_search_81 1 rfl rfl ?_
      obtain ⟨q37, h38, hf⟩ := p_bd hf
      refine y_callV0 (pc := 82) dX2_search_82 (c_X2_searchMirrors (p_dd hd (by decide)) hW ha0 h38) mk_X2_searchMirrors mv_X2_searchMirrors ml_X2_102 rfl rfl (Nat.le_of_ble_eq_true rfl) ha0 rfl (p_d1 hd (by decide)) (Nat.le_of_ble_eq_true rfl) ?_
      cases hf
      exact s_lo [0, 1] rfl (k36)
  replace hf := hg.symm
  refine s_if_ne (pc := 64) (tgt := 71) dX2_search_64 rfl (fun hc => ?_) (fun hc => ?_)
  · replace hf := p_ng hf hc
    refine s_iconst (pc := 71) dX2_search_71 (v := nI 0) rfl ?_
    cases hf
    exact s_lo [0] rfl (k34)
  · replace hf := p_ps hf hc
    refine s_iconst (pc := 67) dX2_search_67 (v := nI 1) rfl ?_
    refine s_goto (pc := 68) (tgt := 72) dX2_search_68 rfl ?_
    cases hf
    exact s_lo [0] rfl (k34)
def f_X3_signalAt (n : Nat) (N : pN) (I : pI) (L : pL) (P : pR) (a0 : Nat) (x1 : Int32) (x2 : Int32) (x3 : Int32) : Option (Int32 × pI × pL) :=
  Option.bind (P a0 0) fun q1 =>
  Option.bind (f_X7_senderStands N I P q1 x1) fun q4 =>
  (if q4 = 0 then
    some ((-1), I, L)
  else
    Option.bind (f_X11_isPoint x2 x3) fun q6 =>
    (if q6 = 0 then
      some ((-1), I, L)
    else
      Option.bind (f_X3_keyOf x1 x2 x3) fun q8 =>
      (if q8 < 0 then
        some ((-1), I, L)
      else
        Option.bind (P a0 2) fun q10 =>
        (if (nI (N.2 q10).2) ≤ q8 then
          some ((-1), I, L)
        else
          Option.bind (P a0 3) fun q13 =>
          (if q8 < (nI (N.2 q13).2) then
            Option.bind (P a0 3) fun q16 =>
            p_ck (p_ib N q16 q8) <|
            Option.bind (α := pI × pL) ((if (I q16 (Int32.toNatClampNeg q8)) = (I a0 6) then
              some (I, L)
            else
              Option.bind (P a0 2) fun q22 =>
              Option.bind (P a0 1) fun q25 =>
              Option.bind (P a0 0) fun q28 =>
              Option.bind (P q28 2) fun q31 =>
              Option.bind (f_X2_search n N I L P q25 q31 x1 (nI 3) x2 x3) fun q34 =>
              p_ck (p_ib N q22 q8) <|
              p_let (p_u q34.2.1 q22 (Int32.toNatClampNeg q8) q34.1) fun I37 =>
              Option.bind (P a0 3) fun q39 =>
              p_ck (p_ib N q39 q8) <|
              p_let (p_u I37 q39 (Int32.toNatClampNeg q8) (I37 a0 6)) fun I43 =>
              p_let (p_u I43 a0 7 (-1)) fun I45 =>
              some (I45, q34.2.2))) fun t20 =>
            Option.bind (P a0 2) fun q47 =>
            p_ck (p_ib N q47 q8) <|
            some (t20.1 q47 (Int32.toNatClampNeg q8), t20.1, t20.2)
          else
            some ((-1), I, L))))))
theorem c_X3_signalAt {G : pG} {d : Nat} {n : Nat} {N : pN} {I : pI} {L : pL} {P : pR} {a0 : Nat} {x1 : Int32} {x2 : Int32} {x3 : Int32} {qq : Int32 × pI × pL} (hd : 4 ≤ d) (hW : WT N P) (ha0 : p_tp N a0 6) (hf : f_X3_signalAt n N I L P a0 x1 x2 x3 = some qq) : MT G mX3_signalAt d 0 0 [.ref a0, .int x1, .int x2, .int x3] N I L P (p_R (some (.int qq.1)) N qq.2.1 qq.2.2 P) := by
  refine MT.of rfl (Nat.le_of_ble_eq_true rfl) ?_
  show SW G mX3_signalAt (p_rm d 0 0) 0 0 0 0 (p_R (some (.int qq.1)) N qq.2.1 qq.2.2 P) 0 [(0, .ref a0), (1, .int x1), (2, .int x2), (3, .int x3)] [] N I L P
  unfold f_X3_signalAt at hf
  refine s_aload_n (pc := 0) dX3_signalAt_0 0 rfl rfl ?_
  obtain ⟨q1, h2, hf⟩ := p_bd hf
  have t3 : p_tp N q1 10 := WT.get hW ha0 h2
  refine x_getR (pc := 1) dX3_signalAt_1 fl_X3_31 rfl ha0 h2 ?_
  refine s_iload_n (pc := 4) dX3_signalAt_4 1 rfl rfl ?_
  obtain ⟨q4, h5, hf⟩ := p_bd hf
  refine y_callV1 (pc := 5) dX3_signalAt_5 (c_X7_senderStands (p_dd hd (by decide)) hW t3 h5) mk_X7_senderStands mv_X7_senderStands ml_X3_39 rfl rfl (Nat.le_of_ble_eq_true rfl) t3 rfl (p_d1 hd (by decide)) (Nat.le_of_ble_eq_true rfl) ?_
  refine s_if_eq (pc := 8) (tgt := 19) dX3_signalAt_8 rfl (fun hc => ?_) (fun hc => ?_)
  · replace hf := p_ps hf hc
    refine s_iconst (pc := 19) dX3_signalAt_19 (v := (-1)) rfl ?_
    cases hf
    exact s_ireturn (pc := 20) dX3_signalAt_20 rfl rfl ⟨rfl, rfl, rfl, rfl, rfl⟩
  · replace hf := p_ng hf hc
    refine s_iload_n (pc := 11) dX3_signalAt_11 2 rfl rfl ?_
    refine s_iload_n (pc := 12) dX3_signalAt_12 3 rfl rfl ?_
    obtain ⟨q6, h7, hf⟩ := p_bd hf
    refine y_callSN1 (pc := 13) dX3_signalAt_13 (c_X11_isPoint (p_dd hd (by decide)) hW  h7) mk_X11_isPoint mz_X11_isPoint (by decide) rfl rfl (Nat.le_of_ble_eq_true rfl) (p_d1 hd (by decide)) (Nat.le_of_ble_eq_true rfl) ?_
    refine s_if_ne (pc := 16) (tgt := 21) dX3_signalAt_16 rfl (fun hc => ?_) (fun hc => ?_)
    · replace hf := p_ng hf hc
      refine s_iload_n (pc := 21) dX3_signalAt_21 1 rfl rfl ?_
      refine s_iload_n (pc := 22) dX3_signalAt_22 2 rfl rfl ?_
      refine s_iload_n (pc := 23) dX3_signalAt_23 3 rfl rfl ?_
      obtain ⟨q8, h9, hf⟩ := p_bd hf
      refine y_callS1 (pc := 24) dX3_signalAt_24 (c_X3_keyOf (p_dd hd (by decide)) hW  h9) mk_X3_keyOf mz_X3_keyOf ml_X3_49 rfl rfl (Nat.le_of_ble_eq_true rfl) (p_d1 hd (by decide)) (Nat.le_of_ble_eq_true rfl) ?_
      refine s_istore (pc := 27) (lo' := [(4, .int q8), (0, .ref a0), (1, .int x1), (2, .int x2), (3, .int x3)]) dX3_signalAt_27 (Nat.le_of_ble_eq_true rfl) rfl ?_
      refine s_iload (pc := 29) dX3_signalAt_29 0 rfl ?_
      refine s_if_lt (pc := 31) (tgt := 54) dX3_signalAt_31 rfl (fun hc => ?_) (fun hc => ?_)
      · replace hf := p_ps hf hc
        refine s_iconst (pc := 54) dX3_signalAt_54 (v := (-1)) rfl ?_
        cases hf
        exact s_ireturn (pc := 55) dX3_signalAt_55 rfl rfl ⟨rfl, rfl, rfl, rfl, rfl⟩
      · replace hf := p_ng hf hc
        refine s_iload (pc := 34) dX3_signalAt_34 0 rfl ?_
        refine s_aload_n (pc := 36) dX3_signalAt_36 1 rfl rfl ?_
        obtain ⟨q10, h11, hf⟩ := p_bd hf
        have t12 : p_tp N q10 0 := WT.get hW ha0 h11
        refine x_getR (pc := 37) dX3_signalAt_37 fl_X3_11 rfl ha0 h11 ?_
        refine x_alen (pc := 40) dX3_signalAt_40 t12 (Nat.le_of_ble_eq_true rfl) ?_
        refine s_icmp_ge (pc := 41) (tgt := 54) dX3_signalAt_41 rfl (fun hc => ?_) (fun hc => ?_)
        · replace hf := p_ps hf hc
          refine s_iconst (pc := 54) dX3_signalAt_54 (v := (-1)) rfl ?_
          cases hf
          exact s_ireturn (pc := 55) dX3_signalAt_55 rfl rfl ⟨rfl, rfl, rfl, rfl, rfl⟩
        · replace hf := p_ng hf hc
          refine s_iload (pc := 44) dX3_signalAt_44 0 rfl ?_
          refine s_aload_n (pc := 46) dX3_signalAt_46 1 rfl rfl ?_
          obtain ⟨q13, h14, hf⟩ := p_bd hf
          have t15 : p_tp N q13 0 := WT.get hW ha0 h14
          refine x_getR (pc := 47) dX3_signalAt_47 fl_X3_15 rfl ha0 h14 ?_
          refine x_alen (pc := 50) dX3_signalAt_50 t15 (Nat.le_of_ble_eq_true rfl) ?_
          refine s_icmp_lt (pc := 51) (tgt := 56) dX3_signalAt_51 rfl (fun hc => ?_) (fun hc => ?_)
          · replace hf := p_ps hf hc
            refine s_aload_n (pc := 56) dX3_signalAt_56 1 rfl rfl ?_
            obtain ⟨q16, h17, hf⟩ := p_bd hf
            have t18 : p_tp N q16 0 := WT.get hW ha0 h17
            refine x_getR (pc := 57) dX3_signalAt_57 fl_X3_15 rfl ha0 h17 ?_
            refine s_iload (pc := 60) dX3_signalAt_60 0 rfl ?_
            obtain ⟨c19, hf⟩ := p_ckx hf
            refine x_iald (pc := 62) dX3_signalAt_62 t18 c19 ?_
            refine s_aload_n (pc := 63) dX3_signalAt_63 1 rfl rfl ?_
            refine x_getI (pc := 64) dX3_signalAt_64 fl_X3_24 rfl ha0 ?_
            obtain ⟨t20, hg, hf⟩ := p_bd hf
            have k21 : SW G mX3_signalAt (p_rm d 0 0) 0 0 0 0 (p_R (some (.int qq.1)) N qq.2.1 qq.2.2 P) 111 [(4, .int q8), (0, .ref a0)] [] N t20.1 t20.2 P := by
              refine s_aload_n (pc := 111) dX3_signalAt_111 1 rfl rfl ?_
              obtain ⟨q47, h48, hf⟩ := p_bd hf
              have t49 : p_tp N q47 0 := WT.get hW ha0 h48
              refine x_getR (pc := 112) dX3_signalAt_112 fl_X3_11 rfl ha0 h48 ?_
              refine s_iload (pc := 115) dX3_signalAt_115 0 rfl ?_
              obtain ⟨c50, hf⟩ := p_ckx hf
              refine x_iald (pc := 117) dX3_signalAt_117 t49 c50 ?_
              cases hf
              exact s_ireturn (pc := 118) dX3_signalAt_118 rfl rfl ⟨rfl, rfl, rfl, rfl, rfl⟩
            replace hf := hg
            refine s_icmp_eq (pc := 67) (tgt := 111) dX3_signalAt_67 rfl (fun hc => ?_) (fun hc => ?_)
            · replace hf := p_ps hf hc
              cases hf
              exact s_lo [0, 1] rfl (k21)
            · replace hf := p_ng hf hc
              refine s_aload_n (pc := 70) dX3_signalAt_70 1 rfl rfl ?_
              obtain ⟨q22, h23, hf⟩ := p_bd hf
              have t24 : p_tp N q22 0 := WT.get hW ha0 h23
              refine x_getR (pc := 71) dX3_signalAt_71 fl_X3_11 rfl ha0 h23 ?_
              refine s_iload (pc := 74) dX3_signalAt_74 0 rfl ?_
              refine s_aload_n (pc := 76) dX3_signalAt_76 1 rfl rfl ?_
              obtain ⟨q25, h26, hf⟩ := p_bd hf
              have t27 : p_tp N q25 5 := WT.get hW ha0 h26
              refine x_getR (pc := 77) dX3_signalAt_77 fl_X3_35 rfl ha0 h26 ?_
              refine s_aload_n (pc := 80) dX3_signalAt_80 1 rfl rfl ?_
              obtain ⟨q28, h29, hf⟩ := p_bd hf
              have t30 : p_tp N q28 10 := WT.get hW ha0 h29
              refine x_getR (pc := 81) dX3_signalAt_81 fl_X3_31 rfl ha0 h29 ?_
              obtain ⟨q31, h32, hf⟩ := p_bd hf
              have t33 : p_tp N q31 11 := WT.get hW t30 h32
              refine x_getR (pc := 84) dX3_signalAt_84 fl_X3_53 rfl t30 h32 ?_
              refine s_iload_n (pc := 87) dX3_signalAt_87 2 rfl rfl ?_
              refine s_iconst (pc := 88) dX3_signalAt_88 (v := nI 3) rfl ?_
              refine s_iload_n (pc := 89) dX3_signalAt_89 3 rfl rfl ?_
              refine s_iload_n (pc := 90) dX3_signalAt_90 4 rfl rfl ?_
              obtain ⟨q34, h35, hf⟩ := p_bd hf
              refine y_callV1 (pc := 91) dX3_signalAt_91 (c_X2_search (p_dd hd (by decide)) hW t27 t33 h35) mk_X2_search mv_X2_search ml_X3_57 rfl rfl (Nat.le_of_ble_eq_true rfl) t27 rfl (p_d1 hd (by decide)) (Nat.le_of_ble_eq_true rfl) ?_
              obtain ⟨c36, hf⟩ := p_ckx hf
              refine x_iast (pc := 94) dX3_signalAt_94 t24 c36 ?_
              refine s_nmI (fun I37 e38 => ?_)
              replace hf := p_lx hf e38
              refine s_aload_n (pc := 95) dX3_signalAt_95 1 rfl rfl ?_
              obtain ⟨q39, h40, hf⟩ := p_bd hf
              have t41 : p_tp N q39 0 := WT.get hW ha0 h40
              refine x_getR (pc := 96) dX3_signalAt_96 fl_X3_15 rfl ha0 h40 ?_
              refine s_iload (pc := 99) dX3_signalAt_99 0 rfl ?_
              refine s_aload_n (pc := 101) dX3_signalAt_101 1 rfl rfl ?_
              refine x_getI (pc := 102) dX3_signalAt_102 fl_X3_24 rfl ha0 ?_
              obtain ⟨c42, hf⟩ := p_ckx hf
              refine x_iast (pc := 105) dX3_signalAt_105 t41 c42 ?_
              refine s_nmI (fun I43 e44 => ?_)
              replace hf := p_lx hf e44
              refine s_aload_n (pc := 106) dX3_signalAt_106 1 rfl rfl ?_
              refine s_iconst (pc := 107) dX3_signalAt_107 (v := (-1)) rfl ?_
              refine x_putI (pc := 108) dX3_signalAt_108 fl_X3_28 (Or.inl rfl) rfl ha0 ?_
              refine s_nmI (fun I45 e46 => ?_)
              replace hf := p_lx hf e46
              cases hf
              exact s_lo [0, 1] rfl (k21)
          · replace hf := p_ng hf hc
            refine s_iconst (pc := 54) dX3_signalAt_54 (v := (-1)) rfl ?_
            cases hf
            exact s_ireturn (pc := 55) dX3_signalAt_55 rfl rfl ⟨rfl, rfl, rfl, rfl, rfl⟩
    · replace hf := p_ps hf hc
      refine s_iconst (pc := 19) dX3_signalAt_19 (v := (-1)) rfl ?_
      cases hf
      exact s_ireturn (pc := 20) dX3_signalAt_20 rfl rfl ⟨rfl, rfl, rfl, rfl, rfl⟩
def B_X1_hearSenders_15 (n : Nat) (N : pN) (P : pR) (a0 : Nat) (x1 : Int32) (rec1 : (Int32 × Int32 × pI × pL) → Option (Int32 × pI × pL)) (s1 : Int32 × Int32 × pI × pL) : Option (Int32 × pI × pL) :=
  Option.bind (P a0 0) fun q8 =>
  Option.bind (P q8 4) fun q11 =>
  Option.bind (f_X8_size s1.2.2.1 q11) fun q14 =>
  (if q14 ≤ s1.2.1 then
    some (s1.1, s1.2.2.1, s1.2.2.2)
  else
    Option.bind (P a0 1) fun q16 =>
    Option.bind (P a0 0) fun q19 =>
    Option.bind (P q19 4) fun q22 =>
    Option.bind (f_X8_get N s1.2.2.1 P q22 s1.2.1 (nI 0)) fun q25 =>
    Option.bind (P a0 0) fun q27 =>
    Option.bind (P q27 4) fun q30 =>
    Option.bind (f_X8_get N s1.2.2.1 P q30 s1.2.1 (nI 1)) fun q33 =>
    Option.bind (f_X3_signalAt n N s1.2.2.1 s1.2.2.2 P q16 x1 q25 q33) fun q35 =>
    p_let (if s1.1 < q35.1 then q35.1 else s1.1) fun v37 =>
    rec1 (v37, s1.2.1 + nI 1, q35.2.1, q35.2.2))
def B_X1_hearSenders_2 (n : Nat) (N : pN) (P : pR) (a0 : Nat) (rec0 : (Int32 × pI × pL) → Option (pI × pL)) (s0 : Int32 × pI × pL) : Option (pI × pL) :=
  Option.bind (P a0 2) fun q3 =>
  (if (nI (N.2 q3).2) ≤ s0.1 then
    some (s0.2.1, s0.2.2)
  else
    Option.bind (p_it (B_X1_hearSenders_15 n N P a0 s0.1) n (nI 0, nI 0, s0.2.1, s0.2.2)) fun t6 =>
    Option.bind (P a0 2) fun q71 =>
    p_ck (p_ib N q71 s0.1) <|
    p_let (p_u t6.2.1 q71 (Int32.toNatClampNeg s0.1) (if t6.1 < nI 9999 then t6.1 else nI 9999)) fun I75 =>
    rec0 (s0.1 + nI 1, I75, t6.2.2))
def f_X1_hearSenders (n : Nat) (N : pN) (I : pI) (L : pL) (P : pR) (a0 : Nat) : Option (pI × pL) :=
  Option.bind (p_it (B_X1_hearSenders_2 n N P a0) n (nI 0, I, L)) fun t1 =>
  some (t1.1, t1.2)
theorem c_X1_hearSenders {G : pG} {d : Nat} {n : Nat} {N : pN} {I : pI} {L : pL} {P : pR} {a0 : Nat} {qq : pI × pL} (hd : 5 ≤ d) (hW : WT N P) (ha0 : p_tp N a0 4) (hf : f_X1_hearSenders n N I L P a0 = some qq) : MT G mX1_hearSenders d 0 0 [.ref a0] N I L P (p_R none N qq.1 qq.2 P) := by
  refine MT.of rfl (Nat.le_of_ble_eq_true rfl) ?_
  show SW G mX1_hearSenders (p_rm d 0 0) 0 0 0 0 (p_R none N qq.1 qq.2 P) 0 [(0, .ref a0)] [] N I L P
  unfold f_X1_hearSenders at hf
  refine s_iconst (pc := 0) dX1_hearSenders_0 (v := nI 0) rfl ?_
  refine s_istore_n (pc := 1) (lo' := [(1, .int (nI 0)), (0, .ref a0)]) dX1_hearSenders_1 rfl (Nat.le_of_ble_eq_true rfl) rfl ?_
  obtain ⟨t1, hg, hf⟩ := p_bd hf
  have k2 : SW G mX1_hearSenders (p_rm d 0 0) 0 0 0 0 (p_R none N qq.1 qq.2 P) 91 [] [] N t1.1 t1.2 P := by
    cases hf
    exact s_return (pc := 91) dX1_hearSenders_91 rfl ⟨rfl, rfl, rfl, rfl, rfl⟩
  replace hf := hg
  have k77 : ∀ (k : Nat) (s0 : Int32 × pI × pL), p_it (B_X1_hearSenders_2 n N P a0) k s0 = some t1 → (SW G mX1_hearSenders (p_rm d 0 0) 0 0 0 0 (p_R none N qq.1 qq.2 P) 2 [(0, .ref a0), (1, .int s0.1)] [] N s0.2.1 s0.2.2 P) := p_it_ind (C := fun (s0 : Int32 × pI × pL) => SW G mX1_hearSenders (p_rm d 0 0) 0 0 0 0 (p_R none N qq.1 qq.2 P) 2 [(0, .ref a0), (1, .int s0.1)] [] N s0.2.1 s0.2.2 P) (by
    intro rec0 hrec0 s0 hf
    unfold B_X1_hearSenders_2 at hf
    refine s_iload_n (pc := 2) dX1_hearSenders_2 1 rfl rfl ?_
    refine s_aload_n (pc := 3) dX1_hearSenders_3 0 rfl rfl ?_
    obtain ⟨q78, h79, hf⟩ := p_bd hf
    have t80 : p_tp N q78 0 := WT.get hW ha0 h79
    refine x_getR (pc := 4) dX1_hearSenders_4 fl_X1_9 rfl ha0 h79 ?_
    refine x_alen (pc := 7) dX1_hearSenders_7 t80 (Nat.le_of_ble_eq_true rfl) ?_
    refine s_icmp_ge (pc := 8) (tgt := 91) dX1_hearSenders_8 rfl (fun hc => ?_) (fun hc => ?_)
    · replace hf := p_ps hf hc
      cases hf
      exact s_lo [] rfl (k2)
    · replace hf := p_ng hf hc
      refine s_iconst (pc := 11) dX1_hearSenders_11 (v := nI 0) rfl ?_
      refine s_istore_n (pc := 12) (lo' := [(2, .int (nI 0)), (0, .ref a0), (1, .int s0.1)]) dX1_hearSenders_12 rfl (Nat.le_of_ble_eq_true rfl) rfl ?_
      refine s_iconst (pc := 13) dX1_hearSenders_13 (v := nI 0) rfl ?_
      refine s_istore_n (pc := 14) (lo' := [(3, .int (nI 0)), (2, .int (nI 0)), (0, .ref a0), (1, .int s0.1)]) dX1_hearSenders_14 rfl (Nat.le_of_ble_eq_true rfl) rfl ?_
      obtain ⟨t81, hg, hf⟩ := p_bd hf
      have k82 : SW G mX1_hearSenders (p_rm d 0 0) 0 0 0 0 (p_R none N qq.1 qq.2 P) 72 [(0, .ref a0), (1, .int s0.1), (2, .int t81.1)] [] N t81.2.1 t81.2.2 P := by
        refine s_aload_n (pc := 72) dX1_hearSenders_72 0 rfl rfl ?_
        obtain ⟨q115, h116, hf⟩ := p_bd hf
        have t117 : p_tp N q115 0 := WT.get hW ha0 h116
        refine x_getR (pc := 73) dX1_hearSenders_73 fl_X1_9 rfl ha0 h116 ?_
        refine s_iload_n (pc := 76) dX1_hearSenders_76 1 rfl rfl ?_
        refine s_sipush (pc := 77) dX1_hearSenders_77 (v := nI 9999) rfl ?_
        refine s_iload_n (pc := 80) dX1_hearSenders_80 2 rfl rfl ?_
        refine y_min (pc := 81) dX1_hearSenders_81 ml_X1_57 (p_d1 hd (by decide)) (Nat.le_of_ble_eq_true rfl) ?_
        obtain ⟨c118, hf⟩ := p_ckx hf
        refine x_iast (pc := 84) dX1_hearSenders_84 t117 c118 ?_
        refine s_nmI (fun I119 e120 => ?_)
        replace hf := p_lx hf e120
        refine s_iinc (pc := 85) (lo' := [(1, .int (s0.1 + nI 1)), (0, .ref a0), (2, .int t81.1)]) dX1_hearSenders_85 1 rfl (v := s0.1 + nI 1) rfl (Nat.le_of_ble_eq_true rfl) rfl ?_
        refine s_goto (pc := 88) (tgt := 2) dX1_hearSenders_88 rfl ?_
        exact s_lo [1, 0] rfl (hrec0 (s0.1 + nI 1, I119, t81.2.2) hf)
      replace hf := hg
      have k83 : ∀ (k : Nat) (s1 : Int32 × Int32 × pI × pL), p_it (B_X1_hearSenders_15 n N P a0 s0.1) k s1 = some t81 → (SW G mX1_hearSenders (p_rm d 0 0) 0 0 0 0 (p_R none N qq.1 qq.2 P) 15 [(0, .ref a0), (1, .int s0.1), (2, .int s1.1), (3, .int s1.2.1)] [] N s1.2.2.1 s1.2.2.2 P) := p_it_ind (C := fun (s1 : Int32 × Int32 × pI × pL) => SW G mX1_hearSenders (p_rm d 0 0) 0 0 0 0 (p_R none N qq.1 qq.2 P) 15 [(0, .ref a0), (1, .int s0.1), (2, .int s1.1), (3, .int s1.2.1)] [] N s1.2.2.1 s1.2.2.2 P) (by
        intro rec1 hrec1 s1 hf
        unfold B_X1_hearSenders_15 at hf
        refine s_iload_n (pc := 15) dX1_hearSenders_15 3 rfl rfl ?_
        refine s_aload_n (pc := 16) dX1_hearSenders_16 0 rfl rfl ?_
        obtain ⟨q84, h85, hf⟩ := p_bd hf
        have t86 : p_tp N q84 10 := WT.get hW ha0 h85
        refine x_getR (pc := 17) dX1_hearSenders_17 fl_X1_22 rfl ha0 h85 ?_
        obtain ⟨q87, h88, hf⟩ := p_bd hf
        have t89 : p_tp N q87 11 := WT.get hW t86 h88
        refine x_getR (pc := 20) dX1_hearSenders_20 fl_X1_30 rfl t86 h88 ?_
        obtain ⟨q90, h91, hf⟩ := p_bd hf
        refine y_callV1 (pc := 23) dX1_hearSenders_23 (c_X8_size (p_dd hd (by decide)) hW t89 h91) mk_X8_size mv_X8_size ml_X1_36 rfl rfl (Nat.le_of_ble_eq_true rfl) t89 rfl (p_d1 hd (by decide)) (Nat.le_of_ble_eq_true rfl) ?_
        refine s_icmp_ge (pc := 26) (tgt := 72) dX1_hearSenders_26 rfl (fun hc => ?_) (fun hc => ?_)
        · replace hf := p_ps hf hc
          cases hf
          exact s_lo [0, 1, 2] rfl (k82)
        · replace hf := p_ng hf hc
          refine s_iload_n (pc := 29) dX1_hearSenders_29 2 rfl rfl ?_
          refine s_aload_n (pc := 30) dX1_hearSenders_30 0 rfl rfl ?_
          obtain ⟨q92, h93, hf⟩ := p_bd hf
          have t94 : p_tp N q92 6 := WT.get hW ha0 h93
          refine x_getR (pc := 31) dX1_hearSenders_31 fl_X1_26 rfl ha0 h93 ?_
          refine s_iload_n (pc := 34) dX1_hearSenders_34 1 rfl rfl ?_
          refine s_aload_n (pc := 35) dX1_hearSenders_35 0 rfl rfl ?_
          obtain ⟨q95, h96, hf⟩ := p_bd hf
          have t97 : p_tp N q95 10 := WT.get hW ha0 h96
          refine x_getR (pc := 36) dX1_hearSenders_36 fl_X1_22 rfl ha0 h96 ?_
          obtain ⟨q98, h99, hf⟩ := p_bd hf
          have t100 : p_tp N q98 11 := WT.get hW t97 h99
          refine x_getR (pc := 39) dX1_hearSenders_39 fl_X1_30 rfl t97 h99 ?_
          refine s_iload_n (pc := 42) dX1_hearSenders_42 3 rfl rfl ?_
          refine s_iconst (pc := 43) dX1_hearSenders_43 (v := nI 0) rfl ?_
          obtain ⟨q101, h102, hf⟩ := p_bd hf
          refine y_callV1 (pc := 44) dX1_hearSenders_44 (c_X8_get (p_dd hd (by decide)) hW t100 h102) mk_X8_get mv_X8_get ml_X1_42 rfl rfl (Nat.le_of_ble_eq_true rfl) t100 rfl (p_d1 hd (by decide)) (Nat.le_of_ble_eq_true rfl) ?_
          refine s_aload_n (pc := 47) dX1_hearSenders_47 0 rfl rfl ?_
          obtain ⟨q103, h104, hf⟩ := p_bd hf
          have t105 : p_tp N q103 10 := WT.get hW ha0 h104
          refine x_getR (pc := 48) dX1_hearSenders_48 fl_X1_22 rfl ha0 h104 ?_
          obtain ⟨q106, h107, hf⟩ := p_bd hf
          have t108 : p_tp N q106 11 := WT.get hW t105 h107
          refine x_getR (pc := 51) dX1_hearSenders_51 fl_X1_30 rfl t105 h107 ?_
          refine s_iload_n (pc := 54) dX1_hearSenders_54 3 rfl rfl ?_
          refine s_iconst (pc := 55) dX1_hearSenders_55 (v := nI 1) rfl ?_
          obtain ⟨q109, h110, hf⟩ := p_bd hf
          refine y_callV1 (pc := 56) dX1_hearSenders_56 (c_X8_get (p_dd hd (by decide)) hW t108 h110) mk_X8_get mv_X8_get ml_X1_42 rfl rfl (Nat.le_of_ble_eq_true rfl) t108 rfl (p_d1 hd (by decide)) (Nat.le_of_ble_eq_true rfl) ?_
          obtain ⟨q111, h112, hf⟩ := p_bd hf
          refine y_callV1 (pc := 59) dX1_hearSenders_59 (c_X3_signalAt (p_dd hd (by decide)) hW t94 h112) mk_X3_signalAt mv_X3_signalAt ml_X1_46 rfl rfl (Nat.le_of_ble_eq_true rfl) t94 rfl (p_d1 hd (by decide)) (Nat.le_of_ble_eq_true rfl) ?_
          refine y_max (pc := 62) dX1_hearSenders_62 ml_X1_52 (p_d1 hd (by decide)) (Nat.le_of_ble_eq_true rfl) ?_
          refine s_topi (fun v113 e114 => ?_)
          replace hf := p_lx hf e114
          refine s_istore_n (pc := 65) (lo' := [(2, .int v113), (0, .ref a0), (1, .int s0.1), (3, .int s1.2.1)]) dX1_hearSenders_65 rfl (Nat.le_of_ble_eq_true rfl) rfl ?_
          refine s_iinc (pc := 66) (lo' := [(3, .int (s1.2.1 + nI 1)), (2, .int v113), (0, .ref a0), (1, .int s0.1)]) dX1_hearSenders_66 3 rfl (v := s1.2.1 + nI 1) rfl (Nat.le_of_ble_eq_true rfl) rfl ?_
          refine s_goto (pc := 69) (tgt := 15) dX1_hearSenders_69 rfl ?_
          exact s_lo [2, 3, 1, 0] rfl (hrec1 (v113, s1.2.1 + nI 1, q111.2.1, q111.2.2) hf))
      exact s_lo [2, 3, 1, 0] rfl (k83 n (nI 0, nI 0, s0.2.1, s0.2.2) hf))
  exact s_lo [1, 0] rfl (k77 n (nI 0, I, L) hf)
