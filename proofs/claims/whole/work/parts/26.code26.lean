def f_X8_full (I : pI) (a0 : Nat) : Option Int32 :=
  (if (I a0 3) < (I a0 0) then
    some (nI 0)
  else
    some (nI 1))
theorem c_X8_full {G : pG} {d : Nat} {N : pN} {I : pI} {L : pL} {P : pR} {a0 : Nat} {qq : Int32} (hd : 0 ≤ d) (hW : WT N P) (ha0 : p_tp N a0 11) (hf : f_X8_full I a0 = some qq) : MT G mX8_full d 0 0 [.ref a0] N I L P (p_R (some (.int qq)) N I L P) := by
  refine MT.of rfl (Nat.le_of_ble_eq_true rfl) ?_
  show SW G mX8_full (p_rm d 0 0) 0 0 0 0 (p_R (some (.int qq)) N I L P) 0 [(0, .ref a0)] [] N I L P
  unfold f_X8_full at hf
  refine s_aload_n (pc := 0) dX8_full_0 0 rfl rfl ?_
  refine x_getI (pc := 1) dX8_full_1 fl_X8_28 rfl ha0 ?_
  refine s_aload_n (pc := 4) dX8_full_4 0 rfl rfl ?_
  refine x_getI (pc := 5) dX8_full_5 fl_X8_15 rfl ha0 ?_
  refine s_icmp_lt (pc := 8) (tgt := 15) dX8_full_8 rfl (fun hc => ?_) (fun hc => ?_)
  · replace hf := p_ps hf hc
    refine s_iconst (pc := 15) dX8_full_15 (v := nI 0) rfl ?_
    cases hf
    exact s_ireturn (pc := 16) dX8_full_16 rfl rfl ⟨rfl, rfl, rfl, rfl, rfl⟩
  · replace hf := p_ng hf hc
    refine s_iconst (pc := 11) dX8_full_11 (v := nI 1) rfl ?_
    refine s_goto (pc := 12) (tgt := 16) dX8_full_12 rfl ?_
    cases hf
    exact s_ireturn (pc := 16) dX8_full_16 rfl rfl ⟨rfl, rfl, rfl, rfl, rfl⟩
def f_X10_sortHere (n : Nat) (N : pN) (I : pI) (P : pR) (a0 : Nat) : Option Int32 :=
  Option.bind (P a0 0) fun q1 =>
  Option.bind (f_X9_isWord n N I P q1 1000100) fun q4 =>
  (if q4 = 0 then
    Option.bind (P a0 0) fun q6 =>
    Option.bind (f_X9_isWord n N I P q6 1000101) fun q9 =>
    (if q9 = 0 then
      Option.bind (P a0 0) fun q11 =>
      Option.bind (f_X9_isWord n N I P q11 1000102) fun q14 =>
      (if q14 = 0 then
        Option.bind (P a0 0) fun q16 =>
        Option.bind (f_X9_isWord n N I P q16 1000103) fun q19 =>
        (if q19 = 0 then
          some (-1)
        else
          some (nI 3))
      else
        some (nI 2))
    else
      some (nI 1))
  else
    some (nI 0))
theorem c_X10_sortHere {G : pG} {d : Nat} {n : Nat} {N : pN} {I : pI} {L : pL} {P : pR} {a0 : Nat} {qq : Int32} (hd : 8 ≤ d) (hW : WT N P) (ha0 : p_tp N a0 13) (hf : f_X10_sortHere n N I P a0 = some qq) : MT G mX10_sortHere d 0 0 [.ref a0] N I L P (p_R (some (.int qq)) N I L P) := by
  refine MT.of rfl (Nat.le_of_ble_eq_true rfl) ?_
  show SW G mX10_sortHere (p_rm d 0 0) 0 0 0 0 (p_R (some (.int qq)) N I L P) 0 [(0, .ref a0)] [] N I L P
  unfold f_X10_sortHere at hf
  refine s_aload_n (pc := 0) dX10_sortHere_0 0 rfl rfl ?_
  obtain ⟨q1, h2, hf⟩ := p_bd hf
  have t3 : p_tp N q1 12 := WT.get hW ha0 h2
  refine x_getR (pc := 1) dX10_sortHere_1 fl_X10_19 rfl ha0 h2 ?_
  refine s_ldcS (pc := 4) (j := 0) rfl rfl rfl dX10_sortHere_4 ?_
  obtain ⟨q4, h5, hf⟩ := p_bd hf
  refine y_callV1 (pc := 6) dX10_sortHere_6 (c_X9_isWord (p_dd hd (by decide)) hW t3 (p_sx_ (by decide)) h5) mk_X9_isWord mv_X9_isWord ml_X10_77 rfl rfl (Nat.le_of_ble_eq_true rfl) t3 rfl (p_d1 hd (by decide)) (Nat.le_of_ble_eq_true rfl) ?_
  refine s_if_eq (pc := 9) (tgt := 14) dX10_sortHere_9 rfl (fun hc => ?_) (fun hc => ?_)
  · replace hf := p_ps hf hc
    refine s_aload_n (pc := 14) dX10_sortHere_14 0 rfl rfl ?_
    obtain ⟨q6, h7, hf⟩ := p_bd hf
    have t8 : p_tp N q6 12 := WT.get hW ha0 h7
    refine x_getR (pc := 15) dX10_sortHere_15 fl_X10_19 rfl ha0 h7 ?_
    refine s_ldcS (pc := 18) (j := 1) rfl rfl rfl dX10_sortHere_18 ?_
    obtain ⟨q9, h10, hf⟩ := p_bd hf
    refine y_callV1 (pc := 20) dX10_sortHere_20 (c_X9_isWord (p_dd hd (by decide)) hW t8 (p_sx_ (by decide)) h10) mk_X9_isWord mv_X9_isWord ml_X10_77 rfl rfl (Nat.le_of_ble_eq_true rfl) t8 rfl (p_d1 hd (by decide)) (Nat.le_of_ble_eq_true rfl) ?_
    refine s_if_eq (pc := 23) (tgt := 28) dX10_sortHere_23 rfl (fun hc => ?_) (fun hc => ?_)
    · replace hf := p_ps hf hc
      refine s_aload_n (pc := 28) dX10_sortHere_28 0 rfl rfl ?_
      obtain ⟨q11, h12, hf⟩ := p_bd hf
      have t13 : p_tp N q11 12 := WT.get hW ha0 h12
      refine x_getR (pc := 29) dX10_sortHere_29 fl_X10_19 rfl ha0 h12 ?_
      refine s_ldcS (pc := 32) (j := 2) rfl rfl rfl dX10_sortHere_32 ?_
      obtain ⟨q14, h15, hf⟩ := p_bd hf
      refine y_callV1 (pc := 34) dX10_sortHere_34 (c_X9_isWord (p_dd hd (by decide)) hW t13 (p_sx_ (by decide)) h15) mk_X9_isWord mv_X9_isWord ml_X10_77 rfl rfl (Nat.le_of_ble_eq_true rfl) t13 rfl (p_d1 hd (by decide)) (Nat.le_of_ble_eq_true rfl) ?_
      refine s_if_eq (pc := 37) (tgt := 42) dX10_sortHere_37 rfl (fun hc => ?_) (fun hc => ?_)
      · replace hf := p_ps hf hc
        refine s_aload_n (pc := 42) dX10_sortHere_42 0 rfl rfl ?_
        obtain ⟨q16, h17, hf⟩ := p_bd hf
        have t18 : p_tp N q16 12 := WT.get hW ha0 h17
        refine x_getR (pc := 43) dX10_sortHere_43 fl_X10_19 rfl ha0 h17 ?_
        refine s_ldcS (pc := 46) (j := 3) rfl rfl rfl dX10_sortHere_46 ?_
        obtain ⟨q19, h20, hf⟩ := p_bd hf
        refine y_callV1 (pc := 48) dX10_sortHere_48 (c_X9_isWord (p_dd hd (by decide)) hW t18 (p_sx_ (by decide)) h20) mk_X9_isWord mv_X9_isWord ml_X10_77 rfl rfl (Nat.le_of_ble_eq_true rfl) t18 rfl (p_d1 hd (by decide)) (Nat.le_of_ble_eq_true rfl) ?_
        refine s_if_eq (pc := 51) (tgt := 58) dX10_sortHere_51 rfl (fun hc => ?_) (fun hc => ?_)
        · replace hf := p_ps hf hc
          refine s_iconst (pc := 58) dX10_sortHere_58 (v := (-1)) rfl ?_
          cases hf
          exact s_ireturn (pc := 59) dX10_sortHere_59 rfl rfl ⟨rfl, rfl, rfl, rfl, rfl⟩
        · replace hf := p_ng hf hc
          refine s_iconst (pc := 54) dX10_sortHere_54 (v := nI 3) rfl ?_
          refine s_goto (pc := 55) (tgt := 59) dX10_sortHere_55 rfl ?_
          cases hf
          exact s_ireturn (pc := 59) dX10_sortHere_59 rfl rfl ⟨rfl, rfl, rfl, rfl, rfl⟩
      · replace hf := p_ng hf hc
        refine s_iconst (pc := 40) dX10_sortHere_40 (v := nI 2) rfl ?_
        cases hf
        exact s_ireturn (pc := 41) dX10_sortHere_41 rfl rfl ⟨rfl, rfl, rfl, rfl, rfl⟩
    · replace hf := p_ng hf hc
      refine s_iconst (pc := 26) dX10_sortHere_26 (v := nI 1) rfl ?_
      cases hf
      exact s_ireturn (pc := 27) dX10_sortHere_27 rfl rfl ⟨rfl, rfl, rfl, rfl, rfl⟩
  · replace hf := p_ng hf hc
    refine s_iconst (pc := 12) dX10_sortHere_12 (v := nI 0) rfl ?_
    cases hf
    exact s_ireturn (pc := 13) dX10_sortHere_13 rfl rfl ⟨rfl, rfl, rfl, rfl, rfl⟩
def f_X10_numbersOf (x0 : Int32) : Option Int32 :=
  (if x0 = nI 0 then
    some (nI 5)
  else
    (if x0 = nI 2 then
      some (nI 2)
    else
      some (nI 4)))
theorem c_X10_numbersOf {G : pG} {d : Nat} {N : pN} {I : pI} {L : pL} {P : pR} {x0 : Int32} {qq : Int32} (hd : 0 ≤ d) (hW : WT N P) (hf : f_X10_numbersOf x0 = some qq) : MT G mX10_numbersOf d 0 0 [.int x0] N I L P (p_R (some (.int qq)) N I L P) := by
  refine MT.of rfl (Nat.le_of_ble_eq_true rfl) ?_
  show SW G mX10_numbersOf (p_rm d 0 0) 0 0 0 0 (p_R (some (.int qq)) N I L P) 0 [(0, .int x0)] [] N I L P
  unfold f_X10_numbersOf at hf
  refine s_iload_n (pc := 0) dX10_numbersOf_0 0 rfl rfl ?_
  by_cases hc0 : x0 = nI 0
  · replace hf := p_ps hf hc0
    refine s_lookup (pc := 1) (tgt := 28) (off := 27) dX10_numbersOf_1 (by decide) (by rw [hc0]; rfl) rfl ?_
    refine s_iconst (pc := 28) dX10_numbersOf_28 (v := nI 5) rfl ?_
    cases hf
    exact s_ireturn (pc := 29) dX10_numbersOf_29 rfl rfl ⟨rfl, rfl, rfl, rfl, rfl⟩
  · replace hf := p_ng hf hc0
    by_cases hc1 : x0 = nI 2
    · replace hf := p_ps hf hc1
      refine s_lookup (pc := 1) (tgt := 30) (off := 29) dX10_numbersOf_1 (by decide) (by rw [hc1]; rfl) rfl ?_
      refine s_iconst (pc := 30) dX10_numbersOf_30 (v := nI 2) rfl ?_
      cases hf
      exact s_ireturn (pc := 31) dX10_numbersOf_31 rfl rfl ⟨rfl, rfl, rfl, rfl, rfl⟩
    · replace hf := p_ng hf hc1
      refine s_lookup (pc := 1) (tgt := 32) (off := 31) dX10_numbersOf_1 (by decide) (by simp [Op.lookupswitch.offset, p_ne hc0 (i := 0) rfl, (p_ne hc0 (i := 0) rfl).symm, p_ne hc1 (i := 2) rfl, (p_ne hc1 (i := 2) rfl).symm]) rfl ?_
      refine s_iconst (pc := 32) dX10_numbersOf_32 (v := nI 4) rfl ?_
      cases hf
      exact s_ireturn (pc := 33) dX10_numbersOf_33 rfl rfl ⟨rfl, rfl, rfl, rfl, rfl⟩
def f_X10_tableOf (P : pR) (a0 : Nat) (x1 : Int32) : Option Nat :=
  (if x1 = nI 0 then
    Option.bind (P a0 1) fun q13 =>
    some q13
  else
    (if x1 = nI 1 then
      Option.bind (P a0 2) fun q10 =>
      some q10
    else
      (if x1 = nI 2 then
        Option.bind (P a0 4) fun q7 =>
        some q7
      else
        Option.bind (P a0 3) fun q4 =>
        some q4)))
theorem c_X10_tableOf {G : pG} {d : Nat} {N : pN} {I : pI} {L : pL} {P : pR} {a0 : Nat} {x1 : Int32} {qq : Nat} (hd : 0 ≤ d) (hW : WT N P) (ha0 : p_tp N a0 10) (hf : f_X10_tableOf P a0 x1 = some qq) : MT G mX10_tableOf d 0 0 [.ref a0, .int x1] N I L P (p_R (some (.ref qq)) N I L P) := by
  refine MT.of rfl (Nat.le_of_ble_eq_true rfl) ?_
  show SW G mX10_tableOf (p_rm d 0 0) 0 0 0 0 (p_R (some (.ref qq)) N I L P) 0 [(0, .ref a0), (1, .int x1)] [] N I L P
  unfold f_X10_tableOf at hf
  refine s_iload_n (pc := 0) dX10_tableOf_0 1 rfl rfl ?_
  by_cases hc0 : x1 = nI 0
  · replace hf := p_ps hf hc0
    refine s_tableIn (pc := 1) (tgt := 28) (off := 27) dX10_tableOf_1 (by rw [hc0]; decide) (by rw [hc0]; decide) (by rw [hc0]; rfl) rfl ?_
    refine s_aload_n (pc := 28) dX10_tableOf_28 0 rfl rfl ?_
    obtain ⟨q13, h14, hf⟩ := p_bd hf
    have t15 : p_tp N q13 11 := WT.get hW ha0 h14
    refine x_getR (pc := 29) dX10_tableOf_29 fl_X10_32 rfl ha0 h14 ?_
    cases hf
    exact s_areturn (pc := 32) dX10_tableOf_32 rfl (Or.inl ⟨_, rfl⟩) ⟨rfl, rfl, rfl, rfl, rfl⟩
  · replace hf := p_ng hf hc0
    by_cases hc1 : x1 = nI 1
    · replace hf := p_ps hf hc1
      refine s_tableIn (pc := 1) (tgt := 33) (off := 32) dX10_tableOf_1 (by rw [hc1]; decide) (by rw [hc1]; decide) (by rw [hc1]; rfl) rfl ?_
      refine s_aload_n (pc := 33) dX10_tableOf_33 0 rfl rfl ?_
      obtain ⟨q10, h11, hf⟩ := p_bd hf
      have t12 : p_tp N q10 11 := WT.get hW ha0 h11
      refine x_getR (pc := 34) dX10_tableOf_34 fl_X10_42 rfl ha0 h11 ?_
      cases hf
      exact s_areturn (pc := 37) dX10_tableOf_37 rfl (Or.inl ⟨_, rfl⟩) ⟨rfl, rfl, rfl, rfl, rfl⟩
    · replace hf := p_ng hf hc1
      by_cases hc2 : x1 = nI 2
      · replace hf := p_ps hf hc2
        refine s_tableIn (pc := 1) (tgt := 38) (off := 37) dX10_tableOf_1 (by rw [hc2]; decide) (by rw [hc2]; decide) (by rw [hc2]; rfl) rfl ?_
        refine s_aload_n (pc := 38) dX10_tableOf_38 0 rfl rfl ?_
        obtain ⟨q7, h8, hf⟩ := p_bd hf
        have t9 : p_tp N q7 11 := WT.get hW ha0 h8
        refine x_getR (pc := 39) dX10_tableOf_39 fl_X10_48 rfl ha0 h8 ?_
        cases hf
        exact s_areturn (pc := 42) dX10_tableOf_42 rfl (Or.inl ⟨_, rfl⟩) ⟨rfl, rfl, rfl, rfl, rfl⟩
      · replace hf := p_ng hf hc2
        have hout : x1.toInt < 0 ∨ 2 < x1.toInt := p_out (fun i h1 h2 => by
          have hh : i = 0 ∨ i = 1 ∨ i = 2 := by omega
          rcases hh with rfl | rfl | rfl
          · exact p_ne hc0 rfl
          · exact p_ne hc1 rfl
          · exact p_ne hc2 rfl)
        refine s_tableOut (pc := 1) (tgt := 43) dX10_tableOf_1 hout rfl ?_
        refine s_aload_n (pc := 43) dX10_tableOf_43 0 rfl rfl ?_
        obtain ⟨q4, h5, hf⟩ := p_bd hf
        have t6 : p_tp N q4 11 := WT.get hW ha0 h5
        refine x_getR (pc := 44) dX10_tableOf_44 fl_X10_45 rfl ha0 h5 ?_
        cases hf
        exact s_areturn (pc := 47) dX10_tableOf_47 rfl (Or.inl ⟨_, rfl⟩) ⟨rfl, rfl, rfl, rfl, rfl⟩
theorem t_X10_tableOf {N : pN} {P : pR} {a0 : Nat} {x1 : Int32} {qq : Nat} (hW : WT N P) (ha0 : p_tp N a0 10) (hf : f_X10_tableOf P a0 x1 = some qq) : p_tp N qq 11 := by
  unfold f_X10_tableOf at hf
  by_cases h0 : x1 = 0
  · replace hf := p_ps hf h0
    obtain ⟨q, hq, hf⟩ := p_bd hf
    cases hf
    exact WT.get hW ha0 hq
  · replace hf := p_ng hf h0
    by_cases h1 : x1 = 1
    · replace hf := p_ps hf h1
      obtain ⟨q, hq, hf⟩ := p_bd hf
      cases hf
      exact WT.get hW ha0 hq
    · replace hf := p_ng hf h1
      by_cases h2 : x1 = 2
      · replace hf := p_ps hf h2
        obtain ⟨q, hq, hf⟩ := p_bd hf
        cases hf
        exact WT.get hW ha0 hq
      · replace hf := p_ng hf h2
        obtain ⟨q, hq, hf⟩ := p_bd hf
        cases hf
        exact WT.get hW ha0 hq
def f_X10_isCrooked (N : pN) (I : pI) (P : pR) (a0 : Nat) : Option Int32 :=
  Option.bind (P a0 1) fun q1 =>
  p_ck (p_ib N q1 (nI 0)) <|
  Option.bind (P a0 1) fun q5 =>
  p_ck (p_ib N q5 (nI 2)) <|
  p_let (α := Int32) ((if (I q1 (Int32.toNatClampNeg (nI 0))) = (I q5 (Int32.toNatClampNeg (nI 2))) then
    nI 1
  else
    nI 0)) fun t9 =>
  Option.bind (P a0 1) fun q11 =>
  p_ck (p_ib N q11 (nI 1)) <|
  Option.bind (P a0 1) fun q15 =>
  p_ck (p_ib N q15 (nI 3)) <|
  p_let (α := Int32) ((if (I q11 (Int32.toNatClampNeg (nI 1))) = (I q15 (Int32.toNatClampNeg (nI 3))) then
    nI 1
  else
    nI 0)) fun t19 =>
  (if t9 = t19 then
    some (nI 1)
  else
    some (nI 0))
theorem c_X10_isCrooked {G : pG} {d : Nat} {N : pN} {I : pI} {L : pL} {P : pR} {a0 : Nat} {qq : Int32} (hd : 0 ≤ d) (hW : WT N P) (ha0 : p_tp N a0 13) (hf : f_X10_isCrooked N I P a0 = some qq) : MT G mX10_isCrooked d 0 0 [.ref a0] N I L P (p_R (some (.int qq)) N I L P) := by
  refine MT.of rfl (Nat.le_of_ble_eq_true rfl) ?_
  show SW G mX10_isCrooked (p_rm d 0 0) 0 0 0 0 (p_R (some (.int qq)) N I L P) 0 [(0, .ref a0)] [] N I L P
  unfold f_X10_isCrooked at hf
  refine s_aload_n (pc := 0) dX10_isCrooked_0 0 rfl rfl ?_
  obtain ⟨q1, h2, hf⟩ := p_bd hf
  have t3 : p_tp N q1 0 := WT.get hW ha0 h2
  refine x_getR (pc := 1) dX10_isCrooked_1 fl_X10_25 rfl ha0 h2 ?_
  refine s_iconst (pc := 4) dX10_isCrooked_4 (v := nI 0) rfl ?_
  obtain ⟨c4, hf⟩ := p_ckx hf
  refine x_iald (pc := 5) dX10_isCrooked_5 t3 c4 ?_
  refine s_aload_n (pc := 6) dX10_isCrooked_6 0 rfl rfl ?_
  obtain ⟨q5, h6, hf⟩ := p_bd hf
  have t7 : p_tp N q5 0 := WT.get hW ha0 h6
  refine x_getR (pc := 7) dX10_isCrooked_7 fl_X10_25 rfl ha0 h6 ?_
  refine s_iconst (pc := 10) dX10_isCrooked_10 (v := nI 2) rfl ?_
  obtain ⟨c8, hf⟩ := p_ckx hf
  refine x_iald (pc := 11) dX10_isCrooked_11 t7 c8 ?_
  obtain ⟨t9, hg, hf⟩ := p_lx2 hf
  have k10 : SW G mX10_isCrooked (p_rm d 0 0) 0 0 0 0 (p_R (some (.int qq)) N I L P) 20 [(0, .ref a0)] [.int t9] N I L P := by
    refine s_istore_n (pc := 20) (lo' := [(1, .int t9), (0, .ref a0)]) dX10_isCrooked_20 rfl (Nat.le_of_ble_eq_true rfl) rfl ?_
    refine s_aload_n (pc := 21) dX10_isCrooked_21 1 rfl rfl ?_
    obtain ⟨q11, h12, hf⟩ := p_bd hf
    have t13 : p_tp N q11 0 := WT.get hW ha0 h12
    refine x_getR (pc := 22) dX10_isCrooked_22 fl_X10_25 rfl ha0 h12 ?_
    refine s_iconst (pc := 25) dX10_isCrooked_25 (v := nI 1) rfl ?_
    obtain ⟨c14, hf⟩ := p_ckx hf
    refine x_iald (pc := 26) dX10_isCrooked_26 t13 c14 ?_
    refine s_aload_n (pc := 27) dX10_isCrooked_27 1 rfl rfl ?_
    obtain ⟨q15, h16, hf⟩ := p_bd hf
    have t17 : p_tp N q15 0 := WT.get hW ha0 h16
    refine x_getR (pc := 28) dX10_isCrooked_28 fl_X10_25 rfl ha0 h16 ?_
    refine s_iconst (pc := 31) dX10_isCrooked_31 (v := nI 3) rfl ?_
    obtain ⟨c18, hf⟩ := p_ckx hf
    refine x_iald (pc := 32) dX10_isCrooked_32 t17 c18 ?_
    obtain ⟨t19, hg, hf⟩ := p_lx2 hf
    have k20 : SW G mX10_isCrooked (p_rm d 0 0) 0 0 0 0 (p_R (some (.int qq)) N I L P) 41 [(1, .int t9)] [.int t19] N I L P := by
      refine s_istore_n (pc := 41) (lo' := [(2, .int t19), (1, .int t9)]) dX10_isCrooked_41 rfl (Nat.le_of_ble_eq_true rfl) rfl ?_
      refine s_iload_n (pc := 42) dX10_isCrooked_42 1 rfl rfl ?_
      refine s_iload_n (pc := 43) dX10_isCrooked_43 0 rfl rfl ?_
      refine s_icmp_ne (pc := 44) (tgt := 51) dX10_isCrooked_44 rfl (fun hc => ?_) (fun hc => ?_)
      · replace hf := p_ng hf hc
        refine s_iconst (pc := 51) dX10_isCrooked_51 (v := nI 0) rfl ?_
        cases hf
        exact s_ireturn (pc := 52) dX10_isCrooked_52 rfl rfl ⟨rfl, rfl, rfl, rfl, rfl⟩
      · replace hf := p_ps hf hc
        refine s_iconst (pc := 47) dX10_isCrooked_47 (v := nI 1) rfl ?_
        refine s_goto (pc := 48) (tgt := 52) dX10_isCrooked_48 rfl ?_
        cases hf
        exact s_ireturn (pc := 52) dX10_isCrooked_52 rfl rfl ⟨rfl, rfl, rfl, rfl, rfl⟩
    replace hf := hg.symm
    refine s_icmp_ne (pc := 33) (tgt := 40) dX10_isCrooked_33 rfl (fun hc => ?_) (fun hc => ?_)
    · replace hf := p_ng hf hc
      refine s_iconst (pc := 40) dX10_isCrooked_40 (v := nI 0) rfl ?_
      cases hf
      exact s_lo [0] rfl (k20)
    · replace hf := p_ps hf hc
      refine s_iconst (pc := 36) dX10_isCrooked_36 (v := nI 1) rfl ?_
      refine s_goto (pc := 37) (tgt := 41) dX10_isCrooked_37 rfl ?_
      cases hf
      exact s_lo [0] rfl (k20)
  replace hf := hg.symm
  refine s_icmp_ne (pc := 12) (tgt := 19) dX10_isCrooked_12 rfl (fun hc => ?_) (fun hc => ?_)
  · replace hf := p_ng hf hc
    refine s_iconst (pc := 19) dX10_isCrooked_19 (v := nI 0) rfl ?_
    cases hf
    exact s_lo [0] rfl (k10)
  · replace hf := p_ps hf hc
    refine s_iconst (pc := 15) dX10_isCrooked_15 (v := nI 1) rfl ?_
    refine s_goto (pc := 16) (tgt := 20) dX10_isCrooked_16 rfl ?_
    cases hf
    exact s_lo [0] rfl (k10)
def B_X10_areNumbersFine_2 (N : pN) (I : pI) (P : pR) (a0 : Nat) (x1 : Int32) (rec0 : Int32 → Option (Int32 × pI)) (s0 : Int32) : Option (Int32 × pI) :=
  Option.bind (f_X10_numbersOf x1) fun q1 =>
  (if q1 ≤ s0 then
    some (nI 1, I)
  else
    (if (nI 5) ≤ s0 then
      some (nI 1, I)
    else
      (if ((x1 * (nI 5)) + s0) < 0 then
        some (nI 0, I)
      else
        (if (nI 20) ≤ ((x1 * (nI 5)) + s0) then
          some (nI 0, I)
        else
          (if ((x1 * (nI 5)) + s0) < (nI 20) then
            Option.bind (P a0 1) fun q3 =>
            p_ck (p_ib N q3 s0) <|
            p_ck (p_rb 3 ((x1 * (nI 5)) + s0)) <|
            (if (I q3 (Int32.toNatClampNeg s0)) < ((p_row 3).getD (Int32.toNatClampNeg ((x1 * (nI 5)) + s0)) 0) then
              Option.bind (P a0 0) fun q8 =>
              Option.bind (P a0 2) fun q11 =>
              p_ck (p_ib N q11 s0) <|
              Option.bind (f_X9_note I q8 (nI 2) (I q11 (Int32.toNatClampNeg s0))) fun q15 =>
              some (nI 0, q15)
            else
              Option.bind (P a0 1) fun q17 =>
              p_ck (p_ib N q17 s0) <|
              p_ck (p_rb 4 ((x1 * (nI 5)) + s0)) <|
              (if (I q17 (Int32.toNatClampNeg s0)) ≤ ((p_row 4).getD (Int32.toNatClampNeg ((x1 * (nI 5)) + s0)) 0) then
                rec0 (s0 + nI 1)
              else
                Option.bind (P a0 0) fun q22 =>
                Option.bind (P a0 2) fun q25 =>
                p_ck (p_ib N q25 s0) <|
                Option.bind (f_X9_note I q22 (nI 2) (I q25 (Int32.toNatClampNeg s0))) fun q29 =>
                some (nI 0, q29)))
          else
            some (nI 0, I))))))
def f_X10_areNumbersFine (n : Nat) (N : pN) (I : pI) (P : pR) (a0 : Nat) (x1 : Int32) : Option (Int32 × pI) :=
  p_it (B_X10_areNumbersFine_2 N I P a0 x1) n (nI 0)
theorem c_X10_areNumbersFine {G : pG} {d : Nat} {n : Nat} {N : pN} {I : pI} {L : pL} {P : pR} {a0 : Nat} {x1 : Int32} {qq : Int32 × pI} (hd : 1 ≤ d) (hW : WT N P) (ha0 : p_tp N a0 13) (hf : f_X10_areNumbersFine n N I P a0 x1 = some qq) : MT G mX10_areNumbersFine d 0 0 [.ref a0, .int x1] N I L P (p_R (some (.int qq.1)) N qq.2 L P) := by
  refine MT.of rfl (Nat.le_of_ble_eq_true rfl) ?_
  show SW G mX10_areNumbersFine (p_rm d 0 0) 0 0 0 0 (p_R (some (.int qq.1)) N qq.2 L P) 0 [(0, .ref a0), (1, .int x1)] [] N I L P
  unfold f_X10_areNumbersFine at hf
  refine s_iconst (pc := 0) dX10_areNumbersFine_0 (v := nI 0) rfl ?_
  refine s_istore_n (pc := 1) (lo' := [(2, .int (nI 0)), (0, .ref a0), (1, .int x1)]) dX10_areNumbersFine_1 rfl (Nat.le_of_ble_eq_true rfl) rfl ?_
  have k31 : ∀ (k : Nat) (s0 : Int32), p_it (B_X10_areNumbersFine_2 N I P a0 x1) k s0 = some qq → (SW G mX10_areNumbersFine (p_rm d 0 0) 0 0 0 0 (p_R (some (.int qq.1)) N qq.2 L P) 2 [(0, .ref a0), (1, .int x1), (2, .int s0)] [] N I L P) := p_it_ind (C := fun (s0 : Int32) => SW G mX10_areNumbersFine (p_rm d 0 0) 0 0 0 0 (p_R (some (.int qq.1)) N qq.2 L P) 2 [(0, .ref a0), (1, .int x1), (2, .int s0)] [] N I L P) (by
    intro rec0 hrec0 s0 hf
    unfold B_X10_areNumbersFine_2 at hf
    refine s_iload_n (pc := 2) dX10_areNumbersFine_2 2 rfl rfl ?_
    refine s_iload_n (pc := 3) dX10_areNumbersFine_3 1 rfl rfl ?_
    obtain ⟨q32, h33, hf⟩ := p_bd hf
    refine y_callS1 (pc := 4) dX10_areNumbersFine_4 (c_X10_numbersOf (p_dd hd (by decide)) hW  h33) mk_X10_numbersOf mz_X10_numbersOf ml_X10_97 rfl rfl (Nat.le_of_ble_eq_true rfl) (p_d1 hd (by decide)) (Nat.le_of_ble_eq_true rfl) ?_
    refine s_icmp_ge (pc := 7) (tgt := 93) dX10_areNumbersFine_7 rfl (fun hc => ?_) (fun hc => ?_)
    · replace hf := p_ps hf hc
      refine s_iconst (pc := 93) dX10_areNumbersFine_93 (v := nI 1) rfl ?_
      cases hf
      exact s_ireturn (pc := 94) dX10_areNumbersFine_94 rfl rfl ⟨rfl, rfl, rfl, rfl, rfl⟩
    · replace hf := p_ng hf hc
      refine s_iload_n (pc := 10) dX10_areNumbersFine_10 2 rfl rfl ?_
      refine s_iconst (pc := 11) dX10_areNumbersFine_11 (v := nI 5) rfl ?_
      refine s_icmp_ge (pc := 12) (tgt := 93) dX10_areNumbersFine_12 rfl (fun hc => ?_) (fun hc => ?_)
      · replace hf := p_ps hf hc
        refine s_iconst (pc := 93) dX10_areNumbersFine_93 (v := nI 1) rfl ?_
        cases hf
        exact s_ireturn (pc := 94) dX10_areNumbersFine_94 rfl rfl ⟨rfl, rfl, rfl, rfl, rfl⟩
      · replace hf := p_ng hf hc
        refine s_iload_n (pc := 15) dX10_areNumbersFine_15 1 rfl rfl ?_
        refine s_iconst (pc := 16) dX10_areNumbersFine_16 (v := nI 5) rfl ?_
        refine s_imul (pc := 17) dX10_areNumbersFine_17 ?_
        refine s_iload_n (pc := 18) dX10_areNumbersFine_18 2 rfl rfl ?_
        refine s_iadd (pc := 19) dX10_areNumbersFine_19 ?_
        refine s_istore_n (pc := 20) (lo' := [(3, .int ((x1 * (nI 5)) + s0)), (0, .ref a0), (1, .int x1), (2, .int s0)]) dX10_areNumbersFine_20 rfl (Nat.le_of_ble_eq_true rfl) rfl ?_
        refine s_iload_n (pc := 21) dX10_areNumbersFine_21 0 rfl rfl ?_
        refine s_if_lt (pc := 22) (tgt := 41) dX10_areNumbersFine_22 rfl (fun hc => ?_) (fun hc => ?_)
        · replace hf := p_ps hf hc
          refine s_iconst (pc := 41) dX10_areNumbersFine_41 (v := nI 0) rfl ?_
          cases hf
          exact s_ireturn (pc := 42) dX10_areNumbersFine_42 rfl rfl ⟨rfl, rfl, rfl, rfl, rfl⟩
        · replace hf := p_ng hf hc
          refine s_iload_n (pc := 25) dX10_areNumbersFine_25 0 rfl rfl ?_
          refine s_gets (pc := 26) (j := 3) rfl fs_X10_139 dX10_areNumbersFine_26 ?_
          refine y_tlen (pc := 29) (j := 3) (v := nI 20) dX10_areNumbersFine_29 rfl rfl ?_
          refine s_icmp_ge (pc := 30) (tgt := 41) dX10_areNumbersFine_30 rfl (fun hc => ?_) (fun hc => ?_)
          · replace hf := p_ps hf hc
            refine s_iconst (pc := 41) dX10_areNumbersFine_41 (v := nI 0) rfl ?_
            cases hf
            exact s_ireturn (pc := 42) dX10_areNumbersFine_42 rfl rfl ⟨rfl, rfl, rfl, rfl, rfl⟩
          · replace hf := p_ng hf hc
            refine s_iload_n (pc := 33) dX10_areNumbersFine_33 0 rfl rfl ?_
            refine s_gets (pc := 34) (j := 4) rfl fs_X10_142 dX10_areNumbersFine_34 ?_
            refine y_tlen (pc := 37) (j := 4) (v := nI 20) dX10_areNumbersFine_37 rfl rfl ?_
            refine s_icmp_lt (pc := 38) (tgt := 43) dX10_areNumbersFine_38 rfl (fun hc => ?_) (fun hc => ?_)
            · replace hf := p_ps hf hc
              refine s_aload_n (pc := 43) dX10_areNumbersFine_43 1 rfl rfl ?_
              obtain ⟨q34, h35, hf⟩ := p_bd hf
              have t36 : p_tp N q34 0 := WT.get hW ha0 h35
              refine x_getR (pc := 44) dX10_areNumbersFine_44 fl_X10_25 rfl ha0 h35 ?_
              refine s_iload_n (pc := 47) dX10_areNumbersFine_47 3 rfl rfl ?_
              obtain ⟨c37, hf⟩ := p_ckx hf
              refine x_iald (pc := 48) dX10_areNumbersFine_48 t36 c37 ?_
              refine s_gets (pc := 49) (j := 3) rfl fs_X10_139 dX10_areNumbersFine_49 ?_
              refine s_iload_n (pc := 52) dX10_areNumbersFine_52 0 rfl rfl ?_
              obtain ⟨c38, hf⟩ := p_ckx hf
              refine y_tld (pc := 53) (j := 3) dX10_areNumbersFine_53 rfl rfl c38 ?_
              refine s_icmp_lt (pc := 54) (tgt := 71) dX10_areNumbersFine_54 rfl (fun hc => ?_) (fun hc => ?_)
              · replace hf := p_ps hf hc
                refine s_aload_n (pc := 71) dX10_areNumbersFine_71 1 rfl rfl ?_
                obtain ⟨q39, h40, hf⟩ := p_bd hf
                have t41 : p_tp N q39 12 := WT.get hW ha0 h40
                refine x_getR (pc := 72) dX10_areNumbersFine_72 fl_X10_19 rfl ha0 h40 ?_
                refine s_iconst (pc := 75) dX10_areNumbersFine_75 (v := nI 2) rfl ?_
                refine s_aload_n (pc := 76) dX10_areNumbersFine_76 1 rfl rfl ?_
                obtain ⟨q42, h43, hf⟩ := p_bd hf
                have t44 : p_tp N q42 0 := WT.get hW ha0 h43
                refine x_getR (pc := 77) dX10_areNumbersFine_77 fl_X10_29 rfl ha0 h43 ?_
                refine s_iload_n (pc := 80) dX10_areNumbersFine_80 3 rfl rfl ?_
                obtain ⟨c45, hf⟩ := p_ckx hf
                refine x_iald (pc := 81) dX10_areNumbersFine_81 t44 c45 ?_
                obtain ⟨q46, h47, hf⟩ := p_bd hf
                refine y_callV0 (pc := 82) dX10_areNumbersFine_82 (c_X9_note (p_dd hd (by decide)) hW t41 h47) mk_X9_note mv_X9_note ml_X10_121 rfl rfl (Nat.le_of_ble_eq_true rfl) t41 rfl (p_d1 hd (by decide)) (Nat.le_of_ble_eq_true rfl) ?_
                refine s_iconst (pc := 85) dX10_areNumbersFine_85 (v := nI 0) rfl ?_
                cases hf
                exact s_ireturn (pc := 86) dX10_areNumbersFine_86 rfl rfl ⟨rfl, rfl, rfl, rfl, rfl⟩
              · replace hf := p_ng hf hc
                refine s_aload_n (pc := 57) dX10_areNumbersFine_57 1 rfl rfl ?_
                obtain ⟨q48, h49, hf⟩ := p_bd hf
                have t50 : p_tp N q48 0 := WT.get hW ha0 h49
                refine x_getR (pc := 58) dX10_areNumbersFine_58 fl_X10_25 rfl ha0 h49 ?_
                refine s_iload_n (pc := 61) dX10_areNumbersFine_61 3 rfl rfl ?_
                obtain ⟨c51, hf⟩ := p_ckx hf
                refine x_iald (pc := 62) dX10_areNumbersFine_62 t50 c51 ?_
                refine s_gets (pc := 63) (j := 4) rfl fs_X10_142 dX10_areNumbersFine_63 ?_
                refine s_iload_n (pc := 66) dX10_areNumbersFine_66 0 rfl rfl ?_
                obtain ⟨c52, hf⟩ := p_ckx hf
                refine y_tld (pc := 67) (j := 4) dX10_areNumbersFine_67 rfl rfl c52 ?_
                refine s_icmp_le (pc := 68) (tgt := 87) dX10_areNumbersFine_68 rfl (fun hc => ?_) (fun hc => ?_)
                · replace hf := p_ps hf hc
                  refine s_iinc (pc := 87) (lo' := [(2, .int (s0 + nI 1)), (3, .int ((x1 * (nI 5)) + s0)), (0, .ref a0), (1, .int x1)]) dX10_areNumbersFine_87 3 rfl (v := s0 + nI 1) rfl (Nat.le_of_ble_eq_true rfl) rfl ?_
                  refine s_goto (pc := 90) (tgt := 2) dX10_areNumbersFine_90 rfl ?_
                  exact s_lo [2, 3, 0] rfl (hrec0 (s0 + nI 1) hf)
                · replace hf := p_ng hf hc
                  refine s_aload_n (pc := 71) dX10_areNumbersFine_71 1 rfl rfl ?_
                  obtain ⟨q53, h54, hf⟩ := p_bd hf
                  have t55 : p_tp N q53 12 := WT.get hW ha0 h54
                  refine x_getR (pc := 72) dX10_areNumbersFine_72 fl_X10_19 rfl ha0 h54 ?_
                  refine s_iconst (pc := 75) dX10_areNumbersFine_75 (v := nI 2) rfl ?_
                  refine s_aload_n (pc := 76) dX10_areNumbersFine_76 1 rfl rfl ?_
                  obtain ⟨q56, h57, hf⟩ := p_bd hf
                  have t58 : p_tp N q56 0 := WT.get hW ha0 h57
                  refine x_getR (pc := 77) dX10_areNumbersFine_77 fl_X10_29 rfl ha0 h57 ?_
                  refine s_iload_n (pc := 80) dX10_areNumbersFine_80 3 rfl rfl ?_
                  obtain ⟨c59, hf⟩ := p_ckx hf
                  refine x_iald (pc := 81) dX10_areNumbersFine_81 t58 c59 ?_
                  obtain ⟨q60, h61, hf⟩ := p_bd hf
                  refine y_callV0 (pc := 82) dX10_areNumbersFine_82 (c_X9_note (p_dd hd (by decide)) hW t55 h61) mk_X9_note mv_X9_note ml_X10_121 rfl rfl (Nat.le_of_ble_eq_true rfl) t55 rfl (p_d1 hd (by decide)) (Nat.le_of_ble_eq_true rfl) ?_
                  refine s_iconst (pc := 85) dX10_areNumbersFine_85 (v := nI 0) rfl ?_
                  cases hf
                  exact s_ireturn (pc := 86) dX10_areNumbersFine_86 rfl rfl ⟨rfl, rfl, rfl, rfl, rfl⟩
            · replace hf := p_ng hf hc
              refine s_iconst (pc := 41) dX10_areNumbersFine_41 (v := nI 0) rfl ?_
              cases hf
              exact s_ireturn (pc := 42) dX10_areNumbersFine_42 rfl rfl ⟨rfl, rfl, rfl, rfl, rfl⟩)
  exact s_lo [1, 2, 0] rfl (k31 n (nI 0) hf)
def B_X10_addTo_14 (N : pN) (P : pR) (x4 : Int32) (a0 : Nat) (a1 : Nat) (x2 : Int32) (rec0 : (Int32 × pI) → Option pI) (s0 : Int32 × pI) : Option pI :=
  Option.bind (f_X10_numbersOf x2) fun q7 =>
  (if q7 ≤ s0.1 then
    some s0.2
  else
    (if (nI 5) ≤ s0.1 then
      some s0.2
    else
      Option.bind (P a0 1) fun q9 =>
      p_ck (p_ib N q9 s0.1) <|
      Option.bind (f_X8_put N s0.2 P a1 x4 s0.1 (s0.2 q9 (Int32.toNatClampNeg s0.1))) fun q13 =>
      rec0 (s0.1 + nI 1, q13)))
def f_X10_addTo (n : Nat) (N : pN) (I : pI) (P : pR) (a0 : Nat) (a1 : Nat) (x2 : Int32) (x3 : Int32) : Option pI :=
  Option.bind (f_X8_size I a1) fun q1 =>
  Option.bind (f_X8_add I a1) fun q3 =>
  Option.bind (p_it (B_X10_addTo_14 N P q1 a0 a1 x2) n (nI 0, q3.2)) fun t5 =>
  (if x2 = 0 then
    Option.bind (P a0 1) fun q32 =>
    p_ck (p_ib N q32 (nI 0)) <|
    Option.bind (P a0 1) fun q36 =>
    p_ck (p_ib N q36 (nI 2)) <|
    Option.bind (f_X8_put N t5 P a1 q1 (nI 0) (if t5 q36 (Int32.toNatClampNeg (nI 2)) < t5 q32 (Int32.toNatClampNeg (nI 0)) then t5 q36 (Int32.toNatClampNeg (nI 2)) else t5 q32 (Int32.toNatClampNeg (nI 0)))) fun q40 =>
    Option.bind (P a0 1) fun q42 =>
    p_ck (p_ib N q42 (nI 1)) <|
    Option.bind (P a0 1) fun q46 =>
    p_ck (p_ib N q46 (nI 3)) <|
    Option.bind (f_X8_put N q40 P a1 q1 (nI 1) (if q40 q46 (Int32.toNatClampNeg (nI 3)) < q40 q42 (Int32.toNatClampNeg (nI 1)) then q40 q46 (Int32.toNatClampNeg (nI 3)) else q40 q42 (Int32.toNatClampNeg (nI 1)))) fun q50 =>
    Option.bind (P a0 1) fun q52 =>
    p_ck (p_ib N q52 (nI 0)) <|
    Option.bind (P a0 1) fun q56 =>
    p_ck (p_ib N q56 (nI 2)) <|
    Option.bind (f_X8_put N q50 P a1 q1 (nI 2) (if q50 q52 (Int32.toNatClampNeg (nI 0)) < q50 q56 (Int32.toNatClampNeg (nI 2)) then q50 q56 (Int32.toNatClampNeg (nI 2)) else q50 q52 (Int32.toNatClampNeg (nI 0)))) fun q60 =>
    Option.bind (P a0 1) fun q62 =>
    p_ck (p_ib N q62 (nI 1)) <|
    Option.bind (P a0 1) fun q66 =>
    p_ck (p_ib N q66 (nI 3)) <|
    Option.bind (f_X8_put N q60 P a1 q1 (nI 3) (if q60 q62 (Int32.toNatClampNeg (nI 1)) < q60 q66 (Int32.toNatClampNeg (nI 3)) then q60 q66 (Int32.toNatClampNeg (nI 3)) else q60 q62 (Int32.toNatClampNeg (nI 1)))) fun q70 =>
    Option.bind (f_X8_put N q70 P a1 q1 (nI 5) x3) fun q72 =>
    Option.bind (f_X8_put N q72 P a1 q1 (nI 6) (-1)) fun q74 =>
    some q74
  else
    (if x2 = (nI 1) then
      Option.bind (f_X8_put N t5 P a1 q1 (nI 4) x3) fun q24 =>
      Option.bind (f_X8_put N q24 P a1 q1 (nI 5) (-1)) fun q26 =>
      Option.bind (f_X8_put N q26 P a1 q1 (nI 6) (-1)) fun q28 =>
      Option.bind (f_X8_put N q28 P a1 q1 (nI 7) (-1)) fun q30 =>
      some q30
    else
      some t5))
theorem c_X10_addTo {G : pG} {d : Nat} {n : Nat} {N : pN} {I : pI} {L : pL} {P : pR} {a0 : Nat} {a1 : Nat} {x2 : Int32} {x3 : Int32} {qq : pI} (hd : 1 ≤ d) (hW : WT N P) (ha0 : p_tp N a0 13) (ha1 : p_tp N a1 11) (hf : f_X10_addTo n N I P a0 a1 x2 x3 = some qq) : MT G mX10_addTo d 0 0 [.ref a0, .ref a1, .int x2, .int x3] N I L P (p_R none N qq L P) := by
  refine MT.of rfl (Nat.le_of_ble_eq_true rfl) ?_
  show SW G mX10_addTo (p_rm d 0 0) 0 0 0 0 (p_R none N qq L P) 0 [(0, .ref a0), (1, .ref a1), (2, .int x2), (3, .int x3)] [] N I L P
  unfold f_X10_addTo at hf
  refine s_aload_n (pc := 0) dX10_addTo_0 1 rfl rfl ?_
  obtain ⟨q1, h2, hf⟩ := p_bd hf
  refine y_callV1 (pc := 1) dX10_addTo_1 (c_X8_size (p_dd hd (by decide)) hW ha1 h2) mk_X8_size mv_X8_size ml_X10_38 rfl rfl (Nat.le_of_ble_eq_true rfl) ha1 rfl (p_d1 hd (by decide)) (Nat.le_of_ble_eq_true rfl) ?_
  refine s_istore (pc := 4) (lo' := [(4, .int q1), (0, .ref a0), (1, .ref a1), (2, .int x2), (3, .int x3)]) dX10_addTo_4 (Nat.le_of_ble_eq_true rfl) rfl ?_
  refine s_aload_n (pc := 6) dX10_addTo_6 2 rfl rfl ?_
  obtain ⟨q3, h4, hf⟩ := p_bd hf
  refine y_callV1 (pc := 7) dX10_addTo_7 (c_X8_add (p_dd hd (by decide)) hW ha1 h4) mk_X8_add mv_X8_add ml_X10_145 rfl rfl (Nat.le_of_ble_eq_true rfl) ha1 rfl (p_d1 hd (by decide)) (Nat.le_of_ble_eq_true rfl) ?_
  refine s_pop (pc := 10) dX10_addTo_10 rfl ?_
  refine s_iconst (pc := 11) dX10_addTo_11 (v := nI 0) rfl ?_
  refine s_istore (pc := 12) (lo' := [(5, .int (nI 0)), (4, .int q1), (0, .ref a0), (1, .ref a1), (2, .int x2), (3, .int x3)]) dX10_addTo_12 (Nat.le_of_ble_eq_true rfl) rfl ?_
  obtain ⟨t5, hg, hf⟩ := p_bd hf
  have k6 : SW G mX10_addTo (p_rm d 0 0) 0 0 0 0 (p_R none N qq L P) 50 [(4, .int q1), (0, .ref a0), (1, .ref a1), (2, .int x2), (3, .int x3)] [] N t5 L P := by
    refine s_iload_n (pc := 50) dX10_addTo_50 3 rfl rfl ?_
    refine s_if_ne (pc := 51) (tgt := 162) dX10_addTo_51 rfl (fun hc => ?_) (fun hc => ?_)
    · replace hf := p_ng hf hc
      refine s_iload_n (pc := 162) dX10_addTo_162 3 rfl rfl ?_
      refine s_iconst (pc := 163) dX10_addTo_163 (v := nI 1) rfl ?_
      refine s_icmp_ne (pc := 164) (tgt := 201) dX10_addTo_164 rfl (fun hc => ?_) (fun hc => ?_)
      · replace hf := p_ng hf hc
        cases hf
        exact s_return (pc := 201) dX10_addTo_201 rfl ⟨rfl, rfl, rfl, rfl, rfl⟩
      · replace hf := p_ps hf hc
        refine s_aload_n (pc := 167) dX10_addTo_167 2 rfl rfl ?_
        refine s_iload (pc := 168) dX10_addTo_168 0 rfl ?_
        refine s_iconst (pc := 170) dX10_addTo_170 (v := nI 4) rfl ?_
        refine s_iload_n (pc := 171) dX10_addTo_171 4 rfl rfl ?_
        obtain ⟨q24, h25, hf⟩ := p_bd hf
        refine y_callV0 (pc := 172) dX10_addTo_172 (c_X8_put (p_dd hd (by decide)) hW ha1 h25) mk_X8_put mv_X8_put ml_X10_148 rfl rfl (Nat.le_of_ble_eq_true rfl) ha1 rfl (p_d1 hd (by decide)) (Nat.le_of_ble_eq_true rfl) ?_
        refine s_aload_n (pc := 175) dX10_addTo_175 2 rfl rfl ?_
        refine s_iload (pc := 176) dX10_addTo_176 0 rfl ?_
        refine s_iconst (pc := 178) dX10_addTo_178 (v := nI 5) rfl ?_
        refine s_iconst (pc := 179) dX10_addTo_179 (v := (-1)) rfl ?_
        obtain ⟨q26, h27, hf⟩ := p_bd hf
        refine y_callV0 (pc := 180) dX10_addTo_180 (c_X8_put (p_dd hd (by decide)) hW ha1 h27) mk_X8_put mv_X8_put ml_X10_148 rfl rfl (Nat.le_of_ble_eq_true rfl) ha1 rfl (p_d1 hd (by decide)) (Nat.le_of_ble_eq_true rfl) ?_
        refine s_aload_n (pc := 183) dX10_addTo_183 2 rfl rfl ?_
        refine s_iload (pc := 184) dX10_addTo_184 0 rfl ?_
        refine s_bipush (pc := 186) dX10_addTo_186 (v := nI 6) rfl ?_
        refine s_iconst (pc := 188) dX10_addTo_188 (v := (-1)) rfl ?_
        obtain ⟨q28, h29, hf⟩ := p_bd hf
        refine y_callV0 (pc := 189) dX10_addTo_189 (c_X8_put (p_dd hd (by decide)) hW ha1 h29) mk_X8_put mv_X8_put ml_X10_148 rfl rfl (Nat.le_of_ble_eq_true rfl) ha1 rfl (p_d1 hd (by decide)) (Nat.le_of_ble_eq_true rfl) ?_
        refine s_aload_n (pc := 192) dX10_addTo_192 2 rfl rfl ?_
        refine s_iload (pc := 193) dX10_addTo_193 0 rfl ?_
        refine s_bipush (pc := 195) dX10_addTo_195 (v := nI 7) rfl ?_
        refine s_iconst (pc := 197) dX10_addTo_197 (v := (-1)) rfl ?_
        obtain ⟨q30, h31, hf⟩ := p_bd hf
        refine y_callV0 (pc := 198) dX10_addTo_198 (c_X8_put (p_dd hd (by decide)) hW ha1 h31) mk_X8_put mv_X8_put ml_X10_148 rfl rfl (Nat.le_of_ble_eq_true rfl) ha1 rfl (p_d1 hd (by decide)) (Nat.le_of_ble_eq_true rfl) ?_
        cases hf
        exact s_return (pc := 201) dX10_addTo_201 rfl ⟨rfl, rfl, rfl, rfl, rfl⟩
    · replace hf := p_ps hf hc
      refine s_aload_n (pc := 54) dX10_addTo_54 2 rfl rfl ?_
      refine s_iload (pc := 55) dX10_addTo_55 0 rfl ?_
      refine s_iconst (pc := 57) dX10_addTo_57 (v := nI 0) rfl ?_
      refine s_aload_n (pc := 58) dX10_addTo_58 1 rfl rfl ?_
      obtain ⟨q32, h33, hf⟩ := p_bd hf
      have t34 : p_tp N q32 0 := WT.get hW ha0 h33
      refine x_getR (pc := 59) dX10_addTo_59 fl_X10_25 rfl ha0 h33 ?_
      refine s_iconst (pc := 62) dX10_addTo_62 (v := nI 0) rfl ?_
      obtain ⟨c35, hf⟩ := p_ckx hf
      refine x_iald (pc := 63) dX10_addTo_63 t34 c35 ?_
      refine s_aload_n (pc := 64) dX10_addTo_64 1 rfl rfl ?_
      obtain ⟨q36, h37, hf⟩ := p_bd hf
      have t38 : p_tp N q36 0 := WT.get hW ha0 h37
      refine x_getR (pc := 65) dX10_addTo_65 fl_X10_25 rfl ha0 h37 ?_
      refine s_iconst (pc := 68) dX10_addTo_68 (v := nI 2) rfl ?_
      obtain ⟨c39, hf⟩ := p_ckx hf
      refine x_iald (pc := 69) dX10_addTo_69 t38 c39 ?_
      refine y_min (pc := 70) dX10_addTo_70 ml_X10_152 (p_d1 hd (by decide)) (Nat.le_of_ble_eq_true rfl) ?_
      obtain ⟨q40, h41, hf⟩ := p_bd hf
      refine y_callV0 (pc := 73) dX10_addTo_73 (c_X8_put (p_dd hd (by decide)) hW ha1 h41) mk_X8_put mv_X8_put ml_X10_148 rfl rfl (Nat.le_of_ble_eq_true rfl) ha1 rfl (p_d1 hd (by decide)) (Nat.le_of_ble_eq_true rfl) ?_
      refine s_aload_n (pc := 76) dX10_addTo_76 2 rfl rfl ?_
      refine s_iload (pc := 77) dX10_addTo_77 0 rfl ?_
      refine s_iconst (pc := 79) dX10_addTo_79 (v := nI 1) rfl ?_
      refine s_aload_n (pc := 80) dX10_addTo_80 1 rfl rfl ?_
      obtain ⟨q42, h43, hf⟩ := p_bd hf
      have t44 : p_tp N q42 0 := WT.get hW ha0 h43
      refine x_getR (pc := 81) dX10_addTo_81 fl_X10_25 rfl ha0 h43 ?_
      refine s_iconst (pc := 84) dX10_addTo_84 (v := nI 1) rfl ?_
      obtain ⟨c45, hf⟩ := p_ckx hf
      refine x_iald (pc := 85) dX10_addTo_85 t44 c45 ?_
      refine s_aload_n (pc := 86) dX10_addTo_86 1 rfl rfl ?_
      obtain ⟨q46, h47, hf⟩ := p_bd hf
      have t48 : p_tp N q46 0 := WT.get hW ha0 h47
      refine x_getR (pc := 87) dX10_addTo_87 fl_X10_25 rfl ha0 h47 ?_
      refine s_iconst (pc := 90) dX10_addTo_90 (v := nI 3) rfl ?_
      obtain ⟨c49, hf⟩ := p_ckx hf
      refine x_iald (pc := 91) dX10_addTo_91 t48 c49 ?_
      refine y_min (pc := 92) dX10_addTo_92 ml_X10_152 (p_d1 hd (by decide)) (Nat.le_of_ble_eq_true rfl) ?_
      obtain ⟨q50, h51, hf⟩ := p_bd hf
      refine y_callV0 (pc := 95) dX10_addTo_95 (c_X8_put (p_dd hd (by decide)) hW ha1 h51) mk_X8_put mv_X8_put ml_X10_148 rfl rfl (Nat.le_of_ble_eq_true rfl) ha1 rfl (p_d1 hd (by decide)) (Nat.le_of_ble_eq_true rfl) ?_
      refine s_aload_n (pc := 98) dX10_addTo_98 2 rfl rfl ?_
      refine s_iload (pc := 99) dX10_addTo_99 0 rfl ?_
      refine s_iconst (pc := 101) dX10_addTo_101 (v := nI 2) rfl ?_
      refine s_aload_n (pc := 102) dX10_addTo_102 1 rfl rfl ?_
      obtain ⟨q52, h53, hf⟩ := p_bd hf
      have t54 : p_tp N q52 0 := WT.get hW ha0 h53
      refine x_getR (pc := 103) dX10_addTo_103 fl_X10_25 rfl ha0 h53 ?_
      refine s_iconst (pc := 106) dX10_addTo_106 (v := nI 0) rfl ?_
      obtain ⟨c55, hf⟩ := p_ckx hf
      refine x_iald (pc := 107) dX10_addTo_107 t54 c55 ?_
      refine s_aload_n (pc := 108) dX10_addTo_108 1 rfl rfl ?_
      obtain ⟨q56, h57, hf⟩ := p_bd hf
      have t58 : p_tp N q56 0 := WT.get hW ha0 h57
      refine x_getR (pc := 109) dX10_addTo_109 fl_X10_25 rfl ha0 h57 ?_
      refine s_iconst (pc := 112) dX10_addTo_112 (v := nI 2) rfl ?_
      obtain ⟨c59, hf⟩ := p_ckx hf
      refine x_iald (pc := 113) dX10_addTo_113 t58 c59 ?_
      refine y_max (pc := 114) dX10_addTo_114 ml_X10_158 (p_d1 hd (by decide)) (Nat.le_of_ble_eq_true rfl) ?_
      obtain ⟨q60, h61, hf⟩ := p_bd hf
      refine y_callV0 (pc := 117) dX10_addTo_117 (c_X8_put (p_dd hd (by decide)) hW ha1 h61) mk_X8_put mv_X8_put ml_X10_148 rfl rfl (Nat.le_of_ble_eq_true rfl) ha1 rfl (p_d1 hd (by decide)) (Nat.le_of_ble_eq_true rfl) ?_
      refine s_aload_n (pc := 120) dX10_addTo_120 2 rfl rfl ?_
      refine s_iload (pc := 121) dX10_addTo_121 0 rfl ?_
      refine s_iconst (pc := 123) dX10_addTo_123 (v := nI 3) rfl ?_
      refine s_aload_n (pc := 124) dX10_addTo_124 1 rfl rfl ?_
      obtain ⟨q62, h63, hf⟩ := p_bd hf
      have t64 : p_tp N q62 0 := WT.get hW ha0 h63
      refine x_getR (pc := 125) dX10_addTo_125 fl_X10_25 rfl ha0 h63 ?_
      refine s_iconst (pc := 128) dX10_addTo_128 (v := nI 1) rfl ?_
      obtain ⟨c65, hf⟩ := p_ckx hf
      refine x_iald (pc := 129) dX10_addTo_129 t64 c65 ?_
      refine s_aload_n (pc := 130) dX10_addTo_130 1 rfl rfl ?_
      obtain ⟨q66, h67, hf⟩ := p_bd hf
      have t68 : p_tp N q66 0 := WT.get hW ha0 h67
      refine x_getR (pc := 131) dX10_addTo_131 fl_X10_25 rfl ha0 h67 ?_
      refine s_iconst (pc := 134) dX10_addTo_134 (v := nI 3) rfl ?_
      obtain ⟨c69, hf⟩ := p_ckx hf
      refine x_iald (pc := 135) dX10_addTo_135 t68 c69 ?_
      refine y_max (pc := 136) dX10_addTo_136 ml_X10_158 (p_d1 hd (by decide)) (Nat.le_of_ble_eq_true rfl) ?_
      obtain ⟨q70, h71, hf⟩ := p_bd hf
      refine y_callV0 (pc := 139) dX10_addTo_139 (c_X8_put (p_dd hd (by decide)) hW ha1 h71) mk_X8_put mv_X8_put ml_X10_148 rfl rfl (Nat.le_of_ble_eq_true rfl) ha1 rfl (p_d1 hd (by decide)) (Nat.le_of_ble_eq_true rfl) ?_
      refine s_aload_n (pc := 142) dX10_addTo_142 2 rfl rfl ?_
      refine s_iload (pc := 143) dX10_addTo_143 0 rfl ?_
      refine s_iconst (pc := 145) dX10_addTo_145 (v := nI 5) rfl ?_
      refine s_iload_n (pc := 146) dX10_addTo_146 4 rfl rfl ?_
      obtain ⟨q72, h73, hf⟩ := p_bd hf
      refine y_callV0 (pc := 147) dX10_addTo_147 (c_X8_put (p_dd hd (by decide)) hW ha1 h73) mk_X8_put mv_X8_put ml_X10_148 rfl rfl (Nat.le_of_ble_eq_true rfl) ha1 rfl (p_d1 hd (by decide)) (Nat.le_of_ble_eq_true rfl) ?_
      refine s_aload_n (pc := 150) dX10_addTo_150 2 rfl rfl ?_
      refine s_iload (pc := 151) dX10_addTo_151 0 rfl ?_
      refine s_bipush (pc := 153) dX10_addTo_153 (v := nI 6) rfl ?_
      refine s_iconst (pc := 155) dX10_addTo_155 (v := (-1)) rfl ?_
      obtain ⟨q74, h75, hf⟩ := p_bd hf
      refine y_callV0 (pc := 156) dX10_addTo_156 (c_X8_put (p_dd hd (by decide)) hW ha1 h75) mk_X8_put mv_X8_put ml_X10_148 rfl rfl (Nat.le_of_ble_eq_true rfl) ha1 rfl (p_d1 hd (by decide)) (Nat.le_of_ble_eq_true rfl) ?_
      refine s_goto (pc := 159) (tgt := 201) dX10_addTo_159 rfl ?_
      cases hf
      exact s_return (pc := 201) dX10_addTo_201 rfl ⟨rfl, rfl, rfl, rfl, rfl⟩
  replace hf := hg
  have k15 : ∀ (k : Nat) (s0 : Int32 × pI), p_it (B_X10_addTo_14 N P q1 a0 a1 x2) k s0 = some t5 → (SW G mX10_addTo (p_rm d 0 0) 0 0 0 0 (p_R none N qq L P) 14 [(4, .int q1), (0, .ref a0), (1, .ref a1), (2, .int x2), (3, .int x3), (5, .int s0.1)] [] N s0.2 L P) := p_it_ind (C := fun (s0 : Int32 × pI) => SW G mX10_addTo (p_rm d 0 0) 0 0 0 0 (p_R none N qq L P) 14 [(4, .int q1), (0, .ref a0), (1, .ref a1), (2, .int x2), (3, .int x3), (5, .int s0.1)] [] N s0.2 L P) (by
    intro rec0 hrec0 s0 hf
    unfold B_X10_addTo_14 at hf
    refine s_iload (pc := 14) dX10_addTo_14 5 rfl ?_
    refine s_iload_n (pc := 16) dX10_addTo_16 3 rfl rfl ?_
    obtain ⟨q16, h17, hf⟩ := p_bd hf
    refine y_callS1 (pc := 17) dX10_addTo_17 (c_X10_numbersOf (p_dd hd (by decide)) hW  h17) mk_X10_numbersOf mz_X10_numbersOf ml_X10_97 rfl rfl (Nat.le_of_ble_eq_true rfl) (p_d1 hd (by decide)) (Nat.le_of_ble_eq_true rfl) ?_
    refine s_icmp_ge (pc := 20) (tgt := 50) dX10_addTo_20 rfl (fun hc => ?_) (fun hc => ?_)
    · replace hf := p_ps hf hc
      cases hf
      exact s_lo [0, 1, 2, 3, 4] rfl (k6)
    · replace hf := p_ng hf hc
      refine s_iload (pc := 23) dX10_addTo_23 5 rfl ?_
      refine s_iconst (pc := 25) dX10_addTo_25 (v := nI 5) rfl ?_
      refine s_icmp_ge (pc := 26) (tgt := 50) dX10_addTo_26 rfl (fun hc => ?_) (fun hc => ?_)
      · replace hf := p_ps hf hc
        cases hf
        exact s_lo [0, 1, 2, 3, 4] rfl (k6)
      · replace hf := p_ng hf hc
        refine s_aload_n (pc := 29) dX10_addTo_29 2 rfl rfl ?_
        refine s_iload (pc := 30) dX10_addTo_30 0 rfl ?_
        refine s_iload (pc := 32) dX10_addTo_32 5 rfl ?_
        refine s_aload_n (pc := 34) dX10_addTo_34 1 rfl rfl ?_
        obtain ⟨q18, h19, hf⟩ := p_bd hf
        have t20 : p_tp N q18 0 := WT.get hW ha0 h19
        refine x_getR (pc := 35) dX10_addTo_35 fl_X10_25 rfl ha0 h19 ?_
        refine s_iload (pc := 38) dX10_addTo_38 5 rfl ?_
        obtain ⟨c21, hf⟩ := p_ckx hf
        refine x_iald (pc := 40) dX10_addTo_40 t20 c21 ?_
        obtain ⟨q22, h23, hf⟩ := p_bd hf
        refine y_callV0 (pc := 41) dX10_addTo_41 (c_X8_put (p_dd hd (by decide)) hW ha1 h23) mk_X8_put mv_X8_put ml_X10_148 rfl rfl (Nat.le_of_ble_eq_true rfl) ha1 rfl (p_d1 hd (by decide)) (Nat.le_of_ble_eq_true rfl) ?_
        refine s_iinc (pc := 44) (lo' := [(5, .int (s0.1 + nI 1)), (4, .int q1), (0, .ref a0), (1, .ref a1), (2, .int x2), (3, .int x3)]) dX10_addTo_44 5 rfl (v := s0.1 + nI 1) rfl (Nat.le_of_ble_eq_true rfl) rfl ?_
        refine s_goto (pc := 47) (tgt := 14) dX10_addTo_47 rfl ?_
        exact s_lo [1, 2, 3, 4, 5, 0] rfl (hrec0 (s0.1 + nI 1, q22) hf))
  exact s_lo [1, 2, 3, 4, 5, 0] rfl (k15 n (nI 0, q3.2) hf)
def J_X10_take_30 (n : Nat) (N : pN) (I : pI) (P : pR) (a4 : Nat) (a0 : Nat) (a1 : Nat) (x2 : Int32) (x3 : Int32) : Option pI :=
  Option.bind (f_X8_full I a4) fun q4 =>
  (if q4 = 0 then
    Option.bind (f_X10_areNumbersFine n N I P a0 x2) fun q6 =>
    (if q6.1 = 0 then
      some q6.2
    else
      Option.bind (f_X10_addTo n N q6.2 P a0 a4 x2 (q6.2 a1 11)) fun q8 =>
      some q8)
  else
    Option.bind (P a0 0) fun q10 =>
    Option.bind (f_X9_note I q10 (nI 4) x3) fun q13 =>
    some q13)
def f_X10_take (n : Nat) (N : pN) (I : pI) (P : pR) (a0 : Nat) (a1 : Nat) (x2 : Int32) (x3 : Int32) : Option pI :=
  Option.bind (f_X10_tableOf P a1 x2) fun q1 =>
  (if x2 = 0 then
    Option.bind (f_X10_isCrooked N I P a0) fun q27 =>
    (if q27 = 0 then
      J_X10_take_30 n N I P q1 a0 a1 x2 x3
    else
      Option.bind (P a0 0) fun q29 =>
      Option.bind (f_X9_note I q29 (nI 3) x3) fun q32 =>
      some q32)
  else
    J_X10_take_30 n N I P q1 a0 a1 x2 x3)
theorem c_X10_take {G : pG} {d : Nat} {n : Nat} {N : pN} {I : pI} {L : pL} {P : pR} {a0 : Nat} {a1 : Nat} {x2 : Int32} {x3 : Int32} {qq : pI} (hd : 2 ≤ d) (hW : WT N P) (ha0 : p_tp N a0 13) (ha1 : p_tp N a1 10) (hf : f_X10_take n N I P a0 a1 x2 x3 = some qq) : MT G mX10_take d 0 0 [.ref a0, .ref a1, .int x2, .int x3] N I L P (p_R none N qq L P) := by
  refine MT.of rfl (Nat.le_of_ble_eq_true rfl) ?_
  show SW G mX10_take (p_rm d 0 0) 0 0 0 0 (p_R none N qq L P) 0 [(0, .ref a0), (1, .ref a1), (2, .int x2), (3, .int x3)] [] N I L P
  unfold f_X10_take at hf
  refine s_aload_n (pc := 0) dX10_take_0 1 rfl rfl ?_
  refine s_iload_n (pc := 1) dX10_take_1 2 rfl rfl ?_
  obtain ⟨q1, h2, hf⟩ := p_bd hf
  have t3 : p_tp N q1 11 := t_X10_tableOf hW ha1 h2
  refine y_callS1 (pc := 2) dX10_take_2 (c_X10_tableOf (p_dd hd (by decide)) hW ha1 h2) mk_X10_tableOf mz_X10_tableOf ml_X10_114 rfl rfl (Nat.le_of_ble_eq_true rfl) (p_d1 hd (by decide)) (Nat.le_of_ble_eq_true rfl) ?_
  refine s_astore (pc := 5) (lo' := [(4, .ref q1), (0, .ref a0), (1, .ref a1), (2, .int x2), (3, .int x3)]) dX10_take_5 (Nat.le_of_ble_eq_true rfl) rfl ?_
  refine s_iload_n (pc := 7) dX10_take_7 3 rfl rfl ?_
  have k15 : J_X10_take_30 n N I P q1 a0 a1 x2 x3 = some qq → SW G mX10_take (p_rm d 0 0) 0 0 0 0 (p_R none N qq L P) 30 [(4, .ref q1), (0, .ref a0), (1, .ref a1), (2, .int x2), (3, .int x3)] [] N I L P := by
    intro hf
    unfold J_X10_take_30 at hf
    refine s_aload (pc := 30) dX10_take_30 0 rfl ?_
    obtain ⟨q16, h17, hf⟩ := p_bd hf
    refine y_callV1 (pc := 32) dX10_take_32 (c_X8_full (p_dd hd (by decide)) hW t3 h17) mk_X8_full mv_X8_full ml_X10_124 rfl rfl (Nat.le_of_ble_eq_true rfl) t3 rfl (p_d1 hd (by decide)) (Nat.le_of_ble_eq_true rfl) ?_
    refine s_if_eq (pc := 35) (tgt := 50) dX10_take_35 rfl (fun hc => ?_) (fun hc => ?_)
    · replace hf := p_ps hf hc
      refine s_aload_n (pc := 50) dX10_take_50 1 rfl rfl ?_
      refine s_iload_n (pc := 51) dX10_take_51 3 rfl rfl ?_
      obtain ⟨q18, h19, hf⟩ := p_bd hf
      refine y_callV1 (pc := 52) dX10_take_52 (c_X10_areNumbersFine (p_dd hd (by decide)) hW ha0 h19) mk_X10_areNumbersFine mv_X10_areNumbersFine ml_X10_127 rfl rfl (Nat.le_of_ble_eq_true rfl) ha0 rfl (p_d1 hd (by decide)) (Nat.le_of_ble_eq_true rfl) ?_
      refine s_if_eq (pc := 55) (tgt := 69) dX10_take_55 rfl (fun hc => ?_) (fun hc => ?_)
      · replace hf := p_ps hf hc
        cases hf
        exact s_return (pc := 69) dX10_take_69 rfl ⟨rfl, rfl, rfl, rfl, rfl⟩
      · replace hf := p_ng hf hc
        refine s_aload_n (pc := 58) dX10_take_58 1 rfl rfl ?_
        refine s_aload (pc := 59) dX10_take_59 0 rfl ?_
        refine s_iload_n (pc := 61) dX10_take_61 3 rfl rfl ?_
        refine s_aload_n (pc := 62) dX10_take_62 2 rfl rfl ?_
        refine x_getI (pc := 63) dX10_take_63 fl_X10_131 rfl ha1 ?_
        obtain ⟨q20, h21, hf⟩ := p_bd hf
        refine y_callV0 (pc := 66) dX10_take_66 (c_X10_addTo (p_dd hd (by decide)) hW ha0 t3 h21) mk_X10_addTo mv_X10_addTo ml_X10_135 rfl rfl (Nat.le_of_ble_eq_true rfl) ha0 rfl (p_d1 hd (by decide)) (Nat.le_of_ble_eq_true rfl) ?_
        cases hf
        exact s_return (pc := 69) dX10_take_69 rfl ⟨rfl, rfl, rfl, rfl, rfl⟩
    · replace hf := p_ng hf hc
      refine s_aload_n (pc := 38) dX10_take_38 1 rfl rfl ?_
      obtain ⟨q22, h23, hf⟩ := p_bd hf
      have t24 : p_tp N q22 12 := WT.get hW ha0 h23
      refine x_getR (pc := 39) dX10_take_39 fl_X10_19 rfl ha0 h23 ?_
      refine s_iconst (pc := 42) dX10_take_42 (v := nI 4) rfl ?_
      refine s_iload_n (pc := 43) dX10_take_43 4 rfl rfl ?_
      obtain ⟨q25, h26, hf⟩ := p_bd hf
      refine y_callV0 (pc := 44) dX10_take_44 (c_X9_note (p_dd hd (by decide)) hW t24 h26) mk_X9_note mv_X9_note ml_X10_121 rfl rfl (Nat.le_of_ble_eq_true rfl) t24 rfl (p_d1 hd (by decide)) (Nat.le_of_ble_eq_true rfl) ?_
      refine s_goto (pc := 47) (tgt := 69) dX10_take_47 rfl ?_
      cases hf
      exact s_return (pc := 69) dX10_take_69 rfl ⟨rfl, rfl, rfl, rfl, rfl⟩
  refine s_if_ne (pc := 8) (tgt := 30) dX10_take_8 rfl (fun hc => ?_) (fun hc => ?_)
  · replace hf := p_ng hf hc
    exact s_lo [0, 1, 2, 3, 4] rfl (k15 hf)
  · replace hf := p_ps hf hc
    refine s_aload_n (pc := 11) dX10_take_11 1 rfl rfl ?_
    obtain ⟨q27, h28, hf⟩ := p_bd hf
    refine y_callV1 (pc := 12) dX10_take_12 (c_X10_isCrooked (p_dd hd (by decide)) hW ha0 h28) mk_X10_isCrooked mv_X10_isCrooked ml_X10_118 rfl rfl (Nat.le_of_ble_eq_true rfl) ha0 rfl (p_d1 hd (by decide)) (Nat.le_of_ble_eq_true rfl) ?_
    refine s_if_eq (pc := 15) (tgt := 30) dX10_take_15 rfl (fun hc => ?_) (fun hc => ?_)
    · replace hf := p_ps hf hc
      exact s_lo [0, 1, 2, 3, 4] rfl (k15 hf)
    · replace hf := p_ng hf hc
      refine s_aload_n (pc := 18) dX10_take_18 1 rfl rfl ?_
      obtain ⟨q29, h30, hf⟩ := p_bd hf
      have t31 : p_tp N q29 12 := WT.get hW ha0 h30
      refine x_getR (pc := 19) dX10_take_19 fl_X10_19 rfl ha0 h30 ?_
      refine s_iconst (pc := 22) dX10_take_22 (v := nI 3) rfl ?_
      refine s_iload_n (pc := 23) dX10_take_23 4 rfl rfl ?_
      obtain ⟨q32, h33, hf⟩ := p_bd hf
      refine y_callV0 (pc := 24) dX10_take_24 (c_X9_note (p_dd hd (by decide)) hW t31 h33) mk_X9_note mv_X9_note ml_X10_121 rfl rfl (Nat.le_of_ble_eq_true rfl) t31 rfl (p_d1 hd (by decide)) (Nat.le_of_ble_eq_true rfl) ?_
      refine s_goto (pc := 27) (tgt := 69) dX10_take_27 rfl ?_
      cases hf
      exact s_return (pc := 69) dX10_take_69 rfl ⟨rfl, rfl, rfl, rfl, rfl⟩
def J_X10_readLine_104 (n : Nat) (N : pN) (I : pI) (P : pR) (x3 : Int32) (x2 : Int32) (a0 : Nat) (a1 : Nat) : Option pI :=
  Option.bind (P a0 0) fun q15 =>
  Option.bind (P a0 0) fun q18 =>
  Option.bind (f_X9_sign N I P q18) fun q21 =>
  p_let (α := Int32) ((if q21 = (nI 59) then
    nI 1
  else
    nI 0)) fun t23 =>
  Option.bind (f_X9_pass n N I P q15 t23) fun q25 =>
  (if q25.1 = 0 then
    some q25.2
  else
    Option.bind (P a0 0) fun q27 =>
    Option.bind (f_X9_isClean q25.2 q27) fun q30 =>
    (if q30 = 0 then
      some q25.2
    else
      Option.bind (f_X10_take n N q25.2 P a0 a1 x2 x3) fun q32 =>
      some q32))
def B_X10_readLine_37 (n : Nat) (N : pN) (P : pR) (x3 : Int32) (x2 : Int32) (a0 : Nat) (a1 : Nat) (rec0 : (Int32 × pI) → Option pI) (s0 : Int32 × pI) : Option pI :=
  Option.bind (f_X10_numbersOf x2) fun q55 =>
  (if q55 ≤ s0.1 then
    J_X10_readLine_104 n N s0.2 P x3 x2 a0 a1
  else
    (if (nI 5) ≤ s0.1 then
      J_X10_readLine_104 n N s0.2 P x3 x2 a0 a1
    else
      Option.bind (P a0 1) fun q57 =>
      Option.bind (P a0 0) fun q60 =>
      Option.bind (f_X9_number n N s0.2 P q60) fun q63 =>
      p_ck (p_ib N q57 s0.1) <|
      p_let (p_u s0.2 q57 (Int32.toNatClampNeg s0.1) q63) fun I66 =>
      Option.bind (P a0 2) fun q68 =>
      Option.bind (P a0 0) fun q71 =>
      Option.bind (f_X9_from I66 q71) fun q74 =>
      p_ck (p_ib N q68 s0.1) <|
      p_let (p_u I66 q68 (Int32.toNatClampNeg s0.1) q74) fun I77 =>
      Option.bind (P a0 0) fun q79 =>
      Option.bind (P a0 0) fun q82 =>
      Option.bind (f_X9_isNumber I77 q82) fun q85 =>
      Option.bind (f_X9_pass n N I77 P q79 q85) fun q87 =>
      (if q87.1 = 0 then
        some q87.2
      else
        rec0 (s0.1 + nI 1, q87.2))))
def f_X10_readLine (n : Nat) (N : pN) (I : pI) (P : pR) (a0 : Nat) (a1 : Nat) : Option pI :=
  Option.bind (f_X10_sortHere n N I P a0) fun q1 =>
  Option.bind (P a0 0) fun q3 =>
  Option.bind (f_X9_from I q3) fun q6 =>
  Option.bind (P a0 0) fun q8 =>
  p_let (α := Int32) ((if q1 = (-1) then
    nI 0
  else
    nI 1)) fun t11 =>
  Option.bind (f_X9_pass n N I P q8 t11) fun q13 =>
  (if q13.1 = 0 then
    some q13.2
  else
    p_it (B_X10_readLine_37 n N P q6 q1 a0 a1) n (nI 0, q13.2))
theorem c_X10_readLine {G : pG} {d : Nat} {n : Nat} {N : pN} {I : pI} {L : pL} {P : pR} {a0 : Nat} {a1 : Nat} {qq : pI} (hd : 9 ≤ d) (hW : WT N P) (ha0 : p_tp N a0 13) (ha1 : p_tp N a1 10) (hf : f_X10_readLine n N I P a0 a1 = some qq) : MT G mX10_readLine d 0 0 [.ref a0, .ref a1] N I L P (p_R none N qq L P) := by
  refine MT.of rfl (Nat.le_of_ble_eq_true rfl) ?_
  show SW G mX10_readLine (p_rm d 0 0) 0 0 0 0 (p_R none N qq L P) 0 [(0, .ref a0), (1, .ref a1)] [] N I L P
  unfold f_X10_readLine at hf
  refine s_aload_n (pc := 0) dX10_readLine_0 0 rfl rfl ?_
  obtain ⟨q1, h2, hf⟩ := p_bd hf
  refine y_callV1 (pc := 1) dX10_readLine_1 (c_X10_sortHere (p_dd hd (by decide)) hW ha0 h2) mk_X10_sortHere mv_X10_sortHere ml_X10_87 rfl rfl (Nat.le_of_ble_eq_true rfl) ha0 rfl (p_d1 hd (by decide)) (Nat.le_of_ble_eq_true rfl) ?_
  refine s_istore_n (pc := 4) (lo' := [(2, .int q1), (0, .ref a0), (1, .ref a1)]) dX10_readLine_4 rfl (Nat.le_of_ble_eq_true rfl) rfl ?_
  refine s_aload_n (pc := 5) dX10_readLine_5 1 rfl rfl ?_
  obtain ⟨q3, h4, hf⟩ := p_bd hf
  have t5 : p_tp N q3 12 := WT.get hW ha0 h4
  refine x_getR (pc := 6) dX10_readLine_6 fl_X10_19 rfl ha0 h4 ?_
  obtain ⟨q6, h7, hf⟩ := p_bd hf
  refine y_callV1 (pc := 9) dX10_readLine_9 (c_X9_from (p_dd hd (by decide)) hW t5 h7) mk_X9_from mv_X9_from ml_X10_90 rfl rfl (Nat.le_of_ble_eq_true rfl) t5 rfl (p_d1 hd (by decide)) (Nat.le_of_ble_eq_true rfl) ?_
  refine s_istore_n (pc := 12) (lo' := [(3, .int q6), (2, .int q1), (0, .ref a0), (1, .ref a1)]) dX10_readLine_12 rfl (Nat.le_of_ble_eq_true rfl) rfl ?_
  refine s_aload_n (pc := 13) dX10_readLine_13 2 rfl rfl ?_
  obtain ⟨q8, h9, hf⟩ := p_bd hf
  have t10 : p_tp N q8 12 := WT.get hW ha0 h9
  refine x_getR (pc := 14) dX10_readLine_14 fl_X10_19 rfl ha0 h9 ?_
  refine s_iload_n (pc := 17) dX10_readLine_17 1 rfl rfl ?_
  refine s_iconst (pc := 18) dX10_readLine_18 (v := (-1)) rfl ?_
  obtain ⟨t11, hg, hf⟩ := p_lx2 hf
  have k12 : SW G mX10_readLine (p_rm d 0 0) 0 0 0 0 (p_R none N qq L P) 27 [(3, .int q6), (2, .int q1), (0, .ref a0), (1, .ref a1)] [.int t11, .ref q8] N I L P := by
    obtain ⟨q13, h14, hf⟩ := p_bd hf
    refine y_callV1 (pc := 27) dX10_readLine_27 (c_X9_pass (p_dd hd (by decide)) hW t10 h14) mk_X9_pass mv_X9_pass ml_X10_93 rfl rfl (Nat.le_of_ble_eq_true rfl) t10 rfl (p_d1 hd (by decide)) (Nat.le_of_ble_eq_true rfl) ?_
    refine s_if_ne (pc := 30) (tgt := 34) dX10_readLine_30 rfl (fun hc => ?_) (fun hc => ?_)
    · replace hf := p_ng hf hc
      refine s_iconst (pc := 34) dX10_readLine_34 (v := nI 0) rfl ?_
      refine s_istore (pc := 35) (lo' := [(4, .int (nI 0)), (3, .int q6), (2, .int q1), (0, .ref a0), (1, .ref a1)]) dX10_readLine_35 (Nat.le_of_ble_eq_true rfl) rfl ?_
      have k35 : ∀ (I34 : pI) , J_X10_readLine_104 n N I34 P q6 q1 a0 a1 = some qq → SW G mX10_readLine (p_rm d 0 0) 0 0 0 0 (p_R none N qq L P) 104 [(3, .int q6), (2, .int q1), (0, .ref a0), (1, .ref a1)] [] N I34 L P := by
        intro I34 hf
        unfold J_X10_readLine_104 at hf
        refine s_aload_n (pc := 104) dX10_readLine_104 2 rfl rfl ?_
        obtain ⟨q36, h37, hf⟩ := p_bd hf
        have t38 : p_tp N q36 12 := WT.get hW ha0 h37
        refine x_getR (pc := 105) dX10_readLine_105 fl_X10_19 rfl ha0 h37 ?_
        refine s_aload_n (pc := 108) dX10_readLine_108 2 rfl rfl ?_
        obtain ⟨q39, h40, hf⟩ := p_bd hf
        have t41 : p_tp N q39 12 := WT.get hW ha0 h40
        refine x_getR (pc := 109) dX10_readLine_109 fl_X10_19 rfl ha0 h40 ?_
        obtain ⟨q42, h43, hf⟩ := p_bd hf
        refine y_callV1 (pc := 112) dX10_readLine_112 (c_X9_sign (p_dd hd (by decide)) hW t41 h43) mk_X9_sign mv_X9_sign ml_X10_107 rfl rfl (Nat.le_of_ble_eq_true rfl) t41 rfl (p_d1 hd (by decide)) (Nat.le_of_ble_eq_true rfl) ?_
        refine s_bipush (pc := 115) dX10_readLine_115 (v := nI 59) rfl ?_
        obtain ⟨t44, hg, hf⟩ := p_lx2 hf
        have k45 : SW G mX10_readLine (p_rm d 0 0) 0 0 0 0 (p_R none N qq L P) 125 [(3, .int q6), (2, .int q1), (0, .ref a0), (1, .ref a1)] [.int t44, .ref q36] N I34 L P := by
          obtain ⟨q46, h47, hf⟩ := p_bd hf
          refine y_callV1 (pc := 125) dX10_readLine_125 (c_X9_pass (p_dd hd (by decide)) hW t38 h47) mk_X9_pass mv_X9_pass ml_X10_93 rfl rfl (Nat.le_of_ble_eq_true rfl) t38 rfl (p_d1 hd (by decide)) (Nat.le_of_ble_eq_true rfl) ?_
          refine s_if_eq (pc := 128) (tgt := 148) dX10_readLine_128 rfl (fun hc => ?_) (fun hc => ?_)
          · replace hf := p_ps hf hc
            cases hf
            exact s_return (pc := 148) dX10_readLine_148 rfl ⟨rfl, rfl, rfl, rfl, rfl⟩
          · replace hf := p_ng hf hc
            refine s_aload_n (pc := 131) dX10_readLine_131 2 rfl rfl ?_
            obtain ⟨q48, h49, hf⟩ := p_bd hf
            have t50 : p_tp N q48 12 := WT.get hW ha0 h49
            refine x_getR (pc := 132) dX10_readLine_132 fl_X10_19 rfl ha0 h49 ?_
            obtain ⟨q51, h52, hf⟩ := p_bd hf
            refine y_callV1 (pc := 135) dX10_readLine_135 (c_X9_isClean (p_dd hd (by decide)) hW t50 h52) mk_X9_isClean mv_X9_isClean ml_X10_68 rfl rfl (Nat.le_of_ble_eq_true rfl) t50 rfl (p_d1 hd (by decide)) (Nat.le_of_ble_eq_true rfl) ?_
            refine s_if_eq (pc := 138) (tgt := 148) dX10_readLine_138 rfl (fun hc => ?_) (fun hc => ?_)
            · replace hf := p_ps hf hc
              cases hf
              exact s_return (pc := 148) dX10_readLine_148 rfl ⟨rfl, rfl, rfl, rfl, rfl⟩
            · replace hf := p_ng hf hc
              refine s_aload_n (pc := 141) dX10_readLine_141 2 rfl rfl ?_
              refine s_aload_n (pc := 142) dX10_readLine_142 3 rfl rfl ?_
              refine s_iload_n (pc := 143) dX10_readLine_143 1 rfl rfl ?_
              refine s_iload_n (pc := 144) dX10_readLine_144 0 rfl rfl ?_
              obtain ⟨q53, h54, hf⟩ := p_bd hf
              refine y_callV0 (pc := 145) dX10_readLine_145 (c_X10_take (p_dd hd (by decide)) hW ha0 ha1 h54) mk_X10_take mv_X10_take ml_X10_110 rfl rfl (Nat.le_of_ble_eq_true rfl) ha0 rfl (p_d1 hd (by decide)) (Nat.le_of_ble_eq_true rfl) ?_
              cases hf
              exact s_return (pc := 148) dX10_readLine_148 rfl ⟨rfl, rfl, rfl, rfl, rfl⟩
        replace hf := hg.symm
        refine s_icmp_ne (pc := 117) (tgt := 124) dX10_readLine_117 rfl (fun hc => ?_) (fun hc => ?_)
        · replace hf := p_ng hf hc
          refine s_iconst (pc := 124) dX10_readLine_124 (v := nI 0) rfl ?_
          cases hf
          exact s_lo [0, 1, 2, 3] rfl (k45)
        · replace hf := p_ps hf hc
          refine s_iconst (pc := 120) dX10_readLine_120 (v := nI 1) rfl ?_
          refine s_goto (pc := 121) (tgt := 125) dX10_readLine_121 rfl ?_
          cases hf
          exact s_lo [0, 1, 2, 3] rfl (k45)
      have k89 : ∀ (k : Nat) (s0 : Int32 × pI), p_it (B_X10_readLine_37 n N P q6 q1 a0 a1) k s0 = some qq → (SW G mX10_readLine (p_rm d 0 0) 0 0 0 0 (p_R none N qq L P) 37 [(3, .int q6), (2, .int q1), (0, .ref a0), (1, .ref a1), (4, .int s0.1)] [] N s0.2 L P) := p_it_ind (C := fun (s0 : Int32 × pI) => SW G mX10_readLine (p_rm d 0 0) 0 0 0 0 (p_R none N qq L P) 37 [(3, .int q6), (2, .int q1), (0, .ref a0), (1, .ref a1), (4, .int s0.1)] [] N s0.2 L P) (by
        intro rec0 hrec0 s0 hf
        unfold B_X10_readLine_37 at hf
        refine s_iload (pc := 37) dX10_readLine_37 4 rfl ?_
        refine s_iload_n (pc := 39) dX10_readLine_39 1 rfl rfl ?_
        obtain ⟨q90, h91, hf⟩ := p_bd hf
        refine y_callS1 (pc := 40) dX10_readLine_40 (c_X10_numbersOf (p_dd hd (by decide)) hW  h91) mk_X10_numbersOf mz_X10_numbersOf ml_X10_97 rfl rfl (Nat.le_of_ble_eq_true rfl) (p_d1 hd (by decide)) (Nat.le_of_ble_eq_true rfl) ?_
        refine s_icmp_ge (pc := 43) (tgt := 104) dX10_readLine_43 rfl (fun hc => ?_) (fun hc => ?_)
        · replace hf := p_ps hf hc
          exact s_lo [0, 1, 2, 3] rfl (k35 s0.2 hf)
        · replace hf := p_ng hf hc
          refine s_iload (pc := 46) dX10_readLine_46 4 rfl ?_
          refine s_iconst (pc := 48) dX10_readLine_48 (v := nI 5) rfl ?_
          refine s_icmp_ge (pc := 49) (tgt := 104) dX10_readLine_49 rfl (fun hc => ?_) (fun hc => ?_)
          · replace hf := p_ps hf hc
            exact s_lo [0, 1, 2, 3] rfl (k35 s0.2 hf)
          · replace hf := p_ng hf hc
            refine s_aload_n (pc := 52) dX10_readLine_52 2 rfl rfl ?_
            obtain ⟨q92, h93, hf⟩ := p_bd hf
            have t94 : p_tp N q92 0 := WT.get hW ha0 h93
            refine x_getR (pc := 53) dX10_readLine_53 fl_X10_25 rfl ha0 h93 ?_
            refine s_iload (pc := 56) dX10_readLine_56 4 rfl ?_
            refine s_aload_n (pc := 58) dX10_readLine_58 2 rfl rfl ?_
            obtain ⟨q95, h96, hf⟩ := p_bd hf
            have t97 : p_tp N q95 12 := WT.get hW ha0 h96
            refine x_getR (pc := 59) dX10_readLine_59 fl_X10_19 rfl ha0 h96 ?_
            obtain ⟨q98, h99, hf⟩ := p_bd hf
            refine y_callV1 (pc := 62) dX10_readLine_62 (c_X9_number (p_dd hd (by decide)) hW t97 h99) mk_X9_number mv_X9_number ml_X10_101 rfl rfl (Nat.le_of_ble_eq_true rfl) t97 rfl (p_d1 hd (by decide)) (Nat.le_of_ble_eq_true rfl) ?_
            obtain ⟨c100, hf⟩ := p_ckx hf
            refine x_iast (pc := 65) dX10_readLine_65 t94 c100 ?_
            refine s_nmI (fun I101 e102 => ?_)
            replace hf := p_lx hf e102
            refine s_aload_n (pc := 66) dX10_readLine_66 2 rfl rfl ?_
            obtain ⟨q103, h104, hf⟩ := p_bd hf
            have t105 : p_tp N q103 0 := WT.get hW ha0 h104
            refine x_getR (pc := 67) dX10_readLine_67 fl_X10_29 rfl ha0 h104 ?_
            refine s_iload (pc := 70) dX10_readLine_70 4 rfl ?_
            refine s_aload_n (pc := 72) dX10_readLine_72 2 rfl rfl ?_
            obtain ⟨q106, h107, hf⟩ := p_bd hf
            have t108 : p_tp N q106 12 := WT.get hW ha0 h107
            refine x_getR (pc := 73) dX10_readLine_73 fl_X10_19 rfl ha0 h107 ?_
            obtain ⟨q109, h110, hf⟩ := p_bd hf
            refine y_callV1 (pc := 76) dX10_readLine_76 (c_X9_from (p_dd hd (by decide)) hW t108 h110) mk_X9_from mv_X9_from ml_X10_90 rfl rfl (Nat.le_of_ble_eq_true rfl) t108 rfl (p_d1 hd (by decide)) (Nat.le_of_ble_eq_true rfl) ?_
            obtain ⟨c111, hf⟩ := p_ckx hf
            refine x_iast (pc := 79) dX10_readLine_79 t105 c111 ?_
            refine s_nmI (fun I112 e113 => ?_)
            replace hf := p_lx hf e113
            refine s_aload_n (pc := 80) dX10_readLine_80 2 rfl rfl ?_
            obtain ⟨q114, h115, hf⟩ := p_bd hf
            have t116 : p_tp N q114 12 := WT.get hW ha0 h115
            refine x_getR (pc := 81) dX10_readLine_81 fl_X10_19 rfl ha0 h115 ?_
            refine s_aload_n (pc := 84) dX10_readLine_84 2 rfl rfl ?_
            obtain ⟨q117, h118, hf⟩ := p_bd hf
            have t119 : p_tp N q117 12 := WT.get hW ha0 h118
            refine x_getR (pc := 85) dX10_readLine_85 fl_X10_19 rfl ha0 h118 ?_
            obtain ⟨q120, h121, hf⟩ := p_bd hf
            refine y_callV1 (pc := 88) dX10_readLine_88 (c_X9_isNumber (p_dd hd (by decide)) hW t119 h121) mk_X9_isNumber mv_X9_isNumber ml_X10_104 rfl rfl (Nat.le_of_ble_eq_true rfl) t119 rfl (p_d1 hd (by decide)) (Nat.le_of_ble_eq_true rfl) ?_
            obtain ⟨q122, h123, hf⟩ := p_bd hf
            refine y_callV1 (pc := 91) dX10_readLine_91 (c_X9_pass (p_dd hd (by decide)) hW t116 h123) mk_X9_pass mv_X9_pass ml_X10_93 rfl rfl (Nat.le_of_ble_eq_true rfl) t116 rfl (p_d1 hd (by decide)) (Nat.le_of_ble_eq_true rfl) ?_
            refine s_if_ne (pc := 94) (tgt := 98) dX10_readLine_94 rfl (fun hc => ?_) (fun hc => ?_)
            · replace hf := p_ng hf hc
              refine s_iinc (pc := 98) (lo' := [(4, .int (s0.1 + nI 1)), (3, .int q6), (2, .int q1), (0, .ref a0), (1, .ref a1)]) dX10_readLine_98 4 rfl (v := s0.1 + nI 1) rfl (Nat.le_of_ble_eq_true rfl) rfl ?_
              refine s_goto (pc := 101) (tgt := 37) dX10_readLine_101 rfl ?_
              exact s_lo [1, 2, 3, 4, 0] rfl (hrec0 (s0.1 + nI 1, q122.2) hf)
            · replace hf := p_ps hf hc
              cases hf
              exact s_return (pc := 97) dX10_readLine_97 rfl ⟨rfl, rfl, rfl, rfl, rfl⟩)
      exact s_lo [1, 2, 3, 4, 0] rfl (k89 n (nI 0, q13.2) hf)
    · replace hf := p_ps hf hc
      cases hf
      exact s_return (pc := 33) dX10_readLine_33 rfl ⟨rfl, rfl, rfl, rfl, rfl⟩
  replace hf := hg.symm
  refine s_icmp_eq (pc := 19) (tgt := 26) dX10_readLine_19 rfl (fun hc => ?_) (fun hc => ?_)
  · replace hf := p_ps hf hc
    refine s_iconst (pc := 26) dX10_readLine_26 (v := nI 0) rfl ?_
    cases hf
    exact s_lo [0, 1, 2, 3] rfl (k12)
  · replace hf := p_ng hf hc
    refine s_iconst (pc := 22) dX10_readLine_22 (v := nI 1) rfl ?_
    refine s_goto (pc := 23) (tgt := 27) dX10_readLine_23 rfl ?_
    cases hf
    exact s_lo [0, 1, 2, 3] rfl (k12)
def B_X10_read_48 (n : Nat) (N : pN) (P : pR) (a0 : Nat) (a1 : Nat) (rec0 : (Int32 × pI) → Option (Int32 × pI)) (s0 : Int32 × pI) : Option (Int32 × pI) :=
  (if (nI 500) ≤ s0.1 then
    some (s0.1, s0.2)
  else
    Option.bind (P a0 0) fun q32 =>
    Option.bind (f_X9_goOn s0.2 q32) fun q35 =>
    (if q35 = 0 then
      some (s0.1, s0.2)
    else
      Option.bind (f_X10_readLine n N s0.2 P a0 a1) fun q37 =>
      rec0 (s0.1 + nI 1, q37)))
def f_X10_read (n : Nat) (N : pN) (I : pI) (P : pR) (a0 : Nat) (a1 : Nat) : Option (Int32 × pI × pR) :=
  Option.bind (P a1 1) fun q1 =>
  Option.bind (f_X8_size I q1) fun q4 =>
  Option.bind (P a1 2) fun q6 =>
  Option.bind (f_X8_size I q6) fun q9 =>
  Option.bind (P a1 3) fun q11 =>
  Option.bind (f_X8_size I q11) fun q14 =>
  Option.bind (P a1 4) fun q16 =>
  Option.bind (f_X8_size I q16) fun q19 =>
  Option.bind (P a0 0) fun q21 =>
  Option.bind (P a1 0) fun q24 =>
  Option.bind (f_X9_open n N I P q21 q24) fun q27 =>
  Option.bind (p_it (B_X10_read_48 n N q27.2 a0 a1) n (nI 0, q27.1)) fun t30 =>
  Option.bind (q27.2 a0 0) fun q47 =>
  Option.bind (f_X9_tell t30.2 q47 a1) fun q50 =>
  Option.bind (q27.2 a0 0) fun q52 =>
  Option.bind (f_X9_isClean q50 q52) fun q55 =>
  (if q55 = 0 then
    Option.bind (q27.2 a1 1) fun q57 =>
    Option.bind (f_X8_cut q50 q57 q4) fun q60 =>
    Option.bind (q27.2 a1 2) fun q62 =>
    Option.bind (f_X8_cut q60 q62 q9) fun q65 =>
    Option.bind (q27.2 a1 3) fun q67 =>
    Option.bind (f_X8_cut q65 q67 q14) fun q70 =>
    Option.bind (q27.2 a1 4) fun q72 =>
    Option.bind (f_X8_cut q70 q72 q19) fun q75 =>
    some ((-1), q75, q27.2)
  else
    some (t30.1, q50, q27.2))
theorem c_X10_read {G : pG} {d : Nat} {n : Nat} {N : pN} {I : pI} {L : pL} {P : pR} {a0 : Nat} {a1 : Nat} {qq : Int32 × pI × pR} (hd : 10 ≤ d) (hW : WT N P) (ha0 : p_tp N a0 13) (ha1 : p_tp N a1 10) (hf : f_X10_read n N I P a0 a1 = some qq) : MT G mX10_read d 0 0 [.ref a0, .ref a1] N I L P (p_R (some (.int qq.1)) N qq.2.1 L qq.2.2) := by
  refine MT.of rfl (Nat.le_of_ble_eq_true rfl) ?_
  show SW G mX10_read (p_rm d 0 0) 0 0 0 0 (p_R (some (.int qq.1)) N qq.2.1 L qq.2.2) 0 [(0, .ref a0), (1, .ref a1)] [] N I L P
  unfold f_X10_read at hf
  refine s_aload_n (pc := 0) dX10_read_0 1 rfl rfl ?_
  obtain ⟨q1, h2, hf⟩ := p_bd hf
  have t3 : p_tp N q1 11 := WT.get hW ha1 h2
  refine x_getR (pc := 1) dX10_read_1 fl_X10_32 rfl ha1 h2 ?_
  obtain ⟨q4, h5, hf⟩ := p_bd hf
  refine y_callV1 (pc := 4) dX10_read_4 (c_X8_size (p_dd hd (by decide)) hW t3 h5) mk_X8_size mv_X8_size ml_X10_38 rfl rfl (Nat.le_of_ble_eq_true rfl) t3 rfl (p_d1 hd (by decide)) (Nat.le_of_ble_eq_true rfl) ?_
  refine s_istore_n (pc := 7) (lo' := [(2, .int q4), (0, .ref a0), (1, .ref a1)]) dX10_read_7 rfl (Nat.le_of_ble_eq_true rfl) rfl ?_
  refine s_aload_n (pc := 8) dX10_read_8 2 rfl rfl ?_
  obtain ⟨q6, h7, hf⟩ := p_bd hf
  have t8 : p_tp N q6 11 := WT.get hW ha1 h7
  refine x_getR (pc := 9) dX10_read_9 fl_X10_42 rfl ha1 h7 ?_
  obtain ⟨q9, h10, hf⟩ := p_bd hf
  refine y_callV1 (pc := 12) dX10_read_12 (c_X8_size (p_dd hd (by decide)) hW t8 h10) mk_X8_size mv_X8_size ml_X10_38 rfl rfl (Nat.le_of_ble_eq_true rfl) t8 rfl (p_d1 hd (by decide)) (Nat.le_of_ble_eq_true rfl) ?_
  refine s_istore_n (pc := 15) (lo' := [(3, .int q9), (2, .int q4), (0, .ref a0), (1, .ref a1)]) dX10_read_15 rfl (Nat.le_of_ble_eq_true rfl) rfl ?_
  refine s_aload_n (pc := 16) dX10_read_16 3 rfl rfl ?_
  obtain ⟨q11, h12, hf⟩ := p_bd hf
  have t13 : p_tp N q11 11 := WT.get hW ha1 h12
  refine x_getR (pc := 17) dX10_read_17 fl_X10_45 rfl ha1 h12 ?_
  obtain ⟨q14, h15, hf⟩ := p_bd hf
  refine y_callV1 (pc := 20) dX10_read_20 (c_X8_size (p_dd hd (by decide)) hW t13 h15) mk_X8_size mv_X8_size ml_X10_38 rfl rfl (Nat.le_of_ble_eq_true rfl) t13 rfl (p_d1 hd (by decide)) (Nat.le_of_ble_eq_true rfl) ?_
  refine s_istore (pc := 23) (lo' := [(4, .int q14), (3, .int q9), (2, .int q4), (0, .ref a0), (1, .ref a1)]) dX10_read_23 (Nat.le_of_ble_eq_true rfl) rfl ?_
  refine s_aload_n (pc := 25) dX10_read_25 4 rfl rfl ?_
  obtain ⟨q16, h17, hf⟩ := p_bd hf
  have t18 : p_tp N q16 11 := WT.get hW ha1 h17
  refine x_getR (pc := 26) dX10_read_26 fl_X10_48 rfl ha1 h17 ?_
  obtain ⟨q19, h20, hf⟩ := p_bd hf
  refine y_callV1 (pc := 29) dX10_read_29 (c_X8_size (p_dd hd (by decide)) hW t18 h20) mk_X8_size mv_X8_size ml_X10_38 rfl rfl (Nat.le_of_ble_eq_true rfl) t18 rfl (p_d1 hd (by decide)) (Nat.le_of_ble_eq_true rfl) ?_
  refine s_istore (pc := 32) (lo' := [(5, .int q19), (4, .int q14), (3, .int q9), (2, .int q4), (0, .ref a0), (1, .ref a1)]) dX10_read_32 (Nat.le_of_ble_eq_true rfl) rfl ?_
  refine s_aload_n (pc := 34) dX10_read_34 4 rfl rfl ?_
  obtain ⟨q21, h22, hf⟩ := p_bd hf
  have t23 : p_tp N q21 12 := WT.get hW ha0 h22
  refine x_getR (pc := 35) dX10_read_35 fl_X10_19 rfl ha0 h22 ?_
  refine s_aload_n (pc := 38) dX10_read_38 5 rfl rfl ?_
  obtain ⟨q24, h25, hf⟩ := p_bd hf
  have t26 : p_tp N q24 11 := WT.get hW ha1 h25
  refine x_getR (pc := 39) dX10_read_39 fl_X10_51 rfl ha1 h25 ?_
  obtain ⟨q27, h28, hf⟩ := p_bd hf
  have w29 : WT N q27.2 := w_X9_open hW t23 t26 h28
  refine y_callV0 (pc := 42) dX10_read_42 (c_X9_open (p_dd hd (by decide)) hW t23 t26 h28) mk_X9_open mv_X9_open ml_X10_54 rfl rfl (Nat.le_of_ble_eq_true rfl) t23 rfl (p_d1 hd (by decide)) (Nat.le_of_ble_eq_true rfl) ?_
  refine s_iconst (pc := 45) dX10_read_45 (v := nI 0) rfl ?_
  refine s_istore (pc := 46) (lo' := [(6, .int (nI 0)), (5, .int q19), (4, .int q14), (3, .int q9), (2, .int q4), (0, .ref a0), (1, .ref a1)]) dX10_read_46 (Nat.le_of_ble_eq_true rfl) rfl ?_
  obtain ⟨t30, hg, hf⟩ := p_bd hf
  have k31 : SW G mX10_read (p_rm d 0 0) 0 0 0 0 (p_R (some (.int qq.1)) N qq.2.1 L qq.2.2) 77 [(5, .int q19), (4, .int q14), (3, .int q9), (2, .int q4), (0, .ref a0), (1, .ref a1), (6, .int t30.1)] [] N t30.2 L q27.2 := by
    refine s_aload_n (pc := 77) dX10_read_77 4 rfl rfl ?_
    obtain ⟨q47, h48, hf⟩ := p_bd hf
    have t49 : p_tp N q47 12 := WT.get w29 ha0 h48
    refine x_getR (pc := 78) dX10_read_78 fl_X10_19 rfl ha0 h48 ?_
    refine s_aload_n (pc := 81) dX10_read_81 5 rfl rfl ?_
    obtain ⟨q50, h51, hf⟩ := p_bd hf
    refine y_callV0 (pc := 82) dX10_read_82 (c_X9_tell (p_dd hd (by decide)) w29 t49 ha1 h51) mk_X9_tell mv_X9_tell ml_X10_65 rfl rfl (Nat.le_of_ble_eq_true rfl) t49 rfl (p_d1 hd (by decide)) (Nat.le_of_ble_eq_true rfl) ?_
    refine s_aload_n (pc := 85) dX10_read_85 4 rfl rfl ?_
    obtain ⟨q52, h53, hf⟩ := p_bd hf
    have t54 : p_tp N q52 12 := WT.get w29 ha0 h53
    refine x_getR (pc := 86) dX10_read_86 fl_X10_19 rfl ha0 h53 ?_
    obtain ⟨q55, h56, hf⟩ := p_bd hf
    refine y_callV1 (pc := 89) dX10_read_89 (c_X9_isClean (p_dd hd (by decide)) w29 t54 h56) mk_X9_isClean mv_X9_isClean ml_X10_68 rfl rfl (Nat.le_of_ble_eq_true rfl) t54 rfl (p_d1 hd (by decide)) (Nat.le_of_ble_eq_true rfl) ?_
    refine s_if_eq (pc := 92) (tgt := 98) dX10_read_92 rfl (fun hc => ?_) (fun hc => ?_)
    · replace hf := p_ps hf hc
      refine s_aload_n (pc := 98) dX10_read_98 5 rfl rfl ?_
      obtain ⟨q57, h58, hf⟩ := p_bd hf
      have t59 : p_tp N q57 11 := WT.get w29 ha1 h58
      refine x_getR (pc := 99) dX10_read_99 fl_X10_32 rfl ha1 h58 ?_
      refine s_iload_n (pc := 102) dX10_read_102 3 rfl rfl ?_
      obtain ⟨q60, h61, hf⟩ := p_bd hf
      refine y_callV0 (pc := 103) dX10_read_103 (c_X8_cut (p_dd hd (by decide)) w29 t59 h61) mk_X8_cut mv_X8_cut ml_X10_71 rfl rfl (Nat.le_of_ble_eq_true rfl) t59 rfl (p_d1 hd (by decide)) (Nat.le_of_ble_eq_true rfl) ?_
      refine s_aload_n (pc := 106) dX10_read_106 5 rfl rfl ?_
      obtain ⟨q62, h63, hf⟩ := p_bd hf
      have t64 : p_tp N q62 11 := WT.get w29 ha1 h63
      refine x_getR (pc := 107) dX10_read_107 fl_X10_42 rfl ha1 h63 ?_
      refine s_iload_n (pc := 110) dX10_read_110 2 rfl rfl ?_
      obtain ⟨q65, h66, hf⟩ := p_bd hf
      refine y_callV0 (pc := 111) dX10_read_111 (c_X8_cut (p_dd hd (by decide)) w29 t64 h66) mk_X8_cut mv_X8_cut ml_X10_71 rfl rfl (Nat.le_of_ble_eq_true rfl) t64 rfl (p_d1 hd (by decide)) (Nat.le_of_ble_eq_true rfl) ?_
      refine s_aload_n (pc := 114) dX10_read_114 5 rfl rfl ?_
      obtain ⟨q67, h68, hf⟩ := p_bd hf
      have t69 : p_tp N q67 11 := WT.get w29 ha1 h68
      refine x_getR (pc := 115) dX10_read_115 fl_X10_45 rfl ha1 h68 ?_
      refine s_iload (pc := 118) dX10_read_118 1 rfl ?_
      obtain ⟨q70, h71, hf⟩ := p_bd hf
      refine y_callV0 (pc := 120) dX10_read_120 (c_X8_cut (p_dd hd (by decide)) w29 t69 h71) mk_X8_cut mv_X8_cut ml_X10_71 rfl rfl (Nat.le_of_ble_eq_true rfl) t69 rfl (p_d1 hd (by decide)) (Nat.le_of_ble_eq_true rfl) ?_
      refine s_aload_n (pc := 123) dX10_read_123 5 rfl rfl ?_
      obtain ⟨q72, h73, hf⟩ := p_bd hf
      have t74 : p_tp N q72 11 := WT.get w29 ha1 h73
      refine x_getR (pc := 124) dX10_read_124 fl_X10_48 rfl ha1 h73 ?_
      refine s_iload (pc := 127) dX10_read_127 0 rfl ?_
      obtain ⟨q75, h76, hf⟩ := p_bd hf
      refine y_callV0 (pc := 129) dX10_read_129 (c_X8_cut (p_dd hd (by decide)) w29 t74 h76) mk_X8_cut mv_X8_cut ml_X10_71 rfl rfl (Nat.le_of_ble_eq_true rfl) t74 rfl (p_d1 hd (by decide)) (Nat.le_of_ble_eq_true rfl) ?_
      refine s_iconst (pc := 132) dX10_read_132 (v := (-1)) rfl ?_
      cases hf
      exact s_ireturn (pc := 133) dX10_read_133 rfl rfl ⟨rfl, rfl, rfl, rfl, rfl⟩
    · replace hf := p_ng hf hc
      refine s_iload (pc := 95) dX10_read_95 6 rfl ?_
      cases hf
      exact s_ireturn (pc := 97) dX10_read_97 rfl rfl ⟨rfl, rfl, rfl, rfl, rfl⟩
  replace hf := hg
  have k39 : ∀ (k : Nat) (s0 : Int32 × pI), p_it (B_X10_read_48 n N q27.2 a0 a1) k s0 = some t30 → (SW G mX10_read (p_rm d 0 0) 0 0 0 0 (p_R (some (.int qq.1)) N qq.2.1 L qq.2.2) 48 [(5, .int q19), (4, .int q14), (3, .int q9), (2, .int q4), (0, .ref a0), (1, .ref a1), (6, .int s0.1)] [] N s0.2 L q27.2) := p_it_ind (C := fun (s0 : Int32 × pI) => SW G mX10_read (p_rm d 0 0) 0 0 0 0 (p_R (some (.int qq.1)) N qq.2.1 L qq.2.2) 48 [(5, .int q19), (4, .int q14), (3, .int q9), (2, .int q4), (0, .ref a0), (1, .ref a1), (6, .int s0.1)] [] N s0.2 L q27.2) (by
    intro rec0 hrec0 s0 hf
    unfold B_X10_read_48 at hf
    refine s_iload (pc := 48) dX10_read_48 6 rfl ?_
    refine s_sipush (pc := 50) dX10_read_50 (v := nI 500) rfl ?_
    refine s_icmp_ge (pc := 53) (tgt := 77) dX10_read_53 rfl (fun hc => ?_) (fun hc => ?_)
    · replace hf := p_ps hf hc
      cases hf
      exact s_lo [0, 1, 2, 3, 4, 5, 6] rfl (k31)
    · replace hf := p_ng hf hc
      refine s_aload_n (pc := 56) dX10_read_56 4 rfl rfl ?_
      obtain ⟨q40, h41, hf⟩ := p_bd hf
      have t42 : p_tp N q40 12 := WT.get w29 ha0 h41
      refine x_getR (pc := 57) dX10_read_57 fl_X10_19 rfl ha0 h41 ?_
      obtain ⟨q43, h44, hf⟩ := p_bd hf
      refine y_callV1 (pc := 60) dX10_read_60 (c_X9_goOn (p_dd hd (by decide)) w29 t42 h44) mk_X9_goOn mv_X9_goOn ml_X10_57 rfl rfl (Nat.le_of_ble_eq_true rfl) t42 rfl (p_d1 hd (by decide)) (Nat.le_of_ble_eq_true rfl) ?_
      refine s_if_eq (pc := 63) (tgt := 77) dX10_read_63 rfl (fun hc => ?_) (fun hc => ?_)
      · replace hf := p_ps hf hc
        cases hf
        exact s_lo [0, 1, 2, 3, 4, 5, 6] rfl (k31)
      · replace hf := p_ng hf hc
        refine s_aload_n (pc := 66) dX10_read_66 4 rfl rfl ?_
        refine s_aload_n (pc := 67) dX10_read_67 5 rfl rfl ?_
        obtain ⟨q45, h46, hf⟩ := p_bd hf
        refine y_callV0 (pc := 68) dX10_read_68 (c_X10_readLine (p_dd hd (by decide)) w29 ha0 ha1 h46) mk_X10_readLine mv_X10_readLine ml_X10_61 rfl rfl (Nat.le_of_ble_eq_true rfl) ha0 rfl (p_d1 hd (by decide)) (Nat.le_of_ble_eq_true rfl) ?_
        refine s_iinc (pc := 71) (lo' := [(6, .int (s0.1 + nI 1)), (5, .int q19), (4, .int q14), (3, .int q9), (2, .int q4), (0, .ref a0), (1, .ref a1)]) dX10_read_71 6 rfl (v := s0.1 + nI 1) rfl (Nat.le_of_ble_eq_true rfl) rfl ?_
        refine s_goto (pc := 74) (tgt := 48) dX10_read_74 rfl ?_
        exact s_lo [1, 2, 3, 4, 5, 6, 0] rfl (hrec0 (s0.1 + nI 1, q45) hf))
  exact s_lo [1, 2, 3, 4, 5, 6, 0] rfl (k39 n (nI 0, q27.1) hf)
theorem w_X10_read {n : Nat} {N : pN} {I : pI} {P : pR} {a0 a1 : Nat} {qq : Int32 × pI × pR} (hW : WT N P) (ha0 : p_tp N a0 13) (ha1 : p_tp N a1 10) (hf : f_X10_read n N I P a0 a1 = some qq) : WT N qq.2.2 := by
  unfold f_X10_read at hf
  obtain ⟨q0, h0, hf⟩ := p_bd hf
  obtain ⟨q1, h1, hf⟩ := p_bd hf
  obtain ⟨q2, h2, hf⟩ := p_bd hf
  obtain ⟨q3, h3, hf⟩ := p_bd hf
  obtain ⟨q4, h4, hf⟩ := p_bd hf
  obtain ⟨q5, h5, hf⟩ := p_bd hf
  obtain ⟨q6, h6, hf⟩ := p_bd hf
  obtain ⟨q7, h7, hf⟩ := p_bd hf
  obtain ⟨q8, h8, hf⟩ := p_bd hf
  obtain ⟨q9, h9, hf⟩ := p_bd hf
  obtain ⟨q10, h10, hf⟩ := p_bd hf
  have hw := w_X9_open hW (WT.get hW ha0 h8) (WT.get hW ha1 h9) h10
  obtain ⟨q11, h11, hf⟩ := p_bd hf
  obtain ⟨q12, h12, hf⟩ := p_bd hf
  obtain ⟨q13, h13, hf⟩ := p_bd hf
  obtain ⟨q14, h14, hf⟩ := p_bd hf
  obtain ⟨q15, h15, hf⟩ := p_bd hf
  by_cases hc : q15 = 0
  · replace hf := p_ps hf hc
    obtain ⟨_, _, hf⟩ := p_bd hf
    obtain ⟨_, _, hf⟩ := p_bd hf
    obtain ⟨_, _, hf⟩ := p_bd hf
    obtain ⟨_, _, hf⟩ := p_bd hf
    obtain ⟨_, _, hf⟩ := p_bd hf
    obtain ⟨_, _, hf⟩ := p_bd hf
    obtain ⟨_, _, hf⟩ := p_bd hf
    obtain ⟨_, _, hf⟩ := p_bd hf
    cases hf
    exact hw
  · replace hf := p_ng hf hc
    cases hf
    exact hw
def B_X11_feedOne_3 (N : pN) (P : pR) (a0 : Nat) (x1 : Int32) (rec0 : (Int32 × pI) → Option pI) (s0 : Int32 × pI) : Option pI :=
  (if s0.1 < 0 then
    some s0.2
  else
    Option.bind (P a0 0) fun q3 =>
    Option.bind (P q3 0) fun q6 =>
    Option.bind (f_X8_size s0.2 q6) fun q9 =>
    Option.bind (P a0 0) fun q11 =>
    Option.bind (P q11 0) fun q14 =>
    Option.bind (f_X8_add s0.2 q14) fun q17 =>
    Option.bind (P a0 0) fun q19 =>
    Option.bind (P q19 0) fun q22 =>
    Option.bind (f_X8_put N q17.2 P q22 q9 (nI 0) ((x1 >>> (s0.1 &&& 31)) &&& (nI 255))) fun q25 =>
    rec0 (s0.1 + (-8), q25))
def f_X11_feedOne (n : Nat) (N : pN) (I : pI) (P : pR) (a0 : Nat) (x1 : Int32) : Option pI :=
  Option.bind (p_it (B_X11_feedOne_3 N P a0 x1) n (nI 24, I)) fun t1 =>
  some t1
theorem c_X11_feedOne {G : pG} {d : Nat} {n : Nat} {N : pN} {I : pI} {L : pL} {P : pR} {a0 : Nat} {x1 : Int32} {qq : pI} (hd : 1 ≤ d) (hW : WT N P) (ha0 : p_tp N a0 14) (hf : f_X11_feedOne n N I P a0 x1 = some qq) : MT G mX11_feedOne d 0 0 [.ref a0, .int x1] N I L P (p_R none N qq L P) := by
  refine MT.of rfl (Nat.le_of_ble_eq_true rfl) ?_
  show SW G mX11_feedOne (p_rm d 0 0) 0 0 0 0 (p_R none N qq L P) 0 [(0, .ref a0), (1, .int x1)] [] N I L P
  unfold f_X11_feedOne at hf
  refine s_bipush (pc := 0) dX11_feedOne_0 (v := nI 24) rfl ?_
  refine s_istore_n (pc := 2) (lo' := [(2, .int (nI 24)), (0, .ref a0), (1, .int x1)]) dX11_feedOne_2 rfl (Nat.le_of_ble_eq_true rfl) rfl ?_
  obtain ⟨t1, hg, hf⟩ := p_bd hf
  have k2 : SW G mX11_feedOne (p_rm d 0 0) 0 0 0 0 (p_R none N qq L P) 54 [] [] N t1 L P := by
    cases hf
    exact s_return (pc := 54) dX11_feedOne_54 rfl ⟨rfl, rfl, rfl, rfl, rfl⟩
  replace hf := hg
  have k27 : ∀ (k : Nat) (s0 : Int32 × pI), p_it (B_X11_feedOne_3 N P a0 x1) k s0 = some t1 → (SW G mX11_feedOne (p_rm d 0 0) 0 0 0 0 (p_R none N qq L P) 3 [(0, .ref a0), (1, .int x1), (2, .int s0.1)] [] N s0.2 L P) := p_it_ind (C := fun (s0 : Int32 × pI) => SW G mX11_feedOne (p_rm d 0 0) 0 0 0 0 (p_R none N qq L P) 3 [(0, .ref a0), (1, .int x1), (2, .int s0.1)] [] N s0.2 L P) (by
    intro rec0 hrec0 s0 hf
    unfold B_X11_feedOne_3 at hf
    refine s_iload_n (pc := 3) dX11_feedOne_3 2 rfl rfl ?_
    refine s_if_lt (pc := 4) (tgt := 54) dX11_feedOne_4 rfl (fun hc => ?_) (fun hc => ?_)
    · replace hf := p_ps hf hc
      cases hf
      exact s_lo [] rfl (k2)
    · replace hf := p_ng hf hc
      refine s_aload_n (pc := 7) dX11_feedOne_7 0 rfl rfl ?_
      obtain ⟨q28, h29, hf⟩ := p_bd hf
      have t30 : p_tp N q28 10 := WT.get hW ha0 h29
      refine x_getR (pc := 8) dX11_feedOne_8 fl_X11_10 rfl ha0 h29 ?_
      obtain ⟨q31, h32, hf⟩ := p_bd hf
      have t33 : p_tp N q31 11 := WT.get hW t30 h32
      refine x_getR (pc := 11) dX11_feedOne_11 fl_X11_66 rfl t30 h32 ?_
      obtain ⟨q34, h35, hf⟩ := p_bd hf
      refine y_callV1 (pc := 14) dX11_feedOne_14 (c_X8_size (p_dd hd (by decide)) hW t33 h35) mk_X8_size mv_X8_size ml_X11_70 rfl rfl (Nat.le_of_ble_eq_true rfl) t33 rfl (p_d1 hd (by decide)) (Nat.le_of_ble_eq_true rfl) ?_
      refine s_istore_n (pc := 17) (lo' := [(3, .int q34), (0, .ref a0), (1, .int x1), (2, .int s0.1)]) dX11_feedOne_17 rfl (Nat.le_of_ble_eq_true rfl) rfl ?_
      refine s_aload_n (pc := 18) dX11_feedOne_18 1 rfl rfl ?_
      obtain ⟨q36, h37, hf⟩ := p_bd hf
      have t38 : p_tp N q36 10 := WT.get hW ha0 h37
      refine x_getR (pc := 19) dX11_feedOne_19 fl_X11_10 rfl ha0 h37 ?_
      obtain ⟨q39, h40, hf⟩ := p_bd hf
      have t41 : p_tp N q39 11 := WT.get hW t38 h40
      refine x_getR (pc := 22) dX11_feedOne_22 fl_X11_66 rfl t38 h40 ?_
      obtain ⟨q42, h43, hf⟩ := p_bd hf
      refine y_callV1 (pc := 25) dX11_feedOne_25 (c_X8_add (p_dd hd (by decide)) hW t41 h43) mk_X8_add mv_X8_add ml_X11_80 rfl rfl (Nat.le_of_ble_eq_true rfl) t41 rfl (p_d1 hd (by decide)) (Nat.le_of_ble_eq_true rfl) ?_
      refine s_pop (pc := 28) dX11_feedOne_28 rfl ?_
      refine s_aload_n (pc := 29) dX11_feedOne_29 1 rfl rfl ?_
      obtain ⟨q44, h45, hf⟩ := p_bd hf
      have t46 : p_tp N q44 10 := WT.get hW ha0 h45
      refine x_getR (pc := 30) dX11_feedOne_30 fl_X11_10 rfl ha0 h45 ?_
      obtain ⟨q47, h48, hf⟩ := p_bd hf
      have t49 : p_tp N q47 11 := WT.get hW t46 h48
      refine x_getR (pc := 33) dX11_feedOne_33 fl_X11_66 rfl t46 h48 ?_
      refine s_iload_n (pc := 36) dX11_feedOne_36 0 rfl rfl ?_
      refine s_iconst (pc := 37) dX11_feedOne_37 (v := nI 0) rfl ?_
      refine s_iload_n (pc := 38) dX11_feedOne_38 2 rfl rfl ?_
      refine s_iload_n (pc := 39) dX11_feedOne_39 3 rfl rfl ?_
      refine s_ishr (pc := 40) dX11_feedOne_40 ?_
      refine s_sipush (pc := 41) dX11_feedOne_41 (v := nI 255) rfl ?_
      refine s_iand (pc := 44) dX11_feedOne_44 ?_
      obtain ⟨q50, h51, hf⟩ := p_bd hf
      refine y_callV0 (pc := 45) dX11_feedOne_45 (c_X8_put (p_dd hd (by decide)) hW t49 h51) mk_X8_put mv_X8_put ml_X11_84 rfl rfl (Nat.le_of_ble_eq_true rfl) t49 rfl (p_d1 hd (by decide)) (Nat.le_of_ble_eq_true rfl) ?_
      refine s_iinc (pc := 48) (lo' := [(2, .int (s0.1 + (-8))), (3, .int q34), (0, .ref a0), (1, .int x1)]) dX11_feedOne_48 3 rfl (v := s0.1 + (-8)) rfl (Nat.le_of_ble_eq_true rfl) rfl ?_
      refine s_goto (pc := 51) (tgt := 3) dX11_feedOne_51 rfl ?_
      exact s_lo [2, 3, 0] rfl (hrec0 (s0.1 + (-8), q50) hf))
  exact s_lo [1, 2, 0] rfl (k27 n (nI 24, I) hf)
def f_X11_feed (n : Nat) (N : pN) (I : pI) (P : pR) (a0 : Nat) (x1 : Int32) (x2 : Int32) (x3 : Int32) (x4 : Int32) (x5 : Int32) : Option (Int32 × pI) :=
  Option.bind (P a0 0) fun q1 =>
  Option.bind (P q1 0) fun q4 =>
  Option.bind (f_X8_size I q4) fun q7 =>
  (if (q7 + (nI 20)) ≤ (nI 500) then
    Option.bind (f_X11_feedOne n N I P a0 x1) fun q9 =>
    Option.bind (f_X11_feedOne n N q9 P a0 x2) fun q11 =>
    Option.bind (f_X11_feedOne n N q11 P a0 x3) fun q13 =>
    Option.bind (f_X11_feedOne n N q13 P a0 x4) fun q15 =>
    Option.bind (f_X11_feedOne n N q15 P a0 x5) fun q17 =>
    Option.bind (P a0 0) fun q19 =>
    Option.bind (P q19 0) fun q22 =>
    Option.bind (f_X8_size q17 q22) fun q25 =>
    some (q25, q17)
  else
    some ((-1), I))
theorem c_X11_feed {G : pG} {d : Nat} {n : Nat} {N : pN} {I : pI} {L : pL} {P : pR} {a0 : Nat} {x1 : Int32} {x2 : Int32} {x3 : Int32} {x4 : Int32} {x5 : Int32} {qq : Int32 × pI} (hd : 2 ≤ d) (hW : WT N P) (ha0 : p_tp N a0 14) (hf : f_X11_feed n N I P a0 x1 x2 x3 x4 x5 = some qq) : MT G mX11_feed d 0 0 [.ref a0, .int x1, .int x2, .int x3, .int x4, .int x5] N I L P (p_R (some (.int qq.1)) N qq.2 L P) := by
  refine MT.of rfl (Nat.le_of_ble_eq_true rfl) ?_
  show SW G mX11_feed (p_rm d 0 0) 0 0 0 0 (p_R (some (.int qq.1)) N qq.2 L P) 0 [(0, .ref a0), (1, .int x1), (2, .int x2), (3, .int x3), (4, .int x4), (5, .int x5)] [] N I L P
  unfold f_X11_feed at hf
  refine s_aload_n (pc := 0) dX11_feed_0 0 rfl rfl ?_
  obtain ⟨q1, h2, hf⟩ := p_bd hf
  have t3 : p_tp N q1 10 := WT.get hW ha0 h2
  refine x_getR (pc := 1) dX11_feed_1 fl_X11_10 rfl ha0 h2 ?_
  obtain ⟨q4, h5, hf⟩ := p_bd hf
  have t6 : p_tp N q4 11 := WT.get hW t3 h5
  refine x_getR (pc := 4) dX11_feed_4 fl_X11_66 rfl t3 h5 ?_
  obtain ⟨q7, h8, hf⟩ := p_bd hf
  refine y_callV1 (pc := 7) dX11_feed_7 (c_X8_size (p_dd hd (by decide)) hW t6 h8) mk_X8_size mv_X8_size ml_X11_70 rfl rfl (Nat.le_of_ble_eq_true rfl) t6 rfl (p_d1 hd (by decide)) (Nat.le_of_ble_eq_true rfl) ?_
  refine s_bipush (pc := 10) dX11_feed_10 (v := nI 20) rfl ?_
  refine s_iadd (pc := 12) dX11_feed_12 ?_
  refine s_sipush (pc := 13) dX11_feed_13 (v := nI 500) rfl ?_
  refine s_icmp_le (pc := 16) (tgt := 21) dX11_feed_16 rfl (fun hc => ?_) (fun hc => ?_)
  · replace hf := p_ps hf hc
    refine s_aload_n (pc := 21) dX11_feed_21 0 rfl rfl ?_
    refine s_iload_n (pc := 22) dX11_feed_22 1 rfl rfl ?_
    obtain ⟨q9, h10, hf⟩ := p_bd hf
    refine y_callV0 (pc := 23) dX11_feed_23 (c_X11_feedOne (p_dd hd (by decide)) hW ha0 h10) mk_X11_feedOne mv_X11_feedOne ml_X11_76 rfl rfl (Nat.le_of_ble_eq_true rfl) ha0 rfl (p_d1 hd (by decide)) (Nat.le_of_ble_eq_true rfl) ?_
    refine s_aload_n (pc := 26) dX11_feed_26 0 rfl rfl ?_
    refine s_iload_n (pc := 27) dX11_feed_27 2 rfl rfl ?_
    obtain ⟨q11, h12, hf⟩ := p_bd hf
    refine y_callV0 (pc := 28) dX11_feed_28 (c_X11_feedOne (p_dd hd (by decide)) hW ha0 h12) mk_X11_feedOne mv_X11_feedOne ml_X11_76 rfl rfl (Nat.le_of_ble_eq_true rfl) ha0 rfl (p_d1 hd (by decide)) (Nat.le_of_ble_eq_true rfl) ?_
    refine s_aload_n (pc := 31) dX11_feed_31 0 rfl rfl ?_
    refine s_iload_n (pc := 32) dX11_feed_32 3 rfl rfl ?_
    obtain ⟨q13, h14, hf⟩ := p_bd hf
    refine y_callV0 (pc := 33) dX11_feed_33 (c_X11_feedOne (p_dd hd (by decide)) hW ha0 h14) mk_X11_feedOne mv_X11_feedOne ml_X11_76 rfl rfl (Nat.le_of_ble_eq_true rfl) ha0 rfl (p_d1 hd (by decide)) (Nat.le_of_ble_eq_true rfl) ?_
    refine s_aload_n (pc := 36) dX11_feed_36 0 rfl rfl ?_
    refine s_iload (pc := 37) dX11_feed_37 4 rfl ?_
    obtain ⟨q15, h16, hf⟩ := p_bd hf
    refine y_callV0 (pc := 39) dX11_feed_39 (c_X11_feedOne (p_dd hd (by decide)) hW ha0 h16) mk_X11_feedOne mv_X11_feedOne ml_X11_76 rfl rfl (Nat.le_of_ble_eq_true rfl) ha0 rfl (p_d1 hd (by decide)) (Nat.le_of_ble_eq_true rfl) ?_
    refine s_aload_n (pc := 42) dX11_feed_42 0 rfl rfl ?_
    refine s_iload (pc := 43) dX11_feed_43 5 rfl ?_
    obtain ⟨q17, h18, hf⟩ := p_bd hf
    refine y_callV0 (pc := 45) dX11_feed_45 (c_X11_feedOne (p_dd hd (by decide)) hW ha0 h18) mk_X11_feedOne mv_X11_feedOne ml_X11_76 rfl rfl (Nat.le_of_ble_eq_true rfl) ha0 rfl (p_d1 hd (by decide)) (Nat.le_of_ble_eq_true rfl) ?_
    refine s_aload_n (pc := 48) dX11_feed_48 0 rfl rfl ?_
    obtain ⟨q19, h20, hf⟩ := p_bd hf
    have t21 : p_tp N q19 10 := WT.get hW ha0 h20
    refine x_getR (pc := 49) dX11_feed_49 fl_X11_10 rfl ha0 h20 ?_
    obtain ⟨q22, h23, hf⟩ := p_bd hf
    have t24 : p_tp N q22 11 := WT.get hW t21 h23
    refine x_getR (pc := 52) dX11_feed_52 fl_X11_66 rfl t21 h23 ?_
    obtain ⟨q25, h26, hf⟩ := p_bd hf
    refine y_callV1 (pc := 55) dX11_feed_55 (c_X8_size (p_dd hd (by decide)) hW t24 h26) mk_X8_size mv_X8_size ml_X11_70 rfl rfl (Nat.le_of_ble_eq_true rfl) t24 rfl (p_d1 hd (by decide)) (Nat.le_of_ble_eq_true rfl) ?_
    cases hf
    exact s_ireturn (pc := 58) dX11_feed_58 rfl rfl ⟨rfl, rfl, rfl, rfl, rfl⟩
  · replace hf := p_ng hf hc
    refine s_iconst (pc := 19) dX11_feed_19 (v := (-1)) rfl ?_
    cases hf
    exact s_ireturn (pc := 20) dX11_feed_20 rfl rfl ⟨rfl, rfl, rfl, rfl, rfl⟩
