def f_X8_has (I : pI) (a0 : Nat) (x1 : Int32) : Option Int32 :=
  (if x1 < 0 then
    some (nI 0)
  else
    (if (I a0 3) ≤ x1 then
      some (nI 0)
    else
      some (nI 1)))
theorem c_X8_has {G : pG} {d : Nat} {N : pN} {I : pI} {L : pL} {P : pR} {a0 : Nat} {x1 : Int32} {qq : Int32} (hd : 0 ≤ d) (hW : WT N P) (ha0 : p_tp N a0 11) (hf : f_X8_has I a0 x1 = some qq) : MT G mX8_has d 0 0 [.ref a0, .int x1] N I L P (p_R (some (.int qq)) N I L P) := by
  refine MT.of rfl (Nat.le_of_ble_eq_true rfl) ?_
  show SW G mX8_has (p_rm d 0 0) 0 0 0 0 (p_R (some (.int qq)) N I L P) 0 [(0, .ref a0), (1, .int x1)] [] N I L P
  unfold f_X8_has at hf
  refine s_iload_n (pc := 0) dX8_has_0 1 rfl rfl ?_
  refine s_if_lt (pc := 1) (tgt := 16) dX8_has_1 rfl (fun hc => ?_) (fun hc => ?_)
  · replace hf := p_ps hf hc
    refine s_iconst (pc := 16) dX8_has_16 (v := nI 0) rfl ?_
    cases hf
    exact s_ireturn (pc := 17) dX8_has_17 rfl rfl ⟨rfl, rfl, rfl, rfl, rfl⟩
  · replace hf := p_ng hf hc
    refine s_iload_n (pc := 4) dX8_has_4 1 rfl rfl ?_
    refine s_aload_n (pc := 5) dX8_has_5 0 rfl rfl ?_
    refine x_getI (pc := 6) dX8_has_6 fl_X8_28 rfl ha0 ?_
    refine s_icmp_ge (pc := 9) (tgt := 16) dX8_has_9 rfl (fun hc => ?_) (fun hc => ?_)
    · replace hf := p_ps hf hc
      refine s_iconst (pc := 16) dX8_has_16 (v := nI 0) rfl ?_
      cases hf
      exact s_ireturn (pc := 17) dX8_has_17 rfl rfl ⟨rfl, rfl, rfl, rfl, rfl⟩
    · replace hf := p_ng hf hc
      refine s_iconst (pc := 12) dX8_has_12 (v := nI 1) rfl ?_
      refine s_goto (pc := 13) (tgt := 17) dX8_has_13 rfl ?_
      cases hf
      exact s_ireturn (pc := 17) dX8_has_17 rfl rfl ⟨rfl, rfl, rfl, rfl, rfl⟩
def f_X8_get (N : pN) (I : pI) (P : pR) (a0 : Nat) (x1 : Int32) (x2 : Int32) : Option Int32 :=
  (if x1 < 0 then
    some (-1)
  else
    (if (I a0 3) ≤ x1 then
      some (-1)
    else
      (if x2 < 0 then
        some (-1)
      else
        (if x2 < (I a0 1) then
          Option.bind (P a0 2) fun q1 =>
          p_ck (p_ib N q1 ((x1 * (I a0 1)) + x2)) <|
          some (I q1 (Int32.toNatClampNeg ((x1 * (I a0 1)) + x2)))
        else
          some (-1)))))
theorem c_X8_get {G : pG} {d : Nat} {N : pN} {I : pI} {L : pL} {P : pR} {a0 : Nat} {x1 : Int32} {x2 : Int32} {qq : Int32} (hd : 0 ≤ d) (hW : WT N P) (ha0 : p_tp N a0 11) (hf : f_X8_get N I P a0 x1 x2 = some qq) : MT G mX8_get d 0 0 [.ref a0, .int x1, .int x2] N I L P (p_R (some (.int qq)) N I L P) := by
  refine MT.of rfl (Nat.le_of_ble_eq_true rfl) ?_
  show SW G mX8_get (p_rm d 0 0) 0 0 0 0 (p_R (some (.int qq)) N I L P) 0 [(0, .ref a0), (1, .int x1), (2, .int x2)] [] N I L P
  unfold f_X8_get at hf
  refine s_iload_n (pc := 0) dX8_get_0 1 rfl rfl ?_
  refine s_if_lt (pc := 1) (tgt := 24) dX8_get_1 rfl (fun hc => ?_) (fun hc => ?_)
  · replace hf := p_ps hf hc
    refine s_iconst (pc := 24) dX8_get_24 (v := (-1)) rfl ?_
    cases hf
    exact s_ireturn (pc := 25) dX8_get_25 rfl rfl ⟨rfl, rfl, rfl, rfl, rfl⟩
  · replace hf := p_ng hf hc
    refine s_iload_n (pc := 4) dX8_get_4 1 rfl rfl ?_
    refine s_aload_n (pc := 5) dX8_get_5 0 rfl rfl ?_
    refine x_getI (pc := 6) dX8_get_6 fl_X8_28 rfl ha0 ?_
    refine s_icmp_ge (pc := 9) (tgt := 24) dX8_get_9 rfl (fun hc => ?_) (fun hc => ?_)
    · replace hf := p_ps hf hc
      refine s_iconst (pc := 24) dX8_get_24 (v := (-1)) rfl ?_
      cases hf
      exact s_ireturn (pc := 25) dX8_get_25 rfl rfl ⟨rfl, rfl, rfl, rfl, rfl⟩
    · replace hf := p_ng hf hc
      refine s_iload_n (pc := 12) dX8_get_12 2 rfl rfl ?_
      refine s_if_lt (pc := 13) (tgt := 24) dX8_get_13 rfl (fun hc => ?_) (fun hc => ?_)
      · replace hf := p_ps hf hc
        refine s_iconst (pc := 24) dX8_get_24 (v := (-1)) rfl ?_
        cases hf
        exact s_ireturn (pc := 25) dX8_get_25 rfl rfl ⟨rfl, rfl, rfl, rfl, rfl⟩
      · replace hf := p_ng hf hc
        refine s_iload_n (pc := 16) dX8_get_16 2 rfl rfl ?_
        refine s_aload_n (pc := 17) dX8_get_17 0 rfl rfl ?_
        refine x_getI (pc := 18) dX8_get_18 fl_X8_21 rfl ha0 ?_
        refine s_icmp_lt (pc := 21) (tgt := 26) dX8_get_21 rfl (fun hc => ?_) (fun hc => ?_)
        · replace hf := p_ps hf hc
          refine s_aload_n (pc := 26) dX8_get_26 0 rfl rfl ?_
          obtain ⟨q1, h2, hf⟩ := p_bd hf
          have t3 : p_tp N q1 0 := WT.get hW ha0 h2
          refine x_getR (pc := 27) dX8_get_27 fl_X8_24 rfl ha0 h2 ?_
          refine s_iload_n (pc := 30) dX8_get_30 1 rfl rfl ?_
          refine s_aload_n (pc := 31) dX8_get_31 0 rfl rfl ?_
          refine x_getI (pc := 32) dX8_get_32 fl_X8_21 rfl ha0 ?_
          refine s_imul (pc := 35) dX8_get_35 ?_
          refine s_iload_n (pc := 36) dX8_get_36 2 rfl rfl ?_
          refine s_iadd (pc := 37) dX8_get_37 ?_
          obtain ⟨c4, hf⟩ := p_ckx hf
          refine x_iald (pc := 38) dX8_get_38 t3 c4 ?_
          cases hf
          exact s_ireturn (pc := 39) dX8_get_39 rfl rfl ⟨rfl, rfl, rfl, rfl, rfl⟩
        · replace hf := p_ng hf hc
          refine s_iconst (pc := 24) dX8_get_24 (v := (-1)) rfl ?_
          cases hf
          exact s_ireturn (pc := 25) dX8_get_25 rfl rfl ⟨rfl, rfl, rfl, rfl, rfl⟩
def f_X7_isKnown (I : pI) (a0 : Nat) (x1 : Int32) (x2 : Int32) : Option Int32 :=
  p_let (α := Int32) ((if (I a0 12) = (-1) then
    I a0 11
  else
    I a0 12)) fun t1 =>
  (if t1 < x1 then
    some (nI 0)
  else
    (if x2 = (-1) then
      some (nI 1)
    else
      (if x2 ≤ t1 then
        some (nI 0)
      else
        some (nI 1))))
theorem c_X7_isKnown {G : pG} {d : Nat} {N : pN} {I : pI} {L : pL} {P : pR} {a0 : Nat} {x1 : Int32} {x2 : Int32} {qq : Int32} (hd : 0 ≤ d) (hW : WT N P) (ha0 : p_tp N a0 10) (hf : f_X7_isKnown I a0 x1 x2 = some qq) : MT G mX7_isKnown d 0 0 [.ref a0, .int x1, .int x2] N I L P (p_R (some (.int qq)) N I L P) := by
  refine MT.of rfl (Nat.le_of_ble_eq_true rfl) ?_
  show SW G mX7_isKnown (p_rm d 0 0) 0 0 0 0 (p_R (some (.int qq)) N I L P) 0 [(0, .ref a0), (1, .int x1), (2, .int x2)] [] N I L P
  unfold f_X7_isKnown at hf
  refine s_aload_n (pc := 0) dX7_isKnown_0 0 rfl rfl ?_
  refine x_getI (pc := 1) dX7_isKnown_1 fl_X7_60 rfl ha0 ?_
  refine s_iconst (pc := 4) dX7_isKnown_4 (v := (-1)) rfl ?_
  obtain ⟨t1, hg, hf⟩ := p_lx2 hf
  have k2 : SW G mX7_isKnown (p_rm d 0 0) 0 0 0 0 (p_R (some (.int qq)) N I L P) 19 [(1, .int x1), (2, .int x2)] [.int t1] N I L P := by
    refine s_istore_n (pc := 19) (lo' := [(3, .int t1), (1, .int x1), (2, .int x2)]) dX7_isKnown_19 rfl (Nat.le_of_ble_eq_true rfl) rfl ?_
    refine s_iload_n (pc := 20) dX7_isKnown_20 1 rfl rfl ?_
    refine s_iload_n (pc := 21) dX7_isKnown_21 0 rfl rfl ?_
    refine s_icmp_gt (pc := 22) (tgt := 39) dX7_isKnown_22 rfl (fun hc => ?_) (fun hc => ?_)
    · replace hf := p_ps hf hc
      refine s_iconst (pc := 39) dX7_isKnown_39 (v := nI 0) rfl ?_
      cases hf
      exact s_ireturn (pc := 40) dX7_isKnown_40 rfl rfl ⟨rfl, rfl, rfl, rfl, rfl⟩
    · replace hf := p_ng hf hc
      refine s_iload_n (pc := 25) dX7_isKnown_25 2 rfl rfl ?_
      refine s_iconst (pc := 26) dX7_isKnown_26 (v := (-1)) rfl ?_
      refine s_icmp_eq (pc := 27) (tgt := 35) dX7_isKnown_27 rfl (fun hc => ?_) (fun hc => ?_)
      · replace hf := p_ps hf hc
        refine s_iconst (pc := 35) dX7_isKnown_35 (v := nI 1) rfl ?_
        refine s_goto (pc := 36) (tgt := 40) dX7_isKnown_36 rfl ?_
        cases hf
        exact s_ireturn (pc := 40) dX7_isKnown_40 rfl rfl ⟨rfl, rfl, rfl, rfl, rfl⟩
      · replace hf := p_ng hf hc
        refine s_iload_n (pc := 30) dX7_isKnown_30 2 rfl rfl ?_
        refine s_iload_n (pc := 31) dX7_isKnown_31 0 rfl rfl ?_
        refine s_icmp_le (pc := 32) (tgt := 39) dX7_isKnown_32 rfl (fun hc => ?_) (fun hc => ?_)
        · replace hf := p_ps hf hc
          refine s_iconst (pc := 39) dX7_isKnown_39 (v := nI 0) rfl ?_
          cases hf
          exact s_ireturn (pc := 40) dX7_isKnown_40 rfl rfl ⟨rfl, rfl, rfl, rfl, rfl⟩
        · replace hf := p_ng hf hc
          refine s_iconst (pc := 35) dX7_isKnown_35 (v := nI 1) rfl ?_
          refine s_goto (pc := 36) (tgt := 40) dX7_isKnown_36 rfl ?_
          cases hf
          exact s_ireturn (pc := 40) dX7_isKnown_40 rfl rfl ⟨rfl, rfl, rfl, rfl, rfl⟩
  replace hf := hg.symm
  refine s_icmp_ne (pc := 5) (tgt := 15) dX7_isKnown_5 rfl (fun hc => ?_) (fun hc => ?_)
  · replace hf := p_ng hf hc
    refine s_aload_n (pc := 15) dX7_isKnown_15 0 rfl rfl ?_
    refine x_getI (pc := 16) dX7_isKnown_16 fl_X7_60 rfl ha0 ?_
    cases hf
    exact s_lo [1, 2] rfl (k2)
  · replace hf := p_ps hf hc
    refine s_aload_n (pc := 8) dX7_isKnown_8 0 rfl rfl ?_
    refine x_getI (pc := 9) dX7_isKnown_9 fl_X7_57 rfl ha0 ?_
    refine s_goto (pc := 12) (tgt := 19) dX7_isKnown_12 rfl ?_
    cases hf
    exact s_lo [1, 2] rfl (k2)
def f_X7_wallStands (N : pN) (I : pI) (P : pR) (a0 : Nat) (x1 : Int32) : Option Int32 :=
  Option.bind (P a0 1) fun q1 =>
  Option.bind (f_X8_has I q1 x1) fun q4 =>
  (if q4 = 0 then
    some (nI 0)
  else
    Option.bind (P a0 1) fun q6 =>
    Option.bind (f_X8_get N I P q6 x1 (nI 5)) fun q9 =>
    Option.bind (P a0 1) fun q11 =>
    Option.bind (f_X8_get N I P q11 x1 (nI 6)) fun q14 =>
    Option.bind (f_X7_isKnown I a0 q9 q14) fun q16 =>
    (if q16 = 0 then
      some (nI 0)
    else
      some (nI 1)))
theorem c_X7_wallStands {G : pG} {d : Nat} {N : pN} {I : pI} {L : pL} {P : pR} {a0 : Nat} {x1 : Int32} {qq : Int32} (hd : 1 ≤ d) (hW : WT N P) (ha0 : p_tp N a0 10) (hf : f_X7_wallStands N I P a0 x1 = some qq) : MT G mX7_wallStands d 0 0 [.ref a0, .int x1] N I L P (p_R (some (.int qq)) N I L P) := by
  refine MT.of rfl (Nat.le_of_ble_eq_true rfl) ?_
  show SW G mX7_wallStands (p_rm d 0 0) 0 0 0 0 (p_R (some (.int qq)) N I L P) 0 [(0, .ref a0), (1, .int x1)] [] N I L P
  unfold f_X7_wallStands at hf
  refine s_aload_n (pc := 0) dX7_wallStands_0 0 rfl rfl ?_
  obtain ⟨q1, h2, hf⟩ := p_bd hf
  have t3 : p_tp N q1 11 := WT.get hW ha0 h2
  refine x_getR (pc := 1) dX7_wallStands_1 fl_X7_20 rfl ha0 h2 ?_
  refine s_iload_n (pc := 4) dX7_wallStands_4 1 rfl rfl ?_
  obtain ⟨q4, h5, hf⟩ := p_bd hf
  refine y_callV1 (pc := 5) dX7_wallStands_5 (c_X8_has (p_dd hd (by decide)) hW t3 h5) mk_X8_has mv_X8_has ml_X7_79 rfl rfl (Nat.le_of_ble_eq_true rfl) t3 rfl (p_d1 hd (by decide)) (Nat.le_of_ble_eq_true rfl) ?_
  refine s_if_eq (pc := 8) (tgt := 41) dX7_wallStands_8 rfl (fun hc => ?_) (fun hc => ?_)
  · replace hf := p_ps hf hc
    refine s_iconst (pc := 41) dX7_wallStands_41 (v := nI 0) rfl ?_
    cases hf
    exact s_ireturn (pc := 42) dX7_wallStands_42 rfl rfl ⟨rfl, rfl, rfl, rfl, rfl⟩
  · replace hf := p_ng hf hc
    refine s_aload_n (pc := 11) dX7_wallStands_11 0 rfl rfl ?_
    refine s_aload_n (pc := 12) dX7_wallStands_12 0 rfl rfl ?_
    obtain ⟨q6, h7, hf⟩ := p_bd hf
    have t8 : p_tp N q6 11 := WT.get hW ha0 h7
    refine x_getR (pc := 13) dX7_wallStands_13 fl_X7_20 rfl ha0 h7 ?_
    refine s_iload_n (pc := 16) dX7_wallStands_16 1 rfl rfl ?_
    refine s_iconst (pc := 17) dX7_wallStands_17 (v := nI 5) rfl ?_
    obtain ⟨q9, h10, hf⟩ := p_bd hf
    refine y_callV1 (pc := 18) dX7_wallStands_18 (c_X8_get (p_dd hd (by decide)) hW t8 h10) mk_X8_get mv_X8_get ml_X7_75 rfl rfl (Nat.le_of_ble_eq_true rfl) t8 rfl (p_d1 hd (by decide)) (Nat.le_of_ble_eq_true rfl) ?_
    refine s_aload_n (pc := 21) dX7_wallStands_21 0 rfl rfl ?_
    obtain ⟨q11, h12, hf⟩ := p_bd hf
    have t13 : p_tp N q11 11 := WT.get hW ha0 h12
    refine x_getR (pc := 22) dX7_wallStands_22 fl_X7_20 rfl ha0 h12 ?_
    refine s_iload_n (pc := 25) dX7_wallStands_25 1 rfl rfl ?_
    refine s_bipush (pc := 26) dX7_wallStands_26 (v := nI 6) rfl ?_
    obtain ⟨q14, h15, hf⟩ := p_bd hf
    refine y_callV1 (pc := 28) dX7_wallStands_28 (c_X8_get (p_dd hd (by decide)) hW t13 h15) mk_X8_get mv_X8_get ml_X7_75 rfl rfl (Nat.le_of_ble_eq_true rfl) t13 rfl (p_d1 hd (by decide)) (Nat.le_of_ble_eq_true rfl) ?_
    obtain ⟨q16, h17, hf⟩ := p_bd hf
    refine y_callV1 (pc := 31) dX7_wallStands_31 (c_X7_isKnown (p_dd hd (by decide)) hW ha0 h17) mk_X7_isKnown mv_X7_isKnown ml_X7_83 rfl rfl (Nat.le_of_ble_eq_true rfl) ha0 rfl (p_d1 hd (by decide)) (Nat.le_of_ble_eq_true rfl) ?_
    refine s_if_eq (pc := 34) (tgt := 41) dX7_wallStands_34 rfl (fun hc => ?_) (fun hc => ?_)
    · replace hf := p_ps hf hc
      refine s_iconst (pc := 41) dX7_wallStands_41 (v := nI 0) rfl ?_
      cases hf
      exact s_ireturn (pc := 42) dX7_wallStands_42 rfl rfl ⟨rfl, rfl, rfl, rfl, rfl⟩
    · replace hf := p_ng hf hc
      refine s_iconst (pc := 37) dX7_wallStands_37 (v := nI 1) rfl ?_
      refine s_goto (pc := 38) (tgt := 42) dX7_wallStands_38 rfl ?_
      cases hf
      exact s_ireturn (pc := 42) dX7_wallStands_42 rfl rfl ⟨rfl, rfl, rfl, rfl, rfl⟩
def f_X0_build (N : pN) (I : pI) (P : pR) (a0 : Nat) (a1 : Nat) : Option pI :=
  Option.bind (f_X7_wallStands N I P a1 (I a0 0)) fun q1 =>
  p_ck (decide (q1 = 0 ∨ q1 = 1)) <|
  p_let (p_u I a0 2 q1) fun I4 =>
  (if (I4 a0 2) = 0 then
    some I4
  else
    Option.bind (P a1 1) fun q6 =>
    Option.bind (f_X8_get N I4 P q6 (I4 a0 0) (nI 0)) fun q9 =>
    Option.bind (P a1 1) fun q11 =>
    Option.bind (f_X8_get N I4 P q11 (I4 a0 0) (nI 1)) fun q14 =>
    Option.bind (P a1 1) fun q16 =>
    Option.bind (f_X8_get N I4 P q16 (I4 a0 0) (nI 2)) fun q19 =>
    p_let (α := Int32) ((if q9 = q19 then
      nI 1
    else
      nI 0)) fun t21 =>
    p_ck (decide (t21 = 0 ∨ t21 = 1)) <|
    p_let (p_u I4 a0 3 t21) fun I24 =>
    p_let (α := Int32) ((if (I24 a0 3) = 0 then
      q14
    else
      q9)) fun t26 =>
    p_let (p_u I24 a0 4 t26) fun I28 =>
    p_let (α := Int32) ((if (I28 a0 3) = 0 then
      q9
    else
      q14)) fun t30 =>
    p_let (p_u I28 a0 5 t30) fun I32 =>
    Option.bind (P a1 1) fun q34 =>
    p_let (α := Int32) ((if (I32 a0 3) = 0 then
      nI 2
    else
      nI 3)) fun t37 =>
    Option.bind (f_X8_get N I32 P q34 (I32 a0 0) t37) fun q39 =>
    p_let (p_u I32 a0 6 q39) fun I41 =>
    Option.bind (P a1 1) fun q43 =>
    Option.bind (f_X8_get N I41 P q43 (I41 a0 0) (nI 4)) fun q46 =>
    Option.bind (P a1 5) fun q48 =>
    Option.bind (f_X8_get N I41 P q48 q46 (nI 0)) fun q51 =>
    p_let (p_u I41 a0 7 q51) fun I53 =>
    Option.bind (P a1 5) fun q55 =>
    Option.bind (f_X8_get N I53 P q55 q46 (nI 1)) fun q58 =>
    p_let (p_u I53 a0 8 q58) fun I60 =>
    some I60)
theorem c_X0_build {G : pG} {d : Nat} {N : pN} {I : pI} {L : pL} {P : pR} {a0 : Nat} {a1 : Nat} {qq : pI} (hd : 2 ≤ d) (hW : WT N P) (ha0 : p_tp N a0 3) (ha1 : p_tp N a1 10) (hf : f_X0_build N I P a0 a1 = some qq) : MT G mX0_build d 0 0 [.ref a0, .ref a1] N I L P (p_R none N qq L P) := by
  refine MT.of rfl (Nat.le_of_ble_eq_true rfl) ?_
  show SW G mX0_build (p_rm d 0 0) 0 0 0 0 (p_R none N qq L P) 0 [(0, .ref a0), (1, .ref a1)] [] N I L P
  unfold f_X0_build at hf
  refine s_aload_n (pc := 0) dX0_build_0 0 rfl rfl ?_
  refine s_aload_n (pc := 1) dX0_build_1 1 rfl rfl ?_
  refine s_aload_n (pc := 2) dX0_build_2 0 rfl rfl ?_
  refine x_getI (pc := 3) dX0_build_3 fl_X0_32 rfl ha0 ?_
  obtain ⟨q1, h2, hf⟩ := p_bd hf
  refine y_callV1 (pc := 6) dX0_build_6 (c_X7_wallStands (p_dd hd (by decide)) hW ha1 h2) mk_X7_wallStands mv_X7_wallStands ml_X0_39 rfl rfl (Nat.le_of_ble_eq_true rfl) ha1 rfl (p_d1 hd (by decide)) (Nat.le_of_ble_eq_true rfl) ?_
  obtain ⟨c3, hf⟩ := p_ckx hf
  refine x_putZ (pc := 9) dX0_build_9 fl_X0_7 (Or.inl rfl) rfl (of_decide_eq_true c3) ha0 ?_
  refine s_nmI (fun I4 e5 => ?_)
  replace hf := p_lx hf e5
  refine s_aload_n (pc := 12) dX0_build_12 0 rfl rfl ?_
  refine x_getI (pc := 13) dX0_build_13 fl_X0_7 rfl ha0 ?_
  refine s_if_ne (pc := 16) (tgt := 20) dX0_build_16 rfl (fun hc => ?_) (fun hc => ?_)
  · replace hf := p_ng hf hc
    refine s_aload_n (pc := 20) dX0_build_20 1 rfl rfl ?_
    obtain ⟨q6, h7, hf⟩ := p_bd hf
    have t8 : p_tp N q6 11 := WT.get hW ha1 h7
    refine x_getR (pc := 21) dX0_build_21 fl_X0_45 rfl ha1 h7 ?_
    refine s_aload_n (pc := 24) dX0_build_24 0 rfl rfl ?_
    refine x_getI (pc := 25) dX0_build_25 fl_X0_32 rfl ha0 ?_
    refine s_iconst (pc := 28) dX0_build_28 (v := nI 0) rfl ?_
    obtain ⟨q9, h10, hf⟩ := p_bd hf
    refine y_callV1 (pc := 29) dX0_build_29 (c_X8_get (p_dd hd (by decide)) hW t8 h10) mk_X8_get mv_X8_get ml_X0_49 rfl rfl (Nat.le_of_ble_eq_true rfl) t8 rfl (p_d1 hd (by decide)) (Nat.le_of_ble_eq_true rfl) ?_
    refine s_istore_n (pc := 32) (lo' := [(2, .int q9), (0, .ref a0), (1, .ref a1)]) dX0_build_32 rfl (Nat.le_of_ble_eq_true rfl) rfl ?_
    refine s_aload_n (pc := 33) dX0_build_33 2 rfl rfl ?_
    obtain ⟨q11, h12, hf⟩ := p_bd hf
    have t13 : p_tp N q11 11 := WT.get hW ha1 h12
    refine x_getR (pc := 34) dX0_build_34 fl_X0_45 rfl ha1 h12 ?_
    refine s_aload_n (pc := 37) dX0_build_37 1 rfl rfl ?_
    refine x_getI (pc := 38) dX0_build_38 fl_X0_32 rfl ha0 ?_
    refine s_iconst (pc := 41) dX0_build_41 (v := nI 1) rfl ?_
    obtain ⟨q14, h15, hf⟩ := p_bd hf
    refine y_callV1 (pc := 42) dX0_build_42 (c_X8_get (p_dd hd (by decide)) hW t13 h15) mk_X8_get mv_X8_get ml_X0_49 rfl rfl (Nat.le_of_ble_eq_true rfl) t13 rfl (p_d1 hd (by decide)) (Nat.le_of_ble_eq_true rfl) ?_
    refine s_istore_n (pc := 45) (lo' := [(3, .int q14), (2, .int q9), (0, .ref a0), (1, .ref a1)]) dX0_build_45 rfl (Nat.le_of_ble_eq_true rfl) rfl ?_
    refine s_aload_n (pc := 46) dX0_build_46 2 rfl rfl ?_
    refine s_iload_n (pc := 47) dX0_build_47 1 rfl rfl ?_
    refine s_aload_n (pc := 48) dX0_build_48 3 rfl rfl ?_
    obtain ⟨q16, h17, hf⟩ := p_bd hf
    have t18 : p_tp N q16 11 := WT.get hW ha1 h17
    refine x_getR (pc := 49) dX0_build_49 fl_X0_45 rfl ha1 h17 ?_
    refine s_aload_n (pc := 52) dX0_build_52 2 rfl rfl ?_
    refine x_getI (pc := 53) dX0_build_53 fl_X0_32 rfl ha0 ?_
    refine s_iconst (pc := 56) dX0_build_56 (v := nI 2) rfl ?_
    obtain ⟨q19, h20, hf⟩ := p_bd hf
    refine y_callV1 (pc := 57) dX0_build_57 (c_X8_get (p_dd hd (by decide)) hW t18 h20) mk_X8_get mv_X8_get ml_X0_49 rfl rfl (Nat.le_of_ble_eq_true rfl) t18 rfl (p_d1 hd (by decide)) (Nat.le_of_ble_eq_true rfl) ?_
    obtain ⟨t21, hg, hf⟩ := p_lx2 hf
    have k22 : SW G mX0_build (p_rm d 0 0) 0 0 0 0 (p_R none N qq L P) 68 [(3, .int q14), (2, .int q9), (0, .ref a0), (1, .ref a1)] [.int t21, .ref a0] N I4 L P := by
      obtain ⟨c23, hf⟩ := p_ckx hf
      refine x_putZ (pc := 68) dX0_build_68 fl_X0_13 (Or.inl rfl) rfl (of_decide_eq_true c23) ha0 ?_
      refine s_nmI (fun I24 e25 => ?_)
      replace hf := p_lx hf e25
      refine s_aload_n (pc := 71) dX0_build_71 2 rfl rfl ?_
      refine s_aload_n (pc := 72) dX0_build_72 2 rfl rfl ?_
      refine x_getI (pc := 73) dX0_build_73 fl_X0_13 rfl ha0 ?_
      obtain ⟨t26, hg, hf⟩ := p_lx2 hf
      have k27 : SW G mX0_build (p_rm d 0 0) 0 0 0 0 (p_R none N qq L P) 84 [(3, .int q14), (2, .int q9), (0, .ref a0), (1, .ref a1)] [.int t26, .ref a0] N I24 L P := by
        refine x_putI (pc := 84) dX0_build_84 fl_X0_16 (Or.inl rfl) rfl ha0 ?_
        refine s_nmI (fun I28 e29 => ?_)
        replace hf := p_lx hf e29
        refine s_aload_n (pc := 87) dX0_build_87 2 rfl rfl ?_
        refine s_aload_n (pc := 88) dX0_build_88 2 rfl rfl ?_
        refine x_getI (pc := 89) dX0_build_89 fl_X0_13 rfl ha0 ?_
        obtain ⟨t30, hg, hf⟩ := p_lx2 hf
        have k31 : SW G mX0_build (p_rm d 0 0) 0 0 0 0 (p_R none N qq L P) 100 [(0, .ref a0), (1, .ref a1)] [.int t30, .ref a0] N I28 L P := by
          refine x_putI (pc := 100) dX0_build_100 fl_X0_20 (Or.inl rfl) rfl ha0 ?_
          refine s_nmI (fun I32 e33 => ?_)
          replace hf := p_lx hf e33
          refine s_aload_n (pc := 103) dX0_build_103 0 rfl rfl ?_
          refine s_aload_n (pc := 104) dX0_build_104 1 rfl rfl ?_
          obtain ⟨q34, h35, hf⟩ := p_bd hf
          have t36 : p_tp N q34 11 := WT.get hW ha1 h35
          refine x_getR (pc := 105) dX0_build_105 fl_X0_45 rfl ha1 h35 ?_
          refine s_aload_n (pc := 108) dX0_build_108 0 rfl rfl ?_
          refine x_getI (pc := 109) dX0_build_109 fl_X0_32 rfl ha0 ?_
          refine s_aload_n (pc := 112) dX0_build_112 0 rfl rfl ?_
          refine x_getI (pc := 113) dX0_build_113 fl_X0_13 rfl ha0 ?_
          obtain ⟨t37, hg, hf⟩ := p_lx2 hf
          have k38 : SW G mX0_build (p_rm d 0 0) 0 0 0 0 (p_R none N qq L P) 124 [(0, .ref a0), (1, .ref a1)] [.int t37, .int (I32 a0 0), .ref q34, .ref a0] N I32 L P := by
            obtain ⟨q39, h40, hf⟩ := p_bd hf
            refine y_callV1 (pc := 124) dX0_build_124 (c_X8_get (p_dd hd (by decide)) hW t36 h40) mk_X8_get mv_X8_get ml_X0_49 rfl rfl (Nat.le_of_ble_eq_true rfl) t36 rfl (p_d1 hd (by decide)) (Nat.le_of_ble_eq_true rfl) ?_
            refine x_putI (pc := 127) dX0_build_127 fl_X0_23 (Or.inl rfl) rfl ha0 ?_
            refine s_nmI (fun I41 e42 => ?_)
            replace hf := p_lx hf e42
            refine s_aload_n (pc := 130) dX0_build_130 1 rfl rfl ?_
            obtain ⟨q43, h44, hf⟩ := p_bd hf
            have t45 : p_tp N q43 11 := WT.get hW ha1 h44
            refine x_getR (pc := 131) dX0_build_131 fl_X0_45 rfl ha1 h44 ?_
            refine s_aload_n (pc := 134) dX0_build_134 0 rfl rfl ?_
            refine x_getI (pc := 135) dX0_build_135 fl_X0_32 rfl ha0 ?_
            refine s_iconst (pc := 138) dX0_build_138 (v := nI 4) rfl ?_
            obtain ⟨q46, h47, hf⟩ := p_bd hf
            refine y_callV1 (pc := 139) dX0_build_139 (c_X8_get (p_dd hd (by decide)) hW t45 h47) mk_X8_get mv_X8_get ml_X0_49 rfl rfl (Nat.le_of_ble_eq_true rfl) t45 rfl (p_d1 hd (by decide)) (Nat.le_of_ble_eq_true rfl) ?_
            refine s_istore (pc := 142) (lo' := [(4, .int q46), (0, .ref a0), (1, .ref a1)]) dX0_build_142 (Nat.le_of_ble_eq_true rfl) rfl ?_
            refine s_aload_n (pc := 144) dX0_build_144 1 rfl rfl ?_
            refine s_aload_n (pc := 145) dX0_build_145 2 rfl rfl ?_
            obtain ⟨q48, h49, hf⟩ := p_bd hf
            have t50 : p_tp N q48 11 := WT.get hW ha1 h49
            refine x_getR (pc := 146) dX0_build_146 fl_X0_55 rfl ha1 h49 ?_
            refine s_iload (pc := 149) dX0_build_149 0 rfl ?_
            refine s_iconst (pc := 151) dX0_build_151 (v := nI 0) rfl ?_
            obtain ⟨q51, h52, hf⟩ := p_bd hf
            refine y_callV1 (pc := 152) dX0_build_152 (c_X8_get (p_dd hd (by decide)) hW t50 h52) mk_X8_get mv_X8_get ml_X0_49 rfl rfl (Nat.le_of_ble_eq_true rfl) t50 rfl (p_d1 hd (by decide)) (Nat.le_of_ble_eq_true rfl) ?_
            refine x_putI (pc := 155) dX0_build_155 fl_X0_26 (Or.inl rfl) rfl ha0 ?_
            refine s_nmI (fun I53 e54 => ?_)
            replace hf := p_lx hf e54
            refine s_aload_n (pc := 158) dX0_build_158 1 rfl rfl ?_
            refine s_aload_n (pc := 159) dX0_build_159 2 rfl rfl ?_
            obtain ⟨q55, h56, hf⟩ := p_bd hf
            have t57 : p_tp N q55 11 := WT.get hW ha1 h56
            refine x_getR (pc := 160) dX0_build_160 fl_X0_55 rfl ha1 h56 ?_
            refine s_iload (pc := 163) dX0_build_163 0 rfl ?_
            refine s_iconst (pc := 165) dX0_build_165 (v := nI 1) rfl ?_
            obtain ⟨q58, h59, hf⟩ := p_bd hf
            refine y_callV1 (pc := 166) dX0_build_166 (c_X8_get (p_dd hd (by decide)) hW t57 h59) mk_X8_get mv_X8_get ml_X0_49 rfl rfl (Nat.le_of_ble_eq_true rfl) t57 rfl (p_d1 hd (by decide)) (Nat.le_of_ble_eq_true rfl) ?_
            refine x_putI (pc := 169) dX0_build_169 fl_X0_29 (Or.inl rfl) rfl ha0 ?_
            refine s_nmI (fun I60 e61 => ?_)
            replace hf := p_lx hf e61
            cases hf
            exact s_return (pc := 172) dX0_build_172 rfl ⟨rfl, rfl, rfl, rfl, rfl⟩
          replace hf := hg.symm
          refine s_if_eq (pc := 116) (tgt := 123) dX0_build_116 rfl (fun hc => ?_) (fun hc => ?_)
          · replace hf := p_ps hf hc
            refine s_iconst (pc := 123) dX0_build_123 (v := nI 2) rfl ?_
            cases hf
            exact s_lo [0, 1] rfl (k38)
          · replace hf := p_ng hf hc
            refine s_iconst (pc := 119) dX0_build_119 (v := nI 3) rfl ?_
            refine s_goto (pc := 120) (tgt := 124) dX0_build_120 rfl ?_
            cases hf
            exact s_lo [0, 1] rfl (k38)
        replace hf := hg.symm
        refine s_if_eq (pc := 92) (tgt := 99) dX0_build_92 rfl (fun hc => ?_) (fun hc => ?_)
        · replace hf := p_ps hf hc
          refine s_iload_n (pc := 99) dX0_build_99 1 rfl rfl ?_
          cases hf
          exact s_lo [2, 3] rfl (k31)
        · replace hf := p_ng hf hc
          refine s_iload_n (pc := 95) dX0_build_95 0 rfl rfl ?_
          refine s_goto (pc := 96) (tgt := 100) dX0_build_96 rfl ?_
          cases hf
          exact s_lo [2, 3] rfl (k31)
      replace hf := hg.symm
      refine s_if_eq (pc := 76) (tgt := 83) dX0_build_76 rfl (fun hc => ?_) (fun hc => ?_)
      · replace hf := p_ps hf hc
        refine s_iload_n (pc := 83) dX0_build_83 0 rfl rfl ?_
        cases hf
        exact s_lo [0, 1, 2, 3] rfl (k27)
      · replace hf := p_ng hf hc
        refine s_iload_n (pc := 79) dX0_build_79 1 rfl rfl ?_
        refine s_goto (pc := 80) (tgt := 84) dX0_build_80 rfl ?_
        cases hf
        exact s_lo [0, 1, 2, 3] rfl (k27)
    replace hf := hg.symm
    refine s_icmp_ne (pc := 60) (tgt := 67) dX0_build_60 rfl (fun hc => ?_) (fun hc => ?_)
    · replace hf := p_ng hf hc
      refine s_iconst (pc := 67) dX0_build_67 (v := nI 0) rfl ?_
      cases hf
      exact s_lo [0, 1, 2, 3] rfl (k22)
    · replace hf := p_ps hf hc
      refine s_iconst (pc := 63) dX0_build_63 (v := nI 1) rfl ?_
      refine s_goto (pc := 64) (tgt := 68) dX0_build_64 rfl ?_
      cases hf
      exact s_lo [0, 1, 2, 3] rfl (k22)
  · replace hf := p_ps hf hc
    cases hf
    exact s_return (pc := 19) dX0_build_19 rfl ⟨rfl, rfl, rfl, rfl, rfl⟩
def J_X0_meets_92 (I : pI) (L : pL) (x6 : Int64) (x4 : Int64) (a0 : Nat) (a1 : Nat) (a2 : Nat) (a3 : Nat) : Option (Int32 × pL) :=
  p_let (α := Int64) ((if 0 ≤ x6 then
    x6
  else
    -x6)) fun t9 =>
  p_let (α := Int64) ((if 0 ≤ x4 then
    x4
  else
    -x4)) fun t11 =>
  p_let (p_u L a3 0 (((L a1 0) * t9) + ((L a2 0) * t11))) fun L13 =>
  p_let (p_u L13 a3 1 (((L13 a1 1) * t9) + ((L13 a2 1) * t11))) fun L15 =>
  p_let (p_u L15 a3 2 (((L15 a1 2) * t9) + ((L15 a2 2) * t11))) fun L17 =>
  p_let (α := Int64) ((if (I a0 3) = 0 then
    L17 a3 0
  else
    L17 a3 1)) fun t19 =>
  (if t19 < ((Int32.toInt64 (I a0 5)) * (L17 a3 2)) then
    some (nI 0, L17)
  else
    (if ((Int32.toInt64 (I a0 6)) * (L17 a3 2)) < t19 then
      some (nI 0, L17)
    else
      some (nI 1, L17)))
def J_X0_meets_76 (I : pI) (L : pL) (x6 : Int64) (x4 : Int64) (a0 : Nat) (a1 : Nat) (a2 : Nat) (a3 : Nat) : Option (Int32 × pL) :=
  (if x4 ≤ 0 then
    some (nI 0, L)
  else
    (if x6 < 0 then
      J_X0_meets_92 I L x6 x4 a0 a1 a2 a3
    else
      some (nI 0, L)))
def f_X0_meets (I : pI) (L : pL) (a0 : Nat) (a1 : Nat) (a2 : Nat) (a3 : Nat) : Option (Int32 × pL) :=
  p_let (α := Int64) ((if (I a0 3) = 0 then
    L a1 1
  else
    L a1 0)) fun t1 =>
  p_let (t1 - ((Int32.toInt64 (I a0 4)) * (L a1 2))) fun v3 =>
  p_let (α := Int64) ((if (I a0 3) = 0 then
    L a2 1
  else
    L a2 0)) fun t5 =>
  p_let (t5 - ((Int32.toInt64 (I a0 4)) * (L a2 2))) fun v7 =>
  (if 0 ≤ v3 then
    J_X0_meets_76 I L v7 v3 a0 a1 a2 a3
  else
    (if 0 < v7 then
      J_X0_meets_92 I L v7 v3 a0 a1 a2 a3
    else
      J_X0_meets_76 I L v7 v3 a0 a1 a2 a3))
theorem c_X0_meets {G : pG} {d : Nat} {N : pN} {I : pI} {L : pL} {P : pR} {a0 : Nat} {a1 : Nat} {a2 : Nat} {a3 : Nat} {qq : Int32 × pL} (hd : 0 ≤ d) (hW : WT N P) (ha0 : p_tp N a0 3) (ha1 : p_tp N a1 9) (ha2 : p_tp N a2 9) (ha3 : p_tp N a3 9) (hf : f_X0_meets I L a0 a1 a2 a3 = some qq) : MT G mX0_meets d 0 0 [.ref a0, .ref a1, .ref a2, .ref a3] N I L P (p_R (some (.int qq.1)) N I qq.2 P) := by
  refine MT.of rfl (Nat.le_of_ble_eq_true rfl) ?_
  show SW G mX0_meets (p_rm d 0 0) 0 0 0 0 (p_R (some (.int qq.1)) N I qq.2 P) 0 [(0, .ref a0), (1, .ref a1), (2, .ref a2), (3, .ref a3)] [] N I L P
  unfold f_X0_meets at hf
  refine s_aload_n (pc := 0) dX0_meets_0 0 rfl rfl ?_
  refine x_getI (pc := 1) dX0_meets_1 fl_X0_13 rfl ha0 ?_
  obtain ⟨t1, hg, hf⟩ := p_lx2 hf
  have k2 : SW G mX0_meets (p_rm d 0 0) 0 0 0 0 (p_R (some (.int qq.1)) N I qq.2 P) 18 [(0, .ref a0), (1, .ref a1), (2, .ref a2), (3, .ref a3)] [.long t1] N I L P := by
    refine s_aload_n (pc := 18) dX0_meets_18 0 rfl rfl ?_
    refine x_getI (pc := 19) dX0_meets_19 fl_X0_16 rfl ha0 ?_
    refine s_i2l (pc := 22) dX0_meets_22 ?_
    refine s_aload_n (pc := 23) dX0_meets_23 1 rfl rfl ?_
    refine x_getL (pc := 24) dX0_meets_24 fl_X0_67 rfl ha1 ?_
    refine s_lmul (pc := 27) dX0_meets_27 ?_
    refine s_lsub (pc := 28) dX0_meets_28 ?_
    refine s_topl (fun v3 e4 => ?_)
    replace hf := p_lx hf e4
    refine s_lstore (pc := 29) (lo' := [(4, .long v3), (0, .ref a0), (1, .ref a1), (2, .ref a2), (3, .ref a3)]) dX0_meets_29 (Nat.le_of_ble_eq_true rfl) rfl ?_
    refine s_aload_n (pc := 31) dX0_meets_31 1 rfl rfl ?_
    refine x_getI (pc := 32) dX0_meets_32 fl_X0_13 rfl ha0 ?_
    obtain ⟨t5, hg, hf⟩ := p_lx2 hf
    have k6 : SW G mX0_meets (p_rm d 0 0) 0 0 0 0 (p_R (some (.int qq.1)) N I qq.2 P) 49 [(4, .long v3), (0, .ref a0), (1, .ref a1), (2, .ref a2), (3, .ref a3)] [.long t5] N I L P := by
      refine s_aload_n (pc := 49) dX0_meets_49 1 rfl rfl ?_
      refine x_getI (pc := 50) dX0_meets_50 fl_X0_16 rfl ha0 ?_
      refine s_i2l (pc := 53) dX0_meets_53 ?_
      refine s_aload_n (pc := 54) dX0_meets_54 3 rfl rfl ?_
      refine x_getL (pc := 55) dX0_meets_55 fl_X0_67 rfl ha2 ?_
      refine s_lmul (pc := 58) dX0_meets_58 ?_
      refine s_lsub (pc := 59) dX0_meets_59 ?_
      refine s_topl (fun v7 e8 => ?_)
      replace hf := p_lx hf e8
      refine s_lstore (pc := 60) (lo' := [(6, .long v7), (4, .long v3), (0, .ref a0), (1, .ref a1), (2, .ref a2), (3, .ref a3)]) dX0_meets_60 (Nat.le_of_ble_eq_true rfl) rfl ?_
      refine s_lload (pc := 62) dX0_meets_62 1 rfl ?_
      refine s_lconst (pc := 64) dX0_meets_64 (v := 0) rfl ?_
      have k21 : J_X0_meets_92 I L v7 v3 a0 a1 a2 a3 = some qq → SW G mX0_meets (p_rm d 0 0) 0 0 0 0 (p_R (some (.int qq.1)) N I qq.2 P) 92 [(6, .long v7), (4, .long v3), (0, .ref a0), (1, .ref a1), (2, .ref a2), (3, .ref a3)] [] N I L P := by
        intro hf
        unfold J_X0_meets_92 at hf
        refine s_lload (pc := 92) dX0_meets_92 0 rfl ?_
        refine s_lconst (pc := 94) dX0_meets_94 (v := 0) rfl ?_
        obtain ⟨t22, hg, hf⟩ := p_lx2 hf
        have k23 : SW G mX0_meets (p_rm d 0 0) 0 0 0 0 (p_R (some (.int qq.1)) N I qq.2 P) 107 [(4, .long v3), (0, .ref a0), (1, .ref a1), (2, .ref a2), (3, .ref a3)] [.long t22] N I L P := by
          refine s_lstore (pc := 107) (lo' := [(8, .long t22), (4, .long v3), (0, .ref a0), (1, .ref a1), (2, .ref a2), (3, .ref a3)]) dX0_meets_107 (Nat.le_of_ble_eq_true rfl) rfl ?_
          refine s_lload (pc := 109) dX0_meets_109 1 rfl ?_
          refine s_lconst (pc := 111) dX0_meets_111 (v := 0) rfl ?_
          obtain ⟨t24, hg, hf⟩ := p_lx2 hf
          have k25 : SW G mX0_meets (p_rm d 0 0) 0 0 0 0 (p_R (some (.int qq.1)) N I qq.2 P) 124 [(8, .long t22), (0, .ref a0), (1, .ref a1), (2, .ref a2), (3, .ref a3)] [.long t24] N I L P := by
            refine s_lstore (pc := 124) (lo' := [(10, .long t24), (8, .long t22), (0, .ref a0), (1, .ref a1), (2, .ref a2), (3, .ref a3)]) dX0_meets_124 (Nat.le_of_ble_eq_true rfl) rfl ?_
            refine s_aload_n (pc := 126) dX0_meets_126 5 rfl rfl ?_
            refine s_aload_n (pc := 127) dX0_meets_127 3 rfl rfl ?_
            refine x_getL (pc := 128) dX0_meets_128 fl_X0_58 rfl ha1 ?_
            refine s_lload (pc := 131) dX0_meets_131 1 rfl ?_
            refine s_lmul (pc := 133) dX0_meets_133 ?_
            refine s_aload_n (pc := 134) dX0_meets_134 4 rfl rfl ?_
            refine x_getL (pc := 135) dX0_meets_135 fl_X0_58 rfl ha2 ?_
            refine s_lload (pc := 138) dX0_meets_138 0 rfl ?_
            refine s_lmul (pc := 140) dX0_meets_140 ?_
            refine s_ladd (pc := 141) dX0_meets_141 ?_
            refine x_putL (pc := 142) dX0_meets_142 fl_X0_58 (Or.inl rfl) rfl ha3 ?_
            refine s_nmL (fun L26 e27 => ?_)
            replace hf := p_lx hf e27
            refine s_aload_n (pc := 145) dX0_meets_145 5 rfl rfl ?_
            refine s_aload_n (pc := 146) dX0_meets_146 3 rfl rfl ?_
            refine x_getL (pc := 147) dX0_meets_147 fl_X0_64 rfl ha1 ?_
            refine s_lload (pc := 150) dX0_meets_150 1 rfl ?_
            refine s_lmul (pc := 152) dX0_meets_152 ?_
            refine s_aload_n (pc := 153) dX0_meets_153 4 rfl rfl ?_
            refine x_getL (pc := 154) dX0_meets_154 fl_X0_64 rfl ha2 ?_
            refine s_lload (pc := 157) dX0_meets_157 0 rfl ?_
            refine s_lmul (pc := 159) dX0_meets_159 ?_
            refine s_ladd (pc := 160) dX0_meets_160 ?_
            refine x_putL (pc := 161) dX0_meets_161 fl_X0_64 (Or.inl rfl) rfl ha3 ?_
            refine s_nmL (fun L28 e29 => ?_)
            replace hf := p_lx hf e29
            refine s_aload_n (pc := 164) dX0_meets_164 5 rfl rfl ?_
            refine s_aload_n (pc := 165) dX0_meets_165 3 rfl rfl ?_
            refine x_getL (pc := 166) dX0_meets_166 fl_X0_67 rfl ha1 ?_
            refine s_lload (pc := 169) dX0_meets_169 1 rfl ?_
            refine s_lmul (pc := 171) dX0_meets_171 ?_
            refine s_aload_n (pc := 172) dX0_meets_172 4 rfl rfl ?_
            refine x_getL (pc := 173) dX0_meets_173 fl_X0_67 rfl ha2 ?_
            refine s_lload (pc := 176) dX0_meets_176 0 rfl ?_
            refine s_lmul (pc := 178) dX0_meets_178 ?_
            refine s_ladd (pc := 179) dX0_meets_179 ?_
            refine x_putL (pc := 180) dX0_meets_180 fl_X0_67 (Or.inl rfl) rfl ha3 ?_
            refine s_nmL (fun L30 e31 => ?_)
            replace hf := p_lx hf e31
            refine s_aload_n (pc := 183) dX0_meets_183 2 rfl rfl ?_
            refine x_getI (pc := 184) dX0_meets_184 fl_X0_13 rfl ha0 ?_
            obtain ⟨t32, hg, hf⟩ := p_lx2 hf
            have k33 : SW G mX0_meets (p_rm d 0 0) 0 0 0 0 (p_R (some (.int qq.1)) N I qq.2 P) 201 [(0, .ref a0), (3, .ref a3)] [.long t32] N I L30 P := by
              refine s_lstore (pc := 201) (lo' := [(12, .long t32), (0, .ref a0), (3, .ref a3)]) dX0_meets_201 (Nat.le_of_ble_eq_true rfl) rfl ?_
              refine s_aload_n (pc := 203) dX0_meets_203 1 rfl rfl ?_
              refine x_getI (pc := 204) dX0_meets_204 fl_X0_20 rfl ha0 ?_
              refine s_i2l (pc := 207) dX0_meets_207 ?_
              refine s_aload_n (pc := 208) dX0_meets_208 2 rfl rfl ?_
              refine x_getL (pc := 209) dX0_meets_209 fl_X0_67 rfl ha3 ?_
              refine s_lmul (pc := 212) dX0_meets_212 ?_
              refine s_lload (pc := 213) dX0_meets_213 0 rfl ?_
              refine x_lcmp_gt (pc := 215) (tgt := 239) dX0_meets_215 dX0_meets_216 rfl (fun hc => ?_) (fun hc => ?_)
              · replace hf := p_ps hf hc
                refine s_iconst (pc := 239) dX0_meets_239 (v := nI 0) rfl ?_
                cases hf
                exact s_ireturn (pc := 240) dX0_meets_240 rfl rfl ⟨rfl, rfl, rfl, rfl, rfl⟩
              · replace hf := p_ng hf hc
                refine s_lload (pc := 219) dX0_meets_219 0 rfl ?_
                refine s_aload_n (pc := 221) dX0_meets_221 1 rfl rfl ?_
                refine x_getI (pc := 222) dX0_meets_222 fl_X0_23 rfl ha0 ?_
                refine s_i2l (pc := 225) dX0_meets_225 ?_
                refine s_aload_n (pc := 226) dX0_meets_226 2 rfl rfl ?_
                refine x_getL (pc := 227) dX0_meets_227 fl_X0_67 rfl ha3 ?_
                refine s_lmul (pc := 230) dX0_meets_230 ?_
                refine x_lcmp_gt (pc := 231) (tgt := 239) dX0_meets_231 dX0_meets_232 rfl (fun hc => ?_) (fun hc => ?_)
                · replace hf := p_ps hf hc
                  refine s_iconst (pc := 239) dX0_meets_239 (v := nI 0) rfl ?_
                  cases hf
                  exact s_ireturn (pc := 240) dX0_meets_240 rfl rfl ⟨rfl, rfl, rfl, rfl, rfl⟩
                · replace hf := p_ng hf hc
                  refine s_iconst (pc := 235) dX0_meets_235 (v := nI 1) rfl ?_
                  refine s_goto (pc := 236) (tgt := 240) dX0_meets_236 rfl ?_
                  cases hf
                  exact s_ireturn (pc := 240) dX0_meets_240 rfl rfl ⟨rfl, rfl, rfl, rfl, rfl⟩
            replace hf := hg.symm
            refine s_if_eq (pc := 187) (tgt := 197) dX0_meets_187 rfl (fun hc => ?_) (fun hc => ?_)
            · replace hf := p_ps hf hc
              refine s_aload_n (pc := 197) dX0_meets_197 5 rfl rfl ?_
              refine x_getL (pc := 198) dX0_meets_198 fl_X0_58 rfl ha3 ?_
              cases hf
              exact s_lo [2, 5] rfl (k33)
            · replace hf := p_ng hf hc
              refine s_aload_n (pc := 190) dX0_meets_190 5 rfl rfl ?_
              refine x_getL (pc := 191) dX0_meets_191 fl_X0_64 rfl ha3 ?_
              refine s_goto (pc := 194) (tgt := 201) dX0_meets_194 rfl ?_
              cases hf
              exact s_lo [2, 5] rfl (k33)
          replace hf := hg.symm
          refine x_lcmp_ge (pc := 112) (tgt := 122) dX0_meets_112 dX0_meets_113 rfl (fun hc => ?_) (fun hc => ?_)
          · replace hf := p_ps hf hc
            refine s_lload (pc := 122) dX0_meets_122 1 rfl ?_
            cases hf
            exact s_lo [0, 2, 3, 4, 5] rfl (k25)
          · replace hf := p_ng hf hc
            refine s_lload (pc := 116) dX0_meets_116 1 rfl ?_
            refine s_lneg (pc := 118) dX0_meets_118 ?_
            refine s_goto (pc := 119) (tgt := 124) dX0_meets_119 rfl ?_
            cases hf
            exact s_lo [0, 2, 3, 4, 5] rfl (k25)
        replace hf := hg.symm
        refine x_lcmp_ge (pc := 95) (tgt := 105) dX0_meets_95 dX0_meets_96 rfl (fun hc => ?_) (fun hc => ?_)
        · replace hf := p_ps hf hc
          refine s_lload (pc := 105) dX0_meets_105 0 rfl ?_
          cases hf
          exact s_lo [1, 2, 3, 4, 5] rfl (k23)
        · replace hf := p_ng hf hc
          refine s_lload (pc := 99) dX0_meets_99 0 rfl ?_
          refine s_lneg (pc := 101) dX0_meets_101 ?_
          refine s_goto (pc := 102) (tgt := 107) dX0_meets_102 rfl ?_
          cases hf
          exact s_lo [1, 2, 3, 4, 5] rfl (k23)
      have k34 : J_X0_meets_76 I L v7 v3 a0 a1 a2 a3 = some qq → SW G mX0_meets (p_rm d 0 0) 0 0 0 0 (p_R (some (.int qq.1)) N I qq.2 P) 76 [(6, .long v7), (4, .long v3), (0, .ref a0), (1, .ref a1), (2, .ref a2), (3, .ref a3)] [] N I L P := by
        intro hf
        unfold J_X0_meets_76 at hf
        refine s_lload (pc := 76) dX0_meets_76 1 rfl ?_
        refine s_lconst (pc := 78) dX0_meets_78 (v := 0) rfl ?_
        refine x_lcmp_le (pc := 79) (tgt := 90) dX0_meets_79 dX0_meets_80 rfl (fun hc => ?_) (fun hc => ?_)
        · replace hf := p_ps hf hc
          refine s_iconst (pc := 90) dX0_meets_90 (v := nI 0) rfl ?_
          cases hf
          exact s_ireturn (pc := 91) dX0_meets_91 rfl rfl ⟨rfl, rfl, rfl, rfl, rfl⟩
        · replace hf := p_ng hf hc
          refine s_lload (pc := 83) dX0_meets_83 0 rfl ?_
          refine s_lconst (pc := 85) dX0_meets_85 (v := 0) rfl ?_
          refine x_lcmp_lt (pc := 86) (tgt := 92) dX0_meets_86 dX0_meets_87 rfl (fun hc => ?_) (fun hc => ?_)
          · replace hf := p_ps hf hc
            exact s_lo [0, 1, 2, 3, 4, 5] rfl (k21 hf)
          · replace hf := p_ng hf hc
            refine s_iconst (pc := 90) dX0_meets_90 (v := nI 0) rfl ?_
            cases hf
            exact s_ireturn (pc := 91) dX0_meets_91 rfl rfl ⟨rfl, rfl, rfl, rfl, rfl⟩
      refine x_lcmp_ge (pc := 65) (tgt := 76) dX0_meets_65 dX0_meets_66 rfl (fun hc => ?_) (fun hc => ?_)
      · replace hf := p_ps hf hc
        exact s_lo [0, 1, 2, 3, 4, 5] rfl (k34 hf)
      · replace hf := p_ng hf hc
        refine s_lload (pc := 69) dX0_meets_69 0 rfl ?_
        refine s_lconst (pc := 71) dX0_meets_71 (v := 0) rfl ?_
        refine x_lcmp_gt (pc := 72) (tgt := 92) dX0_meets_72 dX0_meets_73 rfl (fun hc => ?_) (fun hc => ?_)
        · replace hf := p_ps hf hc
          exact s_lo [0, 1, 2, 3, 4, 5] rfl (k21 hf)
        · replace hf := p_ng hf hc
          exact s_lo [0, 1, 2, 3, 4, 5] rfl (k34 hf)
    replace hf := hg.symm
    refine s_if_eq (pc := 35) (tgt := 45) dX0_meets_35 rfl (fun hc => ?_) (fun hc => ?_)
    · replace hf := p_ps hf hc
      refine s_aload_n (pc := 45) dX0_meets_45 3 rfl rfl ?_
      refine x_getL (pc := 46) dX0_meets_46 fl_X0_64 rfl ha2 ?_
      cases hf
      exact s_lo [0, 1, 2, 3, 4] rfl (k6)
    · replace hf := p_ng hf hc
      refine s_aload_n (pc := 38) dX0_meets_38 3 rfl rfl ?_
      refine x_getL (pc := 39) dX0_meets_39 fl_X0_58 rfl ha2 ?_
      refine s_goto (pc := 42) (tgt := 49) dX0_meets_42 rfl ?_
      cases hf
      exact s_lo [0, 1, 2, 3, 4] rfl (k6)
  replace hf := hg.symm
  refine s_if_eq (pc := 4) (tgt := 14) dX0_meets_4 rfl (fun hc => ?_) (fun hc => ?_)
  · replace hf := p_ps hf hc
    refine s_aload_n (pc := 14) dX0_meets_14 1 rfl rfl ?_
    refine x_getL (pc := 15) dX0_meets_15 fl_X0_64 rfl ha1 ?_
    cases hf
    exact s_lo [0, 1, 2, 3] rfl (k2)
  · replace hf := p_ng hf hc
    refine s_aload_n (pc := 7) dX0_meets_7 1 rfl rfl ?_
    refine x_getL (pc := 8) dX0_meets_8 fl_X0_58 rfl ha1 ?_
    refine s_goto (pc := 11) (tgt := 18) dX0_meets_11 rfl ?_
    cases hf
    exact s_lo [0, 1, 2, 3] rfl (k2)
def f_X6_put (L : pL) (a0 : Nat) (x1 : Int32) (x2 : Int32) : Option pL :=
  p_let (p_u L a0 0 (Int32.toInt64 x1)) fun L1 =>
  p_let (p_u L1 a0 1 (Int32.toInt64 x2)) fun L3 =>
  p_let (p_u L3 a0 2 1) fun L5 =>
  some L5
theorem c_X6_put {G : pG} {d : Nat} {N : pN} {I : pI} {L : pL} {P : pR} {a0 : Nat} {x1 : Int32} {x2 : Int32} {qq : pL} (hd : 0 ≤ d) (hW : WT N P) (ha0 : p_tp N a0 9) (hf : f_X6_put L a0 x1 x2 = some qq) : MT G mX6_put d 0 0 [.ref a0, .int x1, .int x2] N I L P (p_R none N I qq P) := by
  refine MT.of rfl (Nat.le_of_ble_eq_true rfl) ?_
  show SW G mX6_put (p_rm d 0 0) 0 0 0 0 (p_R none N I qq P) 0 [(0, .ref a0), (1, .int x1), (2, .int x2)] [] N I L P
  unfold f_X6_put at hf
  refine s_aload_n (pc := 0) dX6_put_0 0 rfl rfl ?_
  refine s_iload_n (pc := 1) dX6_put_1 1 rfl rfl ?_
  refine s_i2l (pc := 2) dX6_put_2 ?_
  refine x_putL (pc := 3) dX6_put_3 fl_X6_7 (Or.inl rfl) rfl ha0 ?_
  refine s_nmL (fun L1 e2 => ?_)
  replace hf := p_lx hf e2
  refine s_aload_n (pc := 6) dX6_put_6 0 rfl rfl ?_
  refine s_iload_n (pc := 7) dX6_put_7 2 rfl rfl ?_
  refine s_i2l (pc := 8) dX6_put_8 ?_
  refine x_putL (pc := 9) dX6_put_9 fl_X6_13 (Or.inl rfl) rfl ha0 ?_
  refine s_nmL (fun L3 e4 => ?_)
  replace hf := p_lx hf e4
  refine s_aload_n (pc := 12) dX6_put_12 0 rfl rfl ?_
  refine s_lconst (pc := 13) dX6_put_13 (v := 1) rfl ?_
  refine x_putL (pc := 14) dX6_put_14 fl_X6_16 (Or.inl rfl) rfl ha0 ?_
  refine s_nmL (fun L5 e6 => ?_)
  replace hf := p_lx hf e6
  cases hf
  exact s_return (pc := 17) dX6_put_17 rfl ⟨rfl, rfl, rfl, rfl, rfl⟩
def f_X0_putEnd (I : pI) (L : pL) (a0 : Nat) (x1 : Int32) (a2 : Nat) : Option pL :=
  p_let (α := Int32) ((if x1 = 0 then
    I a0 5
  else
    I a0 6)) fun t1 =>
  p_let (α := Int32) ((if (I a0 3) = 0 then
    t1
  else
    I a0 4)) fun t3 =>
  (if (I a0 3) = 0 then
    Option.bind (f_X6_put L a2 t3 (I a0 4)) fun q5 =>
    some q5
  else
    Option.bind (f_X6_put L a2 t3 t1) fun q7 =>
    some q7)
theorem c_X0_putEnd {G : pG} {d : Nat} {N : pN} {I : pI} {L : pL} {P : pR} {a0 : Nat} {x1 : Int32} {a2 : Nat} {qq : pL} (hd : 1 ≤ d) (hW : WT N P) (ha0 : p_tp N a0 3) (ha2 : p_tp N a2 9) (hf : f_X0_putEnd I L a0 x1 a2 = some qq) : MT G mX0_putEnd d 0 0 [.ref a0, .int x1, .ref a2] N I L P (p_R none N I qq P) := by
  refine MT.of rfl (Nat.le_of_ble_eq_true rfl) ?_
  show SW G mX0_putEnd (p_rm d 0 0) 0 0 0 0 (p_R none N I qq P) 0 [(0, .ref a0), (1, .int x1), (2, .ref a2)] [] N I L P
  unfold f_X0_putEnd at hf
  refine s_iload_n (pc := 0) dX0_putEnd_0 1 rfl rfl ?_
  obtain ⟨t1, hg, hf⟩ := p_lx2 hf
  have k2 : SW G mX0_putEnd (p_rm d 0 0) 0 0 0 0 (p_R none N I qq P) 15 [(0, .ref a0), (2, .ref a2)] [.int t1] N I L P := by
    refine s_istore_n (pc := 15) (lo' := [(3, .int t1), (0, .ref a0), (2, .ref a2)]) dX0_putEnd_15 rfl (Nat.le_of_ble_eq_true rfl) rfl ?_
    refine s_aload_n (pc := 16) dX0_putEnd_16 2 rfl rfl ?_
    refine s_aload_n (pc := 17) dX0_putEnd_17 1 rfl rfl ?_
    refine x_getI (pc := 18) dX0_putEnd_18 fl_X0_13 rfl ha0 ?_
    obtain ⟨t3, hg, hf⟩ := p_lx2 hf
    have k4 : SW G mX0_putEnd (p_rm d 0 0) 0 0 0 0 (p_R none N I qq P) 32 [(3, .int t1), (0, .ref a0)] [.int t3, .ref a2] N I L P := by
      refine s_aload_n (pc := 32) dX0_putEnd_32 1 rfl rfl ?_
      refine x_getI (pc := 33) dX0_putEnd_33 fl_X0_13 rfl ha0 ?_
      refine s_if_eq (pc := 36) (tgt := 43) dX0_putEnd_36 rfl (fun hc => ?_) (fun hc => ?_)
      · replace hf := p_ps hf hc
        refine s_aload_n (pc := 43) dX0_putEnd_43 1 rfl rfl ?_
        refine x_getI (pc := 44) dX0_putEnd_44 fl_X0_16 rfl ha0 ?_
        obtain ⟨q5, h6, hf⟩ := p_bd hf
        refine y_callV0 (pc := 47) dX0_putEnd_47 (c_X6_put (p_dd hd (by decide)) hW ha2 h6) mk_X6_put mv_X6_put ml_X0_70 rfl rfl (Nat.le_of_ble_eq_true rfl) ha2 rfl (p_d1 hd (by decide)) (Nat.le_of_ble_eq_true rfl) ?_
        cases hf
        exact s_return (pc := 50) dX0_putEnd_50 rfl ⟨rfl, rfl, rfl, rfl, rfl⟩
      · replace hf := p_ng hf hc
        refine s_iload_n (pc := 39) dX0_putEnd_39 0 rfl rfl ?_
        refine s_goto (pc := 40) (tgt := 47) dX0_putEnd_40 rfl ?_
        obtain ⟨q7, h8, hf⟩ := p_bd hf
        refine y_callV0 (pc := 47) dX0_putEnd_47 (c_X6_put (p_dd hd (by decide)) hW ha2 h8) mk_X6_put mv_X6_put ml_X0_70 rfl rfl (Nat.le_of_ble_eq_true rfl) ha2 rfl (p_d1 hd (by decide)) (Nat.le_of_ble_eq_true rfl) ?_
        cases hf
        exact s_return (pc := 50) dX0_putEnd_50 rfl ⟨rfl, rfl, rfl, rfl, rfl⟩
    replace hf := hg.symm
    refine s_if_eq (pc := 21) (tgt := 31) dX0_putEnd_21 rfl (fun hc => ?_) (fun hc => ?_)
    · replace hf := p_ps hf hc
      refine s_iload_n (pc := 31) dX0_putEnd_31 0 rfl rfl ?_
      cases hf
      exact s_lo [0, 1] rfl (k4)
    · replace hf := p_ng hf hc
      refine s_aload_n (pc := 24) dX0_putEnd_24 1 rfl rfl ?_
      refine x_getI (pc := 25) dX0_putEnd_25 fl_X0_16 rfl ha0 ?_
      refine s_goto (pc := 28) (tgt := 32) dX0_putEnd_28 rfl ?_
      cases hf
      exact s_lo [0, 1] rfl (k4)
  replace hf := hg.symm
  refine s_if_ne (pc := 1) (tgt := 11) dX0_putEnd_1 rfl (fun hc => ?_) (fun hc => ?_)
  · replace hf := p_ng hf hc
    refine s_aload_n (pc := 11) dX0_putEnd_11 0 rfl rfl ?_
    refine x_getI (pc := 12) dX0_putEnd_12 fl_X0_23 rfl ha0 ?_
    cases hf
    exact s_lo [0, 2] rfl (k2)
  · replace hf := p_ps hf hc
    refine s_aload_n (pc := 4) dX0_putEnd_4 0 rfl rfl ?_
    refine x_getI (pc := 5) dX0_putEnd_5 fl_X0_20 rfl ha0 ?_
    refine s_goto (pc := 8) (tgt := 15) dX0_putEnd_8 rfl ?_
    cases hf
    exact s_lo [0, 2] rfl (k2)
def f_X0_endsAt (I : pI) (L : pL) (a0 : Nat) (a1 : Nat) : Option Int32 :=
  p_let (α := Int64) ((if (I a0 3) = 0 then
    L a1 1
  else
    L a1 0)) fun t1 =>
  p_let (α := Int64) ((if (I a0 3) = 0 then
    L a1 0
  else
    L a1 1)) fun t3 =>
  (if t1 = (Int32.toInt64 (I a0 4)) then
    (if t3 = (Int32.toInt64 (I a0 5)) then
      some (nI 1)
    else
      (if t3 = (Int32.toInt64 (I a0 6)) then
        some (nI 1)
      else
        some (nI 0)))
  else
    some (nI 0))
theorem c_X0_endsAt {G : pG} {d : Nat} {N : pN} {I : pI} {L : pL} {P : pR} {a0 : Nat} {a1 : Nat} {qq : Int32} (hd : 0 ≤ d) (hW : WT N P) (ha0 : p_tp N a0 3) (ha1 : p_tp N a1 9) (hf : f_X0_endsAt I L a0 a1 = some qq) : MT G mX0_endsAt d 0 0 [.ref a0, .ref a1] N I L P (p_R (some (.int qq)) N I L P) := by
  refine MT.of rfl (Nat.le_of_ble_eq_true rfl) ?_
  show SW G mX0_endsAt (p_rm d 0 0) 0 0 0 0 (p_R (some (.int qq)) N I L P) 0 [(0, .ref a0), (1, .ref a1)] [] N I L P
  unfold f_X0_endsAt at hf
  refine s_aload_n (pc := 0) dX0_endsAt_0 0 rfl rfl ?_
  refine x_getI (pc := 1) dX0_endsAt_1 fl_X0_13 rfl ha0 ?_
  obtain ⟨t1, hg, hf⟩ := p_lx2 hf
  have k2 : SW G mX0_endsAt (p_rm d 0 0) 0 0 0 0 (p_R (some (.int qq)) N I L P) 18 [(0, .ref a0), (1, .ref a1)] [.long t1] N I L P := by
    refine s_lstore_n (pc := 18) (lo' := [(2, .long t1), (0, .ref a0), (1, .ref a1)]) dX0_endsAt_18 rfl (Nat.le_of_ble_eq_true rfl) rfl ?_
    refine s_aload_n (pc := 19) dX0_endsAt_19 1 rfl rfl ?_
    refine x_getI (pc := 20) dX0_endsAt_20 fl_X0_13 rfl ha0 ?_
    obtain ⟨t3, hg, hf⟩ := p_lx2 hf
    have k4 : SW G mX0_endsAt (p_rm d 0 0) 0 0 0 0 (p_R (some (.int qq)) N I L P) 37 [(2, .long t1), (0, .ref a0)] [.long t3] N I L P := by
      refine s_lstore (pc := 37) (lo' := [(4, .long t3), (2, .long t1), (0, .ref a0)]) dX0_endsAt_37 (Nat.le_of_ble_eq_true rfl) rfl ?_
      refine s_lload_n (pc := 39) dX0_endsAt_39 1 rfl rfl ?_
      refine s_aload_n (pc := 40) dX0_endsAt_40 2 rfl rfl ?_
      refine x_getI (pc := 41) dX0_endsAt_41 fl_X0_16 rfl ha0 ?_
      refine s_i2l (pc := 44) dX0_endsAt_44 ?_
      refine x_lcmp_ne (pc := 45) (tgt := 75) dX0_endsAt_45 dX0_endsAt_46 rfl (fun hc => ?_) (fun hc => ?_)
      · replace hf := p_ng hf hc
        refine s_iconst (pc := 75) dX0_endsAt_75 (v := nI 0) rfl ?_
        cases hf
        exact s_ireturn (pc := 76) dX0_endsAt_76 rfl rfl ⟨rfl, rfl, rfl, rfl, rfl⟩
      · replace hf := p_ps hf hc
        refine s_lload (pc := 49) dX0_endsAt_49 0 rfl ?_
        refine s_aload_n (pc := 51) dX0_endsAt_51 2 rfl rfl ?_
        refine x_getI (pc := 52) dX0_endsAt_52 fl_X0_20 rfl ha0 ?_
        refine s_i2l (pc := 55) dX0_endsAt_55 ?_
        refine x_lcmp_eq (pc := 56) (tgt := 71) dX0_endsAt_56 dX0_endsAt_57 rfl (fun hc => ?_) (fun hc => ?_)
        · replace hf := p_ps hf hc
          refine s_iconst (pc := 71) dX0_endsAt_71 (v := nI 1) rfl ?_
          refine s_goto (pc := 72) (tgt := 76) dX0_endsAt_72 rfl ?_
          cases hf
          exact s_ireturn (pc := 76) dX0_endsAt_76 rfl rfl ⟨rfl, rfl, rfl, rfl, rfl⟩
        · replace hf := p_ng hf hc
          refine s_lload (pc := 60) dX0_endsAt_60 0 rfl ?_
          refine s_aload_n (pc := 62) dX0_endsAt_62 2 rfl rfl ?_
          refine x_getI (pc := 63) dX0_endsAt_63 fl_X0_23 rfl ha0 ?_
          refine s_i2l (pc := 66) dX0_endsAt_66 ?_
          refine x_lcmp_ne (pc := 67) (tgt := 75) dX0_endsAt_67 dX0_endsAt_68 rfl (fun hc => ?_) (fun hc => ?_)
          · replace hf := p_ng hf hc
            refine s_iconst (pc := 75) dX0_endsAt_75 (v := nI 0) rfl ?_
            cases hf
            exact s_ireturn (pc := 76) dX0_endsAt_76 rfl rfl ⟨rfl, rfl, rfl, rfl, rfl⟩
          · replace hf := p_ps hf hc
            refine s_iconst (pc := 71) dX0_endsAt_71 (v := nI 1) rfl ?_
            refine s_goto (pc := 72) (tgt := 76) dX0_endsAt_72 rfl ?_
            cases hf
            exact s_ireturn (pc := 76) dX0_endsAt_76 rfl rfl ⟨rfl, rfl, rfl, rfl, rfl⟩
    replace hf := hg.symm
    refine s_if_eq (pc := 23) (tgt := 33) dX0_endsAt_23 rfl (fun hc => ?_) (fun hc => ?_)
    · replace hf := p_ps hf hc
      refine s_aload_n (pc := 33) dX0_endsAt_33 2 rfl rfl ?_
      refine x_getL (pc := 34) dX0_endsAt_34 fl_X0_58 rfl ha1 ?_
      cases hf
      exact s_lo [0, 1] rfl (k4)
    · replace hf := p_ng hf hc
      refine s_aload_n (pc := 26) dX0_endsAt_26 2 rfl rfl ?_
      refine x_getL (pc := 27) dX0_endsAt_27 fl_X0_64 rfl ha1 ?_
      refine s_goto (pc := 30) (tgt := 37) dX0_endsAt_30 rfl ?_
      cases hf
      exact s_lo [0, 1] rfl (k4)
  replace hf := hg.symm
  refine s_if_eq (pc := 4) (tgt := 14) dX0_endsAt_4 rfl (fun hc => ?_) (fun hc => ?_)
  · replace hf := p_ps hf hc
    refine s_aload_n (pc := 14) dX0_endsAt_14 1 rfl rfl ?_
    refine x_getL (pc := 15) dX0_endsAt_15 fl_X0_64 rfl ha1 ?_
    cases hf
    exact s_lo [0, 1] rfl (k2)
  · replace hf := p_ng hf hc
    refine s_aload_n (pc := 7) dX0_endsAt_7 1 rfl rfl ?_
    refine x_getL (pc := 8) dX0_endsAt_8 fl_X0_58 rfl ha1 ?_
    refine s_goto (pc := 11) (tgt := 18) dX0_endsAt_11 rfl ?_
    cases hf
    exact s_lo [0, 1] rfl (k2)
def f_X8_size (I : pI) (a0 : Nat) : Option Int32 :=
  some (I a0 3)
theorem c_X8_size {G : pG} {d : Nat} {N : pN} {I : pI} {L : pL} {P : pR} {a0 : Nat} {qq : Int32} (hd : 0 ≤ d) (hW : WT N P) (ha0 : p_tp N a0 11) (hf : f_X8_size I a0 = some qq) : MT G mX8_size d 0 0 [.ref a0] N I L P (p_R (some (.int qq)) N I L P) := by
  refine MT.of rfl (Nat.le_of_ble_eq_true rfl) ?_
  show SW G mX8_size (p_rm d 0 0) 0 0 0 0 (p_R (some (.int qq)) N I L P) 0 [(0, .ref a0)] [] N I L P
  unfold f_X8_size at hf
  refine s_aload_n (pc := 0) dX8_size_0 0 rfl rfl ?_
  refine x_getI (pc := 1) dX8_size_1 fl_X8_28 rfl ha0 ?_
  cases hf
  exact s_ireturn (pc := 4) dX8_size_4 rfl rfl ⟨rfl, rfl, rfl, rfl, rfl⟩
def f_X7_senderStands (N : pN) (I : pI) (P : pR) (a0 : Nat) (x1 : Int32) : Option Int32 :=
  Option.bind (P a0 2) fun q1 =>
  Option.bind (f_X8_has I q1 x1) fun q4 =>
  (if q4 = 0 then
    some (nI 0)
  else
    Option.bind (P a0 2) fun q6 =>
    Option.bind (f_X8_get N I P q6 x1 (nI 4)) fun q9 =>
    Option.bind (P a0 2) fun q11 =>
    Option.bind (f_X8_get N I P q11 x1 (nI 5)) fun q14 =>
    Option.bind (f_X7_isKnown I a0 q9 q14) fun q16 =>
    (if q16 = 0 then
      some (nI 0)
    else
      some (nI 1)))
theorem c_X7_senderStands {G : pG} {d : Nat} {N : pN} {I : pI} {L : pL} {P : pR} {a0 : Nat} {x1 : Int32} {qq : Int32} (hd : 1 ≤ d) (hW : WT N P) (ha0 : p_tp N a0 10) (hf : f_X7_senderStands N I P a0 x1 = some qq) : MT G mX7_senderStands d 0 0 [.ref a0, .int x1] N I L P (p_R (some (.int qq)) N I L P) := by
  refine MT.of rfl (Nat.le_of_ble_eq_true rfl) ?_
  show SW G mX7_senderStands (p_rm d 0 0) 0 0 0 0 (p_R (some (.int qq)) N I L P) 0 [(0, .ref a0), (1, .int x1)] [] N I L P
  unfold f_X7_senderStands at hf
  refine s_aload_n (pc := 0) dX7_senderStands_0 0 rfl rfl ?_
  obtain ⟨q1, h2, hf⟩ := p_bd hf
  have t3 : p_tp N q1 11 := WT.get hW ha0 h2
  refine x_getR (pc := 1) dX7_senderStands_1 fl_X7_23 rfl ha0 h2 ?_
  refine s_iload_n (pc := 4) dX7_senderStands_4 1 rfl rfl ?_
  obtain ⟨q4, h5, hf⟩ := p_bd hf
  refine y_callV1 (pc := 5) dX7_senderStands_5 (c_X8_has (p_dd hd (by decide)) hW t3 h5) mk_X8_has mv_X8_has ml_X7_79 rfl rfl (Nat.le_of_ble_eq_true rfl) t3 rfl (p_d1 hd (by decide)) (Nat.le_of_ble_eq_true rfl) ?_
  refine s_if_eq (pc := 8) (tgt := 40) dX7_senderStands_8 rfl (fun hc => ?_) (fun hc => ?_)
  · replace hf := p_ps hf hc
    refine s_iconst (pc := 40) dX7_senderStands_40 (v := nI 0) rfl ?_
    cases hf
    exact s_ireturn (pc := 41) dX7_senderStands_41 rfl rfl ⟨rfl, rfl, rfl, rfl, rfl⟩
  · replace hf := p_ng hf hc
    refine s_aload_n (pc := 11) dX7_senderStands_11 0 rfl rfl ?_
    refine s_aload_n (pc := 12) dX7_senderStands_12 0 rfl rfl ?_
    obtain ⟨q6, h7, hf⟩ := p_bd hf
    have t8 : p_tp N q6 11 := WT.get hW ha0 h7
    refine x_getR (pc := 13) dX7_senderStands_13 fl_X7_23 rfl ha0 h7 ?_
    refine s_iload_n (pc := 16) dX7_senderStands_16 1 rfl rfl ?_
    refine s_iconst (pc := 17) dX7_senderStands_17 (v := nI 4) rfl ?_
    obtain ⟨q9, h10, hf⟩ := p_bd hf
    refine y_callV1 (pc := 18) dX7_senderStands_18 (c_X8_get (p_dd hd (by decide)) hW t8 h10) mk_X8_get mv_X8_get ml_X7_75 rfl rfl (Nat.le_of_ble_eq_true rfl) t8 rfl (p_d1 hd (by decide)) (Nat.le_of_ble_eq_true rfl) ?_
    refine s_aload_n (pc := 21) dX7_senderStands_21 0 rfl rfl ?_
    obtain ⟨q11, h12, hf⟩ := p_bd hf
    have t13 : p_tp N q11 11 := WT.get hW ha0 h12
    refine x_getR (pc := 22) dX7_senderStands_22 fl_X7_23 rfl ha0 h12 ?_
    refine s_iload_n (pc := 25) dX7_senderStands_25 1 rfl rfl ?_
    refine s_iconst (pc := 26) dX7_senderStands_26 (v := nI 5) rfl ?_
    obtain ⟨q14, h15, hf⟩ := p_bd hf
    refine y_callV1 (pc := 27) dX7_senderStands_27 (c_X8_get (p_dd hd (by decide)) hW t13 h15) mk_X8_get mv_X8_get ml_X7_75 rfl rfl (Nat.le_of_ble_eq_true rfl) t13 rfl (p_d1 hd (by decide)) (Nat.le_of_ble_eq_true rfl) ?_
    obtain ⟨q16, h17, hf⟩ := p_bd hf
    refine y_callV1 (pc := 30) dX7_senderStands_30 (c_X7_isKnown (p_dd hd (by decide)) hW ha0 h17) mk_X7_isKnown mv_X7_isKnown ml_X7_83 rfl rfl (Nat.le_of_ble_eq_true rfl) ha0 rfl (p_d1 hd (by decide)) (Nat.le_of_ble_eq_true rfl) ?_
    refine s_if_eq (pc := 33) (tgt := 40) dX7_senderStands_33 rfl (fun hc => ?_) (fun hc => ?_)
    · replace hf := p_ps hf hc
      refine s_iconst (pc := 40) dX7_senderStands_40 (v := nI 0) rfl ?_
      cases hf
      exact s_ireturn (pc := 41) dX7_senderStands_41 rfl rfl ⟨rfl, rfl, rfl, rfl, rfl⟩
    · replace hf := p_ng hf hc
      refine s_iconst (pc := 36) dX7_senderStands_36 (v := nI 1) rfl ?_
      refine s_goto (pc := 37) (tgt := 41) dX7_senderStands_37 rfl ?_
      cases hf
      exact s_ireturn (pc := 41) dX7_senderStands_41 rfl rfl ⟨rfl, rfl, rfl, rfl, rfl⟩
def f_X11_isPoint (x0 : Int32) (x1 : Int32) : Option Int32 :=
  (if x0 < 0 then
    some (nI 0)
  else
    (if (nI 21) ≤ x0 then
      some (nI 0)
    else
      (if x1 < 0 then
        some (nI 0)
      else
        (if (nI 21) ≤ x1 then
          some (nI 0)
        else
          some (nI 1)))))
theorem c_X11_isPoint {G : pG} {d : Nat} {N : pN} {I : pI} {L : pL} {P : pR} {x0 : Int32} {x1 : Int32} {qq : Int32} (hd : 0 ≤ d) (hW : WT N P) (hf : f_X11_isPoint x0 x1 = some qq) : MT G mX11_isPoint d 0 0 [.int x0, .int x1] N I L P (p_R (some (.int qq)) N I L P) := by
  refine MT.of rfl (Nat.le_of_ble_eq_true rfl) ?_
  show SW G mX11_isPoint (p_rm d 0 0) 0 0 0 0 (p_R (some (.int qq)) N I L P) 0 [(0, .int x0), (1, .int x1)] [] N I L P
  unfold f_X11_isPoint at hf
  refine s_iload_n (pc := 0) dX11_isPoint_0 0 rfl rfl ?_
  refine s_if_lt (pc := 1) (tgt := 24) dX11_isPoint_1 rfl (fun hc => ?_) (fun hc => ?_)
  · replace hf := p_ps hf hc
    refine s_iconst (pc := 24) dX11_isPoint_24 (v := nI 0) rfl ?_
    cases hf
    exact s_ireturn (pc := 25) dX11_isPoint_25 rfl rfl ⟨rfl, rfl, rfl, rfl, rfl⟩
  · replace hf := p_ng hf hc
    refine s_iload_n (pc := 4) dX11_isPoint_4 0 rfl rfl ?_
    refine s_bipush (pc := 5) dX11_isPoint_5 (v := nI 21) rfl ?_
    refine s_icmp_ge (pc := 7) (tgt := 24) dX11_isPoint_7 rfl (fun hc => ?_) (fun hc => ?_)
    · replace hf := p_ps hf hc
      refine s_iconst (pc := 24) dX11_isPoint_24 (v := nI 0) rfl ?_
      cases hf
      exact s_ireturn (pc := 25) dX11_isPoint_25 rfl rfl ⟨rfl, rfl, rfl, rfl, rfl⟩
    · replace hf := p_ng hf hc
      refine s_iload_n (pc := 10) dX11_isPoint_10 1 rfl rfl ?_
      refine s_if_lt (pc := 11) (tgt := 24) dX11_isPoint_11 rfl (fun hc => ?_) (fun hc => ?_)
      · replace hf := p_ps hf hc
        refine s_iconst (pc := 24) dX11_isPoint_24 (v := nI 0) rfl ?_
        cases hf
        exact s_ireturn (pc := 25) dX11_isPoint_25 rfl rfl ⟨rfl, rfl, rfl, rfl, rfl⟩
      · replace hf := p_ng hf hc
        refine s_iload_n (pc := 14) dX11_isPoint_14 1 rfl rfl ?_
        refine s_bipush (pc := 15) dX11_isPoint_15 (v := nI 21) rfl ?_
        refine s_icmp_ge (pc := 17) (tgt := 24) dX11_isPoint_17 rfl (fun hc => ?_) (fun hc => ?_)
        · replace hf := p_ps hf hc
          refine s_iconst (pc := 24) dX11_isPoint_24 (v := nI 0) rfl ?_
          cases hf
          exact s_ireturn (pc := 25) dX11_isPoint_25 rfl rfl ⟨rfl, rfl, rfl, rfl, rfl⟩
        · replace hf := p_ng hf hc
          refine s_iconst (pc := 20) dX11_isPoint_20 (v := nI 1) rfl ?_
          refine s_goto (pc := 21) (tgt := 25) dX11_isPoint_21 rfl ?_
          cases hf
          exact s_ireturn (pc := 25) dX11_isPoint_25 rfl rfl ⟨rfl, rfl, rfl, rfl, rfl⟩
def f_X3_keyOf (x0 : Int32) (x1 : Int32) (x2 : Int32) : Option Int32 :=
  some ((((x0 * (nI 21)) + x2) * (nI 21)) + x1)
theorem c_X3_keyOf {G : pG} {d : Nat} {N : pN} {I : pI} {L : pL} {P : pR} {x0 : Int32} {x1 : Int32} {x2 : Int32} {qq : Int32} (hd : 0 ≤ d) (hW : WT N P) (hf : f_X3_keyOf x0 x1 x2 = some qq) : MT G mX3_keyOf d 0 0 [.int x0, .int x1, .int x2] N I L P (p_R (some (.int qq)) N I L P) := by
  refine MT.of rfl (Nat.le_of_ble_eq_true rfl) ?_
  show SW G mX3_keyOf (p_rm d 0 0) 0 0 0 0 (p_R (some (.int qq)) N I L P) 0 [(0, .int x0), (1, .int x1), (2, .int x2)] [] N I L P
  unfold f_X3_keyOf at hf
  refine s_iload_n (pc := 0) dX3_keyOf_0 0 rfl rfl ?_
  refine s_bipush (pc := 1) dX3_keyOf_1 (v := nI 21) rfl ?_
  refine s_imul (pc := 3) dX3_keyOf_3 ?_
  refine s_iload_n (pc := 4) dX3_keyOf_4 2 rfl rfl ?_
  refine s_iadd (pc := 5) dX3_keyOf_5 ?_
  refine s_bipush (pc := 6) dX3_keyOf_6 (v := nI 21) rfl ?_
  refine s_imul (pc := 8) dX3_keyOf_8 ?_
  refine s_iload_n (pc := 9) dX3_keyOf_9 1 rfl rfl ?_
  refine s_iadd (pc := 10) dX3_keyOf_10 ?_
  cases hf
  exact s_ireturn (pc := 11) dX3_keyOf_11 rfl rfl ⟨rfl, rfl, rfl, rfl, rfl⟩
def f_X8_cut (I : pI) (a0 : Nat) (x1 : Int32) : Option pI :=
  (if x1 < 0 then
    some I
  else
    (if (I a0 3) ≤ x1 then
      some I
    else
      p_let (p_u I a0 3 x1) fun I1 =>
      some I1))
theorem c_X8_cut {G : pG} {d : Nat} {N : pN} {I : pI} {L : pL} {P : pR} {a0 : Nat} {x1 : Int32} {qq : pI} (hd : 0 ≤ d) (hW : WT N P) (ha0 : p_tp N a0 11) (hf : f_X8_cut I a0 x1 = some qq) : MT G mX8_cut d 0 0 [.ref a0, .int x1] N I L P (p_R none N qq L P) := by
  refine MT.of rfl (Nat.le_of_ble_eq_true rfl) ?_
  show SW G mX8_cut (p_rm d 0 0) 0 0 0 0 (p_R none N qq L P) 0 [(0, .ref a0), (1, .int x1)] [] N I L P
  unfold f_X8_cut at hf
  refine s_iload_n (pc := 0) dX8_cut_0 1 rfl rfl ?_
  refine s_if_lt (pc := 1) (tgt := 17) dX8_cut_1 rfl (fun hc => ?_) (fun hc => ?_)
  · replace hf := p_ps hf hc
    cases hf
    exact s_return (pc := 17) dX8_cut_17 rfl ⟨rfl, rfl, rfl, rfl, rfl⟩
  · replace hf := p_ng hf hc
    refine s_iload_n (pc := 4) dX8_cut_4 1 rfl rfl ?_
    refine s_aload_n (pc := 5) dX8_cut_5 0 rfl rfl ?_
    refine x_getI (pc := 6) dX8_cut_6 fl_X8_28 rfl ha0 ?_
    refine s_icmp_ge (pc := 9) (tgt := 17) dX8_cut_9 rfl (fun hc => ?_) (fun hc => ?_)
    · replace hf := p_ps hf hc
      cases hf
      exact s_return (pc := 17) dX8_cut_17 rfl ⟨rfl, rfl, rfl, rfl, rfl⟩
    · replace hf := p_ng hf hc
      refine s_aload_n (pc := 12) dX8_cut_12 0 rfl rfl ?_
      refine s_iload_n (pc := 13) dX8_cut_13 1 rfl rfl ?_
      refine x_putI (pc := 14) dX8_cut_14 fl_X8_28 (Or.inl rfl) rfl ha0 ?_
      refine s_nmI (fun I1 e2 => ?_)
      replace hf := p_lx hf e2
      cases hf
      exact s_return (pc := 17) dX8_cut_17 rfl ⟨rfl, rfl, rfl, rfl, rfl⟩
def f_X6_squareTo (L : pL) (a0 : Nat) (a1 : Nat) : Option Int32 :=
  some (Int64.toInt32 ((((L a0 0) - (L a1 0)) * ((L a0 0) - (L a1 0))) + (((L a0 1) - (L a1 1)) * ((L a0 1) - (L a1 1)))))
theorem c_X6_squareTo {G : pG} {d : Nat} {N : pN} {I : pI} {L : pL} {P : pR} {a0 : Nat} {a1 : Nat} {qq : Int32} (hd : 0 ≤ d) (hW : WT N P) (ha0 : p_tp N a0 9) (ha1 : p_tp N a1 9) (hf : f_X6_squareTo L a0 a1 = some qq) : MT G mX6_squareTo d 0 0 [.ref a0, .ref a1] N I L P (p_R (some (.int qq)) N I L P) := by
  refine MT.of rfl (Nat.le_of_ble_eq_true rfl) ?_
  show SW G mX6_squareTo (p_rm d 0 0) 0 0 0 0 (p_R (some (.int qq)) N I L P) 0 [(0, .ref a0), (1, .ref a1)] [] N I L P
  unfold f_X6_squareTo at hf
  refine s_aload_n (pc := 0) dX6_squareTo_0 0 rfl rfl ?_
  refine x_getL (pc := 1) dX6_squareTo_1 fl_X6_7 rfl ha0 ?_
  refine s_aload_n (pc := 4) dX6_squareTo_4 1 rfl rfl ?_
  refine x_getL (pc := 5) dX6_squareTo_5 fl_X6_7 rfl ha1 ?_
  refine s_lsub (pc := 8) dX6_squareTo_8 ?_
  refine s_lstore_n (pc := 9) (lo' := [(2, .long ((L a0 0) - (L a1 0))), (0, .ref a0), (1, .ref a1)]) dX6_squareTo_9 rfl (Nat.le_of_ble_eq_true rfl) rfl ?_
  refine s_aload_n (pc := 10) dX6_squareTo_10 1 rfl rfl ?_
  refine x_getL (pc := 11) dX6_squareTo_11 fl_X6_13 rfl ha0 ?_
  refine s_aload_n (pc := 14) dX6_squareTo_14 2 rfl rfl ?_
  refine x_getL (pc := 15) dX6_squareTo_15 fl_X6_13 rfl ha1 ?_
  refine s_lsub (pc := 18) dX6_squareTo_18 ?_
  refine s_lstore (pc := 19) (lo' := [(4, .long ((L a0 1) - (L a1 1))), (2, .long ((L a0 0) - (L a1 0))), (0, .ref a0), (1, .ref a1)]) dX6_squareTo_19 (Nat.le_of_ble_eq_true rfl) rfl ?_
  refine s_lload_n (pc := 21) dX6_squareTo_21 1 rfl rfl ?_
  refine s_lload_n (pc := 22) dX6_squareTo_22 1 rfl rfl ?_
  refine s_lmul (pc := 23) dX6_squareTo_23 ?_
  refine s_lload (pc := 24) dX6_squareTo_24 0 rfl ?_
  refine s_lload (pc := 26) dX6_squareTo_26 0 rfl ?_
  refine s_lmul (pc := 28) dX6_squareTo_28 ?_
  refine s_ladd (pc := 29) dX6_squareTo_29 ?_
  refine s_l2i (pc := 30) dX6_squareTo_30 ?_
  cases hf
  exact s_ireturn (pc := 31) dX6_squareTo_31 rfl rfl ⟨rfl, rfl, rfl, rfl, rfl⟩
def f_X2_spread (I : pI) (a0 : Nat) (x1 : Int32) : Option Int32 :=
  p_ck (decide (¬ (if nI 1 < x1 then x1 else nI 1) = 0)) <|
  some (((I a0 12) * (nI 1000)) / (if nI 1 < x1 then x1 else nI 1))
theorem c_X2_spread {G : pG} {d : Nat} {N : pN} {I : pI} {L : pL} {P : pR} {a0 : Nat} {x1 : Int32} {qq : Int32} (hd : 1 ≤ d) (hW : WT N P) (ha0 : p_tp N a0 5) (hf : f_X2_spread I a0 x1 = some qq) : MT G mX2_spread d 0 0 [.ref a0, .int x1] N I L P (p_R (some (.int qq)) N I L P) := by
  refine MT.of rfl (Nat.le_of_ble_eq_true rfl) ?_
  show SW G mX2_spread (p_rm d 0 0) 0 0 0 0 (p_R (some (.int qq)) N I L P) 0 [(0, .ref a0), (1, .int x1)] [] N I L P
  unfold f_X2_spread at hf
  refine s_aload_n (pc := 0) dX2_spread_0 0 rfl rfl ?_
  refine x_getI (pc := 1) dX2_spread_1 fl_X2_56 rfl ha0 ?_
  refine s_sipush (pc := 4) dX2_spread_4 (v := nI 1000) rfl ?_
  refine s_imul (pc := 7) dX2_spread_7 ?_
  refine s_iconst (pc := 8) dX2_spread_8 (v := nI 1) rfl ?_
  refine s_iload_n (pc := 9) dX2_spread_9 1 rfl rfl ?_
  refine y_max (pc := 10) dX2_spread_10 ml_X2_159 (p_d1 hd (by decide)) (Nat.le_of_ble_eq_true rfl) ?_
  obtain ⟨c1, hf⟩ := p_ckx hf
  refine s_idiv (pc := 13) dX2_spread_13 (of_decide_eq_true c1) ?_
  cases hf
  exact s_ireturn (pc := 14) dX2_spread_14 rfl rfl ⟨rfl, rfl, rfl, rfl, rfl⟩
def B_X2_carry_9 (I : pI) (P : pR) (a0 : Nat) (a2 : Nat) (a3 : Nat) (rec0 : (Int32 × (Option Nat) × pL) → Option (Int32 × pL)) (s0 : Int32 × (Option Nat) × pL) : Option (Int32 × pL) :=
  p_cs s0.2.1 (some (s0.1, s0.2.2)) fun q4 =>
  (if s0.1 = (-1) then
    some (s0.1, s0.2.2)
  else
    Option.bind (α := Int32 × pL) ((if (I q4 2) = 0 then
      some (s0.1, s0.2.2)
    else
      Option.bind (P a0 7) fun q9 =>
      Option.bind (f_X0_meets I s0.2.2 q4 a2 a3 q9) fun q12 =>
      (if q12.1 = 0 then
        some (s0.1, q12.2)
      else
        (if (I q4 8) = 0 then
          some ((-1), q12.2)
        else
          p_let ((s0.1 * (I q4 8)) / (nI 100)) fun v14 =>
          some (v14, q12.2))))) fun t7 =>
    rec0 (t7.1, P q4 1, t7.2))
def f_X2_carry (n : Nat) (I : pI) (L : pL) (P : pR) (a0 : Nat) (x1 : Int32) (a2 : Nat) (a3 : Nat) : Option (Int32 × pL) :=
  Option.bind (p_it (B_X2_carry_9 I P a0 a2 a3) n (x1, P a0 0, L)) fun t1 =>
  some (t1.1, t1.2)
theorem c_X2_carry {G : pG} {d : Nat} {n : Nat} {N : pN} {I : pI} {L : pL} {P : pR} {a0 : Nat} {x1 : Int32} {a2 : Nat} {a3 : Nat} {qq : Int32 × pL} (hd : 1 ≤ d) (hW : WT N P) (ha0 : p_tp N a0 5) (ha2 : p_tp N a2 9) (ha3 : p_tp N a3 9) (hf : f_X2_carry n I L P a0 x1 a2 a3 = some qq) : MT G mX2_carry d 0 0 [.ref a0, .int x1, .ref a2, .ref a3] N I L P (p_R (some (.int qq.1)) N I qq.2 P) := by
  refine MT.of rfl (Nat.le_of_ble_eq_true rfl) ?_
  show SW G mX2_carry (p_rm d 0 0) 0 0 0 0 (p_R (some (.int qq.1)) N I qq.2 P) 0 [(0, .ref a0), (1, .int x1), (2, .ref a2), (3, .ref a3)] [] N I L P
  unfold f_X2_carry at hf
  refine s_iload_n (pc := 0) dX2_carry_0 1 rfl rfl ?_
  refine s_istore (pc := 1) (lo' := [(4, .int x1), (0, .ref a0), (1, .int x1), (2, .ref a2), (3, .ref a3)]) dX2_carry_1 (Nat.le_of_ble_eq_true rfl) rfl ?_
  refine s_aload_n (pc := 3) dX2_carry_3 1 rfl rfl ?_
  refine x_getQ (pc := 4) dX2_carry_4 fl_X2_67 rfl ha0 ?_
  refine x_astoreQ (pc := 7) (lo' := [(5, va_rf (P a0 0)), (4, .int x1), (0, .ref a0), (1, .int x1), (2, .ref a2), (3, .ref a3)]) dX2_carry_7 (Nat.le_of_ble_eq_true rfl) rfl ?_
  obtain ⟨t1, hg, hf⟩ := p_bd hf
  have k2 : SW G mX2_carry (p_rm d 0 0) 0 0 0 0 (p_R (some (.int qq.1)) N I qq.2 P) 77 [(4, .int t1.1)] [] N I t1.2 P := by
    refine s_iload (pc := 77) dX2_carry_77 0 rfl ?_
    cases hf
    exact s_ireturn (pc := 79) dX2_carry_79 rfl rfl ⟨rfl, rfl, rfl, rfl, rfl⟩
  replace hf := hg
  have k17 : ∀ (k : Nat) (s0 : Int32 × (Option Nat) × pL), p_it (B_X2_carry_9 I P a0 a2 a3) k s0 = some t1 → ((∀ q, s0.2.1 = some q → p_tp N q 3) → SW G mX2_carry (p_rm d 0 0) 0 0 0 0 (p_R (some (.int qq.1)) N I qq.2 P) 9 [(0, .ref a0), (2, .ref a2), (3, .ref a3), (4, .int s0.1), (5, va_rf s0.2.1)] [] N I s0.2.2 P) := p_it_ind (C := fun (s0 : Int32 × (Option Nat) × pL) => (∀ q, s0.2.1 = some q → p_tp N q 3) → SW G mX2_carry (p_rm d 0 0) 0 0 0 0 (p_R (some (.int qq.1)) N I qq.2 P) 9 [(0, .ref a0), (2, .ref a2), (3, .ref a3), (4, .int s0.1), (5, va_rf s0.2.1)] [] N I s0.2.2 P) (by
    intro rec0 hrec0 s0 hf y16
    unfold B_X2_carry_9 at hf
    refine x_aloadQ (pc := 9) dX2_carry_9 4 rfl ?_
    refine y_ifnull (pc := 11) (tgt := 77) dX2_carry_11 rfl (fun hc => ?_) (fun q18 h19 => ?_)
    · replace hf := p_cs_n hf hc
      cases hf
      exact s_lo [3] rfl (k2)
    · have t20 : p_tp N q18 3 := y16 q18 h19
      replace hf := p_cs_s hf h19
      have hz : va_rf s0.2.1 = .ref q18 := by rw [h19]; rfl
      rw [hz]
      refine s_iload (pc := 14) dX2_carry_14 3 rfl ?_
      refine s_iconst (pc := 16) dX2_carry_16 (v := (-1)) rfl ?_
      refine s_icmp_eq (pc := 17) (tgt := 77) dX2_carry_17 rfl (fun hc => ?_) (fun hc => ?_)
      · replace hf := p_ps hf hc
        cases hf
        exact s_lo [3] rfl (k2)
      · replace hf := p_ng hf hc
        refine s_aload (pc := 20) dX2_carry_20 4 rfl ?_
        refine x_getI (pc := 22) dX2_carry_22 fl_X2_130 rfl t20 ?_
        obtain ⟨t21, hg, hf⟩ := p_bd hf
        have k22 : SW G mX2_carry (p_rm d 0 0) 0 0 0 0 (p_R (some (.int qq.1)) N I qq.2 P) 67 [(0, .ref a0), (2, .ref a2), (3, .ref a3), (5, .ref q18), (4, .int t21.1)] [] N I t21.2 P := by
          refine s_aload (pc := 67) dX2_carry_67 3 rfl ?_
          refine x_getQ (pc := 69) dX2_carry_69 fl_X2_81 rfl t20 ?_
          refine x_astoreQ (pc := 72) (lo' := [(5, va_rf (P q18 1)), (0, .ref a0), (2, .ref a2), (3, .ref a3), (4, .int t21.1)]) dX2_carry_72 (Nat.le_of_ble_eq_true rfl) rfl ?_
          refine s_goto (pc := 74) (tgt := 9) dX2_carry_74 rfl ?_
          exact s_lo [1, 2, 3, 4, 0] rfl (hrec0 (t21.1, P q18 1, t21.2) hf (fun _ hq => WT.get hW t20 hq))
        replace hf := hg
        refine s_if_eq (pc := 25) (tgt := 67) dX2_carry_25 rfl (fun hc => ?_) (fun hc => ?_)
        · replace hf := p_ps hf hc
          cases hf
          exact s_lo [0, 1, 2, 4, 3] rfl (k22)
        · replace hf := p_ng hf hc
          refine s_aload (pc := 28) dX2_carry_28 4 rfl ?_
          refine s_aload_n (pc := 30) dX2_carry_30 1 rfl rfl ?_
          refine s_aload_n (pc := 31) dX2_carry_31 2 rfl rfl ?_
          refine s_aload_n (pc := 32) dX2_carry_32 0 rfl rfl ?_
          obtain ⟨q23, h24, hf⟩ := p_bd hf
          have t25 : p_tp N q23 9 := WT.get hW ha0 h24
          refine x_getR (pc := 33) dX2_carry_33 fl_X2_33 rfl ha0 h24 ?_
          obtain ⟨q26, h27, hf⟩ := p_bd hf
          refine y_callV1 (pc := 36) dX2_carry_36 (c_X0_meets (p_dd hd (by decide)) hW t20 ha2 ha3 t25 h27) mk_X0_meets mv_X0_meets ml_X2_134 rfl rfl (Nat.le_of_ble_eq_true rfl) t20 rfl (p_d1 hd (by decide)) (Nat.le_of_ble_eq_true rfl) ?_
          refine s_if_eq (pc := 39) (tgt := 67) dX2_carry_39 rfl (fun hc => ?_) (fun hc => ?_)
          · replace hf := p_ps hf hc
            cases hf
            exact s_lo [0, 1, 2, 4, 3] rfl (k22)
          · replace hf := p_ng hf hc
            refine s_aload (pc := 42) dX2_carry_42 4 rfl ?_
            refine x_getI (pc := 44) dX2_carry_44 fl_X2_164 rfl t20 ?_
            refine s_if_ne (pc := 47) (tgt := 54) dX2_carry_47 rfl (fun hc => ?_) (fun hc => ?_)
            · replace hf := p_ng hf hc
              refine s_iload (pc := 54) dX2_carry_54 3 rfl ?_
              refine s_aload (pc := 56) dX2_carry_56 4 rfl ?_
              refine x_getI (pc := 58) dX2_carry_58 fl_X2_164 rfl t20 ?_
              refine s_imul (pc := 61) dX2_carry_61 ?_
              refine s_bipush (pc := 62) dX2_carry_62 (v := nI 100) rfl ?_
              refine s_idiv (pc := 64) dX2_carry_64 (by decide) ?_
              refine s_topi (fun v28 e29 => ?_)
              replace hf := p_lx hf e29
              refine s_istore (pc := 65) (lo' := [(4, .int v28), (0, .ref a0), (2, .ref a2), (3, .ref a3), (5, .ref q18)]) dX2_carry_65 (Nat.le_of_ble_eq_true rfl) rfl ?_
              cases hf
              exact s_lo [1, 2, 3, 4, 0] rfl (k22)
            · replace hf := p_ps hf hc
              refine s_iconst (pc := 50) dX2_carry_50 (v := (-1)) rfl ?_
              refine s_goto (pc := 51) (tgt := 65) dX2_carry_51 rfl ?_
              refine s_istore (pc := 65) (lo' := [(4, .int (-1)), (0, .ref a0), (2, .ref a2), (3, .ref a3), (5, .ref q18)]) dX2_carry_65 (Nat.le_of_ble_eq_true rfl) rfl ?_
              cases hf
              exact s_lo [1, 2, 3, 4, 0] rfl (k22))
  exact s_lo [2, 4, 5, 1, 0] rfl (k17 n (x1, P a0 0, L) hf (fun _ hq => WT.get hW ha0 hq))
def f_X8_add (I : pI) (a0 : Nat) : Option (Int32 × pI) :=
  (if (I a0 3) < (I a0 0) then
    p_let (p_u I a0 3 ((I a0 3) + (nI 1))) fun I1 =>
    some (nI 1, I1)
  else
    some (nI 0, I))
theorem c_X8_add {G : pG} {d : Nat} {N : pN} {I : pI} {L : pL} {P : pR} {a0 : Nat} {qq : Int32 × pI} (hd : 0 ≤ d) (hW : WT N P) (ha0 : p_tp N a0 11) (hf : f_X8_add I a0 = some qq) : MT G mX8_add d 0 0 [.ref a0] N I L P (p_R (some (.int qq.1)) N qq.2 L P) := by
  refine MT.of rfl (Nat.le_of_ble_eq_true rfl) ?_
  show SW G mX8_add (p_rm d 0 0) 0 0 0 0 (p_R (some (.int qq.1)) N qq.2 L P) 0 [(0, .ref a0)] [] N I L P
  unfold f_X8_add at hf
  refine s_aload_n (pc := 0) dX8_add_0 0 rfl rfl ?_
  refine x_getI (pc := 1) dX8_add_1 fl_X8_28 rfl ha0 ?_
  refine s_aload_n (pc := 4) dX8_add_4 0 rfl rfl ?_
  refine x_getI (pc := 5) dX8_add_5 fl_X8_15 rfl ha0 ?_
  refine s_icmp_lt (pc := 8) (tgt := 13) dX8_add_8 rfl (fun hc => ?_) (fun hc => ?_)
  · replace hf := p_ps hf hc
    refine s_aload_n (pc := 13) dX8_add_13 0 rfl rfl ?_
    refine s_dup (pc := 14) dX8_add_14 rfl ?_
    refine x_getI (pc := 15) dX8_add_15 fl_X8_28 rfl ha0 ?_
    refine s_iconst (pc := 18) dX8_add_18 (v := nI 1) rfl ?_
    refine s_iadd (pc := 19) dX8_add_19 ?_
    refine x_putI (pc := 20) dX8_add_20 fl_X8_28 (Or.inl rfl) rfl ha0 ?_
    refine s_nmI (fun I1 e2 => ?_)
    replace hf := p_lx hf e2
    refine s_iconst (pc := 23) dX8_add_23 (v := nI 1) rfl ?_
    cases hf
    exact s_ireturn (pc := 24) dX8_add_24 rfl rfl ⟨rfl, rfl, rfl, rfl, rfl⟩
  · replace hf := p_ng hf hc
    refine s_iconst (pc := 11) dX8_add_11 (v := nI 0) rfl ?_
    cases hf
    exact s_ireturn (pc := 12) dX8_add_12 rfl rfl ⟨rfl, rfl, rfl, rfl, rfl⟩
def f_X8_put (N : pN) (I : pI) (P : pR) (a0 : Nat) (x1 : Int32) (x2 : Int32) (x3 : Int32) : Option pI :=
  (if x1 < 0 then
    some I
  else
    (if (I a0 3) ≤ x1 then
      some I
    else
      (if x2 < 0 then
        some I
      else
        (if (I a0 1) ≤ x2 then
          some I
        else
          Option.bind (P a0 2) fun q1 =>
          p_ck (p_ib N q1 ((x1 * (I a0 1)) + x2)) <|
          p_let (p_u I q1 (Int32.toNatClampNeg ((x1 * (I a0 1)) + x2)) x3) fun I5 =>
          some I5))))
theorem c_X8_put {G : pG} {d : Nat} {N : pN} {I : pI} {L : pL} {P : pR} {a0 : Nat} {x1 : Int32} {x2 : Int32} {x3 : Int32} {qq : pI} (hd : 0 ≤ d) (hW : WT N P) (ha0 : p_tp N a0 11) (hf : f_X8_put N I P a0 x1 x2 x3 = some qq) : MT G mX8_put d 0 0 [.ref a0, .int x1, .int x2, .int x3] N I L P (p_R none N qq L P) := by
  refine MT.of rfl (Nat.le_of_ble_eq_true rfl) ?_
  show SW G mX8_put (p_rm d 0 0) 0 0 0 0 (p_R none N qq L P) 0 [(0, .ref a0), (1, .int x1), (2, .int x2), (3, .int x3)] [] N I L P
  unfold f_X8_put at hf
  refine s_iload_n (pc := 0) dX8_put_0 1 rfl rfl ?_
  refine s_if_lt (pc := 1) (tgt := 38) dX8_put_1 rfl (fun hc => ?_) (fun hc => ?_)
  · replace hf := p_ps hf hc
    cases hf
    exact s_return (pc := 38) dX8_put_38 rfl ⟨rfl, rfl, rfl, rfl, rfl⟩
  · replace hf := p_ng hf hc
    refine s_iload_n (pc := 4) dX8_put_4 1 rfl rfl ?_
    refine s_aload_n (pc := 5) dX8_put_5 0 rfl rfl ?_
    refine x_getI (pc := 6) dX8_put_6 fl_X8_28 rfl ha0 ?_
    refine s_icmp_ge (pc := 9) (tgt := 38) dX8_put_9 rfl (fun hc => ?_) (fun hc => ?_)
    · replace hf := p_ps hf hc
      cases hf
      exact s_return (pc := 38) dX8_put_38 rfl ⟨rfl, rfl, rfl, rfl, rfl⟩
    · replace hf := p_ng hf hc
      refine s_iload_n (pc := 12) dX8_put_12 2 rfl rfl ?_
      refine s_if_lt (pc := 13) (tgt := 38) dX8_put_13 rfl (fun hc => ?_) (fun hc => ?_)
      · replace hf := p_ps hf hc
        cases hf
        exact s_return (pc := 38) dX8_put_38 rfl ⟨rfl, rfl, rfl, rfl, rfl⟩
      · replace hf := p_ng hf hc
        refine s_iload_n (pc := 16) dX8_put_16 2 rfl rfl ?_
        refine s_aload_n (pc := 17) dX8_put_17 0 rfl rfl ?_
        refine x_getI (pc := 18) dX8_put_18 fl_X8_21 rfl ha0 ?_
        refine s_icmp_ge (pc := 21) (tgt := 38) dX8_put_21 rfl (fun hc => ?_) (fun hc => ?_)
        · replace hf := p_ps hf hc
          cases hf
          exact s_return (pc := 38) dX8_put_38 rfl ⟨rfl, rfl, rfl, rfl, rfl⟩
        · replace hf := p_ng hf hc
          refine s_aload_n (pc := 24) dX8_put_24 0 rfl rfl ?_
          obtain ⟨q1, h2, hf⟩ := p_bd hf
          have t3 : p_tp N q1 0 := WT.get hW ha0 h2
          refine x_getR (pc := 25) dX8_put_25 fl_X8_24 rfl ha0 h2 ?_
          refine s_iload_n (pc := 28) dX8_put_28 1 rfl rfl ?_
          refine s_aload_n (pc := 29) dX8_put_29 0 rfl rfl ?_
          refine x_getI (pc := 30) dX8_put_30 fl_X8_21 rfl ha0 ?_
          refine s_imul (pc := 33) dX8_put_33 ?_
          refine s_iload_n (pc := 34) dX8_put_34 2 rfl rfl ?_
          refine s_iadd (pc := 35) dX8_put_35 ?_
          refine s_iload_n (pc := 36) dX8_put_36 3 rfl rfl ?_
          obtain ⟨c4, hf⟩ := p_ckx hf
          refine x_iast (pc := 37) dX8_put_37 t3 c4 ?_
          refine s_nmI (fun I5 e6 => ?_)
          replace hf := p_lx hf e6
          cases hf
          exact s_return (pc := 38) dX8_put_38 rfl ⟨rfl, rfl, rfl, rfl, rfl⟩
def f_X2_keep (N : pN) (I : pI) (P : pR) (a0 : Nat) (x1 : Int32) (x2 : Int32) (x3 : Int32) (x4 : Int32) (x5 : Int32) (x6 : Int32) : Option pI :=
  Option.bind (P a0 8) fun q1 =>
  Option.bind (f_X8_size I q1) fun q4 =>
  (if x6 = (-1) then
    some I
  else
    Option.bind (P a0 9) fun q6 =>
    (if (nI (N.2 q6).2) ≤ q4 then
      some I
    else
      Option.bind (P a0 8) fun q9 =>
      Option.bind (f_X8_add I q9) fun q12 =>
      (if q12.1 = 0 then
        some q12.2
      else
        Option.bind (P a0 8) fun q14 =>
        Option.bind (f_X8_put N q12.2 P q14 q4 (nI 0) x1) fun q17 =>
        Option.bind (P a0 8) fun q19 =>
        Option.bind (f_X8_put N q17 P q19 q4 (nI 1) x2) fun q22 =>
        Option.bind (P a0 8) fun q24 =>
        Option.bind (f_X8_put N q22 P q24 q4 (nI 2) x3) fun q27 =>
        Option.bind (P a0 8) fun q29 =>
        Option.bind (f_X8_put N q27 P q29 q4 (nI 3) x4) fun q32 =>
        Option.bind (P a0 8) fun q34 =>
        Option.bind (f_X8_put N q32 P q34 q4 (nI 4) x5) fun q37 =>
        Option.bind (P a0 8) fun q39 =>
        Option.bind (f_X8_put N q37 P q39 q4 (nI 5) x6) fun q42 =>
        Option.bind (P a0 9) fun q44 =>
        p_ck (p_ib N q44 q4) <|
        p_let (p_u q42 q44 (Int32.toNatClampNeg q4) q4) fun I48 =>
        p_let (p_u I48 a0 13 ((I48 a0 13) + x6)) fun I50 =>
        some I50)))
theorem c_X2_keep {G : pG} {d : Nat} {N : pN} {I : pI} {L : pL} {P : pR} {a0 : Nat} {x1 : Int32} {x2 : Int32} {x3 : Int32} {x4 : Int32} {x5 : Int32} {x6 : Int32} {qq : pI} (hd : 1 ≤ d) (hW : WT N P) (ha0 : p_tp N a0 5) (hf : f_X2_keep N I P a0 x1 x2 x3 x4 x5 x6 = some qq) : MT G mX2_keep d 0 0 [.ref a0, .int x1, .int x2, .int x3, .int x4, .int x5, .int x6] N I L P (p_R none N qq L P) := by
  refine MT.of rfl (Nat.le_of_ble_eq_true rfl) ?_
  show SW G mX2_keep (p_rm d 0 0) 0 0 0 0 (p_R none N qq L P) 0 [(0, .ref a0), (1, .int x1), (2, .int x2), (3, .int x3), (4, .int x4), (5, .int x5), (6, .int x6)] [] N I L P
  unfold f_X2_keep at hf
  refine s_aload_n (pc := 0) dX2_keep_0 0 rfl rfl ?_
  obtain ⟨q1, h2, hf⟩ := p_bd hf
  have t3 : p_tp N q1 11 := WT.get hW ha0 h2
  refine x_getR (pc := 1) dX2_keep_1 fl_X2_41 rfl ha0 h2 ?_
  obtain ⟨q4, h5, hf⟩ := p_bd hf
  refine y_callV1 (pc := 4) dX2_keep_4 (c_X8_size (p_dd hd (by decide)) hW t3 h5) mk_X8_size mv_X8_size ml_X2_98 rfl rfl (Nat.le_of_ble_eq_true rfl) t3 rfl (p_d1 hd (by decide)) (Nat.le_of_ble_eq_true rfl) ?_
  refine s_istore (pc := 7) (lo' := [(7, .int q4), (0, .ref a0), (1, .int x1), (2, .int x2), (3, .int x3), (4, .int x4), (5, .int x5), (6, .int x6)]) dX2_keep_7 (Nat.le_of_ble_eq_true rfl) rfl ?_
  refine s_iload (pc := 9) dX2_keep_9 7 rfl ?_
  refine s_iconst (pc := 11) dX2_keep_11 (v := (-1)) rfl ?_
  refine s_icmp_eq (pc := 12) (tgt := 35) dX2_keep_12 rfl (fun hc => ?_) (fun hc => ?_)
  · replace hf := p_ps hf hc
    cases hf
    exact s_return (pc := 35) dX2_keep_35 rfl ⟨rfl, rfl, rfl, rfl, rfl⟩
  · replace hf := p_ng hf hc
    refine s_iload (pc := 15) dX2_keep_15 0 rfl ?_
    refine s_aload_n (pc := 17) dX2_keep_17 1 rfl rfl ?_
    obtain ⟨q6, h7, hf⟩ := p_bd hf
    have t8 : p_tp N q6 0 := WT.get hW ha0 h7
    refine x_getR (pc := 18) dX2_keep_18 fl_X2_45 rfl ha0 h7 ?_
    refine x_alen (pc := 21) dX2_keep_21 t8 (Nat.le_of_ble_eq_true rfl) ?_
    refine s_icmp_ge (pc := 22) (tgt := 35) dX2_keep_22 rfl (fun hc => ?_) (fun hc => ?_)
    · replace hf := p_ps hf hc
      cases hf
      exact s_return (pc := 35) dX2_keep_35 rfl ⟨rfl, rfl, rfl, rfl, rfl⟩
    · replace hf := p_ng hf hc
      refine s_aload_n (pc := 25) dX2_keep_25 1 rfl rfl ?_
      obtain ⟨q9, h10, hf⟩ := p_bd hf
      have t11 : p_tp N q9 11 := WT.get hW ha0 h10
      refine x_getR (pc := 26) dX2_keep_26 fl_X2_41 rfl ha0 h10 ?_
      obtain ⟨q12, h13, hf⟩ := p_bd hf
      refine y_callV1 (pc := 29) dX2_keep_29 (c_X8_add (p_dd hd (by decide)) hW t11 h13) mk_X8_add mv_X8_add ml_X2_167 rfl rfl (Nat.le_of_ble_eq_true rfl) t11 rfl (p_d1 hd (by decide)) (Nat.le_of_ble_eq_true rfl) ?_
      refine s_if_ne (pc := 32) (tgt := 36) dX2_keep_32 rfl (fun hc => ?_) (fun hc => ?_)
      · replace hf := p_ng hf hc
        refine s_aload_n (pc := 36) dX2_keep_36 1 rfl rfl ?_
        obtain ⟨q14, h15, hf⟩ := p_bd hf
        have t16 : p_tp N q14 11 := WT.get hW ha0 h15
        refine x_getR (pc := 37) dX2_keep_37 fl_X2_41 rfl ha0 h15 ?_
        refine s_iload (pc := 40) dX2_keep_40 0 rfl ?_
        refine s_iconst (pc := 42) dX2_keep_42 (v := nI 0) rfl ?_
        refine s_iload_n (pc := 43) dX2_keep_43 2 rfl rfl ?_
        obtain ⟨q17, h18, hf⟩ := p_bd hf
        refine y_callV0 (pc := 44) dX2_keep_44 (c_X8_put (p_dd hd (by decide)) hW t16 h18) mk_X8_put mv_X8_put ml_X2_171 rfl rfl (Nat.le_of_ble_eq_true rfl) t16 rfl (p_d1 hd (by decide)) (Nat.le_of_ble_eq_true rfl) ?_
        refine s_aload_n (pc := 47) dX2_keep_47 1 rfl rfl ?_
        obtain ⟨q19, h20, hf⟩ := p_bd hf
        have t21 : p_tp N q19 11 := WT.get hW ha0 h20
        refine x_getR (pc := 48) dX2_keep_48 fl_X2_41 rfl ha0 h20 ?_
        refine s_iload (pc := 51) dX2_keep_51 0 rfl ?_
        refine s_iconst (pc := 53) dX2_keep_53 (v := nI 1) rfl ?_
        refine s_iload_n (pc := 54) dX2_keep_54 3 rfl rfl ?_
        obtain ⟨q22, h23, hf⟩ := p_bd hf
        refine y_callV0 (pc := 55) dX2_keep_55 (c_X8_put (p_dd hd (by decide)) hW t21 h23) mk_X8_put mv_X8_put ml_X2_171 rfl rfl (Nat.le_of_ble_eq_true rfl) t21 rfl (p_d1 hd (by decide)) (Nat.le_of_ble_eq_true rfl) ?_
        refine s_aload_n (pc := 58) dX2_keep_58 1 rfl rfl ?_
        obtain ⟨q24, h25, hf⟩ := p_bd hf
        have t26 : p_tp N q24 11 := WT.get hW ha0 h25
        refine x_getR (pc := 59) dX2_keep_59 fl_X2_41 rfl ha0 h25 ?_
        refine s_iload (pc := 62) dX2_keep_62 0 rfl ?_
        refine s_iconst (pc := 64) dX2_keep_64 (v := nI 2) rfl ?_
        refine s_iload_n (pc := 65) dX2_keep_65 4 rfl rfl ?_
        obtain ⟨q27, h28, hf⟩ := p_bd hf
        refine y_callV0 (pc := 66) dX2_keep_66 (c_X8_put (p_dd hd (by decide)) hW t26 h28) mk_X8_put mv_X8_put ml_X2_171 rfl rfl (Nat.le_of_ble_eq_true rfl) t26 rfl (p_d1 hd (by decide)) (Nat.le_of_ble_eq_true rfl) ?_
        refine s_aload_n (pc := 69) dX2_keep_69 1 rfl rfl ?_
        obtain ⟨q29, h30, hf⟩ := p_bd hf
        have t31 : p_tp N q29 11 := WT.get hW ha0 h30
        refine x_getR (pc := 70) dX2_keep_70 fl_X2_41 rfl ha0 h30 ?_
        refine s_iload (pc := 73) dX2_keep_73 0 rfl ?_
        refine s_iconst (pc := 75) dX2_keep_75 (v := nI 3) rfl ?_
        refine s_iload (pc := 76) dX2_keep_76 5 rfl ?_
        obtain ⟨q32, h33, hf⟩ := p_bd hf
        refine y_callV0 (pc := 78) dX2_keep_78 (c_X8_put (p_dd hd (by decide)) hW t31 h33) mk_X8_put mv_X8_put ml_X2_171 rfl rfl (Nat.le_of_ble_eq_true rfl) t31 rfl (p_d1 hd (by decide)) (Nat.le_of_ble_eq_true rfl) ?_
        refine s_aload_n (pc := 81) dX2_keep_81 1 rfl rfl ?_
        obtain ⟨q34, h35, hf⟩ := p_bd hf
        have t36 : p_tp N q34 11 := WT.get hW ha0 h35
        refine x_getR (pc := 82) dX2_keep_82 fl_X2_41 rfl ha0 h35 ?_
        refine s_iload (pc := 85) dX2_keep_85 0 rfl ?_
        refine s_iconst (pc := 87) dX2_keep_87 (v := nI 4) rfl ?_
        refine s_iload (pc := 88) dX2_keep_88 6 rfl ?_
        obtain ⟨q37, h38, hf⟩ := p_bd hf
        refine y_callV0 (pc := 90) dX2_keep_90 (c_X8_put (p_dd hd (by decide)) hW t36 h38) mk_X8_put mv_X8_put ml_X2_171 rfl rfl (Nat.le_of_ble_eq_true rfl) t36 rfl (p_d1 hd (by decide)) (Nat.le_of_ble_eq_true rfl) ?_
        refine s_aload_n (pc := 93) dX2_keep_93 1 rfl rfl ?_
        obtain ⟨q39, h40, hf⟩ := p_bd hf
        have t41 : p_tp N q39 11 := WT.get hW ha0 h40
        refine x_getR (pc := 94) dX2_keep_94 fl_X2_41 rfl ha0 h40 ?_
        refine s_iload (pc := 97) dX2_keep_97 0 rfl ?_
        refine s_iconst (pc := 99) dX2_keep_99 (v := nI 5) rfl ?_
        refine s_iload (pc := 100) dX2_keep_100 7 rfl ?_
        obtain ⟨q42, h43, hf⟩ := p_bd hf
        refine y_callV0 (pc := 102) dX2_keep_102 (c_X8_put (p_dd hd (by decide)) hW t41 h43) mk_X8_put mv_X8_put ml_X2_171 rfl rfl (Nat.le_of_ble_eq_true rfl) t41 rfl (p_d1 hd (by decide)) (Nat.le_of_ble_eq_true rfl) ?_
        refine s_aload_n (pc := 105) dX2_keep_105 1 rfl rfl ?_
        obtain ⟨q44, h45, hf⟩ := p_bd hf
        have t46 : p_tp N q44 0 := WT.get hW ha0 h45
        refine x_getR (pc := 106) dX2_keep_106 fl_X2_45 rfl ha0 h45 ?_
        refine s_iload (pc := 109) dX2_keep_109 0 rfl ?_
        refine s_iload (pc := 111) dX2_keep_111 0 rfl ?_
        obtain ⟨c47, hf⟩ := p_ckx hf
        refine x_iast (pc := 113) dX2_keep_113 t46 c47 ?_
        refine s_nmI (fun I48 e49 => ?_)
        replace hf := p_lx hf e49
        refine s_aload_n (pc := 114) dX2_keep_114 1 rfl rfl ?_
        refine s_dup (pc := 115) dX2_keep_115 rfl ?_
        refine x_getI (pc := 116) dX2_keep_116 fl_X2_59 rfl ha0 ?_
        refine s_iload (pc := 119) dX2_keep_119 7 rfl ?_
        refine s_iadd (pc := 121) dX2_keep_121 ?_
        refine x_putI (pc := 122) dX2_keep_122 fl_X2_59 (Or.inl rfl) rfl ha0 ?_
        refine s_nmI (fun I50 e51 => ?_)
        replace hf := p_lx hf e51
        cases hf
        exact s_return (pc := 125) dX2_keep_125 rfl ⟨rfl, rfl, rfl, rfl, rfl⟩
      · replace hf := p_ps hf hc
        cases hf
        exact s_return (pc := 35) dX2_keep_35 rfl ⟨rfl, rfl, rfl, rfl, rfl⟩
def f_X2_searchSight (n : Nat) (N : pN) (I : pI) (L : pL) (P : pR) (a0 : Nat) : Option (pI × pL) :=
  Option.bind (P a0 1) fun q1 =>
  Option.bind (P a0 2) fun q4 =>
  Option.bind (f_X6_squareTo L q1 q4) fun q7 =>
  Option.bind (f_X2_spread I a0 q7) fun q9 =>
  Option.bind (P a0 1) fun q11 =>
  Option.bind (P a0 2) fun q14 =>
  Option.bind (f_X2_carry n I L P a0 q9 q11 q14) fun q17 =>
  Option.bind (f_X2_keep N I P a0 (nI 0) (-1) (-1) q7 (nI 0) q17.1) fun q19 =>
  some (q19, q17.2)
theorem c_X2_searchSight {G : pG} {d : Nat} {n : Nat} {N : pN} {I : pI} {L : pL} {P : pR} {a0 : Nat} {qq : pI × pL} (hd : 2 ≤ d) (hW : WT N P) (ha0 : p_tp N a0 5) (hf : f_X2_searchSight n N I L P a0 = some qq) : MT G mX2_searchSight d 0 0 [.ref a0] N I L P (p_R none N qq.1 qq.2 P) := by
  refine MT.of rfl (Nat.le_of_ble_eq_true rfl) ?_
  show SW G mX2_searchSight (p_rm d 0 0) 0 0 0 0 (p_R none N qq.1 qq.2 P) 0 [(0, .ref a0)] [] N I L P
  unfold f_X2_searchSight at hf
  refine s_aload_n (pc := 0) dX2_searchSight_0 0 rfl rfl ?_
  obtain ⟨q1, h2, hf⟩ := p_bd hf
  have t3 : p_tp N q1 9 := WT.get hW ha0 h2
  refine x_getR (pc := 1) dX2_searchSight_1 fl_X2_12 rfl ha0 h2 ?_
  refine s_aload_n (pc := 4) dX2_searchSight_4 0 rfl rfl ?_
  obtain ⟨q4, h5, hf⟩ := p_bd hf
  have t6 : p_tp N q4 9 := WT.get hW ha0 h5
  refine x_getR (pc := 5) dX2_searchSight_5 fl_X2_18 rfl ha0 h5 ?_
  obtain ⟨q7, h8, hf⟩ := p_bd hf
  refine y_callV1 (pc := 8) dX2_searchSight_8 (c_X6_squareTo (p_dd hd (by decide)) hW t3 t6 h8) mk_X6_squareTo mv_X6_squareTo ml_X2_111 rfl rfl (Nat.le_of_ble_eq_true rfl) t3 rfl (p_d1 hd (by decide)) (Nat.le_of_ble_eq_true rfl) ?_
  refine s_istore_n (pc := 11) (lo' := [(1, .int q7), (0, .ref a0)]) dX2_searchSight_11 rfl (Nat.le_of_ble_eq_true rfl) rfl ?_
  refine s_aload_n (pc := 12) dX2_searchSight_12 1 rfl rfl ?_
  refine s_iconst (pc := 13) dX2_searchSight_13 (v := nI 0) rfl ?_
  refine s_iconst (pc := 14) dX2_searchSight_14 (v := (-1)) rfl ?_
  refine s_iconst (pc := 15) dX2_searchSight_15 (v := (-1)) rfl ?_
  refine s_iload_n (pc := 16) dX2_searchSight_16 0 rfl rfl ?_
  refine s_iconst (pc := 17) dX2_searchSight_17 (v := nI 0) rfl ?_
  refine s_aload_n (pc := 18) dX2_searchSight_18 1 rfl rfl ?_
  refine s_aload_n (pc := 19) dX2_searchSight_19 1 rfl rfl ?_
  refine s_iload_n (pc := 20) dX2_searchSight_20 0 rfl rfl ?_
  obtain ⟨q9, h10, hf⟩ := p_bd hf
  refine y_callV1 (pc := 21) dX2_searchSight_21 (c_X2_spread (p_dd hd (by decide)) hW ha0 h10) mk_X2_spread mv_X2_spread ml_X2_115 rfl rfl (Nat.le_of_ble_eq_true rfl) ha0 rfl (p_d1 hd (by decide)) (Nat.le_of_ble_eq_true rfl) ?_
  refine s_aload_n (pc := 24) dX2_searchSight_24 1 rfl rfl ?_
  obtain ⟨q11, h12, hf⟩ := p_bd hf
  have t13 : p_tp N q11 9 := WT.get hW ha0 h12
  refine x_getR (pc := 25) dX2_searchSight_25 fl_X2_12 rfl ha0 h12 ?_
  refine s_aload_n (pc := 28) dX2_searchSight_28 1 rfl rfl ?_
  obtain ⟨q14, h15, hf⟩ := p_bd hf
  have t16 : p_tp N q14 9 := WT.get hW ha0 h15
  refine x_getR (pc := 29) dX2_searchSight_29 fl_X2_18 rfl ha0 h15 ?_
  obtain ⟨q17, h18, hf⟩ := p_bd hf
  refine y_callV1 (pc := 32) dX2_searchSight_32 (c_X2_carry (p_dd hd (by decide)) hW ha0 t13 t16 h18) mk_X2_carry mv_X2_carry ml_X2_118 rfl rfl (Nat.le_of_ble_eq_true rfl) ha0 rfl (p_d1 hd (by decide)) (Nat.le_of_ble_eq_true rfl) ?_
  obtain ⟨q19, h20, hf⟩ := p_bd hf
  refine y_callV0 (pc := 35) dX2_searchSight_35 (c_X2_keep (p_dd hd (by decide)) hW ha0 h20) mk_X2_keep mv_X2_keep ml_X2_122 rfl rfl (Nat.le_of_ble_eq_true rfl) ha0 rfl (p_d1 hd (by decide)) (Nat.le_of_ble_eq_true rfl) ?_
  cases hf
  exact s_return (pc := 38) dX2_searchSight_38 rfl ⟨rfl, rfl, rfl, rfl, rfl⟩
