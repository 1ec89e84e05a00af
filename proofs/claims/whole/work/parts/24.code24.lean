def f_X9_open (n : Nat) (N : pN) (I : pI) (P : pR) (a0 : Nat) (a1 : Nat) : Option (pI × pR) :=
  p_let (p_u P a0 0 (some a1)) fun P2 =>
  p_let (p_u I a0 3 (nI 0)) fun I4 =>
  p_let (p_u I4 a0 4 (nI 0)) fun I6 =>
  p_let (p_u I6 a0 5 (-1)) fun I8 =>
  Option.bind (f_X9_advance n N I8 P2 a0) fun q10 =>
  some (q10, P2)
theorem c_X9_open {G : pG} {d : Nat} {n : Nat} {N : pN} {I : pI} {L : pL} {P : pR} {a0 : Nat} {a1 : Nat} {qq : pI × pR} (hd : 2 ≤ d) (hW : WT N P) (ha0 : p_tp N a0 12) (ha1 : p_tp N a1 11) (hf : f_X9_open n N I P a0 a1 = some qq) : MT G mX9_open d 0 0 [.ref a0, .ref a1] N I L P (p_R none N qq.1 L qq.2) := by
  refine MT.of rfl (Nat.le_of_ble_eq_true rfl) ?_
  show SW G mX9_open (p_rm d 0 0) 0 0 0 0 (p_R none N qq.1 L qq.2) 0 [(0, .ref a0), (1, .ref a1)] [] N I L P
  unfold f_X9_open at hf
  refine s_aload_n (pc := 0) dX9_open_0 0 rfl rfl ?_
  refine s_aload_n (pc := 1) dX9_open_1 1 rfl rfl ?_
  refine x_putR (pc := 2) dX9_open_2 fl_X9_27 (Or.inl rfl) rfl ha0 ?_
  refine s_nmP (fun P2 e3 => ?_)
  replace hf := p_lx hf e3
  have w1 : WT N P2 := by rw [e3]; exact WT.put hW ha0 (fun q hq => by cases hq; exact ha1)
  refine s_aload_n (pc := 5) dX9_open_5 0 rfl rfl ?_
  refine s_iconst (pc := 6) dX9_open_6 (v := nI 0) rfl ?_
  refine x_putI (pc := 7) dX9_open_7 fl_X9_18 (Or.inl rfl) rfl ha0 ?_
  refine s_nmI (fun I4 e5 => ?_)
  replace hf := p_lx hf e5
  refine s_aload_n (pc := 10) dX9_open_10 0 rfl rfl ?_
  refine s_iconst (pc := 11) dX9_open_11 (v := nI 0) rfl ?_
  refine x_putI (pc := 12) dX9_open_12 fl_X9_21 (Or.inl rfl) rfl ha0 ?_
  refine s_nmI (fun I6 e7 => ?_)
  replace hf := p_lx hf e7
  refine s_aload_n (pc := 15) dX9_open_15 0 rfl rfl ?_
  refine s_iconst (pc := 16) dX9_open_16 (v := (-1)) rfl ?_
  refine x_putI (pc := 17) dX9_open_17 fl_X9_24 (Or.inl rfl) rfl ha0 ?_
  refine s_nmI (fun I8 e9 => ?_)
  replace hf := p_lx hf e9
  refine s_aload_n (pc := 20) dX9_open_20 0 rfl rfl ?_
  obtain ⟨q10, h11, hf⟩ := p_bd hf
  refine y_callV0 (pc := 21) dX9_open_21 (c_X9_advance (p_dd hd (by decide)) w1 ha0 h11) mk_X9_advance mv_X9_advance ml_X9_31 rfl rfl (Nat.le_of_ble_eq_true rfl) ha0 rfl (p_d1 hd (by decide)) (Nat.le_of_ble_eq_true rfl) ?_
  cases hf
  exact s_return (pc := 24) dX9_open_24 rfl ⟨rfl, rfl, rfl, rfl, rfl⟩
theorem w_X9_open {n : Nat} {N : pN} {I : pI} {P : pR} {a0 a1 : Nat} {qq : pI × pR} (hW : WT N P) (ha0 : p_tp N a0 12) (ha1 : p_tp N a1 11) (hf : f_X9_open n N I P a0 a1 = some qq) : WT N qq.2 := by
  unfold f_X9_open at hf
  unfold p_let at hf
  obtain ⟨q, hq, hf⟩ := p_bd hf
  cases hf
  exact WT.put hW ha0 (fun q hq => by cases hq; exact ha1)
def f_X9_goOn (I : pI) (a0 : Nat) : Option Int32 :=
  (if (I a0 1) = 0 then
    some (nI 0)
  else
    (if (I a0 4) = (nI 1) then
      some (nI 0)
    else
      some (nI 1)))
theorem c_X9_goOn {G : pG} {d : Nat} {N : pN} {I : pI} {L : pL} {P : pR} {a0 : Nat} {qq : Int32} (hd : 0 ≤ d) (hW : WT N P) (ha0 : p_tp N a0 12) (hf : f_X9_goOn I a0 = some qq) : MT G mX9_goOn d 0 0 [.ref a0] N I L P (p_R (some (.int qq)) N I L P) := by
  refine MT.of rfl (Nat.le_of_ble_eq_true rfl) ?_
  show SW G mX9_goOn (p_rm d 0 0) 0 0 0 0 (p_R (some (.int qq)) N I L P) 0 [(0, .ref a0)] [] N I L P
  unfold f_X9_goOn at hf
  refine s_aload_n (pc := 0) dX9_goOn_0 0 rfl rfl ?_
  refine x_getI (pc := 1) dX9_goOn_1 fl_X9_11 rfl ha0 ?_
  refine s_if_eq (pc := 4) (tgt := 19) dX9_goOn_4 rfl (fun hc => ?_) (fun hc => ?_)
  · replace hf := p_ps hf hc
    refine s_iconst (pc := 19) dX9_goOn_19 (v := nI 0) rfl ?_
    cases hf
    exact s_ireturn (pc := 20) dX9_goOn_20 rfl rfl ⟨rfl, rfl, rfl, rfl, rfl⟩
  · replace hf := p_ng hf hc
    refine s_aload_n (pc := 7) dX9_goOn_7 0 rfl rfl ?_
    refine x_getI (pc := 8) dX9_goOn_8 fl_X9_21 rfl ha0 ?_
    refine s_iconst (pc := 11) dX9_goOn_11 (v := nI 1) rfl ?_
    refine s_icmp_eq (pc := 12) (tgt := 19) dX9_goOn_12 rfl (fun hc => ?_) (fun hc => ?_)
    · replace hf := p_ps hf hc
      refine s_iconst (pc := 19) dX9_goOn_19 (v := nI 0) rfl ?_
      cases hf
      exact s_ireturn (pc := 20) dX9_goOn_20 rfl rfl ⟨rfl, rfl, rfl, rfl, rfl⟩
    · replace hf := p_ng hf hc
      refine s_iconst (pc := 15) dX9_goOn_15 (v := nI 1) rfl ?_
      refine s_goto (pc := 16) (tgt := 20) dX9_goOn_16 rfl ?_
      cases hf
      exact s_ireturn (pc := 20) dX9_goOn_20 rfl rfl ⟨rfl, rfl, rfl, rfl, rfl⟩
def f_X9_from (I : pI) (a0 : Nat) : Option Int32 :=
  some (I a0 2)
theorem c_X9_from {G : pG} {d : Nat} {N : pN} {I : pI} {L : pL} {P : pR} {a0 : Nat} {qq : Int32} (hd : 0 ≤ d) (hW : WT N P) (ha0 : p_tp N a0 12) (hf : f_X9_from I a0 = some qq) : MT G mX9_from d 0 0 [.ref a0] N I L P (p_R (some (.int qq)) N I L P) := by
  refine MT.of rfl (Nat.le_of_ble_eq_true rfl) ?_
  show SW G mX9_from (p_rm d 0 0) 0 0 0 0 (p_R (some (.int qq)) N I L P) 0 [(0, .ref a0)] [] N I L P
  unfold f_X9_from at hf
  refine s_aload_n (pc := 0) dX9_from_0 0 rfl rfl ?_
  refine x_getI (pc := 1) dX9_from_1 fl_X9_15 rfl ha0 ?_
  cases hf
  exact s_ireturn (pc := 4) dX9_from_4 rfl rfl ⟨rfl, rfl, rfl, rfl, rfl⟩
def f_X9_note (I : pI) (a0 : Nat) (x1 : Int32) (x2 : Int32) : Option pI :=
  (if x1 = (nI 1) then
    p_let (p_u I a0 4 x1) fun I1 =>
    p_let (p_u I1 a0 5 x2) fun I3 =>
    some I3
  else
    (if (I a0 4) = 0 then
      p_let (p_u I a0 4 x1) fun I5 =>
      p_let (p_u I5 a0 5 x2) fun I7 =>
      some I7
    else
      some I))
theorem c_X9_note {G : pG} {d : Nat} {N : pN} {I : pI} {L : pL} {P : pR} {a0 : Nat} {x1 : Int32} {x2 : Int32} {qq : pI} (hd : 0 ≤ d) (hW : WT N P) (ha0 : p_tp N a0 12) (hf : f_X9_note I a0 x1 x2 = some qq) : MT G mX9_note d 0 0 [.ref a0, .int x1, .int x2] N I L P (p_R none N qq L P) := by
  refine MT.of rfl (Nat.le_of_ble_eq_true rfl) ?_
  show SW G mX9_note (p_rm d 0 0) 0 0 0 0 (p_R none N qq L P) 0 [(0, .ref a0), (1, .int x1), (2, .int x2)] [] N I L P
  unfold f_X9_note at hf
  refine s_iload_n (pc := 0) dX9_note_0 1 rfl rfl ?_
  refine s_iconst (pc := 1) dX9_note_1 (v := nI 1) rfl ?_
  refine s_icmp_eq (pc := 2) (tgt := 12) dX9_note_2 rfl (fun hc => ?_) (fun hc => ?_)
  · replace hf := p_ps hf hc
    refine s_aload_n (pc := 12) dX9_note_12 0 rfl rfl ?_
    refine s_iload_n (pc := 13) dX9_note_13 1 rfl rfl ?_
    refine x_putI (pc := 14) dX9_note_14 fl_X9_21 (Or.inl rfl) rfl ha0 ?_
    refine s_nmI (fun I1 e2 => ?_)
    replace hf := p_lx hf e2
    refine s_aload_n (pc := 17) dX9_note_17 0 rfl rfl ?_
    refine s_iload_n (pc := 18) dX9_note_18 2 rfl rfl ?_
    refine x_putI (pc := 19) dX9_note_19 fl_X9_24 (Or.inl rfl) rfl ha0 ?_
    refine s_nmI (fun I3 e4 => ?_)
    replace hf := p_lx hf e4
    cases hf
    exact s_return (pc := 22) dX9_note_22 rfl ⟨rfl, rfl, rfl, rfl, rfl⟩
  · replace hf := p_ng hf hc
    refine s_aload_n (pc := 5) dX9_note_5 0 rfl rfl ?_
    refine x_getI (pc := 6) dX9_note_6 fl_X9_21 rfl ha0 ?_
    refine s_if_ne (pc := 9) (tgt := 22) dX9_note_9 rfl (fun hc => ?_) (fun hc => ?_)
    · replace hf := p_ng hf hc
      cases hf
      exact s_return (pc := 22) dX9_note_22 rfl ⟨rfl, rfl, rfl, rfl, rfl⟩
    · replace hf := p_ps hf hc
      refine s_aload_n (pc := 12) dX9_note_12 0 rfl rfl ?_
      refine s_iload_n (pc := 13) dX9_note_13 1 rfl rfl ?_
      refine x_putI (pc := 14) dX9_note_14 fl_X9_21 (Or.inl rfl) rfl ha0 ?_
      refine s_nmI (fun I5 e6 => ?_)
      replace hf := p_lx hf e6
      refine s_aload_n (pc := 17) dX9_note_17 0 rfl rfl ?_
      refine s_iload_n (pc := 18) dX9_note_18 2 rfl rfl ?_
      refine x_putI (pc := 19) dX9_note_19 fl_X9_24 (Or.inl rfl) rfl ha0 ?_
      refine s_nmI (fun I7 e8 => ?_)
      replace hf := p_lx hf e8
      cases hf
      exact s_return (pc := 22) dX9_note_22 rfl ⟨rfl, rfl, rfl, rfl, rfl⟩
def B_X9_isWord_28 (N : pN) (I : pI) (P : pR) (a0 : Nat) (a1 : Nat) (rec0 : Int32 → Option Int32) (s0 : Int32) : Option Int32 :=
  Option.bind (f_J0_length_8abf5 a1) fun q3 =>
  (if q3 ≤ s0 then
    some (nI 1)
  else
    Option.bind (P a0 0) fun q5 =>
    Option.bind (f_X8_get N I P q5 ((I a0 2) + s0) (nI 0)) fun q8 =>
    Option.bind (f_J0_charAt_5068e a1 s0) fun q10 =>
    (if q8 = q10 then
      rec0 (s0 + nI 1)
    else
      some (nI 0)))
def f_X9_isWord (n : Nat) (N : pN) (I : pI) (P : pR) (a0 : Nat) (a1 : Nat) : Option Int32 :=
  (if (I a0 1) = (nI 1) then
    Option.bind (f_J0_length_8abf5 a1) fun q1 =>
    (if ((I a0 3) - (I a0 2)) = q1 then
      p_it (B_X9_isWord_28 N I P a0 a1) n (nI 0)
    else
      some (nI 0))
  else
    some (nI 0))
theorem c_X9_isWord {G : pG} {d : Nat} {n : Nat} {N : pN} {I : pI} {L : pL} {P : pR} {a0 : Nat} {a1 : Nat} {qq : Int32} (hd : 7 ≤ d) (hW : WT N P) (ha0 : p_tp N a0 12) (ha1 : p_sx a1) (hf : f_X9_isWord n N I P a0 a1 = some qq) : MT G mX9_isWord d 0 0 [.ref a0, .ref a1] N I L P (p_R (some (.int qq)) N I L P) := by
  refine MT.of rfl (Nat.le_of_ble_eq_true rfl) ?_
  show SW G mX9_isWord (p_rm d 0 0) 0 0 0 0 (p_R (some (.int qq)) N I L P) 0 [(0, .ref a0), (1, .ref a1)] [] N I L P
  unfold f_X9_isWord at hf
  refine s_aload_n (pc := 0) dX9_isWord_0 0 rfl rfl ?_
  refine x_getI (pc := 1) dX9_isWord_1 fl_X9_11 rfl ha0 ?_
  refine s_iconst (pc := 4) dX9_isWord_4 (v := nI 1) rfl ?_
  refine s_icmp_ne (pc := 5) (tgt := 24) dX9_isWord_5 rfl (fun hc => ?_) (fun hc => ?_)
  · replace hf := p_ng hf hc
    refine s_iconst (pc := 24) dX9_isWord_24 (v := nI 0) rfl ?_
    cases hf
    exact s_ireturn (pc := 25) dX9_isWord_25 rfl rfl ⟨rfl, rfl, rfl, rfl, rfl⟩
  · replace hf := p_ps hf hc
    refine s_aload_n (pc := 8) dX9_isWord_8 0 rfl rfl ?_
    refine x_getI (pc := 9) dX9_isWord_9 fl_X9_18 rfl ha0 ?_
    refine s_aload_n (pc := 12) dX9_isWord_12 0 rfl rfl ?_
    refine x_getI (pc := 13) dX9_isWord_13 fl_X9_15 rfl ha0 ?_
    refine s_isub (pc := 16) dX9_isWord_16 ?_
    refine s_aload_n (pc := 17) dX9_isWord_17 1 rfl rfl ?_
    obtain ⟨q1, h2, hf⟩ := p_bd hf
    refine y_callT1 (pc := 18) dX9_isWord_18 (c_J0_length_8abf5 (p_dd hd (by decide)) hW ha1 h2) mk_J0_length_8abf5 mv_J0_length_8abf5 ml_X9_52 rfl rfl (Nat.le_of_ble_eq_true rfl) ha1 rfl (p_d1 hd (by decide)) (Nat.le_of_ble_eq_true rfl) ?_
    refine s_icmp_eq (pc := 21) (tgt := 26) dX9_isWord_21 rfl (fun hc => ?_) (fun hc => ?_)
    · replace hf := p_ps hf hc
      refine s_iconst (pc := 26) dX9_isWord_26 (v := nI 0) rfl ?_
      refine s_istore_n (pc := 27) (lo' := [(2, .int (nI 0)), (0, .ref a0), (1, .ref a1)]) dX9_isWord_27 rfl (Nat.le_of_ble_eq_true rfl) rfl ?_
      have k12 : ∀ (k : Nat) (s0 : Int32), p_it (B_X9_isWord_28 N I P a0 a1) k s0 = some qq → (SW G mX9_isWord (p_rm d 0 0) 0 0 0 0 (p_R (some (.int qq)) N I L P) 28 [(0, .ref a0), (1, .ref a1), (2, .int s0)] [] N I L P) := p_it_ind (C := fun (s0 : Int32) => SW G mX9_isWord (p_rm d 0 0) 0 0 0 0 (p_R (some (.int qq)) N I L P) 28 [(0, .ref a0), (1, .ref a1), (2, .int s0)] [] N I L P) (by
        intro rec0 hrec0 s0 hf
        unfold B_X9_isWord_28 at hf
        refine s_iload_n (pc := 28) dX9_isWord_28 2 rfl rfl ?_
        refine s_aload_n (pc := 29) dX9_isWord_29 1 rfl rfl ?_
        obtain ⟨q13, h14, hf⟩ := p_bd hf
        refine y_callT1 (pc := 30) dX9_isWord_30 (c_J0_length_8abf5 (p_dd hd (by decide)) hW ha1 h14) mk_J0_length_8abf5 mv_J0_length_8abf5 ml_X9_52 rfl rfl (Nat.le_of_ble_eq_true rfl) ha1 rfl (p_d1 hd (by decide)) (Nat.le_of_ble_eq_true rfl) ?_
        refine s_icmp_ge (pc := 33) (tgt := 66) dX9_isWord_33 rfl (fun hc => ?_) (fun hc => ?_)
        · replace hf := p_ps hf hc
          refine s_iconst (pc := 66) dX9_isWord_66 (v := nI 1) rfl ?_
          cases hf
          exact s_ireturn (pc := 67) dX9_isWord_67 rfl rfl ⟨rfl, rfl, rfl, rfl, rfl⟩
        · replace hf := p_ng hf hc
          refine s_aload_n (pc := 36) dX9_isWord_36 0 rfl rfl ?_
          obtain ⟨q15, h16, hf⟩ := p_bd hf
          have t17 : p_tp N q15 11 := WT.get hW ha0 h16
          refine x_getR (pc := 37) dX9_isWord_37 fl_X9_27 rfl ha0 h16 ?_
          refine s_aload_n (pc := 40) dX9_isWord_40 0 rfl rfl ?_
          refine x_getI (pc := 41) dX9_isWord_41 fl_X9_15 rfl ha0 ?_
          refine s_iload_n (pc := 44) dX9_isWord_44 2 rfl rfl ?_
          refine s_iadd (pc := 45) dX9_isWord_45 ?_
          refine s_iconst (pc := 46) dX9_isWord_46 (v := nI 0) rfl ?_
          obtain ⟨q18, h19, hf⟩ := p_bd hf
          refine y_callV1 (pc := 47) dX9_isWord_47 (c_X8_get (p_dd hd (by decide)) hW t17 h19) mk_X8_get mv_X8_get ml_X9_40 rfl rfl (Nat.le_of_ble_eq_true rfl) t17 rfl (p_d1 hd (by decide)) (Nat.le_of_ble_eq_true rfl) ?_
          refine s_aload_n (pc := 50) dX9_isWord_50 1 rfl rfl ?_
          refine s_iload_n (pc := 51) dX9_isWord_51 2 rfl rfl ?_
          obtain ⟨q20, h21, hf⟩ := p_bd hf
          refine y_callT1 (pc := 52) dX9_isWord_52 (c_J0_charAt_5068e (p_dd hd (by decide)) hW ha1 h21) mk_J0_charAt_5068e mv_J0_charAt_5068e ml_X9_57 rfl rfl (Nat.le_of_ble_eq_true rfl) ha1 rfl (p_d1 hd (by decide)) (Nat.le_of_ble_eq_true rfl) ?_
          refine s_icmp_eq (pc := 55) (tgt := 60) dX9_isWord_55 rfl (fun hc => ?_) (fun hc => ?_)
          · replace hf := p_ps hf hc
            refine s_iinc (pc := 60) (lo' := [(2, .int (s0 + nI 1)), (0, .ref a0), (1, .ref a1)]) dX9_isWord_60 2 rfl (v := s0 + nI 1) rfl (Nat.le_of_ble_eq_true rfl) rfl ?_
            refine s_goto (pc := 63) (tgt := 28) dX9_isWord_63 rfl ?_
            exact s_lo [1, 2, 0] rfl (hrec0 (s0 + nI 1) hf)
          · replace hf := p_ng hf hc
            refine s_iconst (pc := 58) dX9_isWord_58 (v := nI 0) rfl ?_
            cases hf
            exact s_ireturn (pc := 59) dX9_isWord_59 rfl rfl ⟨rfl, rfl, rfl, rfl, rfl⟩)
      exact s_lo [1, 2, 0] rfl (k12 n (nI 0) hf)
    · replace hf := p_ng hf hc
      refine s_iconst (pc := 24) dX9_isWord_24 (v := nI 0) rfl ?_
      cases hf
      exact s_ireturn (pc := 25) dX9_isWord_25 rfl rfl ⟨rfl, rfl, rfl, rfl, rfl⟩
def f_X4_aboutHere (n : Nat) (N : pN) (I : pI) (P : pR) (a0 : Nat) : Option Int32 :=
  Option.bind (P a0 0) fun q1 =>
  Option.bind (f_X9_isWord n N I P q1 1000106) fun q4 =>
  (if q4 = 0 then
    Option.bind (P a0 0) fun q6 =>
    Option.bind (f_X9_isWord n N I P q6 1000107) fun q9 =>
    (if q9 = 0 then
      Option.bind (P a0 0) fun q11 =>
      Option.bind (f_X9_isWord n N I P q11 1000108) fun q14 =>
      (if q14 = 0 then
        Option.bind (P a0 0) fun q16 =>
        Option.bind (f_X9_isWord n N I P q16 1000109) fun q19 =>
        (if q19 = 0 then
          Option.bind (P a0 0) fun q21 =>
          Option.bind (f_X9_isWord n N I P q21 1000110) fun q24 =>
          (if q24 = 0 then
            Option.bind (P a0 0) fun q26 =>
            Option.bind (f_X9_isWord n N I P q26 1000111) fun q29 =>
            (if q29 = 0 then
              Option.bind (P a0 0) fun q31 =>
              Option.bind (f_X9_isWord n N I P q31 1000112) fun q34 =>
              (if q34 = 0 then
                some (-1)
              else
                some (nI 6))
            else
              some (nI 5))
          else
            some (nI 4))
        else
          some (nI 3))
      else
        some (nI 2))
    else
      some (nI 1))
  else
    some (nI 0))
theorem c_X4_aboutHere {G : pG} {d : Nat} {n : Nat} {N : pN} {I : pI} {L : pL} {P : pR} {a0 : Nat} {qq : Int32} (hd : 8 ≤ d) (hW : WT N P) (ha0 : p_tp N a0 7) (hf : f_X4_aboutHere n N I P a0 = some qq) : MT G mX4_aboutHere d 0 0 [.ref a0] N I L P (p_R (some (.int qq)) N I L P) := by
  refine MT.of rfl (Nat.le_of_ble_eq_true rfl) ?_
  show SW G mX4_aboutHere (p_rm d 0 0) 0 0 0 0 (p_R (some (.int qq)) N I L P) 0 [(0, .ref a0)] [] N I L P
  unfold f_X4_aboutHere at hf
  refine s_aload_n (pc := 0) dX4_aboutHere_0 0 rfl rfl ?_
  obtain ⟨q1, h2, hf⟩ := p_bd hf
  have t3 : p_tp N q1 12 := WT.get hW ha0 h2
  refine x_getR (pc := 1) dX4_aboutHere_1 fl_X4_19 rfl ha0 h2 ?_
  refine s_ldcS (pc := 4) (j := 6) rfl rfl rfl dX4_aboutHere_4 ?_
  obtain ⟨q4, h5, hf⟩ := p_bd hf
  refine y_callV1 (pc := 6) dX4_aboutHere_6 (c_X9_isWord (p_dd hd (by decide)) hW t3 (p_sx_ (by decide)) h5) mk_X9_isWord mv_X9_isWord ml_X4_73 rfl rfl (Nat.le_of_ble_eq_true rfl) t3 rfl (p_d1 hd (by decide)) (Nat.le_of_ble_eq_true rfl) ?_
  refine s_if_eq (pc := 9) (tgt := 14) dX4_aboutHere_9 rfl (fun hc => ?_) (fun hc => ?_)
  · replace hf := p_ps hf hc
    refine s_aload_n (pc := 14) dX4_aboutHere_14 0 rfl rfl ?_
    obtain ⟨q6, h7, hf⟩ := p_bd hf
    have t8 : p_tp N q6 12 := WT.get hW ha0 h7
    refine x_getR (pc := 15) dX4_aboutHere_15 fl_X4_19 rfl ha0 h7 ?_
    refine s_ldcS (pc := 18) (j := 7) rfl rfl rfl dX4_aboutHere_18 ?_
    obtain ⟨q9, h10, hf⟩ := p_bd hf
    refine y_callV1 (pc := 20) dX4_aboutHere_20 (c_X9_isWord (p_dd hd (by decide)) hW t8 (p_sx_ (by decide)) h10) mk_X9_isWord mv_X9_isWord ml_X4_73 rfl rfl (Nat.le_of_ble_eq_true rfl) t8 rfl (p_d1 hd (by decide)) (Nat.le_of_ble_eq_true rfl) ?_
    refine s_if_eq (pc := 23) (tgt := 28) dX4_aboutHere_23 rfl (fun hc => ?_) (fun hc => ?_)
    · replace hf := p_ps hf hc
      refine s_aload_n (pc := 28) dX4_aboutHere_28 0 rfl rfl ?_
      obtain ⟨q11, h12, hf⟩ := p_bd hf
      have t13 : p_tp N q11 12 := WT.get hW ha0 h12
      refine x_getR (pc := 29) dX4_aboutHere_29 fl_X4_19 rfl ha0 h12 ?_
      refine s_ldcS (pc := 32) (j := 8) rfl rfl rfl dX4_aboutHere_32 ?_
      obtain ⟨q14, h15, hf⟩ := p_bd hf
      refine y_callV1 (pc := 34) dX4_aboutHere_34 (c_X9_isWord (p_dd hd (by decide)) hW t13 (p_sx_ (by decide)) h15) mk_X9_isWord mv_X9_isWord ml_X4_73 rfl rfl (Nat.le_of_ble_eq_true rfl) t13 rfl (p_d1 hd (by decide)) (Nat.le_of_ble_eq_true rfl) ?_
      refine s_if_eq (pc := 37) (tgt := 42) dX4_aboutHere_37 rfl (fun hc => ?_) (fun hc => ?_)
      · replace hf := p_ps hf hc
        refine s_aload_n (pc := 42) dX4_aboutHere_42 0 rfl rfl ?_
        obtain ⟨q16, h17, hf⟩ := p_bd hf
        have t18 : p_tp N q16 12 := WT.get hW ha0 h17
        refine x_getR (pc := 43) dX4_aboutHere_43 fl_X4_19 rfl ha0 h17 ?_
        refine s_ldcS (pc := 46) (j := 9) rfl rfl rfl dX4_aboutHere_46 ?_
        obtain ⟨q19, h20, hf⟩ := p_bd hf
        refine y_callV1 (pc := 48) dX4_aboutHere_48 (c_X9_isWord (p_dd hd (by decide)) hW t18 (p_sx_ (by decide)) h20) mk_X9_isWord mv_X9_isWord ml_X4_73 rfl rfl (Nat.le_of_ble_eq_true rfl) t18 rfl (p_d1 hd (by decide)) (Nat.le_of_ble_eq_true rfl) ?_
        refine s_if_eq (pc := 51) (tgt := 56) dX4_aboutHere_51 rfl (fun hc => ?_) (fun hc => ?_)
        · replace hf := p_ps hf hc
          refine s_aload_n (pc := 56) dX4_aboutHere_56 0 rfl rfl ?_
          obtain ⟨q21, h22, hf⟩ := p_bd hf
          have t23 : p_tp N q21 12 := WT.get hW ha0 h22
          refine x_getR (pc := 57) dX4_aboutHere_57 fl_X4_19 rfl ha0 h22 ?_
          refine s_ldcS (pc := 60) (j := 10) rfl rfl rfl dX4_aboutHere_60 ?_
          obtain ⟨q24, h25, hf⟩ := p_bd hf
          refine y_callV1 (pc := 62) dX4_aboutHere_62 (c_X9_isWord (p_dd hd (by decide)) hW t23 (p_sx_ (by decide)) h25) mk_X9_isWord mv_X9_isWord ml_X4_73 rfl rfl (Nat.le_of_ble_eq_true rfl) t23 rfl (p_d1 hd (by decide)) (Nat.le_of_ble_eq_true rfl) ?_
          refine s_if_eq (pc := 65) (tgt := 70) dX4_aboutHere_65 rfl (fun hc => ?_) (fun hc => ?_)
          · replace hf := p_ps hf hc
            refine s_aload_n (pc := 70) dX4_aboutHere_70 0 rfl rfl ?_
            obtain ⟨q26, h27, hf⟩ := p_bd hf
            have t28 : p_tp N q26 12 := WT.get hW ha0 h27
            refine x_getR (pc := 71) dX4_aboutHere_71 fl_X4_19 rfl ha0 h27 ?_
            refine s_ldcS (pc := 74) (j := 11) rfl rfl rfl dX4_aboutHere_74 ?_
            obtain ⟨q29, h30, hf⟩ := p_bd hf
            refine y_callV1 (pc := 76) dX4_aboutHere_76 (c_X9_isWord (p_dd hd (by decide)) hW t28 (p_sx_ (by decide)) h30) mk_X9_isWord mv_X9_isWord ml_X4_73 rfl rfl (Nat.le_of_ble_eq_true rfl) t28 rfl (p_d1 hd (by decide)) (Nat.le_of_ble_eq_true rfl) ?_
            refine s_if_eq (pc := 79) (tgt := 84) dX4_aboutHere_79 rfl (fun hc => ?_) (fun hc => ?_)
            · replace hf := p_ps hf hc
              refine s_aload_n (pc := 84) dX4_aboutHere_84 0 rfl rfl ?_
              obtain ⟨q31, h32, hf⟩ := p_bd hf
              have t33 : p_tp N q31 12 := WT.get hW ha0 h32
              refine x_getR (pc := 85) dX4_aboutHere_85 fl_X4_19 rfl ha0 h32 ?_
              refine s_ldcS (pc := 88) (j := 12) rfl rfl rfl dX4_aboutHere_88 ?_
              obtain ⟨q34, h35, hf⟩ := p_bd hf
              refine y_callV1 (pc := 90) dX4_aboutHere_90 (c_X9_isWord (p_dd hd (by decide)) hW t33 (p_sx_ (by decide)) h35) mk_X9_isWord mv_X9_isWord ml_X4_73 rfl rfl (Nat.le_of_ble_eq_true rfl) t33 rfl (p_d1 hd (by decide)) (Nat.le_of_ble_eq_true rfl) ?_
              refine s_if_eq (pc := 93) (tgt := 101) dX4_aboutHere_93 rfl (fun hc => ?_) (fun hc => ?_)
              · replace hf := p_ps hf hc
                refine s_iconst (pc := 101) dX4_aboutHere_101 (v := (-1)) rfl ?_
                cases hf
                exact s_ireturn (pc := 102) dX4_aboutHere_102 rfl rfl ⟨rfl, rfl, rfl, rfl, rfl⟩
              · replace hf := p_ng hf hc
                refine s_bipush (pc := 96) dX4_aboutHere_96 (v := nI 6) rfl ?_
                refine s_goto (pc := 98) (tgt := 102) dX4_aboutHere_98 rfl ?_
                cases hf
                exact s_ireturn (pc := 102) dX4_aboutHere_102 rfl rfl ⟨rfl, rfl, rfl, rfl, rfl⟩
            · replace hf := p_ng hf hc
              refine s_iconst (pc := 82) dX4_aboutHere_82 (v := nI 5) rfl ?_
              cases hf
              exact s_ireturn (pc := 83) dX4_aboutHere_83 rfl rfl ⟨rfl, rfl, rfl, rfl, rfl⟩
          · replace hf := p_ng hf hc
            refine s_iconst (pc := 68) dX4_aboutHere_68 (v := nI 4) rfl ?_
            cases hf
            exact s_ireturn (pc := 69) dX4_aboutHere_69 rfl rfl ⟨rfl, rfl, rfl, rfl, rfl⟩
        · replace hf := p_ng hf hc
          refine s_iconst (pc := 54) dX4_aboutHere_54 (v := nI 3) rfl ?_
          cases hf
          exact s_ireturn (pc := 55) dX4_aboutHere_55 rfl rfl ⟨rfl, rfl, rfl, rfl, rfl⟩
      · replace hf := p_ng hf hc
        refine s_iconst (pc := 40) dX4_aboutHere_40 (v := nI 2) rfl ?_
        cases hf
        exact s_ireturn (pc := 41) dX4_aboutHere_41 rfl rfl ⟨rfl, rfl, rfl, rfl, rfl⟩
    · replace hf := p_ng hf hc
      refine s_iconst (pc := 26) dX4_aboutHere_26 (v := nI 1) rfl ?_
      cases hf
      exact s_ireturn (pc := 27) dX4_aboutHere_27 rfl rfl ⟨rfl, rfl, rfl, rfl, rfl⟩
  · replace hf := p_ng hf hc
    refine s_iconst (pc := 12) dX4_aboutHere_12 (v := nI 0) rfl ?_
    cases hf
    exact s_ireturn (pc := 13) dX4_aboutHere_13 rfl rfl ⟨rfl, rfl, rfl, rfl, rfl⟩
def f_X9_pass (n : Nat) (N : pN) (I : pI) (P : pR) (a0 : Nat) (x1 : Int32) : Option (Int32 × pI) :=
  (if x1 = 0 then
    Option.bind (f_X9_note I a0 (nI 1) (I a0 2)) fun q1 =>
    p_ck (decide (x1 = 0 ∨ x1 = 1)) <|
    some (x1, q1)
  else
    Option.bind (f_X9_advance n N I P a0) fun q4 =>
    p_ck (decide (x1 = 0 ∨ x1 = 1)) <|
    some (x1, q4))
theorem c_X9_pass {G : pG} {d : Nat} {n : Nat} {N : pN} {I : pI} {L : pL} {P : pR} {a0 : Nat} {x1 : Int32} {qq : Int32 × pI} (hd : 2 ≤ d) (hW : WT N P) (ha0 : p_tp N a0 12) (hf : f_X9_pass n N I P a0 x1 = some qq) : MT G mX9_pass d 0 0 [.ref a0, .int x1] N I L P (p_R (some (.int qq.1)) N qq.2 L P) := by
  refine MT.of rfl (Nat.le_of_ble_eq_true rfl) ?_
  show SW G mX9_pass (p_rm d 0 0) 0 0 0 0 (p_R (some (.int qq.1)) N qq.2 L P) 0 [(0, .ref a0), (1, .int x1)] [] N I L P
  unfold f_X9_pass at hf
  refine s_iload_n (pc := 0) dX9_pass_0 1 rfl rfl ?_
  refine s_if_eq (pc := 1) (tgt := 11) dX9_pass_1 rfl (fun hc => ?_) (fun hc => ?_)
  · replace hf := p_ps hf hc
    refine s_aload_n (pc := 11) dX9_pass_11 0 rfl rfl ?_
    refine s_iconst (pc := 12) dX9_pass_12 (v := nI 1) rfl ?_
    refine s_aload_n (pc := 13) dX9_pass_13 0 rfl rfl ?_
    refine x_getI (pc := 14) dX9_pass_14 fl_X9_15 rfl ha0 ?_
    obtain ⟨q1, h2, hf⟩ := p_bd hf
    refine y_callV0 (pc := 17) dX9_pass_17 (c_X9_note (p_dd hd (by decide)) hW ha0 h2) mk_X9_note mv_X9_note ml_X9_61 rfl rfl (Nat.le_of_ble_eq_true rfl) ha0 rfl (p_d1 hd (by decide)) (Nat.le_of_ble_eq_true rfl) ?_
    refine s_iload_n (pc := 20) dX9_pass_20 1 rfl rfl ?_
    obtain ⟨c3, hf⟩ := p_ckx hf
    cases hf
    exact s_ireturn (pc := 21) dX9_pass_21 rfl (p_nr (of_decide_eq_true c3)) ⟨rfl, rfl, rfl, rfl, rfl⟩
  · replace hf := p_ng hf hc
    refine s_aload_n (pc := 4) dX9_pass_4 0 rfl rfl ?_
    obtain ⟨q4, h5, hf⟩ := p_bd hf
    refine y_callV0 (pc := 5) dX9_pass_5 (c_X9_advance (p_dd hd (by decide)) hW ha0 h5) mk_X9_advance mv_X9_advance ml_X9_31 rfl rfl (Nat.le_of_ble_eq_true rfl) ha0 rfl (p_d1 hd (by decide)) (Nat.le_of_ble_eq_true rfl) ?_
    refine s_goto (pc := 8) (tgt := 20) dX9_pass_8 rfl ?_
    refine s_iload_n (pc := 20) dX9_pass_20 1 rfl rfl ?_
    obtain ⟨c6, hf⟩ := p_ckx hf
    cases hf
    exact s_ireturn (pc := 21) dX9_pass_21 rfl (p_nr (of_decide_eq_true c6)) ⟨rfl, rfl, rfl, rfl, rfl⟩
def f_X9_sign (N : pN) (I : pI) (P : pR) (a0 : Nat) : Option Int32 :=
  (if (I a0 1) = (nI 3) then
    Option.bind (P a0 0) fun q1 =>
    Option.bind (f_X8_get N I P q1 (I a0 2) (nI 0)) fun q4 =>
    some q4
  else
    some (-1))
theorem c_X9_sign {G : pG} {d : Nat} {N : pN} {I : pI} {L : pL} {P : pR} {a0 : Nat} {qq : Int32} (hd : 1 ≤ d) (hW : WT N P) (ha0 : p_tp N a0 12) (hf : f_X9_sign N I P a0 = some qq) : MT G mX9_sign d 0 0 [.ref a0] N I L P (p_R (some (.int qq)) N I L P) := by
  refine MT.of rfl (Nat.le_of_ble_eq_true rfl) ?_
  show SW G mX9_sign (p_rm d 0 0) 0 0 0 0 (p_R (some (.int qq)) N I L P) 0 [(0, .ref a0)] [] N I L P
  unfold f_X9_sign at hf
  refine s_aload_n (pc := 0) dX9_sign_0 0 rfl rfl ?_
  refine x_getI (pc := 1) dX9_sign_1 fl_X9_11 rfl ha0 ?_
  refine s_iconst (pc := 4) dX9_sign_4 (v := nI 3) rfl ?_
  refine s_icmp_ne (pc := 5) (tgt := 23) dX9_sign_5 rfl (fun hc => ?_) (fun hc => ?_)
  · replace hf := p_ng hf hc
    refine s_iconst (pc := 23) dX9_sign_23 (v := (-1)) rfl ?_
    cases hf
    exact s_ireturn (pc := 24) dX9_sign_24 rfl rfl ⟨rfl, rfl, rfl, rfl, rfl⟩
  · replace hf := p_ps hf hc
    refine s_aload_n (pc := 8) dX9_sign_8 0 rfl rfl ?_
    obtain ⟨q1, h2, hf⟩ := p_bd hf
    have t3 : p_tp N q1 11 := WT.get hW ha0 h2
    refine x_getR (pc := 9) dX9_sign_9 fl_X9_27 rfl ha0 h2 ?_
    refine s_aload_n (pc := 12) dX9_sign_12 0 rfl rfl ?_
    refine x_getI (pc := 13) dX9_sign_13 fl_X9_15 rfl ha0 ?_
    refine s_iconst (pc := 16) dX9_sign_16 (v := nI 0) rfl ?_
    obtain ⟨q4, h5, hf⟩ := p_bd hf
    refine y_callV1 (pc := 17) dX9_sign_17 (c_X8_get (p_dd hd (by decide)) hW t3 h5) mk_X8_get mv_X8_get ml_X9_40 rfl rfl (Nat.le_of_ble_eq_true rfl) t3 rfl (p_d1 hd (by decide)) (Nat.le_of_ble_eq_true rfl) ?_
    refine s_goto (pc := 20) (tgt := 24) dX9_sign_20 rfl ?_
    cases hf
    exact s_ireturn (pc := 24) dX9_sign_24 rfl rfl ⟨rfl, rfl, rfl, rfl, rfl⟩
def B_X9_number_7 (N : pN) (I : pI) (P : pR) (a0 : Nat) (rec0 : (Int32 × Int32) → Option Int32) (s0 : Int32 × Int32) : Option Int32 :=
  (if (I a0 3) ≤ s0.2 then
    some s0.1
  else
    (if ((I a0 2) + (nI 4)) ≤ s0.2 then
      some s0.1
    else
      Option.bind (P a0 0) fun q3 =>
      Option.bind (f_X8_get N I P q3 s0.2 (nI 0)) fun q6 =>
      p_let (((s0.1 * (nI 10)) + q6) - (nI 48)) fun v8 =>
      rec0 (v8, s0.2 + nI 1)))
def f_X9_number (n : Nat) (N : pN) (I : pI) (P : pR) (a0 : Nat) : Option Int32 :=
  Option.bind (p_it (B_X9_number_7 N I P a0) n (nI 0, I a0 2)) fun t1 =>
  some t1
theorem c_X9_number {G : pG} {d : Nat} {n : Nat} {N : pN} {I : pI} {L : pL} {P : pR} {a0 : Nat} {qq : Int32} (hd : 1 ≤ d) (hW : WT N P) (ha0 : p_tp N a0 12) (hf : f_X9_number n N I P a0 = some qq) : MT G mX9_number d 0 0 [.ref a0] N I L P (p_R (some (.int qq)) N I L P) := by
  refine MT.of rfl (Nat.le_of_ble_eq_true rfl) ?_
  show SW G mX9_number (p_rm d 0 0) 0 0 0 0 (p_R (some (.int qq)) N I L P) 0 [(0, .ref a0)] [] N I L P
  unfold f_X9_number at hf
  refine s_iconst (pc := 0) dX9_number_0 (v := nI 0) rfl ?_
  refine s_istore_n (pc := 1) (lo' := [(1, .int (nI 0)), (0, .ref a0)]) dX9_number_1 rfl (Nat.le_of_ble_eq_true rfl) rfl ?_
  refine s_aload_n (pc := 2) dX9_number_2 1 rfl rfl ?_
  refine x_getI (pc := 3) dX9_number_3 fl_X9_15 rfl ha0 ?_
  refine s_istore_n (pc := 6) (lo' := [(2, .int (I a0 2)), (1, .int (nI 0)), (0, .ref a0)]) dX9_number_6 rfl (Nat.le_of_ble_eq_true rfl) rfl ?_
  obtain ⟨t1, hg, hf⟩ := p_bd hf
  have k2 : SW G mX9_number (p_rm d 0 0) 0 0 0 0 (p_R (some (.int qq)) N I L P) 49 [(1, .int t1)] [] N I L P := by
    refine s_iload_n (pc := 49) dX9_number_49 0 rfl rfl ?_
    cases hf
    exact s_ireturn (pc := 50) dX9_number_50 rfl rfl ⟨rfl, rfl, rfl, rfl, rfl⟩
  replace hf := hg
  have k10 : ∀ (k : Nat) (s0 : Int32 × Int32), p_it (B_X9_number_7 N I P a0) k s0 = some t1 → (SW G mX9_number (p_rm d 0 0) 0 0 0 0 (p_R (some (.int qq)) N I L P) 7 [(0, .ref a0), (1, .int s0.1), (2, .int s0.2)] [] N I L P) := p_it_ind (C := fun (s0 : Int32 × Int32) => SW G mX9_number (p_rm d 0 0) 0 0 0 0 (p_R (some (.int qq)) N I L P) 7 [(0, .ref a0), (1, .int s0.1), (2, .int s0.2)] [] N I L P) (by
    intro rec0 hrec0 s0 hf
    unfold B_X9_number_7 at hf
    refine s_iload_n (pc := 7) dX9_number_7 2 rfl rfl ?_
    refine s_aload_n (pc := 8) dX9_number_8 0 rfl rfl ?_
    refine x_getI (pc := 9) dX9_number_9 fl_X9_18 rfl ha0 ?_
    refine s_icmp_ge (pc := 12) (tgt := 49) dX9_number_12 rfl (fun hc => ?_) (fun hc => ?_)
    · replace hf := p_ps hf hc
      cases hf
      exact s_lo [1] rfl (k2)
    · replace hf := p_ng hf hc
      refine s_iload_n (pc := 15) dX9_number_15 2 rfl rfl ?_
      refine s_aload_n (pc := 16) dX9_number_16 0 rfl rfl ?_
      refine x_getI (pc := 17) dX9_number_17 fl_X9_15 rfl ha0 ?_
      refine s_iconst (pc := 20) dX9_number_20 (v := nI 4) rfl ?_
      refine s_iadd (pc := 21) dX9_number_21 ?_
      refine s_icmp_ge (pc := 22) (tgt := 49) dX9_number_22 rfl (fun hc => ?_) (fun hc => ?_)
      · replace hf := p_ps hf hc
        cases hf
        exact s_lo [1] rfl (k2)
      · replace hf := p_ng hf hc
        refine s_iload_n (pc := 25) dX9_number_25 1 rfl rfl ?_
        refine s_bipush (pc := 26) dX9_number_26 (v := nI 10) rfl ?_
        refine s_imul (pc := 28) dX9_number_28 ?_
        refine s_aload_n (pc := 29) dX9_number_29 0 rfl rfl ?_
        obtain ⟨q11, h12, hf⟩ := p_bd hf
        have t13 : p_tp N q11 11 := WT.get hW ha0 h12
        refine x_getR (pc := 30) dX9_number_30 fl_X9_27 rfl ha0 h12 ?_
        refine s_iload_n (pc := 33) dX9_number_33 2 rfl rfl ?_
        refine s_iconst (pc := 34) dX9_number_34 (v := nI 0) rfl ?_
        obtain ⟨q14, h15, hf⟩ := p_bd hf
        refine y_callV1 (pc := 35) dX9_number_35 (c_X8_get (p_dd hd (by decide)) hW t13 h15) mk_X8_get mv_X8_get ml_X9_40 rfl rfl (Nat.le_of_ble_eq_true rfl) t13 rfl (p_d1 hd (by decide)) (Nat.le_of_ble_eq_true rfl) ?_
        refine s_iadd (pc := 38) dX9_number_38 ?_
        refine s_bipush (pc := 39) dX9_number_39 (v := nI 48) rfl ?_
        refine s_isub (pc := 41) dX9_number_41 ?_
        refine s_topi (fun v16 e17 => ?_)
        replace hf := p_lx hf e17
        refine s_istore_n (pc := 42) (lo' := [(1, .int v16), (0, .ref a0), (2, .int s0.2)]) dX9_number_42 rfl (Nat.le_of_ble_eq_true rfl) rfl ?_
        refine s_iinc (pc := 43) (lo' := [(2, .int (s0.2 + nI 1)), (1, .int v16), (0, .ref a0)]) dX9_number_43 2 rfl (v := s0.2 + nI 1) rfl (Nat.le_of_ble_eq_true rfl) rfl ?_
        refine s_goto (pc := 46) (tgt := 7) dX9_number_46 rfl ?_
        exact s_lo [2, 1, 0] rfl (hrec0 (v16, s0.2 + nI 1) hf))
  exact s_lo [2, 1, 0] rfl (k10 n (nI 0, I a0 2) hf)
def f_X9_isNumber (I : pI) (a0 : Nat) : Option Int32 :=
  (if (I a0 1) = (nI 2) then
    (if (nI 4) < ((I a0 3) - (I a0 2)) then
      some (nI 0)
    else
      some (nI 1))
  else
    some (nI 0))
theorem c_X9_isNumber {G : pG} {d : Nat} {N : pN} {I : pI} {L : pL} {P : pR} {a0 : Nat} {qq : Int32} (hd : 0 ≤ d) (hW : WT N P) (ha0 : p_tp N a0 12) (hf : f_X9_isNumber I a0 = some qq) : MT G mX9_isNumber d 0 0 [.ref a0] N I L P (p_R (some (.int qq)) N I L P) := by
  refine MT.of rfl (Nat.le_of_ble_eq_true rfl) ?_
  show SW G mX9_isNumber (p_rm d 0 0) 0 0 0 0 (p_R (some (.int qq)) N I L P) 0 [(0, .ref a0)] [] N I L P
  unfold f_X9_isNumber at hf
  refine s_aload_n (pc := 0) dX9_isNumber_0 0 rfl rfl ?_
  refine x_getI (pc := 1) dX9_isNumber_1 fl_X9_11 rfl ha0 ?_
  refine s_iconst (pc := 4) dX9_isNumber_4 (v := nI 2) rfl ?_
  refine s_icmp_ne (pc := 5) (tgt := 25) dX9_isNumber_5 rfl (fun hc => ?_) (fun hc => ?_)
  · replace hf := p_ng hf hc
    refine s_iconst (pc := 25) dX9_isNumber_25 (v := nI 0) rfl ?_
    cases hf
    exact s_ireturn (pc := 26) dX9_isNumber_26 rfl rfl ⟨rfl, rfl, rfl, rfl, rfl⟩
  · replace hf := p_ps hf hc
    refine s_aload_n (pc := 8) dX9_isNumber_8 0 rfl rfl ?_
    refine x_getI (pc := 9) dX9_isNumber_9 fl_X9_18 rfl ha0 ?_
    refine s_aload_n (pc := 12) dX9_isNumber_12 0 rfl rfl ?_
    refine x_getI (pc := 13) dX9_isNumber_13 fl_X9_15 rfl ha0 ?_
    refine s_isub (pc := 16) dX9_isNumber_16 ?_
    refine s_iconst (pc := 17) dX9_isNumber_17 (v := nI 4) rfl ?_
    refine s_icmp_gt (pc := 18) (tgt := 25) dX9_isNumber_18 rfl (fun hc => ?_) (fun hc => ?_)
    · replace hf := p_ps hf hc
      refine s_iconst (pc := 25) dX9_isNumber_25 (v := nI 0) rfl ?_
      cases hf
      exact s_ireturn (pc := 26) dX9_isNumber_26 rfl rfl ⟨rfl, rfl, rfl, rfl, rfl⟩
    · replace hf := p_ng hf hc
      refine s_iconst (pc := 21) dX9_isNumber_21 (v := nI 1) rfl ?_
      refine s_goto (pc := 22) (tgt := 26) dX9_isNumber_22 rfl ?_
      cases hf
      exact s_ireturn (pc := 26) dX9_isNumber_26 rfl rfl ⟨rfl, rfl, rfl, rfl, rfl⟩
def f_X4_readNumber (n : Nat) (N : pN) (I : pI) (P : pR) (a0 : Nat) (x1 : Int32) (x2 : Int32) : Option (Int32 × pI) :=
  Option.bind (P a0 0) fun q1 =>
  Option.bind (f_X9_sign N I P q1) fun q4 =>
  Option.bind (P a0 1) fun q6 =>
  Option.bind (f_X8_put N I P q6 x1 (x2 + (nI 2)) q4) fun q9 =>
  Option.bind (P a0 0) fun q11 =>
  p_let (α := Int32) ((if q4 = (nI 60) then
    nI 1
  else
    (if q4 = (nI 62) then
      nI 1
    else
      (if q4 = (nI 61) then
        nI 1
      else
        nI 0)))) fun t14 =>
  Option.bind (f_X9_pass n N q9 P q11 t14) fun q16 =>
  (if q16.1 = 0 then
    some (nI 0, q16.2)
  else
    Option.bind (P a0 1) fun q18 =>
    Option.bind (P a0 0) fun q21 =>
    Option.bind (f_X9_number n N q16.2 P q21) fun q24 =>
    Option.bind (f_X8_put N q16.2 P q18 x1 (x2 + (nI 3)) q24) fun q26 =>
    Option.bind (P a0 0) fun q28 =>
    Option.bind (P a0 0) fun q31 =>
    Option.bind (f_X9_isNumber q26 q31) fun q34 =>
    Option.bind (f_X9_pass n N q26 P q28 q34) fun q36 =>
    p_ck (decide (q36.1 = 0 ∨ q36.1 = 1)) <|
    some (q36.1, q36.2))
theorem c_X4_readNumber {G : pG} {d : Nat} {n : Nat} {N : pN} {I : pI} {L : pL} {P : pR} {a0 : Nat} {x1 : Int32} {x2 : Int32} {qq : Int32 × pI} (hd : 3 ≤ d) (hW : WT N P) (ha0 : p_tp N a0 7) (hf : f_X4_readNumber n N I P a0 x1 x2 = some qq) : MT G mX4_readNumber d 0 0 [.ref a0, .int x1, .int x2] N I L P (p_R (some (.int qq.1)) N qq.2 L P) := by
  refine MT.of rfl (Nat.le_of_ble_eq_true rfl) ?_
  show SW G mX4_readNumber (p_rm d 0 0) 0 0 0 0 (p_R (some (.int qq.1)) N qq.2 L P) 0 [(0, .ref a0), (1, .int x1), (2, .int x2)] [] N I L P
  unfold f_X4_readNumber at hf
  refine s_aload_n (pc := 0) dX4_readNumber_0 0 rfl rfl ?_
  obtain ⟨q1, h2, hf⟩ := p_bd hf
  have t3 : p_tp N q1 12 := WT.get hW ha0 h2
  refine x_getR (pc := 1) dX4_readNumber_1 fl_X4_19 rfl ha0 h2 ?_
  obtain ⟨q4, h5, hf⟩ := p_bd hf
  refine y_callV1 (pc := 4) dX4_readNumber_4 (c_X9_sign (p_dd hd (by decide)) hW t3 h5) mk_X9_sign mv_X9_sign ml_X4_86 rfl rfl (Nat.le_of_ble_eq_true rfl) t3 rfl (p_d1 hd (by decide)) (Nat.le_of_ble_eq_true rfl) ?_
  refine s_istore_n (pc := 7) (lo' := [(3, .int q4), (0, .ref a0), (1, .int x1), (2, .int x2)]) dX4_readNumber_7 rfl (Nat.le_of_ble_eq_true rfl) rfl ?_
  refine s_aload_n (pc := 8) dX4_readNumber_8 1 rfl rfl ?_
  obtain ⟨q6, h7, hf⟩ := p_bd hf
  have t8 : p_tp N q6 11 := WT.get hW ha0 h7
  refine x_getR (pc := 9) dX4_readNumber_9 fl_X4_25 rfl ha0 h7 ?_
  refine s_iload_n (pc := 12) dX4_readNumber_12 2 rfl rfl ?_
  refine s_iload_n (pc := 13) dX4_readNumber_13 3 rfl rfl ?_
  refine s_iconst (pc := 14) dX4_readNumber_14 (v := nI 2) rfl ?_
  refine s_iadd (pc := 15) dX4_readNumber_15 ?_
  refine s_iload_n (pc := 16) dX4_readNumber_16 0 rfl rfl ?_
  obtain ⟨q9, h10, hf⟩ := p_bd hf
  refine y_callV0 (pc := 17) dX4_readNumber_17 (c_X8_put (p_dd hd (by decide)) hW t8 h10) mk_X8_put mv_X8_put ml_X4_95 rfl rfl (Nat.le_of_ble_eq_true rfl) t8 rfl (p_d1 hd (by decide)) (Nat.le_of_ble_eq_true rfl) ?_
  refine s_aload_n (pc := 20) dX4_readNumber_20 1 rfl rfl ?_
  obtain ⟨q11, h12, hf⟩ := p_bd hf
  have t13 : p_tp N q11 12 := WT.get hW ha0 h12
  refine x_getR (pc := 21) dX4_readNumber_21 fl_X4_19 rfl ha0 h12 ?_
  refine s_iload_n (pc := 24) dX4_readNumber_24 0 rfl rfl ?_
  refine s_bipush (pc := 25) dX4_readNumber_25 (v := nI 60) rfl ?_
  obtain ⟨t14, hg, hf⟩ := p_lx2 hf
  have k15 : SW G mX4_readNumber (p_rm d 0 0) 0 0 0 0 (p_R (some (.int qq.1)) N qq.2 L P) 47 [(0, .ref a0), (1, .int x1), (2, .int x2)] [.int t14, .ref q11] N q9 L P := by
    obtain ⟨q16, h17, hf⟩ := p_bd hf
    refine y_callV1 (pc := 47) dX4_readNumber_47 (c_X9_pass (p_dd hd (by decide)) hW t13 h17) mk_X9_pass mv_X9_pass ml_X4_89 rfl rfl (Nat.le_of_ble_eq_true rfl) t13 rfl (p_d1 hd (by decide)) (Nat.le_of_ble_eq_true rfl) ?_
    refine s_if_ne (pc := 50) (tgt := 55) dX4_readNumber_50 rfl (fun hc => ?_) (fun hc => ?_)
    · replace hf := p_ng hf hc
      refine s_aload_n (pc := 55) dX4_readNumber_55 0 rfl rfl ?_
      obtain ⟨q18, h19, hf⟩ := p_bd hf
      have t20 : p_tp N q18 11 := WT.get hW ha0 h19
      refine x_getR (pc := 56) dX4_readNumber_56 fl_X4_25 rfl ha0 h19 ?_
      refine s_iload_n (pc := 59) dX4_readNumber_59 1 rfl rfl ?_
      refine s_iload_n (pc := 60) dX4_readNumber_60 2 rfl rfl ?_
      refine s_iconst (pc := 61) dX4_readNumber_61 (v := nI 3) rfl ?_
      refine s_iadd (pc := 62) dX4_readNumber_62 ?_
      refine s_aload_n (pc := 63) dX4_readNumber_63 0 rfl rfl ?_
      obtain ⟨q21, h22, hf⟩ := p_bd hf
      have t23 : p_tp N q21 12 := WT.get hW ha0 h22
      refine x_getR (pc := 64) dX4_readNumber_64 fl_X4_19 rfl ha0 h22 ?_
      obtain ⟨q24, h25, hf⟩ := p_bd hf
      refine y_callV1 (pc := 67) dX4_readNumber_67 (c_X9_number (p_dd hd (by decide)) hW t23 h25) mk_X9_number mv_X9_number ml_X4_113 rfl rfl (Nat.le_of_ble_eq_true rfl) t23 rfl (p_d1 hd (by decide)) (Nat.le_of_ble_eq_true rfl) ?_
      obtain ⟨q26, h27, hf⟩ := p_bd hf
      refine y_callV0 (pc := 70) dX4_readNumber_70 (c_X8_put (p_dd hd (by decide)) hW t20 h27) mk_X8_put mv_X8_put ml_X4_95 rfl rfl (Nat.le_of_ble_eq_true rfl) t20 rfl (p_d1 hd (by decide)) (Nat.le_of_ble_eq_true rfl) ?_
      refine s_aload_n (pc := 73) dX4_readNumber_73 0 rfl rfl ?_
      obtain ⟨q28, h29, hf⟩ := p_bd hf
      have t30 : p_tp N q28 12 := WT.get hW ha0 h29
      refine x_getR (pc := 74) dX4_readNumber_74 fl_X4_19 rfl ha0 h29 ?_
      refine s_aload_n (pc := 77) dX4_readNumber_77 0 rfl rfl ?_
      obtain ⟨q31, h32, hf⟩ := p_bd hf
      have t33 : p_tp N q31 12 := WT.get hW ha0 h32
      refine x_getR (pc := 78) dX4_readNumber_78 fl_X4_19 rfl ha0 h32 ?_
      obtain ⟨q34, h35, hf⟩ := p_bd hf
      refine y_callV1 (pc := 81) dX4_readNumber_81 (c_X9_isNumber (p_dd hd (by decide)) hW t33 h35) mk_X9_isNumber mv_X9_isNumber ml_X4_116 rfl rfl (Nat.le_of_ble_eq_true rfl) t33 rfl (p_d1 hd (by decide)) (Nat.le_of_ble_eq_true rfl) ?_
      obtain ⟨q36, h37, hf⟩ := p_bd hf
      refine y_callV1 (pc := 84) dX4_readNumber_84 (c_X9_pass (p_dd hd (by decide)) hW t30 h37) mk_X9_pass mv_X9_pass ml_X4_89 rfl rfl (Nat.le_of_ble_eq_true rfl) t30 rfl (p_d1 hd (by decide)) (Nat.le_of_ble_eq_true rfl) ?_
      obtain ⟨c38, hf⟩ := p_ckx hf
      cases hf
      exact s_ireturn (pc := 87) dX4_readNumber_87 rfl (p_nr (of_decide_eq_true c38)) ⟨rfl, rfl, rfl, rfl, rfl⟩
    · replace hf := p_ps hf hc
      refine s_iconst (pc := 53) dX4_readNumber_53 (v := nI 0) rfl ?_
      cases hf
      exact s_ireturn (pc := 54) dX4_readNumber_54 rfl rfl ⟨rfl, rfl, rfl, rfl, rfl⟩
  replace hf := hg.symm
  refine s_icmp_eq (pc := 27) (tgt := 42) dX4_readNumber_27 rfl (fun hc => ?_) (fun hc => ?_)
  · replace hf := p_ps hf hc
    refine s_iconst (pc := 42) dX4_readNumber_42 (v := nI 1) rfl ?_
    refine s_goto (pc := 43) (tgt := 47) dX4_readNumber_43 rfl ?_
    cases hf
    exact s_lo [1, 2, 3] rfl (k15)
  · replace hf := p_ng hf hc
    refine s_iload_n (pc := 30) dX4_readNumber_30 0 rfl rfl ?_
    refine s_bipush (pc := 31) dX4_readNumber_31 (v := nI 62) rfl ?_
    refine s_icmp_eq (pc := 33) (tgt := 42) dX4_readNumber_33 rfl (fun hc => ?_) (fun hc => ?_)
    · replace hf := p_ps hf hc
      refine s_iconst (pc := 42) dX4_readNumber_42 (v := nI 1) rfl ?_
      refine s_goto (pc := 43) (tgt := 47) dX4_readNumber_43 rfl ?_
      cases hf
      exact s_lo [1, 2, 3] rfl (k15)
    · replace hf := p_ng hf hc
      refine s_iload_n (pc := 36) dX4_readNumber_36 0 rfl rfl ?_
      refine s_bipush (pc := 37) dX4_readNumber_37 (v := nI 61) rfl ?_
      refine s_icmp_ne (pc := 39) (tgt := 46) dX4_readNumber_39 rfl (fun hc => ?_) (fun hc => ?_)
      · replace hf := p_ng hf hc
        refine s_iconst (pc := 46) dX4_readNumber_46 (v := nI 0) rfl ?_
        cases hf
        exact s_lo [1, 2, 3] rfl (k15)
      · replace hf := p_ps hf hc
        refine s_iconst (pc := 42) dX4_readNumber_42 (v := nI 1) rfl ?_
        refine s_goto (pc := 43) (tgt := 47) dX4_readNumber_43 rfl ?_
        cases hf
        exact s_lo [1, 2, 3] rfl (k15)
def f_X4_readTest (n : Nat) (N : pN) (I : pI) (P : pR) (a0 : Nat) (x1 : Int32) (x2 : Int32) : Option (Int32 × pI) :=
  Option.bind (α := pI) ((if x2 < (nI 4) then
    some I
  else
    Option.bind (P a0 0) fun q3 =>
    Option.bind (P a0 0) fun q6 =>
    Option.bind (f_X9_from I q6) fun q9 =>
    Option.bind (f_X9_note I q3 (nI 5) q9) fun q11 =>
    some q11)) fun t1 =>
  Option.bind (P a0 0) fun q13 =>
  Option.bind (f_X9_isWord n N t1 P q13 1000105) fun q16 =>
  Option.bind (α := pI) ((if q16 = 0 then
    some t1
  else
    Option.bind (P a0 0) fun q20 =>
    Option.bind (f_X9_advance n N t1 P q20) fun q23 =>
    some q23)) fun t18 =>
  Option.bind (f_X4_aboutHere n N t18 P a0) fun q25 =>
  Option.bind (f_X4_columnOf x2) fun q27 =>
  Option.bind (P a0 1) fun q29 =>
  p_let (α := Int32) ((if q16 = 0 then
    nI 0
  else
    nI 1)) fun t32 =>
  Option.bind (f_X8_put N t18 P q29 x1 (q27 + (nI 0)) t32) fun q34 =>
  Option.bind (P a0 1) fun q36 =>
  Option.bind (f_X8_put N q34 P q36 x1 (q27 + (nI 1)) q25) fun q39 =>
  Option.bind (P a0 0) fun q41 =>
  p_let (α := Int32) ((if q25 = (-1) then
    nI 0
  else
    nI 1)) fun t44 =>
  Option.bind (f_X9_pass n N q39 P q41 t44) fun q46 =>
  (if q46.1 = 0 then
    some (nI 0, q46.2)
  else
    (if q25 = 0 then
      some (nI 1, q46.2)
    else
      Option.bind (f_X4_readNumber n N q46.2 P a0 x1 q27) fun q48 =>
      (if q48.1 = 0 then
        some (nI 0, q48.2)
      else
        some (nI 1, q48.2))))
theorem c_X4_readTest {G : pG} {d : Nat} {n : Nat} {N : pN} {I : pI} {L : pL} {P : pR} {a0 : Nat} {x1 : Int32} {x2 : Int32} {qq : Int32 × pI} (hd : 9 ≤ d) (hW : WT N P) (ha0 : p_tp N a0 7) (hf : f_X4_readTest n N I P a0 x1 x2 = some qq) : MT G mX4_readTest d 0 0 [.ref a0, .int x1, .int x2] N I L P (p_R (some (.int qq.1)) N qq.2 L P) := by
  refine MT.of rfl (Nat.le_of_ble_eq_true rfl) ?_
  show SW G mX4_readTest (p_rm d 0 0) 0 0 0 0 (p_R (some (.int qq.1)) N qq.2 L P) 0 [(0, .ref a0), (1, .int x1), (2, .int x2)] [] N I L P
  unfold f_X4_readTest at hf
  refine s_iload_n (pc := 0) dX4_readTest_0 2 rfl rfl ?_
  refine s_iconst (pc := 1) dX4_readTest_1 (v := nI 4) rfl ?_
  obtain ⟨t1, hg, hf⟩ := p_bd hf
  have k2 : SW G mX4_readTest (p_rm d 0 0) 0 0 0 0 (p_R (some (.int qq.1)) N qq.2 L P) 20 [(0, .ref a0), (1, .int x1), (2, .int x2)] [] N t1 L P := by
    refine s_aload_n (pc := 20) dX4_readTest_20 0 rfl rfl ?_
    obtain ⟨q13, h14, hf⟩ := p_bd hf
    have t15 : p_tp N q13 12 := WT.get hW ha0 h14
    refine x_getR (pc := 21) dX4_readTest_21 fl_X4_19 rfl ha0 h14 ?_
    refine s_ldcS (pc := 24) (j := 5) rfl rfl rfl dX4_readTest_24 ?_
    obtain ⟨q16, h17, hf⟩ := p_bd hf
    refine y_callV1 (pc := 26) dX4_readTest_26 (c_X9_isWord (p_dd hd (by decide)) hW t15 (p_sx_ (by decide)) h17) mk_X9_isWord mv_X9_isWord ml_X4_73 rfl rfl (Nat.le_of_ble_eq_true rfl) t15 rfl (p_d1 hd (by decide)) (Nat.le_of_ble_eq_true rfl) ?_
    refine s_istore_n (pc := 29) (lo' := [(3, .int q16), (0, .ref a0), (1, .int x1), (2, .int x2)]) dX4_readTest_29 rfl (Nat.le_of_ble_eq_true rfl) rfl ?_
    refine s_iload_n (pc := 30) dX4_readTest_30 0 rfl rfl ?_
    obtain ⟨t18, hg, hf⟩ := p_bd hf
    have k19 : SW G mX4_readTest (p_rm d 0 0) 0 0 0 0 (p_R (some (.int qq.1)) N qq.2 L P) 41 [(3, .int q16), (0, .ref a0), (1, .int x1), (2, .int x2)] [] N t18 L P := by
      refine s_aload_n (pc := 41) dX4_readTest_41 1 rfl rfl ?_
      obtain ⟨q25, h26, hf⟩ := p_bd hf
      refine y_callV1 (pc := 42) dX4_readTest_42 (c_X4_aboutHere (p_dd hd (by decide)) hW ha0 h26) mk_X4_aboutHere mv_X4_aboutHere ml_X4_103 rfl rfl (Nat.le_of_ble_eq_true rfl) ha0 rfl (p_d1 hd (by decide)) (Nat.le_of_ble_eq_true rfl) ?_
      refine s_istore (pc := 45) (lo' := [(4, .int q25), (3, .int q16), (0, .ref a0), (1, .int x1), (2, .int x2)]) dX4_readTest_45 (Nat.le_of_ble_eq_true rfl) rfl ?_
      refine s_iload_n (pc := 47) dX4_readTest_47 4 rfl rfl ?_
      obtain ⟨q27, h28, hf⟩ := p_bd hf
      refine y_callS1 (pc := 48) dX4_readTest_48 (c_X4_columnOf (p_dd hd (by decide)) hW  h28) mk_X4_columnOf mz_X4_columnOf ml_X4_106 rfl rfl (Nat.le_of_ble_eq_true rfl) (p_d1 hd (by decide)) (Nat.le_of_ble_eq_true rfl) ?_
      refine s_istore (pc := 51) (lo' := [(5, .int q27), (4, .int q25), (3, .int q16), (0, .ref a0), (1, .int x1), (2, .int x2)]) dX4_readTest_51 (Nat.le_of_ble_eq_true rfl) rfl ?_
      refine s_aload_n (pc := 53) dX4_readTest_53 3 rfl rfl ?_
      obtain ⟨q29, h30, hf⟩ := p_bd hf
      have t31 : p_tp N q29 11 := WT.get hW ha0 h30
      refine x_getR (pc := 54) dX4_readTest_54 fl_X4_25 rfl ha0 h30 ?_
      refine s_iload_n (pc := 57) dX4_readTest_57 4 rfl rfl ?_
      refine s_iload (pc := 58) dX4_readTest_58 0 rfl ?_
      refine s_iconst (pc := 60) dX4_readTest_60 (v := nI 0) rfl ?_
      refine s_iadd (pc := 61) dX4_readTest_61 ?_
      refine s_iload_n (pc := 62) dX4_readTest_62 2 rfl rfl ?_
      obtain ⟨t32, hg, hf⟩ := p_lx2 hf
      have k33 : SW G mX4_readTest (p_rm d 0 0) 0 0 0 0 (p_R (some (.int qq.1)) N qq.2 L P) 71 [(5, .int q27), (4, .int q25), (0, .ref a0), (1, .int x1)] [.int t32, .int (q27 + (nI 0)), .int x1, .ref q29] N t18 L P := by
        obtain ⟨q34, h35, hf⟩ := p_bd hf
        refine y_callV0 (pc := 71) dX4_readTest_71 (c_X8_put (p_dd hd (by decide)) hW t31 h35) mk_X8_put mv_X8_put ml_X4_95 rfl rfl (Nat.le_of_ble_eq_true rfl) t31 rfl (p_d1 hd (by decide)) (Nat.le_of_ble_eq_true rfl) ?_
        refine s_aload_n (pc := 74) dX4_readTest_74 2 rfl rfl ?_
        obtain ⟨q36, h37, hf⟩ := p_bd hf
        have t38 : p_tp N q36 11 := WT.get hW ha0 h37
        refine x_getR (pc := 75) dX4_readTest_75 fl_X4_25 rfl ha0 h37 ?_
        refine s_iload_n (pc := 78) dX4_readTest_78 3 rfl rfl ?_
        refine s_iload (pc := 79) dX4_readTest_79 0 rfl ?_
        refine s_iconst (pc := 81) dX4_readTest_81 (v := nI 1) rfl ?_
        refine s_iadd (pc := 82) dX4_readTest_82 ?_
        refine s_iload (pc := 83) dX4_readTest_83 1 rfl ?_
        obtain ⟨q39, h40, hf⟩ := p_bd hf
        refine y_callV0 (pc := 85) dX4_readTest_85 (c_X8_put (p_dd hd (by decide)) hW t38 h40) mk_X8_put mv_X8_put ml_X4_95 rfl rfl (Nat.le_of_ble_eq_true rfl) t38 rfl (p_d1 hd (by decide)) (Nat.le_of_ble_eq_true rfl) ?_
        refine s_aload_n (pc := 88) dX4_readTest_88 2 rfl rfl ?_
        obtain ⟨q41, h42, hf⟩ := p_bd hf
        have t43 : p_tp N q41 12 := WT.get hW ha0 h42
        refine x_getR (pc := 89) dX4_readTest_89 fl_X4_19 rfl ha0 h42 ?_
        refine s_iload (pc := 92) dX4_readTest_92 1 rfl ?_
        refine s_iconst (pc := 94) dX4_readTest_94 (v := (-1)) rfl ?_
        obtain ⟨t44, hg, hf⟩ := p_lx2 hf
        have k45 : SW G mX4_readTest (p_rm d 0 0) 0 0 0 0 (p_R (some (.int qq.1)) N qq.2 L P) 103 [(5, .int q27), (4, .int q25), (0, .ref a0), (1, .int x1)] [.int t44, .ref q41] N q39 L P := by
          obtain ⟨q46, h47, hf⟩ := p_bd hf
          refine y_callV1 (pc := 103) dX4_readTest_103 (c_X9_pass (p_dd hd (by decide)) hW t43 h47) mk_X9_pass mv_X9_pass ml_X4_89 rfl rfl (Nat.le_of_ble_eq_true rfl) t43 rfl (p_d1 hd (by decide)) (Nat.le_of_ble_eq_true rfl) ?_
          refine s_if_ne (pc := 106) (tgt := 111) dX4_readTest_106 rfl (fun hc => ?_) (fun hc => ?_)
          · replace hf := p_ng hf hc
            refine s_iload (pc := 111) dX4_readTest_111 1 rfl ?_
            refine s_if_eq (pc := 113) (tgt := 126) dX4_readTest_113 rfl (fun hc => ?_) (fun hc => ?_)
            · replace hf := p_ps hf hc
              refine s_iconst (pc := 126) dX4_readTest_126 (v := nI 1) rfl ?_
              refine s_goto (pc := 127) (tgt := 131) dX4_readTest_127 rfl ?_
              cases hf
              exact s_ireturn (pc := 131) dX4_readTest_131 rfl rfl ⟨rfl, rfl, rfl, rfl, rfl⟩
            · replace hf := p_ng hf hc
              refine s_aload_n (pc := 116) dX4_readTest_116 2 rfl rfl ?_
              refine s_iload_n (pc := 117) dX4_readTest_117 3 rfl rfl ?_
              refine s_iload (pc := 118) dX4_readTest_118 0 rfl ?_
              obtain ⟨q48, h49, hf⟩ := p_bd hf
              refine y_callV1 (pc := 120) dX4_readTest_120 (c_X4_readNumber (p_dd hd (by decide)) hW ha0 h49) mk_X4_readNumber mv_X4_readNumber ml_X4_110 rfl rfl (Nat.le_of_ble_eq_true rfl) ha0 rfl (p_d1 hd (by decide)) (Nat.le_of_ble_eq_true rfl) ?_
              refine s_if_eq (pc := 123) (tgt := 130) dX4_readTest_123 rfl (fun hc => ?_) (fun hc => ?_)
              · replace hf := p_ps hf hc
                refine s_iconst (pc := 130) dX4_readTest_130 (v := nI 0) rfl ?_
                cases hf
                exact s_ireturn (pc := 131) dX4_readTest_131 rfl rfl ⟨rfl, rfl, rfl, rfl, rfl⟩
              · replace hf := p_ng hf hc
                refine s_iconst (pc := 126) dX4_readTest_126 (v := nI 1) rfl ?_
                refine s_goto (pc := 127) (tgt := 131) dX4_readTest_127 rfl ?_
                cases hf
                exact s_ireturn (pc := 131) dX4_readTest_131 rfl rfl ⟨rfl, rfl, rfl, rfl, rfl⟩
          · replace hf := p_ps hf hc
            refine s_iconst (pc := 109) dX4_readTest_109 (v := nI 0) rfl ?_
            cases hf
            exact s_ireturn (pc := 110) dX4_readTest_110 rfl rfl ⟨rfl, rfl, rfl, rfl, rfl⟩
        replace hf := hg.symm
        refine s_icmp_eq (pc := 95) (tgt := 102) dX4_readTest_95 rfl (fun hc => ?_) (fun hc => ?_)
        · replace hf := p_ps hf hc
          refine s_iconst (pc := 102) dX4_readTest_102 (v := nI 0) rfl ?_
          cases hf
          exact s_lo [0, 1, 2, 3] rfl (k45)
        · replace hf := p_ng hf hc
          refine s_iconst (pc := 98) dX4_readTest_98 (v := nI 1) rfl ?_
          refine s_goto (pc := 99) (tgt := 103) dX4_readTest_99 rfl ?_
          cases hf
          exact s_lo [0, 1, 2, 3] rfl (k45)
      replace hf := hg.symm
      refine s_if_eq (pc := 63) (tgt := 70) dX4_readTest_63 rfl (fun hc => ?_) (fun hc => ?_)
      · replace hf := p_ps hf hc
        refine s_iconst (pc := 70) dX4_readTest_70 (v := nI 0) rfl ?_
        cases hf
        exact s_lo [0, 1, 3, 4] rfl (k33)
      · replace hf := p_ng hf hc
        refine s_iconst (pc := 66) dX4_readTest_66 (v := nI 1) rfl ?_
        refine s_goto (pc := 67) (tgt := 71) dX4_readTest_67 rfl ?_
        cases hf
        exact s_lo [0, 1, 3, 4] rfl (k33)
    replace hf := hg
    refine s_if_eq (pc := 31) (tgt := 41) dX4_readTest_31 rfl (fun hc => ?_) (fun hc => ?_)
    · replace hf := p_ps hf hc
      cases hf
      exact s_lo [0, 1, 2, 3] rfl (k19)
    · replace hf := p_ng hf hc
      refine s_aload_n (pc := 34) dX4_readTest_34 1 rfl rfl ?_
      obtain ⟨q20, h21, hf⟩ := p_bd hf
      have t22 : p_tp N q20 12 := WT.get hW ha0 h21
      refine x_getR (pc := 35) dX4_readTest_35 fl_X4_19 rfl ha0 h21 ?_
      obtain ⟨q23, h24, hf⟩ := p_bd hf
      refine y_callV0 (pc := 38) dX4_readTest_38 (c_X9_advance (p_dd hd (by decide)) hW t22 h24) mk_X9_advance mv_X9_advance ml_X4_77 rfl rfl (Nat.le_of_ble_eq_true rfl) t22 rfl (p_d1 hd (by decide)) (Nat.le_of_ble_eq_true rfl) ?_
      cases hf
      exact s_lo [0, 1, 2, 3] rfl (k19)
  replace hf := hg
  refine s_icmp_lt (pc := 2) (tgt := 20) dX4_readTest_2 rfl (fun hc => ?_) (fun hc => ?_)
  · replace hf := p_ps hf hc
    cases hf
    exact s_lo [0, 1, 2] rfl (k2)
  · replace hf := p_ng hf hc
    refine s_aload_n (pc := 5) dX4_readTest_5 0 rfl rfl ?_
    obtain ⟨q3, h4, hf⟩ := p_bd hf
    have t5 : p_tp N q3 12 := WT.get hW ha0 h4
    refine x_getR (pc := 6) dX4_readTest_6 fl_X4_19 rfl ha0 h4 ?_
    refine s_iconst (pc := 9) dX4_readTest_9 (v := nI 5) rfl ?_
    refine s_aload_n (pc := 10) dX4_readTest_10 0 rfl rfl ?_
    obtain ⟨q6, h7, hf⟩ := p_bd hf
    have t8 : p_tp N q6 12 := WT.get hW ha0 h7
    refine x_getR (pc := 11) dX4_readTest_11 fl_X4_19 rfl ha0 h7 ?_
    obtain ⟨q9, h10, hf⟩ := p_bd hf
    refine y_callV1 (pc := 14) dX4_readTest_14 (c_X9_from (p_dd hd (by decide)) hW t8 h10) mk_X9_from mv_X9_from ml_X4_64 rfl rfl (Nat.le_of_ble_eq_true rfl) t8 rfl (p_d1 hd (by decide)) (Nat.le_of_ble_eq_true rfl) ?_
    obtain ⟨q11, h12, hf⟩ := p_bd hf
    refine y_callV0 (pc := 17) dX4_readTest_17 (c_X9_note (p_dd hd (by decide)) hW t5 h12) mk_X9_note mv_X9_note ml_X4_68 rfl rfl (Nat.le_of_ble_eq_true rfl) t5 rfl (p_d1 hd (by decide)) (Nat.le_of_ble_eq_true rfl) ?_
    cases hf
    exact s_lo [0, 1, 2] rfl (k2)
def J_X4_readLine_106 (n : Nat) (N : pN) (I : pI) (P : pR) (a0 : Nat) (x1 : Int32) (x2 : Int32) : Option pI :=
  Option.bind (P a0 0) fun q23 =>
  Option.bind (f_X9_isWord n N I P q23 1000114) fun q26 =>
  Option.bind (P a0 1) fun q28 =>
  p_let (α := Int32) ((if q26 = 0 then
    nI 0
  else
    nI 1)) fun t31 =>
  Option.bind (f_X8_put N I P q28 x1 (nI 0) t31) fun q33 =>
  Option.bind (P a0 1) fun q35 =>
  Option.bind (f_X8_put N q33 P q35 x1 (nI 1) x2) fun q38 =>
  Option.bind (P a0 0) fun q40 =>
  Option.bind (α := Int32) ((if q26 = 0 then
    Option.bind (P a0 0) fun q45 =>
    Option.bind (f_X9_isWord n N q38 P q45 1000115) fun q48 =>
    (if q48 = 0 then
      some (nI 0)
    else
      some (nI 1))
  else
    some (nI 1))) fun t43 =>
  Option.bind (f_X9_pass n N q38 P q40 t43) fun q50 =>
  (if q50.1 = 0 then
    some q50.2
  else
    Option.bind (P a0 0) fun q52 =>
    Option.bind (P a0 0) fun q55 =>
    Option.bind (f_X9_sign N q50.2 P q55) fun q58 =>
    p_let (α := Int32) ((if q58 = (nI 59) then
      nI 1
    else
      nI 0)) fun t60 =>
    Option.bind (f_X9_pass n N q50.2 P q52 t60) fun q62 =>
    some q62.2)
def J_X4_readLine_78 (n : Nat) (N : pN) (I : pI) (P : pR) (a0 : Nat) (x1 : Int32) (x2 : Int32) : Option pI :=
  Option.bind (P a0 0) fun q108 =>
  Option.bind (P a0 0) fun q111 =>
  Option.bind (f_X9_sign N I P q111) fun q114 =>
  p_let (α := Int32) ((if q114 = (nI 58) then
    nI 1
  else
    nI 0)) fun t116 =>
  Option.bind (f_X9_pass n N I P q108 t116) fun q118 =>
  (if q118.1 = 0 then
    some q118.2
  else
    J_X4_readLine_106 n N q118.2 P a0 x1 x2)
def B_X4_readLine_39 (n : Nat) (N : pN) (P : pR) (a0 : Nat) (x1 : Int32) (rec0 : (Int32 × pI) → Option pI) (s0 : Int32 × pI) : Option pI :=
  Option.bind (P a0 0) fun q135 =>
  Option.bind (f_X9_advance n N s0.2 P q135) fun q138 =>
  Option.bind (f_X4_readTest n N q138 P a0 x1 s0.1) fun q140 =>
  (if q140.1 = 0 then
    some q140.2
  else
    (if (nI 500) ≤ (s0.1 + nI 1) then
      J_X4_readLine_78 n N q140.2 P a0 x1 (s0.1 + nI 1)
    else
      Option.bind (P a0 0) fun q142 =>
      Option.bind (f_X9_isWord n N q140.2 P q142 1000113) fun q145 =>
      (if q145 = 0 then
        J_X4_readLine_78 n N q140.2 P a0 x1 (s0.1 + nI 1)
      else
        rec0 (s0.1 + nI 1, q140.2))))
def f_X4_readLine (n : Nat) (N : pN) (I : pI) (P : pR) (a0 : Nat) (x1 : Int32) : Option pI :=
  Option.bind (P a0 1) fun q1 =>
  Option.bind (f_X8_add I q1) fun q4 =>
  Option.bind (α := pI) ((if q4.1 = 0 then
    Option.bind (P a0 0) fun q8 =>
    Option.bind (P a0 0) fun q11 =>
    Option.bind (f_X9_from q4.2 q11) fun q14 =>
    Option.bind (f_X9_note q4.2 q8 (nI 5) q14) fun q16 =>
    some q16
  else
    some q4.2)) fun t6 =>
  Option.bind (P a0 0) fun q18 =>
  Option.bind (f_X9_isWord n N t6 P q18 1000104) fun q21 =>
  (if q21 = 0 then
    J_X4_readLine_106 n N t6 P a0 x1 (nI 0)
  else
    p_it (B_X4_readLine_39 n N P a0 x1) n (nI 0, t6))
theorem c_X4_readLine {G : pG} {d : Nat} {n : Nat} {N : pN} {I : pI} {L : pL} {P : pR} {a0 : Nat} {x1 : Int32} {qq : pI} (hd : 10 ≤ d) (hW : WT N P) (ha0 : p_tp N a0 7) (hf : f_X4_readLine n N I P a0 x1 = some qq) : MT G mX4_readLine d 0 0 [.ref a0, .int x1] N I L P (p_R none N qq L P) := by
  refine MT.of rfl (Nat.le_of_ble_eq_true rfl) ?_
  show SW G mX4_readLine (p_rm d 0 0) 0 0 0 0 (p_R none N qq L P) 0 [(0, .ref a0), (1, .int x1)] [] N I L P
  unfold f_X4_readLine at hf
  refine s_aload_n (pc := 0) dX4_readLine_0 0 rfl rfl ?_
  obtain ⟨q1, h2, hf⟩ := p_bd hf
  have t3 : p_tp N q1 11 := WT.get hW ha0 h2
  refine x_getR (pc := 1) dX4_readLine_1 fl_X4_25 rfl ha0 h2 ?_
  obtain ⟨q4, h5, hf⟩ := p_bd hf
  refine y_callV1 (pc := 4) dX4_readLine_4 (c_X8_add (p_dd hd (by decide)) hW t3 h5) mk_X8_add mv_X8_add ml_X4_61 rfl rfl (Nat.le_of_ble_eq_true rfl) t3 rfl (p_d1 hd (by decide)) (Nat.le_of_ble_eq_true rfl) ?_
  obtain ⟨t6, hg, hf⟩ := p_bd hf
  have k7 : SW G mX4_readLine (p_rm d 0 0) 0 0 0 0 (p_R none N qq L P) 25 [(0, .ref a0), (1, .int x1)] [] N t6 L P := by
    refine s_iconst (pc := 25) dX4_readLine_25 (v := nI 0) rfl ?_
    refine s_istore_n (pc := 26) (lo' := [(2, .int (nI 0)), (0, .ref a0), (1, .int x1)]) dX4_readLine_26 rfl (Nat.le_of_ble_eq_true rfl) rfl ?_
    refine s_aload_n (pc := 27) dX4_readLine_27 1 rfl rfl ?_
    obtain ⟨q18, h19, hf⟩ := p_bd hf
    have t20 : p_tp N q18 12 := WT.get hW ha0 h19
    refine x_getR (pc := 28) dX4_readLine_28 fl_X4_19 rfl ha0 h19 ?_
    refine s_ldcS (pc := 31) (j := 4) rfl rfl rfl dX4_readLine_31 ?_
    obtain ⟨q21, h22, hf⟩ := p_bd hf
    refine y_callV1 (pc := 33) dX4_readLine_33 (c_X9_isWord (p_dd hd (by decide)) hW t20 (p_sx_ (by decide)) h22) mk_X9_isWord mv_X9_isWord ml_X4_73 rfl rfl (Nat.le_of_ble_eq_true rfl) t20 rfl (p_d1 hd (by decide)) (Nat.le_of_ble_eq_true rfl) ?_
    have k66 : ∀ (x64 : Int32) (I65 : pI) , J_X4_readLine_106 n N I65 P a0 x1 x64 = some qq → SW G mX4_readLine (p_rm d 0 0) 0 0 0 0 (p_R none N qq L P) 106 [(0, .ref a0), (1, .int x1), (2, .int x64)] [] N I65 L P := by
      intro x64 I65 hf
      unfold J_X4_readLine_106 at hf
      refine s_aload_n (pc := 106) dX4_readLine_106 0 rfl rfl ?_
      obtain ⟨q67, h68, hf⟩ := p_bd hf
      have t69 : p_tp N q67 12 := WT.get hW ha0 h68
      refine x_getR (pc := 107) dX4_readLine_107 fl_X4_19 rfl ha0 h68 ?_
      refine s_ldcS (pc := 110) (j := 14) rfl rfl rfl dX4_readLine_110 ?_
      obtain ⟨q70, h71, hf⟩ := p_bd hf
      refine y_callV1 (pc := 112) dX4_readLine_112 (c_X9_isWord (p_dd hd (by decide)) hW t69 (p_sx_ (by decide)) h71) mk_X9_isWord mv_X9_isWord ml_X4_73 rfl rfl (Nat.le_of_ble_eq_true rfl) t69 rfl (p_d1 hd (by decide)) (Nat.le_of_ble_eq_true rfl) ?_
      refine s_istore_n (pc := 115) (lo' := [(3, .int q70), (0, .ref a0), (1, .int x1), (2, .int x64)]) dX4_readLine_115 rfl (Nat.le_of_ble_eq_true rfl) rfl ?_
      refine s_aload_n (pc := 116) dX4_readLine_116 1 rfl rfl ?_
      obtain ⟨q72, h73, hf⟩ := p_bd hf
      have t74 : p_tp N q72 11 := WT.get hW ha0 h73
      refine x_getR (pc := 117) dX4_readLine_117 fl_X4_25 rfl ha0 h73 ?_
      refine s_iload_n (pc := 120) dX4_readLine_120 2 rfl rfl ?_
      refine s_iconst (pc := 121) dX4_readLine_121 (v := nI 0) rfl ?_
      refine s_iload_n (pc := 122) dX4_readLine_122 0 rfl rfl ?_
      obtain ⟨t75, hg, hf⟩ := p_lx2 hf
      have k76 : SW G mX4_readLine (p_rm d 0 0) 0 0 0 0 (p_R none N qq L P) 131 [(3, .int q70), (0, .ref a0), (1, .int x1), (2, .int x64)] [.int t75, .int (nI 0), .int x1, .ref q72] N I65 L P := by
        obtain ⟨q77, h78, hf⟩ := p_bd hf
        refine y_callV0 (pc := 131) dX4_readLine_131 (c_X8_put (p_dd hd (by decide)) hW t74 h78) mk_X8_put mv_X8_put ml_X4_95 rfl rfl (Nat.le_of_ble_eq_true rfl) t74 rfl (p_d1 hd (by decide)) (Nat.le_of_ble_eq_true rfl) ?_
        refine s_aload_n (pc := 134) dX4_readLine_134 1 rfl rfl ?_
        obtain ⟨q79, h80, hf⟩ := p_bd hf
        have t81 : p_tp N q79 11 := WT.get hW ha0 h80
        refine x_getR (pc := 135) dX4_readLine_135 fl_X4_25 rfl ha0 h80 ?_
        refine s_iload_n (pc := 138) dX4_readLine_138 2 rfl rfl ?_
        refine s_iconst (pc := 139) dX4_readLine_139 (v := nI 1) rfl ?_
        refine s_iload_n (pc := 140) dX4_readLine_140 3 rfl rfl ?_
        obtain ⟨q82, h83, hf⟩ := p_bd hf
        refine y_callV0 (pc := 141) dX4_readLine_141 (c_X8_put (p_dd hd (by decide)) hW t81 h83) mk_X8_put mv_X8_put ml_X4_95 rfl rfl (Nat.le_of_ble_eq_true rfl) t81 rfl (p_d1 hd (by decide)) (Nat.le_of_ble_eq_true rfl) ?_
        refine s_aload_n (pc := 144) dX4_readLine_144 1 rfl rfl ?_
        obtain ⟨q84, h85, hf⟩ := p_bd hf
        have t86 : p_tp N q84 12 := WT.get hW ha0 h85
        refine x_getR (pc := 145) dX4_readLine_145 fl_X4_19 rfl ha0 h85 ?_
        refine s_iload_n (pc := 148) dX4_readLine_148 0 rfl rfl ?_
        obtain ⟨t87, hg, hf⟩ := p_bd hf
        have k88 : SW G mX4_readLine (p_rm d 0 0) 0 0 0 0 (p_R none N qq L P) 169 [(0, .ref a0)] [.int t87, .ref q84] N q82 L P := by
          obtain ⟨q94, h95, hf⟩ := p_bd hf
          refine y_callV1 (pc := 169) dX4_readLine_169 (c_X9_pass (p_dd hd (by decide)) hW t86 h95) mk_X9_pass mv_X9_pass ml_X4_89 rfl rfl (Nat.le_of_ble_eq_true rfl) t86 rfl (p_d1 hd (by decide)) (Nat.le_of_ble_eq_true rfl) ?_
          refine s_if_eq (pc := 172) (tgt := 200) dX4_readLine_172 rfl (fun hc => ?_) (fun hc => ?_)
          · replace hf := p_ps hf hc
            cases hf
            exact s_return (pc := 200) dX4_readLine_200 rfl ⟨rfl, rfl, rfl, rfl, rfl⟩
          · replace hf := p_ng hf hc
            refine s_aload_n (pc := 175) dX4_readLine_175 0 rfl rfl ?_
            obtain ⟨q96, h97, hf⟩ := p_bd hf
            have t98 : p_tp N q96 12 := WT.get hW ha0 h97
            refine x_getR (pc := 176) dX4_readLine_176 fl_X4_19 rfl ha0 h97 ?_
            refine s_aload_n (pc := 179) dX4_readLine_179 0 rfl rfl ?_
            obtain ⟨q99, h100, hf⟩ := p_bd hf
            have t101 : p_tp N q99 12 := WT.get hW ha0 h100
            refine x_getR (pc := 180) dX4_readLine_180 fl_X4_19 rfl ha0 h100 ?_
            obtain ⟨q102, h103, hf⟩ := p_bd hf
            refine y_callV1 (pc := 183) dX4_readLine_183 (c_X9_sign (p_dd hd (by decide)) hW t101 h103) mk_X9_sign mv_X9_sign ml_X4_86 rfl rfl (Nat.le_of_ble_eq_true rfl) t101 rfl (p_d1 hd (by decide)) (Nat.le_of_ble_eq_true rfl) ?_
            refine s_bipush (pc := 186) dX4_readLine_186 (v := nI 59) rfl ?_
            obtain ⟨t104, hg, hf⟩ := p_lx2 hf
            have k105 : SW G mX4_readLine (p_rm d 0 0) 0 0 0 0 (p_R none N qq L P) 196 [] [.int t104, .ref q96] N q94.2 L P := by
              obtain ⟨q106, h107, hf⟩ := p_bd hf
              refine y_callV1 (pc := 196) dX4_readLine_196 (c_X9_pass (p_dd hd (by decide)) hW t98 h107) mk_X9_pass mv_X9_pass ml_X4_89 rfl rfl (Nat.le_of_ble_eq_true rfl) t98 rfl (p_d1 hd (by decide)) (Nat.le_of_ble_eq_true rfl) ?_
              refine s_pop (pc := 199) dX4_readLine_199 rfl ?_
              cases hf
              exact s_return (pc := 200) dX4_readLine_200 rfl ⟨rfl, rfl, rfl, rfl, rfl⟩
            replace hf := hg.symm
            refine s_icmp_ne (pc := 188) (tgt := 195) dX4_readLine_188 rfl (fun hc => ?_) (fun hc => ?_)
            · replace hf := p_ng hf hc
              refine s_iconst (pc := 195) dX4_readLine_195 (v := nI 0) rfl ?_
              cases hf
              exact s_lo [] rfl (k105)
            · replace hf := p_ps hf hc
              refine s_iconst (pc := 191) dX4_readLine_191 (v := nI 1) rfl ?_
              refine s_goto (pc := 192) (tgt := 196) dX4_readLine_192 rfl ?_
              cases hf
              exact s_lo [] rfl (k105)
        replace hf := hg
        refine s_if_ne (pc := 149) (tgt := 164) dX4_readLine_149 rfl (fun hc => ?_) (fun hc => ?_)
        · replace hf := p_ng hf hc
          refine s_iconst (pc := 164) dX4_readLine_164 (v := nI 1) rfl ?_
          refine s_goto (pc := 165) (tgt := 169) dX4_readLine_165 rfl ?_
          cases hf
          exact s_lo [1] rfl (k88)
        · replace hf := p_ps hf hc
          refine s_aload_n (pc := 152) dX4_readLine_152 1 rfl rfl ?_
          obtain ⟨q89, h90, hf⟩ := p_bd hf
          have t91 : p_tp N q89 12 := WT.get hW ha0 h90
          refine x_getR (pc := 153) dX4_readLine_153 fl_X4_19 rfl ha0 h90 ?_
          refine s_ldcS (pc := 156) (j := 15) rfl rfl rfl dX4_readLine_156 ?_
          obtain ⟨q92, h93, hf⟩ := p_bd hf
          refine y_callV1 (pc := 158) dX4_readLine_158 (c_X9_isWord (p_dd hd (by decide)) hW t91 (p_sx_ (by decide)) h93) mk_X9_isWord mv_X9_isWord ml_X4_73 rfl rfl (Nat.le_of_ble_eq_true rfl) t91 rfl (p_d1 hd (by decide)) (Nat.le_of_ble_eq_true rfl) ?_
          refine s_if_eq (pc := 161) (tgt := 168) dX4_readLine_161 rfl (fun hc => ?_) (fun hc => ?_)
          · replace hf := p_ps hf hc
            refine s_iconst (pc := 168) dX4_readLine_168 (v := nI 0) rfl ?_
            cases hf
            exact s_lo [1] rfl (k88)
          · replace hf := p_ng hf hc
            refine s_iconst (pc := 164) dX4_readLine_164 (v := nI 1) rfl ?_
            refine s_goto (pc := 165) (tgt := 169) dX4_readLine_165 rfl ?_
            cases hf
            exact s_lo [1] rfl (k88)
      replace hf := hg.symm
      refine s_if_eq (pc := 123) (tgt := 130) dX4_readLine_123 rfl (fun hc => ?_) (fun hc => ?_)
      · replace hf := p_ps hf hc
        refine s_iconst (pc := 130) dX4_readLine_130 (v := nI 0) rfl ?_
        cases hf
        exact s_lo [0, 1, 2, 3] rfl (k76)
      · replace hf := p_ng hf hc
        refine s_iconst (pc := 126) dX4_readLine_126 (v := nI 1) rfl ?_
        refine s_goto (pc := 127) (tgt := 131) dX4_readLine_127 rfl ?_
        cases hf
        exact s_lo [0, 1, 2, 3] rfl (k76)
    refine s_if_eq (pc := 36) (tgt := 106) dX4_readLine_36 rfl (fun hc => ?_) (fun hc => ?_)
    · replace hf := p_ps hf hc
      exact s_lo [1, 2, 0] rfl (k66 (nI 0) t6 hf)
    · replace hf := p_ng hf hc
      have k122 : ∀ (x120 : Int32) (I121 : pI) , J_X4_readLine_78 n N I121 P a0 x1 x120 = some qq → SW G mX4_readLine (p_rm d 0 0) 0 0 0 0 (p_R none N qq L P) 78 [(0, .ref a0), (1, .int x1), (2, .int x120)] [] N I121 L P := by
        intro x120 I121 hf
        unfold J_X4_readLine_78 at hf
        refine s_aload_n (pc := 78) dX4_readLine_78 0 rfl rfl ?_
        obtain ⟨q123, h124, hf⟩ := p_bd hf
        have t125 : p_tp N q123 12 := WT.get hW ha0 h124
        refine x_getR (pc := 79) dX4_readLine_79 fl_X4_19 rfl ha0 h124 ?_
        refine s_aload_n (pc := 82) dX4_readLine_82 0 rfl rfl ?_
        obtain ⟨q126, h127, hf⟩ := p_bd hf
        have t128 : p_tp N q126 12 := WT.get hW ha0 h127
        refine x_getR (pc := 83) dX4_readLine_83 fl_X4_19 rfl ha0 h127 ?_
        obtain ⟨q129, h130, hf⟩ := p_bd hf
        refine y_callV1 (pc := 86) dX4_readLine_86 (c_X9_sign (p_dd hd (by decide)) hW t128 h130) mk_X9_sign mv_X9_sign ml_X4_86 rfl rfl (Nat.le_of_ble_eq_true rfl) t128 rfl (p_d1 hd (by decide)) (Nat.le_of_ble_eq_true rfl) ?_
        refine s_bipush (pc := 89) dX4_readLine_89 (v := nI 58) rfl ?_
        obtain ⟨t131, hg, hf⟩ := p_lx2 hf
        have k132 : SW G mX4_readLine (p_rm d 0 0) 0 0 0 0 (p_R none N qq L P) 99 [(0, .ref a0), (1, .int x1), (2, .int x120)] [.int t131, .ref q123] N I121 L P := by
          obtain ⟨q133, h134, hf⟩ := p_bd hf
          refine y_callV1 (pc := 99) dX4_readLine_99 (c_X9_pass (p_dd hd (by decide)) hW t125 h134) mk_X9_pass mv_X9_pass ml_X4_89 rfl rfl (Nat.le_of_ble_eq_true rfl) t125 rfl (p_d1 hd (by decide)) (Nat.le_of_ble_eq_true rfl) ?_
          refine s_if_ne (pc := 102) (tgt := 106) dX4_readLine_102 rfl (fun hc => ?_) (fun hc => ?_)
          · replace hf := p_ng hf hc
            exact s_lo [0, 1, 2] rfl (k66 x120 q133.2 hf)
          · replace hf := p_ps hf hc
            cases hf
            exact s_return (pc := 105) dX4_readLine_105 rfl ⟨rfl, rfl, rfl, rfl, rfl⟩
        replace hf := hg.symm
        refine s_icmp_ne (pc := 91) (tgt := 98) dX4_readLine_91 rfl (fun hc => ?_) (fun hc => ?_)
        · replace hf := p_ng hf hc
          refine s_iconst (pc := 98) dX4_readLine_98 (v := nI 0) rfl ?_
          cases hf
          exact s_lo [0, 1, 2] rfl (k132)
        · replace hf := p_ps hf hc
          refine s_iconst (pc := 94) dX4_readLine_94 (v := nI 1) rfl ?_
          refine s_goto (pc := 95) (tgt := 99) dX4_readLine_95 rfl ?_
          cases hf
          exact s_lo [0, 1, 2] rfl (k132)
      have k147 : ∀ (k : Nat) (s0 : Int32 × pI), p_it (B_X4_readLine_39 n N P a0 x1) k s0 = some qq → (SW G mX4_readLine (p_rm d 0 0) 0 0 0 0 (p_R none N qq L P) 39 [(0, .ref a0), (1, .int x1), (2, .int s0.1)] [] N s0.2 L P) := p_it_ind (C := fun (s0 : Int32 × pI) => SW G mX4_readLine (p_rm d 0 0) 0 0 0 0 (p_R none N qq L P) 39 [(0, .ref a0), (1, .int x1), (2, .int s0.1)] [] N s0.2 L P) (by
        intro rec0 hrec0 s0 hf
        unfold B_X4_readLine_39 at hf
        refine s_aload_n (pc := 39) dX4_readLine_39 0 rfl rfl ?_
        obtain ⟨q148, h149, hf⟩ := p_bd hf
        have t150 : p_tp N q148 12 := WT.get hW ha0 h149
        refine x_getR (pc := 40) dX4_readLine_40 fl_X4_19 rfl ha0 h149 ?_
        obtain ⟨q151, h152, hf⟩ := p_bd hf
        refine y_callV0 (pc := 43) dX4_readLine_43 (c_X9_advance (p_dd hd (by decide)) hW t150 h152) mk_X9_advance mv_X9_advance ml_X4_77 rfl rfl (Nat.le_of_ble_eq_true rfl) t150 rfl (p_d1 hd (by decide)) (Nat.le_of_ble_eq_true rfl) ?_
        refine s_aload_n (pc := 46) dX4_readLine_46 0 rfl rfl ?_
        refine s_iload_n (pc := 47) dX4_readLine_47 1 rfl rfl ?_
        refine s_iload_n (pc := 48) dX4_readLine_48 2 rfl rfl ?_
        obtain ⟨q153, h154, hf⟩ := p_bd hf
        refine y_callV1 (pc := 49) dX4_readLine_49 (c_X4_readTest (p_dd hd (by decide)) hW ha0 h154) mk_X4_readTest mv_X4_readTest ml_X4_80 rfl rfl (Nat.le_of_ble_eq_true rfl) ha0 rfl (p_d1 hd (by decide)) (Nat.le_of_ble_eq_true rfl) ?_
        refine s_if_ne (pc := 52) (tgt := 56) dX4_readLine_52 rfl (fun hc => ?_) (fun hc => ?_)
        · replace hf := p_ng hf hc
          refine s_iinc (pc := 56) (lo' := [(2, .int (s0.1 + nI 1)), (0, .ref a0), (1, .int x1)]) dX4_readLine_56 2 rfl (v := s0.1 + nI 1) rfl (Nat.le_of_ble_eq_true rfl) rfl ?_
          refine s_iload_n (pc := 59) dX4_readLine_59 0 rfl rfl ?_
          refine s_sipush (pc := 60) dX4_readLine_60 (v := nI 500) rfl ?_
          refine s_icmp_ge (pc := 63) (tgt := 78) dX4_readLine_63 rfl (fun hc => ?_) (fun hc => ?_)
          · replace hf := p_ps hf hc
            exact s_lo [1, 2, 0] rfl (k122 (s0.1 + nI 1) q153.2 hf)
          · replace hf := p_ng hf hc
            refine s_aload_n (pc := 66) dX4_readLine_66 1 rfl rfl ?_
            obtain ⟨q155, h156, hf⟩ := p_bd hf
            have t157 : p_tp N q155 12 := WT.get hW ha0 h156
            refine x_getR (pc := 67) dX4_readLine_67 fl_X4_19 rfl ha0 h156 ?_
            refine s_ldcS (pc := 70) (j := 13) rfl rfl rfl dX4_readLine_70 ?_
            obtain ⟨q158, h159, hf⟩ := p_bd hf
            refine y_callV1 (pc := 72) dX4_readLine_72 (c_X9_isWord (p_dd hd (by decide)) hW t157 (p_sx_ (by decide)) h159) mk_X9_isWord mv_X9_isWord ml_X4_73 rfl rfl (Nat.le_of_ble_eq_true rfl) t157 rfl (p_d1 hd (by decide)) (Nat.le_of_ble_eq_true rfl) ?_
            refine s_if_ne (pc := 75) (tgt := 39) dX4_readLine_75 rfl (fun hc => ?_) (fun hc => ?_)
            · replace hf := p_ng hf hc
              exact s_lo [1, 2, 0] rfl (hrec0 (s0.1 + nI 1, q153.2) hf)
            · replace hf := p_ps hf hc
              exact s_lo [1, 2, 0] rfl (k122 (s0.1 + nI 1) q153.2 hf)
        · replace hf := p_ps hf hc
          cases hf
          exact s_return (pc := 55) dX4_readLine_55 rfl ⟨rfl, rfl, rfl, rfl, rfl⟩)
      exact s_lo [1, 2, 0] rfl (k147 n (nI 0, t6) hf)
  replace hf := hg
  refine s_if_ne (pc := 7) (tgt := 25) dX4_readLine_7 rfl (fun hc => ?_) (fun hc => ?_)
  · replace hf := p_ng hf hc
    cases hf
    exact s_lo [0, 1] rfl (k7)
  · replace hf := p_ps hf hc
    refine s_aload_n (pc := 10) dX4_readLine_10 0 rfl rfl ?_
    obtain ⟨q8, h9, hf⟩ := p_bd hf
    have t10 : p_tp N q8 12 := WT.get hW ha0 h9
    refine x_getR (pc := 11) dX4_readLine_11 fl_X4_19 rfl ha0 h9 ?_
    refine s_iconst (pc := 14) dX4_readLine_14 (v := nI 5) rfl ?_
    refine s_aload_n (pc := 15) dX4_readLine_15 0 rfl rfl ?_
    obtain ⟨q11, h12, hf⟩ := p_bd hf
    have t13 : p_tp N q11 12 := WT.get hW ha0 h12
    refine x_getR (pc := 16) dX4_readLine_16 fl_X4_19 rfl ha0 h12 ?_
    obtain ⟨q14, h15, hf⟩ := p_bd hf
    refine y_callV1 (pc := 19) dX4_readLine_19 (c_X9_from (p_dd hd (by decide)) hW t13 h15) mk_X9_from mv_X9_from ml_X4_64 rfl rfl (Nat.le_of_ble_eq_true rfl) t13 rfl (p_d1 hd (by decide)) (Nat.le_of_ble_eq_true rfl) ?_
    obtain ⟨q16, h17, hf⟩ := p_bd hf
    refine y_callV0 (pc := 22) dX4_readLine_22 (c_X9_note (p_dd hd (by decide)) hW t10 h17) mk_X9_note mv_X9_note ml_X4_68 rfl rfl (Nat.le_of_ble_eq_true rfl) t10 rfl (p_d1 hd (by decide)) (Nat.le_of_ble_eq_true rfl) ?_
    cases hf
    exact s_lo [0, 1] rfl (k7)
def f_X9_tell (I : pI) (a0 : Nat) (a1 : Nat) : Option pI :=
  p_let (p_u I a1 9 (I a0 4)) fun I1 =>
  p_let (p_u I1 a1 10 (I1 a0 5)) fun I3 =>
  some I3
theorem c_X9_tell {G : pG} {d : Nat} {N : pN} {I : pI} {L : pL} {P : pR} {a0 : Nat} {a1 : Nat} {qq : pI} (hd : 0 ≤ d) (hW : WT N P) (ha0 : p_tp N a0 12) (ha1 : p_tp N a1 10) (hf : f_X9_tell I a0 a1 = some qq) : MT G mX9_tell d 0 0 [.ref a0, .ref a1] N I L P (p_R none N qq L P) := by
  refine MT.of rfl (Nat.le_of_ble_eq_true rfl) ?_
  show SW G mX9_tell (p_rm d 0 0) 0 0 0 0 (p_R none N qq L P) 0 [(0, .ref a0), (1, .ref a1)] [] N I L P
  unfold f_X9_tell at hf
  refine s_aload_n (pc := 0) dX9_tell_0 1 rfl rfl ?_
  refine s_aload_n (pc := 1) dX9_tell_1 0 rfl rfl ?_
  refine x_getI (pc := 2) dX9_tell_2 fl_X9_21 rfl ha0 ?_
  refine x_putI (pc := 5) dX9_tell_5 fl_X9_65 (Or.inl rfl) rfl ha1 ?_
  refine s_nmI (fun I1 e2 => ?_)
  replace hf := p_lx hf e2
  refine s_aload_n (pc := 8) dX9_tell_8 1 rfl rfl ?_
  refine s_aload_n (pc := 9) dX9_tell_9 0 rfl rfl ?_
  refine x_getI (pc := 10) dX9_tell_10 fl_X9_24 rfl ha0 ?_
  refine x_putI (pc := 13) dX9_tell_13 fl_X9_68 (Or.inl rfl) rfl ha1 ?_
  refine s_nmI (fun I3 e4 => ?_)
  replace hf := p_lx hf e4
  cases hf
  exact s_return (pc := 16) dX9_tell_16 rfl ⟨rfl, rfl, rfl, rfl, rfl⟩
def f_X9_isClean (I : pI) (a0 : Nat) : Option Int32 :=
  (if (I a0 4) = 0 then
    some (nI 1)
  else
    some (nI 0))
theorem c_X9_isClean {G : pG} {d : Nat} {N : pN} {I : pI} {L : pL} {P : pR} {a0 : Nat} {qq : Int32} (hd : 0 ≤ d) (hW : WT N P) (ha0 : p_tp N a0 12) (hf : f_X9_isClean I a0 = some qq) : MT G mX9_isClean d 0 0 [.ref a0] N I L P (p_R (some (.int qq)) N I L P) := by
  refine MT.of rfl (Nat.le_of_ble_eq_true rfl) ?_
  show SW G mX9_isClean (p_rm d 0 0) 0 0 0 0 (p_R (some (.int qq)) N I L P) 0 [(0, .ref a0)] [] N I L P
  unfold f_X9_isClean at hf
  refine s_aload_n (pc := 0) dX9_isClean_0 0 rfl rfl ?_
  refine x_getI (pc := 1) dX9_isClean_1 fl_X9_21 rfl ha0 ?_
  refine s_if_ne (pc := 4) (tgt := 11) dX9_isClean_4 rfl (fun hc => ?_) (fun hc => ?_)
  · replace hf := p_ng hf hc
    refine s_iconst (pc := 11) dX9_isClean_11 (v := nI 0) rfl ?_
    cases hf
    exact s_ireturn (pc := 12) dX9_isClean_12 rfl rfl ⟨rfl, rfl, rfl, rfl, rfl⟩
  · replace hf := p_ps hf hc
    refine s_iconst (pc := 7) dX9_isClean_7 (v := nI 1) rfl ?_
    refine s_goto (pc := 8) (tgt := 12) dX9_isClean_8 rfl ?_
    cases hf
    exact s_ireturn (pc := 12) dX9_isClean_12 rfl rfl ⟨rfl, rfl, rfl, rfl, rfl⟩
def f_X8_copy (N : pN) (I : pI) (P : pR) (a0 : Nat) (a1 : Nat) : Option pI :=
  p_let (p_u I a0 3 (if I a0 0 < I a1 3 then I a0 0 else I a1 3)) fun I1 =>
  Option.bind (P a1 2) fun q3 =>
  Option.bind (P a0 2) fun q6 =>
  Option.bind (P a0 2) fun q9 =>
  Option.bind (P a1 2) fun q12 =>
  p_ck (p_cb N q3 q6 (nI 0) (nI 0) (if nI (N.2 q12).2 < nI (N.2 q9).2 then nI (N.2 q12).2 else nI (N.2 q9).2)) <|
  p_let (p_cy I1 q3 q6 (nI 0) (nI 0) (if nI (N.2 q12).2 < nI (N.2 q9).2 then nI (N.2 q12).2 else nI (N.2 q9).2)) fun I16 =>
  some I16
theorem c_X8_copy {G : pG} {d : Nat} {N : pN} {I : pI} {L : pL} {P : pR} {a0 : Nat} {a1 : Nat} {qq : pI} (hd : 1 ≤ d) (hW : WT N P) (ha0 : p_tp N a0 11) (ha1 : p_tp N a1 11) (hf : f_X8_copy N I P a0 a1 = some qq) : MT G mX8_copy d 0 0 [.ref a0, .ref a1] N I L P (p_R none N qq L P) := by
  refine MT.of rfl (Nat.le_of_ble_eq_true rfl) ?_
  show SW G mX8_copy (p_rm d 0 0) 0 0 0 0 (p_R none N qq L P) 0 [(0, .ref a0), (1, .ref a1)] [] N I L P
  unfold f_X8_copy at hf
  refine s_aload_n (pc := 0) dX8_copy_0 0 rfl rfl ?_
  refine s_aload_n (pc := 1) dX8_copy_1 1 rfl rfl ?_
  refine x_getI (pc := 2) dX8_copy_2 fl_X8_28 rfl ha1 ?_
  refine s_aload_n (pc := 5) dX8_copy_5 0 rfl rfl ?_
  refine x_getI (pc := 6) dX8_copy_6 fl_X8_15 rfl ha0 ?_
  refine y_min (pc := 9) dX8_copy_9 ml_X8_31 (p_d1 hd (by decide)) (Nat.le_of_ble_eq_true rfl) ?_
  refine x_putI (pc := 12) dX8_copy_12 fl_X8_28 (Or.inl rfl) rfl ha0 ?_
  refine s_nmI (fun I1 e2 => ?_)
  replace hf := p_lx hf e2
  refine s_aload_n (pc := 15) dX8_copy_15 1 rfl rfl ?_
  obtain ⟨q3, h4, hf⟩ := p_bd hf
  have t5 : p_tp N q3 0 := WT.get hW ha1 h4
  refine x_getR (pc := 16) dX8_copy_16 fl_X8_24 rfl ha1 h4 ?_
  refine s_iconst (pc := 19) dX8_copy_19 (v := nI 0) rfl ?_
  refine s_aload_n (pc := 20) dX8_copy_20 0 rfl rfl ?_
  obtain ⟨q6, h7, hf⟩ := p_bd hf
  have t8 : p_tp N q6 0 := WT.get hW ha0 h7
  refine x_getR (pc := 21) dX8_copy_21 fl_X8_24 rfl ha0 h7 ?_
  refine s_iconst (pc := 24) dX8_copy_24 (v := nI 0) rfl ?_
  refine s_aload_n (pc := 25) dX8_copy_25 0 rfl rfl ?_
  obtain ⟨q9, h10, hf⟩ := p_bd hf
  have t11 : p_tp N q9 0 := WT.get hW ha0 h10
  refine x_getR (pc := 26) dX8_copy_26 fl_X8_24 rfl ha0 h10 ?_
  refine x_alen (pc := 29) dX8_copy_29 t11 (Nat.le_of_ble_eq_true rfl) ?_
  refine s_aload_n (pc := 30) dX8_copy_30 1 rfl rfl ?_
  obtain ⟨q12, h13, hf⟩ := p_bd hf
  have t14 : p_tp N q12 0 := WT.get hW ha1 h13
  refine x_getR (pc := 31) dX8_copy_31 fl_X8_24 rfl ha1 h13 ?_
  refine x_alen (pc := 34) dX8_copy_34 t14 (Nat.le_of_ble_eq_true rfl) ?_
  refine y_min (pc := 35) dX8_copy_35 ml_X8_31 (p_d1 hd (by decide)) (Nat.le_of_ble_eq_true rfl) ?_
  obtain ⟨c15, hf⟩ := p_ckx hf
  refine y_copy (pc := 38) dX8_copy_38 ml_X8_34 t5 t8 c15 (p_d1 hd (by decide)) (Nat.le_of_ble_eq_true rfl) ?_
  refine s_nmI (fun I16 e17 => ?_)
  replace hf := p_lx hf e17
  cases hf
  exact s_return (pc := 41) dX8_copy_41 rfl ⟨rfl, rfl, rfl, rfl, rfl⟩
def B_X4_read_21 (n : Nat) (N : pN) (P : pR) (a0 : Nat) (rec0 : (Int32 × pI) → Option (Int32 × pI)) (s0 : Int32 × pI) : Option (Int32 × pI) :=
  (if (nI 500) ≤ s0.1 then
    some (s0.1, s0.2)
  else
    Option.bind (P a0 0) fun q17 =>
    Option.bind (f_X9_goOn s0.2 q17) fun q20 =>
    (if q20 = 0 then
      some (s0.1, s0.2)
    else
      Option.bind (f_X4_readLine n N s0.2 P a0 s0.1) fun q22 =>
      rec0 (s0.1 + nI 1, q22)))
def f_X4_read (n : Nat) (N : pN) (I : pI) (P : pR) (a0 : Nat) (a1 : Nat) : Option (Int32 × pI × pR) :=
  Option.bind (P a0 1) fun q1 =>
  Option.bind (f_X8_cut I q1 (nI 0)) fun q4 =>
  Option.bind (P a0 0) fun q6 =>
  Option.bind (P a1 0) fun q9 =>
  Option.bind (f_X9_open n N q4 P q6 q9) fun q12 =>
  Option.bind (p_it (B_X4_read_21 n N q12.2 a0) n (nI 0, q12.1)) fun t15 =>
  Option.bind (q12.2 a0 0) fun q32 =>
  Option.bind (f_X9_tell t15.2 q32 a1) fun q35 =>
  Option.bind (q12.2 a0 0) fun q37 =>
  Option.bind (f_X9_isClean q35 q37) fun q40 =>
  (if q40 = 0 then
    some ((-1), q35, q12.2)
  else
    Option.bind (q12.2 a1 7) fun q42 =>
    Option.bind (q12.2 a0 1) fun q45 =>
    Option.bind (f_X8_copy N q35 q12.2 q42 q45) fun q48 =>
    some (t15.1, q48, q12.2))
theorem c_X4_read {G : pG} {d : Nat} {n : Nat} {N : pN} {I : pI} {L : pL} {P : pR} {a0 : Nat} {a1 : Nat} {qq : Int32 × pI × pR} (hd : 11 ≤ d) (hW : WT N P) (ha0 : p_tp N a0 7) (ha1 : p_tp N a1 10) (hf : f_X4_read n N I P a0 a1 = some qq) : MT G mX4_read d 0 0 [.ref a0, .ref a1] N I L P (p_R (some (.int qq.1)) N qq.2.1 L qq.2.2) := by
  refine MT.of rfl (Nat.le_of_ble_eq_true rfl) ?_
  show SW G mX4_read (p_rm d 0 0) 0 0 0 0 (p_R (some (.int qq.1)) N qq.2.1 L qq.2.2) 0 [(0, .ref a0), (1, .ref a1)] [] N I L P
  unfold f_X4_read at hf
  refine s_aload_n (pc := 0) dX4_read_0 0 rfl rfl ?_
  obtain ⟨q1, h2, hf⟩ := p_bd hf
  have t3 : p_tp N q1 11 := WT.get hW ha0 h2
  refine x_getR (pc := 1) dX4_read_1 fl_X4_25 rfl ha0 h2 ?_
  refine s_iconst (pc := 4) dX4_read_4 (v := nI 0) rfl ?_
  obtain ⟨q4, h5, hf⟩ := p_bd hf
  refine y_callV0 (pc := 5) dX4_read_5 (c_X8_cut (p_dd hd (by decide)) hW t3 h5) mk_X8_cut mv_X8_cut ml_X4_29 rfl rfl (Nat.le_of_ble_eq_true rfl) t3 rfl (p_d1 hd (by decide)) (Nat.le_of_ble_eq_true rfl) ?_
  refine s_aload_n (pc := 8) dX4_read_8 0 rfl rfl ?_
  obtain ⟨q6, h7, hf⟩ := p_bd hf
  have t8 : p_tp N q6 12 := WT.get hW ha0 h7
  refine x_getR (pc := 9) dX4_read_9 fl_X4_19 rfl ha0 h7 ?_
  refine s_aload_n (pc := 12) dX4_read_12 1 rfl rfl ?_
  obtain ⟨q9, h10, hf⟩ := p_bd hf
  have t11 : p_tp N q9 11 := WT.get hW ha1 h10
  refine x_getR (pc := 13) dX4_read_13 fl_X4_33 rfl ha1 h10 ?_
  obtain ⟨q12, h13, hf⟩ := p_bd hf
  have w14 : WT N q12.2 := w_X9_open hW t8 t11 h13
  refine y_callV0 (pc := 16) dX4_read_16 (c_X9_open (p_dd hd (by decide)) hW t8 t11 h13) mk_X9_open mv_X9_open ml_X4_38 rfl rfl (Nat.le_of_ble_eq_true rfl) t8 rfl (p_d1 hd (by decide)) (Nat.le_of_ble_eq_true rfl) ?_
  refine s_iconst (pc := 19) dX4_read_19 (v := nI 0) rfl ?_
  refine s_istore_n (pc := 20) (lo' := [(2, .int (nI 0)), (0, .ref a0), (1, .ref a1)]) dX4_read_20 rfl (Nat.le_of_ble_eq_true rfl) rfl ?_
  obtain ⟨t15, hg, hf⟩ := p_bd hf
  have k16 : SW G mX4_read (p_rm d 0 0) 0 0 0 0 (p_R (some (.int qq.1)) N qq.2.1 L qq.2.2) 49 [(0, .ref a0), (1, .ref a1), (2, .int t15.1)] [] N t15.2 L q12.2 := by
    refine s_aload_n (pc := 49) dX4_read_49 0 rfl rfl ?_
    obtain ⟨q32, h33, hf⟩ := p_bd hf
    have t34 : p_tp N q32 12 := WT.get w14 ha0 h33
    refine x_getR (pc := 50) dX4_read_50 fl_X4_19 rfl ha0 h33 ?_
    refine s_aload_n (pc := 53) dX4_read_53 1 rfl rfl ?_
    obtain ⟨q35, h36, hf⟩ := p_bd hf
    refine y_callV0 (pc := 54) dX4_read_54 (c_X9_tell (p_dd hd (by decide)) w14 t34 ha1 h36) mk_X9_tell mv_X9_tell ml_X4_48 rfl rfl (Nat.le_of_ble_eq_true rfl) t34 rfl (p_d1 hd (by decide)) (Nat.le_of_ble_eq_true rfl) ?_
    refine s_aload_n (pc := 57) dX4_read_57 0 rfl rfl ?_
    obtain ⟨q37, h38, hf⟩ := p_bd hf
    have t39 : p_tp N q37 12 := WT.get w14 ha0 h38
    refine x_getR (pc := 58) dX4_read_58 fl_X4_19 rfl ha0 h38 ?_
    obtain ⟨q40, h41, hf⟩ := p_bd hf
    refine y_callV1 (pc := 61) dX4_read_61 (c_X9_isClean (p_dd hd (by decide)) w14 t39 h41) mk_X9_isClean mv_X9_isClean ml_X4_52 rfl rfl (Nat.le_of_ble_eq_true rfl) t39 rfl (p_d1 hd (by decide)) (Nat.le_of_ble_eq_true rfl) ?_
    refine s_if_ne (pc := 64) (tgt := 69) dX4_read_64 rfl (fun hc => ?_) (fun hc => ?_)
    · replace hf := p_ng hf hc
      refine s_aload_n (pc := 69) dX4_read_69 1 rfl rfl ?_
      obtain ⟨q42, h43, hf⟩ := p_bd hf
      have t44 : p_tp N q42 11 := WT.get w14 ha1 h43
      refine x_getR (pc := 70) dX4_read_70 fl_X4_55 rfl ha1 h43 ?_
      refine s_aload_n (pc := 73) dX4_read_73 0 rfl rfl ?_
      obtain ⟨q45, h46, hf⟩ := p_bd hf
      have t47 : p_tp N q45 11 := WT.get w14 ha0 h46
      refine x_getR (pc := 74) dX4_read_74 fl_X4_25 rfl ha0 h46 ?_
      obtain ⟨q48, h49, hf⟩ := p_bd hf
      refine y_callV0 (pc := 77) dX4_read_77 (c_X8_copy (p_dd hd (by decide)) w14 t44 t47 h49) mk_X8_copy mv_X8_copy ml_X4_58 rfl rfl (Nat.le_of_ble_eq_true rfl) t44 rfl (p_d1 hd (by decide)) (Nat.le_of_ble_eq_true rfl) ?_
      refine s_iload_n (pc := 80) dX4_read_80 2 rfl rfl ?_
      cases hf
      exact s_ireturn (pc := 81) dX4_read_81 rfl rfl ⟨rfl, rfl, rfl, rfl, rfl⟩
    · replace hf := p_ps hf hc
      refine s_iconst (pc := 67) dX4_read_67 (v := (-1)) rfl ?_
      cases hf
      exact s_ireturn (pc := 68) dX4_read_68 rfl rfl ⟨rfl, rfl, rfl, rfl, rfl⟩
  replace hf := hg
  have k24 : ∀ (k : Nat) (s0 : Int32 × pI), p_it (B_X4_read_21 n N q12.2 a0) k s0 = some t15 → (SW G mX4_read (p_rm d 0 0) 0 0 0 0 (p_R (some (.int qq.1)) N qq.2.1 L qq.2.2) 21 [(0, .ref a0), (1, .ref a1), (2, .int s0.1)] [] N s0.2 L q12.2) := p_it_ind (C := fun (s0 : Int32 × pI) => SW G mX4_read (p_rm d 0 0) 0 0 0 0 (p_R (some (.int qq.1)) N qq.2.1 L qq.2.2) 21 [(0, .ref a0), (1, .ref a1), (2, .int s0.1)] [] N s0.2 L q12.2) (by
    intro rec0 hrec0 s0 hf
    unfold B_X4_read_21 at hf
    refine s_iload_n (pc := 21) dX4_read_21 2 rfl rfl ?_
    refine s_sipush (pc := 22) dX4_read_22 (v := nI 500) rfl ?_
    refine s_icmp_ge (pc := 25) (tgt := 49) dX4_read_25 rfl (fun hc => ?_) (fun hc => ?_)
    · replace hf := p_ps hf hc
      cases hf
      exact s_lo [0, 1, 2] rfl (k16)
    · replace hf := p_ng hf hc
      refine s_aload_n (pc := 28) dX4_read_28 0 rfl rfl ?_
      obtain ⟨q25, h26, hf⟩ := p_bd hf
      have t27 : p_tp N q25 12 := WT.get w14 ha0 h26
      refine x_getR (pc := 29) dX4_read_29 fl_X4_19 rfl ha0 h26 ?_
      obtain ⟨q28, h29, hf⟩ := p_bd hf
      refine y_callV1 (pc := 32) dX4_read_32 (c_X9_goOn (p_dd hd (by decide)) w14 t27 h29) mk_X9_goOn mv_X9_goOn ml_X4_41 rfl rfl (Nat.le_of_ble_eq_true rfl) t27 rfl (p_d1 hd (by decide)) (Nat.le_of_ble_eq_true rfl) ?_
      refine s_if_eq (pc := 35) (tgt := 49) dX4_read_35 rfl (fun hc => ?_) (fun hc => ?_)
      · replace hf := p_ps hf hc
        cases hf
        exact s_lo [0, 1, 2] rfl (k16)
      · replace hf := p_ng hf hc
        refine s_aload_n (pc := 38) dX4_read_38 0 rfl rfl ?_
        refine s_iload_n (pc := 39) dX4_read_39 2 rfl rfl ?_
        obtain ⟨q30, h31, hf⟩ := p_bd hf
        refine y_callV0 (pc := 40) dX4_read_40 (c_X4_readLine (p_dd hd (by decide)) w14 ha0 h31) mk_X4_readLine mv_X4_readLine ml_X4_45 rfl rfl (Nat.le_of_ble_eq_true rfl) ha0 rfl (p_d1 hd (by decide)) (Nat.le_of_ble_eq_true rfl) ?_
        refine s_iinc (pc := 43) (lo' := [(2, .int (s0.1 + nI 1)), (0, .ref a0), (1, .ref a1)]) dX4_read_43 2 rfl (v := s0.1 + nI 1) rfl (Nat.le_of_ble_eq_true rfl) rfl ?_
        refine s_goto (pc := 46) (tgt := 21) dX4_read_46 rfl ?_
        exact s_lo [1, 2, 0] rfl (hrec0 (s0.1 + nI 1, q30) hf))
  exact s_lo [1, 2, 0] rfl (k24 n (nI 0, q12.1) hf)
theorem w_X4_read {n : Nat} {N : pN} {I : pI} {P : pR} {a0 a1 : Nat} {qq : Int32 × pI × pR} (hW : WT N P) (ha0 : p_tp N a0 7) (ha1 : p_tp N a1 10) (hf : f_X4_read n N I P a0 a1 = some qq) : WT N qq.2.2 := by
  unfold f_X4_read at hf
  obtain ⟨q0, h0, hf⟩ := p_bd hf
  obtain ⟨q1, h1, hf⟩ := p_bd hf
  obtain ⟨q2, h2, hf⟩ := p_bd hf
  obtain ⟨q3, h3, hf⟩ := p_bd hf
  obtain ⟨q4, h4, hf⟩ := p_bd hf
  have hw := w_X9_open hW (WT.get hW ha0 h2) (WT.get hW ha1 h3) h4
  obtain ⟨q5, h5, hf⟩ := p_bd hf
  obtain ⟨q6, h6, hf⟩ := p_bd hf
  obtain ⟨q7, h7, hf⟩ := p_bd hf
  obtain ⟨q8, h8, hf⟩ := p_bd hf
  obtain ⟨q9, h9, hf⟩ := p_bd hf
  by_cases hc : q9 = 0
  · replace hf := p_ps hf hc
    cases hf
    exact hw
  · replace hf := p_ng hf hc
    obtain ⟨_, _, hf⟩ := p_bd hf
    obtain ⟨_, _, hf⟩ := p_bd hf
    obtain ⟨_, _, hf⟩ := p_bd hf
    cases hf
    exact hw
def B_X5_findSiteReaches_15 (n : Nat) (N : pN) (P : pR) (a0 : Nat) (x1 : Int32) (rec1 : (Int32 × Int32 × pI × pL) → Option (Int32 × pI × pL)) (s1 : Int32 × Int32 × pI × pL) : Option (Int32 × pI × pL) :=
  Option.bind (P a0 0) fun q8 =>
  Option.bind (P q8 4) fun q11 =>
  Option.bind (f_X8_size s1.2.2.1 q11) fun q14 =>
  (if q14 ≤ s1.2.1 then
    some (s1.1, s1.2.2.1, s1.2.2.2)
  else
    Option.bind (P a0 1) fun q16 =>
    Option.bind (f_X3_siteSignal n N s1.2.2.1 s1.2.2.2 P q16 x1 s1.2.1) fun q19 =>
    Option.bind (P a0 0) fun q21 =>
    Option.bind (f_X7_setting N q19.2.1 P q21 (nI 4)) fun q24 =>
    p_let (α := Int32) ((if q19.1 < q24 then
      nI 0
    else
      (nI 1) <<< (s1.2.1 &&& 31))) fun t26 =>
    rec1 (s1.1 ||| t26, s1.2.1 + nI 1, q19.2.1, q19.2.2))
def B_X5_findSiteReaches_2 (n : Nat) (N : pN) (P : pR) (a0 : Nat) (rec0 : (Int32 × pI × pL) → Option (pI × pL)) (s0 : Int32 × pI × pL) : Option (pI × pL) :=
  Option.bind (P a0 2) fun q3 =>
  (if (nI (N.2 q3).2) ≤ s0.1 then
    some (s0.2.1, s0.2.2)
  else
    Option.bind (p_it (B_X5_findSiteReaches_15 n N P a0 s0.1) n (nI 0, nI 0, s0.2.1, s0.2.2)) fun t6 =>
    Option.bind (P a0 2) fun q49 =>
    p_ck (p_ib N q49 s0.1) <|
    p_let (p_u t6.2.1 q49 (Int32.toNatClampNeg s0.1) t6.1) fun I53 =>
    rec0 (s0.1 + nI 1, I53, t6.2.2))
def f_X5_findSiteReaches (n : Nat) (N : pN) (I : pI) (L : pL) (P : pR) (a0 : Nat) : Option (pI × pL) :=
  Option.bind (p_it (B_X5_findSiteReaches_2 n N P a0) n (nI 0, I, L)) fun t1 =>
  some (t1.1, t1.2)
theorem c_X5_findSiteReaches {G : pG} {d : Nat} {n : Nat} {N : pN} {I : pI} {L : pL} {P : pR} {a0 : Nat} {qq : pI × pL} (hd : 5 ≤ d) (hW : WT N P) (ha0 : p_tp N a0 8) (hf : f_X5_findSiteReaches n N I L P a0 = some qq) : MT G mX5_findSiteReaches d 0 0 [.ref a0] N I L P (p_R none N qq.1 qq.2 P) := by
  refine MT.of rfl (Nat.le_of_ble_eq_true rfl) ?_
  show SW G mX5_findSiteReaches (p_rm d 0 0) 0 0 0 0 (p_R none N qq.1 qq.2 P) 0 [(0, .ref a0)] [] N I L P
  unfold f_X5_findSiteReaches at hf
  refine s_iconst (pc := 0) dX5_findSiteReaches_0 (v := nI 0) rfl ?_
  refine s_istore_n (pc := 1) (lo' := [(1, .int (nI 0)), (0, .ref a0)]) dX5_findSiteReaches_1 rfl (Nat.le_of_ble_eq_true rfl) rfl ?_
  obtain ⟨t1, hg, hf⟩ := p_bd hf
  have k2 : SW G mX5_findSiteReaches (p_rm d 0 0) 0 0 0 0 (p_R none N qq.1 qq.2 P) 78 [] [] N t1.1 t1.2 P := by
    cases hf
    exact s_return (pc := 78) dX5_findSiteReaches_78 rfl ⟨rfl, rfl, rfl, rfl, rfl⟩
  replace hf := hg
  have k55 : ∀ (k : Nat) (s0 : Int32 × pI × pL), p_it (B_X5_findSiteReaches_2 n N P a0) k s0 = some t1 → (SW G mX5_findSiteReaches (p_rm d 0 0) 0 0 0 0 (p_R none N qq.1 qq.2 P) 2 [(0, .ref a0), (1, .int s0.1)] [] N s0.2.1 s0.2.2 P) := p_it_ind (C := fun (s0 : Int32 × pI × pL) => SW G mX5_findSiteReaches (p_rm d 0 0) 0 0 0 0 (p_R none N qq.1 qq.2 P) 2 [(0, .ref a0), (1, .int s0.1)] [] N s0.2.1 s0.2.2 P) (by
    intro rec0 hrec0 s0 hf
    unfold B_X5_findSiteReaches_2 at hf
    refine s_iload_n (pc := 2) dX5_findSiteReaches_2 1 rfl rfl ?_
    refine s_aload_n (pc := 3) dX5_findSiteReaches_3 0 rfl rfl ?_
    obtain ⟨q56, h57, hf⟩ := p_bd hf
    have t58 : p_tp N q56 0 := WT.get hW ha0 h57
    refine x_getR (pc := 4) dX5_findSiteReaches_4 fl_X5_9 rfl ha0 h57 ?_
    refine x_alen (pc := 7) dX5_findSiteReaches_7 t58 (Nat.le_of_ble_eq_true rfl) ?_
    refine s_icmp_ge (pc := 8) (tgt := 78) dX5_findSiteReaches_8 rfl (fun hc => ?_) (fun hc => ?_)
    · replace hf := p_ps hf hc
      cases hf
      exact s_lo [] rfl (k2)
    · replace hf := p_ng hf hc
      refine s_iconst (pc := 11) dX5_findSiteReaches_11 (v := nI 0) rfl ?_
      refine s_istore_n (pc := 12) (lo' := [(2, .int (nI 0)), (0, .ref a0), (1, .int s0.1)]) dX5_findSiteReaches_12 rfl (Nat.le_of_ble_eq_true rfl) rfl ?_
      refine s_iconst (pc := 13) dX5_findSiteReaches_13 (v := nI 0) rfl ?_
      refine s_istore_n (pc := 14) (lo' := [(3, .int (nI 0)), (2, .int (nI 0)), (0, .ref a0), (1, .int s0.1)]) dX5_findSiteReaches_14 rfl (Nat.le_of_ble_eq_true rfl) rfl ?_
      obtain ⟨t59, hg, hf⟩ := p_bd hf
      have k60 : SW G mX5_findSiteReaches (p_rm d 0 0) 0 0 0 0 (p_R none N qq.1 qq.2 P) 65 [(0, .ref a0), (1, .int s0.1), (2, .int t59.1)] [] N t59.2.1 t59.2.2 P := by
        refine s_aload_n (pc := 65) dX5_findSiteReaches_65 0 rfl rfl ?_
        obtain ⟨q82, h83, hf⟩ := p_bd hf
        have t84 : p_tp N q82 0 := WT.get hW ha0 h83
        refine x_getR (pc := 66) dX5_findSiteReaches_66 fl_X5_9 rfl ha0 h83 ?_
        refine s_iload_n (pc := 69) dX5_findSiteReaches_69 1 rfl rfl ?_
        refine s_iload_n (pc := 70) dX5_findSiteReaches_70 2 rfl rfl ?_
        obtain ⟨c85, hf⟩ := p_ckx hf
        refine x_iast (pc := 71) dX5_findSiteReaches_71 t84 c85 ?_
        refine s_nmI (fun I86 e87 => ?_)
        replace hf := p_lx hf e87
        refine s_iinc (pc := 72) (lo' := [(1, .int (s0.1 + nI 1)), (0, .ref a0), (2, .int t59.1)]) dX5_findSiteReaches_72 1 rfl (v := s0.1 + nI 1) rfl (Nat.le_of_ble_eq_true rfl) rfl ?_
        refine s_goto (pc := 75) (tgt := 2) dX5_findSiteReaches_75 rfl ?_
        exact s_lo [1, 0] rfl (hrec0 (s0.1 + nI 1, I86, t59.2.2) hf)
      replace hf := hg
      have k61 : ∀ (k : Nat) (s1 : Int32 × Int32 × pI × pL), p_it (B_X5_findSiteReaches_15 n N P a0 s0.1) k s1 = some t59 → (SW G mX5_findSiteReaches (p_rm d 0 0) 0 0 0 0 (p_R none N qq.1 qq.2 P) 15 [(0, .ref a0), (1, .int s0.1), (2, .int s1.1), (3, .int s1.2.1)] [] N s1.2.2.1 s1.2.2.2 P) := p_it_ind (C := fun (s1 : Int32 × Int32 × pI × pL) => SW G mX5_findSiteReaches (p_rm d 0 0) 0 0 0 0 (p_R none N qq.1 qq.2 P) 15 [(0, .ref a0), (1, .int s0.1), (2, .int s1.1), (3, .int s1.2.1)] [] N s1.2.2.1 s1.2.2.2 P) (by
        intro rec1 hrec1 s1 hf
        unfold B_X5_findSiteReaches_15 at hf
        refine s_iload_n (pc := 15) dX5_findSiteReaches_15 3 rfl rfl ?_
        refine s_aload_n (pc := 16) dX5_findSiteReaches_16 0 rfl rfl ?_
        obtain ⟨q62, h63, hf⟩ := p_bd hf
        have t64 : p_tp N q62 10 := WT.get hW ha0 h63
        refine x_getR (pc := 17) dX5_findSiteReaches_17 fl_X5_34 rfl ha0 h63 ?_
        obtain ⟨q65, h66, hf⟩ := p_bd hf
        have t67 : p_tp N q65 11 := WT.get hW t64 h66
        refine x_getR (pc := 20) dX5_findSiteReaches_20 fl_X5_45 rfl t64 h66 ?_
        obtain ⟨q68, h69, hf⟩ := p_bd hf
        refine y_callV1 (pc := 23) dX5_findSiteReaches_23 (c_X8_size (p_dd hd (by decide)) hW t67 h69) mk_X8_size mv_X8_size ml_X5_51 rfl rfl (Nat.le_of_ble_eq_true rfl) t67 rfl (p_d1 hd (by decide)) (Nat.le_of_ble_eq_true rfl) ?_
        refine s_icmp_ge (pc := 26) (tgt := 65) dX5_findSiteReaches_26 rfl (fun hc => ?_) (fun hc => ?_)
        · replace hf := p_ps hf hc
          cases hf
          exact s_lo [0, 1, 2] rfl (k60)
        · replace hf := p_ng hf hc
          refine s_iload_n (pc := 29) dX5_findSiteReaches_29 2 rfl rfl ?_
          refine s_aload_n (pc := 30) dX5_findSiteReaches_30 0 rfl rfl ?_
          obtain ⟨q70, h71, hf⟩ := p_bd hf
          have t72 : p_tp N q70 6 := WT.get hW ha0 h71
          refine x_getR (pc := 31) dX5_findSiteReaches_31 fl_X5_38 rfl ha0 h71 ?_
          refine s_iload_n (pc := 34) dX5_findSiteReaches_34 1 rfl rfl ?_
          refine s_iload_n (pc := 35) dX5_findSiteReaches_35 3 rfl rfl ?_
          obtain ⟨q73, h74, hf⟩ := p_bd hf
          refine y_callV1 (pc := 36) dX5_findSiteReaches_36 (c_X3_siteSignal (p_dd hd (by decide)) hW t72 h74) mk_X3_siteSignal mv_X3_siteSignal ml_X5_76 rfl rfl (Nat.le_of_ble_eq_true rfl) t72 rfl (p_d1 hd (by decide)) (Nat.le_of_ble_eq_true rfl) ?_
          refine s_aload_n (pc := 39) dX5_findSiteReaches_39 0 rfl rfl ?_
          obtain ⟨q75, h76, hf⟩ := p_bd hf
          have t77 : p_tp N q75 10 := WT.get hW ha0 h76
          refine x_getR (pc := 40) dX5_findSiteReaches_40 fl_X5_34 rfl ha0 h76 ?_
          refine s_iconst (pc := 43) dX5_findSiteReaches_43 (v := nI 4) rfl ?_
          obtain ⟨q78, h79, hf⟩ := p_bd hf
          refine y_callV1 (pc := 44) dX5_findSiteReaches_44 (c_X7_setting (p_dd hd (by decide)) hW t77 h79) mk_X7_setting mv_X7_setting ml_X5_82 rfl rfl (Nat.le_of_ble_eq_true rfl) t77 rfl (p_d1 hd (by decide)) (Nat.le_of_ble_eq_true rfl) ?_
          obtain ⟨t80, hg, hf⟩ := p_lx2 hf
          have k81 : SW G mX5_findSiteReaches (p_rm d 0 0) 0 0 0 0 (p_R none N qq.1 qq.2 P) 57 [(0, .ref a0), (1, .int s0.1), (3, .int s1.2.1)] [.int t80, .int s1.1] N q73.2.1 q73.2.2 P := by
            refine s_ior (pc := 57) dX5_findSiteReaches_57 ?_
            refine s_istore_n (pc := 58) (lo' := [(2, .int (s1.1 ||| t80)), (0, .ref a0), (1, .int s0.1), (3, .int s1.2.1)]) dX5_findSiteReaches_58 rfl (Nat.le_of_ble_eq_true rfl) rfl ?_
            refine s_iinc (pc := 59) (lo' := [(3, .int (s1.2.1 + nI 1)), (2, .int (s1.1 ||| t80)), (0, .ref a0), (1, .int s0.1)]) dX5_findSiteReaches_59 3 rfl (v := s1.2.1 + nI 1) rfl (Nat.le_of_ble_eq_true rfl) rfl ?_
            refine s_goto (pc := 62) (tgt := 15) dX5_findSiteReaches_62 rfl ?_
            exact s_lo [2, 3, 1, 0] rfl (hrec1 (s1.1 ||| t80, s1.2.1 + nI 1, q73.2.1, q73.2.2) hf)
          replace hf := hg.symm
          refine s_icmp_lt (pc := 47) (tgt := 56) dX5_findSiteReaches_47 rfl (fun hc => ?_) (fun hc => ?_)
          · replace hf := p_ps hf hc
            refine s_iconst (pc := 56) dX5_findSiteReaches_56 (v := nI 0) rfl ?_
            cases hf
            exact s_lo [0, 1, 3] rfl (k81)
          · replace hf := p_ng hf hc
            refine s_iconst (pc := 50) dX5_findSiteReaches_50 (v := nI 1) rfl ?_
            refine s_iload_n (pc := 51) dX5_findSiteReaches_51 3 rfl rfl ?_
            refine s_ishl (pc := 52) dX5_findSiteReaches_52 ?_
            refine s_goto (pc := 53) (tgt := 57) dX5_findSiteReaches_53 rfl ?_
            cases hf
            exact s_lo [0, 1, 3] rfl (k81))
      exact s_lo [2, 3, 1, 0] rfl (k61 n (nI 0, nI 0, s0.2.1, s0.2.2) hf))
  exact s_lo [1, 0] rfl (k55 n (nI 0, I, L) hf)
