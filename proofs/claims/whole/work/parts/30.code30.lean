def J_X12_isEndAhead_48 (N : pN) (I : pI) (P : pR) (a0 : Nat) (x2 : Int32) (x3 : Int32) (x5 : Int32) : Option Int32 :=
  Option.bind (f_X12_wallOf N I P a0 x5 (nI 2)) fun q9 =>
  (if q9 = x2 then
    Option.bind (f_X12_wallOf N I P a0 x5 (nI 3)) fun q11 =>
    (if q11 = x3 then
      some (nI 1)
    else
      some (nI 0))
  else
    some (nI 0))
def B_X12_isEndAhead_6 (N : pN) (I : pI) (P : pR) (a0 : Nat) (x1 : Int32) (x2 : Int32) (x3 : Int32) (rec0 : (Int32 × Int32) → Option Int32) (s0 : Int32 × Int32) : Option Int32 :=
  (if x1 ≤ s0.2 then
    some s0.1
  else
    (if s0.1 = 0 then
      Option.bind (f_X12_seesWall N I P a0 s0.2) fun q3 =>
      Option.bind (α := Int32) ((if q3 = 0 then
        some (nI 0)
      else
        Option.bind (f_X12_wallOf N I P a0 s0.2 (nI 0)) fun q7 =>
        (if q7 = x2 then
          Option.bind (f_X12_wallOf N I P a0 s0.2 (nI 1)) fun q18 =>
          (if q18 = x3 then
            some (nI 1)
          else
            J_X12_isEndAhead_48 N I P a0 x2 x3 s0.2)
        else
          J_X12_isEndAhead_48 N I P a0 x2 x3 s0.2))) fun t5 =>
      rec0 (t5, s0.2 + nI 1)
    else
      some s0.1))
def f_X12_isEndAhead (n : Nat) (N : pN) (I : pI) (P : pR) (a0 : Nat) (x1 : Int32) (x2 : Int32) (x3 : Int32) : Option Int32 :=
  Option.bind (p_it (B_X12_isEndAhead_6 N I P a0 x1 x2 x3) n (nI 0, nI 0)) fun t1 =>
  p_ck (decide (t1 = 0 ∨ t1 = 1)) <|
  some t1
theorem c_X12_isEndAhead {G : pG} {d : Nat} {n : Nat} {N : pN} {I : pI} {L : pL} {P : pR} {a0 : Nat} {x1 : Int32} {x2 : Int32} {x3 : Int32} {qq : Int32} (hd : 2 ≤ d) (hW : WT N P) (ha0 : p_tp N a0 15) (hf : f_X12_isEndAhead n N I P a0 x1 x2 x3 = some qq) : MT G mX12_isEndAhead d 0 0 [.ref a0, .int x1, .int x2, .int x3] N I L P (p_R (some (.int qq)) N I L P) := by
  refine MT.of rfl (Nat.le_of_ble_eq_true rfl) ?_
  show SW G mX12_isEndAhead (p_rm d 0 0) 0 0 0 0 (p_R (some (.int qq)) N I L P) 0 [(0, .ref a0), (1, .int x1), (2, .int x2), (3, .int x3)] [] N I L P
  unfold f_X12_isEndAhead at hf
  refine s_iconst (pc := 0) dX12_isEndAhead_0 (v := nI 0) rfl ?_
  refine s_istore (pc := 1) (lo' := [(4, .int (nI 0)), (0, .ref a0), (1, .int x1), (2, .int x2), (3, .int x3)]) dX12_isEndAhead_1 (Nat.le_of_ble_eq_true rfl) rfl ?_
  refine s_iconst (pc := 3) dX12_isEndAhead_3 (v := nI 0) rfl ?_
  refine s_istore (pc := 4) (lo' := [(5, .int (nI 0)), (4, .int (nI 0)), (0, .ref a0), (1, .int x1), (2, .int x2), (3, .int x3)]) dX12_isEndAhead_4 (Nat.le_of_ble_eq_true rfl) rfl ?_
  obtain ⟨t1, hg, hf⟩ := p_bd hf
  have k2 : SW G mX12_isEndAhead (p_rm d 0 0) 0 0 0 0 (p_R (some (.int qq)) N I L P) 83 [(4, .int t1)] [] N I L P := by
    refine s_iload (pc := 83) dX12_isEndAhead_83 0 rfl ?_
    obtain ⟨c34, hf⟩ := p_ckx hf
    cases hf
    exact s_ireturn (pc := 85) dX12_isEndAhead_85 rfl (p_nr (of_decide_eq_true c34)) ⟨rfl, rfl, rfl, rfl, rfl⟩
  replace hf := hg
  have k20 : ∀ (k : Nat) (s0 : Int32 × Int32), p_it (B_X12_isEndAhead_6 N I P a0 x1 x2 x3) k s0 = some t1 → (SW G mX12_isEndAhead (p_rm d 0 0) 0 0 0 0 (p_R (some (.int qq)) N I L P) 6 [(0, .ref a0), (1, .int x1), (2, .int x2), (3, .int x3), (4, .int s0.1), (5, .int s0.2)] [] N I L P) := p_it_ind (C := fun (s0 : Int32 × Int32) => SW G mX12_isEndAhead (p_rm d 0 0) 0 0 0 0 (p_R (some (.int qq)) N I L P) 6 [(0, .ref a0), (1, .int x1), (2, .int x2), (3, .int x3), (4, .int s0.1), (5, .int s0.2)] [] N I L P) (by
    intro rec0 hrec0 s0 hf
    unfold B_X12_isEndAhead_6 at hf
    refine s_iload (pc := 6) dX12_isEndAhead_6 5 rfl ?_
    refine s_iload_n (pc := 8) dX12_isEndAhead_8 1 rfl rfl ?_
    refine s_icmp_ge (pc := 9) (tgt := 83) dX12_isEndAhead_9 rfl (fun hc => ?_) (fun hc => ?_)
    · replace hf := p_ps hf hc
      cases hf
      exact s_lo [4] rfl (k2)
    · replace hf := p_ng hf hc
      refine s_iload (pc := 12) dX12_isEndAhead_12 4 rfl ?_
      refine s_if_ne (pc := 14) (tgt := 83) dX12_isEndAhead_14 rfl (fun hc => ?_) (fun hc => ?_)
      · replace hf := p_ng hf hc
        cases hf
        exact s_lo [4] rfl (k2)
      · replace hf := p_ps hf hc
        refine s_aload_n (pc := 17) dX12_isEndAhead_17 0 rfl rfl ?_
        refine s_iload (pc := 18) dX12_isEndAhead_18 5 rfl ?_
        obtain ⟨q21, h22, hf⟩ := p_bd hf
        refine y_callV1 (pc := 20) dX12_isEndAhead_20 (c_X12_seesWall (p_dd hd (by decide)) hW ha0 h22) mk_X12_seesWall mv_X12_seesWall ml_X12_113 rfl rfl (Nat.le_of_ble_eq_true rfl) ha0 rfl (p_d1 hd (by decide)) (Nat.le_of_ble_eq_true rfl) ?_
        obtain ⟨t23, hg, hf⟩ := p_bd hf
        have k24 : SW G mX12_isEndAhead (p_rm d 0 0) 0 0 0 0 (p_R (some (.int qq)) N I L P) 75 [(0, .ref a0), (1, .int x1), (2, .int x2), (3, .int x3), (5, .int s0.2)] [.int t23] N I L P := by
          refine s_istore (pc := 75) (lo' := [(4, .int t23), (0, .ref a0), (1, .int x1), (2, .int x2), (3, .int x3), (5, .int s0.2)]) dX12_isEndAhead_75 (Nat.le_of_ble_eq_true rfl) rfl ?_
          refine s_iinc (pc := 77) (lo' := [(5, .int (s0.2 + nI 1)), (4, .int t23), (0, .ref a0), (1, .int x1), (2, .int x2), (3, .int x3)]) dX12_isEndAhead_77 5 rfl (v := s0.2 + nI 1) rfl (Nat.le_of_ble_eq_true rfl) rfl ?_
          refine s_goto (pc := 80) (tgt := 6) dX12_isEndAhead_80 rfl ?_
          exact s_lo [2, 3, 4, 5, 1, 0] rfl (hrec0 (t23, s0.2 + nI 1) hf)
        replace hf := hg
        refine s_if_eq (pc := 23) (tgt := 74) dX12_isEndAhead_23 rfl (fun hc => ?_) (fun hc => ?_)
        · replace hf := p_ps hf hc
          refine s_iconst (pc := 74) dX12_isEndAhead_74 (v := nI 0) rfl ?_
          cases hf
          exact s_lo [0, 1, 2, 3, 5] rfl (k24)
        · replace hf := p_ng hf hc
          refine s_aload_n (pc := 26) dX12_isEndAhead_26 0 rfl rfl ?_
          refine s_iload (pc := 27) dX12_isEndAhead_27 5 rfl ?_
          refine s_iconst (pc := 29) dX12_isEndAhead_29 (v := nI 0) rfl ?_
          obtain ⟨q25, h26, hf⟩ := p_bd hf
          refine y_callV1 (pc := 30) dX12_isEndAhead_30 (c_X12_wallOf (p_dd hd (by decide)) hW ha0 h26) mk_X12_wallOf mv_X12_wallOf ml_X12_72 rfl rfl (Nat.le_of_ble_eq_true rfl) ha0 rfl (p_d1 hd (by decide)) (Nat.le_of_ble_eq_true rfl) ?_
          refine s_iload_n (pc := 33) dX12_isEndAhead_33 2 rfl rfl ?_
          have k27 : J_X12_isEndAhead_48 N I P a0 x2 x3 s0.2 = some t23 → SW G mX12_isEndAhead (p_rm d 0 0) 0 0 0 0 (p_R (some (.int qq)) N I L P) 48 [(0, .ref a0), (1, .int x1), (2, .int x2), (3, .int x3), (5, .int s0.2)] [] N I L P := by
            intro hf
            unfold J_X12_isEndAhead_48 at hf
            refine s_aload_n (pc := 48) dX12_isEndAhead_48 0 rfl rfl ?_
            refine s_iload (pc := 49) dX12_isEndAhead_49 4 rfl ?_
            refine s_iconst (pc := 51) dX12_isEndAhead_51 (v := nI 2) rfl ?_
            obtain ⟨q28, h29, hf⟩ := p_bd hf
            refine y_callV1 (pc := 52) dX12_isEndAhead_52 (c_X12_wallOf (p_dd hd (by decide)) hW ha0 h29) mk_X12_wallOf mv_X12_wallOf ml_X12_72 rfl rfl (Nat.le_of_ble_eq_true rfl) ha0 rfl (p_d1 hd (by decide)) (Nat.le_of_ble_eq_true rfl) ?_
            refine s_iload_n (pc := 55) dX12_isEndAhead_55 2 rfl rfl ?_
            refine s_icmp_ne (pc := 56) (tgt := 74) dX12_isEndAhead_56 rfl (fun hc => ?_) (fun hc => ?_)
            · replace hf := p_ng hf hc
              refine s_iconst (pc := 74) dX12_isEndAhead_74 (v := nI 0) rfl ?_
              cases hf
              exact s_lo [0, 1, 2, 3, 4] rfl (k24)
            · replace hf := p_ps hf hc
              refine s_aload_n (pc := 59) dX12_isEndAhead_59 0 rfl rfl ?_
              refine s_iload (pc := 60) dX12_isEndAhead_60 4 rfl ?_
              refine s_iconst (pc := 62) dX12_isEndAhead_62 (v := nI 3) rfl ?_
              obtain ⟨q30, h31, hf⟩ := p_bd hf
              refine y_callV1 (pc := 63) dX12_isEndAhead_63 (c_X12_wallOf (p_dd hd (by decide)) hW ha0 h31) mk_X12_wallOf mv_X12_wallOf ml_X12_72 rfl rfl (Nat.le_of_ble_eq_true rfl) ha0 rfl (p_d1 hd (by decide)) (Nat.le_of_ble_eq_true rfl) ?_
              refine s_iload_n (pc := 66) dX12_isEndAhead_66 3 rfl rfl ?_
              refine s_icmp_ne (pc := 67) (tgt := 74) dX12_isEndAhead_67 rfl (fun hc => ?_) (fun hc => ?_)
              · replace hf := p_ng hf hc
                refine s_iconst (pc := 74) dX12_isEndAhead_74 (v := nI 0) rfl ?_
                cases hf
                exact s_lo [0, 1, 2, 3, 4] rfl (k24)
              · replace hf := p_ps hf hc
                refine s_iconst (pc := 70) dX12_isEndAhead_70 (v := nI 1) rfl ?_
                refine s_goto (pc := 71) (tgt := 75) dX12_isEndAhead_71 rfl ?_
                cases hf
                exact s_lo [0, 1, 2, 3, 4] rfl (k24)
          refine s_icmp_ne (pc := 34) (tgt := 48) dX12_isEndAhead_34 rfl (fun hc => ?_) (fun hc => ?_)
          · replace hf := p_ng hf hc
            exact s_lo [0, 1, 2, 3, 5] rfl (k27 hf)
          · replace hf := p_ps hf hc
            refine s_aload_n (pc := 37) dX12_isEndAhead_37 0 rfl rfl ?_
            refine s_iload (pc := 38) dX12_isEndAhead_38 5 rfl ?_
            refine s_iconst (pc := 40) dX12_isEndAhead_40 (v := nI 1) rfl ?_
            obtain ⟨q32, h33, hf⟩ := p_bd hf
            refine y_callV1 (pc := 41) dX12_isEndAhead_41 (c_X12_wallOf (p_dd hd (by decide)) hW ha0 h33) mk_X12_wallOf mv_X12_wallOf ml_X12_72 rfl rfl (Nat.le_of_ble_eq_true rfl) ha0 rfl (p_d1 hd (by decide)) (Nat.le_of_ble_eq_true rfl) ?_
            refine s_iload_n (pc := 44) dX12_isEndAhead_44 3 rfl rfl ?_
            refine s_icmp_eq (pc := 45) (tgt := 70) dX12_isEndAhead_45 rfl (fun hc => ?_) (fun hc => ?_)
            · replace hf := p_ps hf hc
              refine s_iconst (pc := 70) dX12_isEndAhead_70 (v := nI 1) rfl ?_
              refine s_goto (pc := 71) (tgt := 75) dX12_isEndAhead_71 rfl ?_
              cases hf
              exact s_lo [0, 1, 2, 3, 5] rfl (k24)
            · replace hf := p_ng hf hc
              exact s_lo [0, 1, 2, 3, 5] rfl (k27 hf))
  exact s_lo [2, 3, 4, 5, 1, 0] rfl (k20 n (nI 0, nI 0) hf)
def J_X12_byCorner_55 (n : Nat) (N : pN) (I : pI) (L : pL) (P : pR) (a0 : Nat) (x1 : Int32) (x2 : Int32) (x3 : Int32) (x4 : Int32) : Option (pI × pL) :=
  Option.bind (f_X12_isEndAhead n N I P a0 x1 x3 x4) fun q5 =>
  (if q5 = 0 then
    Option.bind (f_X12_squares (Int32.toInt64 (x3 - (I a0 14))) (Int32.toInt64 (x4 - (I a0 15)))) fun q7 =>
    Option.bind (f_X12_squares (Int32.toInt64 (x3 - (I a0 16))) (Int32.toInt64 (x4 - (I a0 17)))) fun q9 =>
    Option.bind (f_X12_root n (q7 * q9)) fun q11 =>
    Option.bind (f_X12_begins I L a0 ((q7 + q9) + (2 * q11))) fun q13 =>
    Option.bind (P a0 0) fun q15 =>
    p_ck (p_ib N q15 (nI 12)) <|
    Option.bind (f_X12_weakens q13.2 a0 (q13.1 q15 (Int32.toNatClampNeg (nI 12)))) fun q19 =>
    Option.bind (f_X12_leg n N q13.1 q19 P a0 (Int32.toInt64 (q13.1 a0 14)) (Int32.toInt64 (q13.1 a0 15)) 1 (Int32.toInt64 x3) (Int32.toInt64 x4) 1) fun q21 =>
    Option.bind (f_X12_leg n N q21.1 q21.2 P a0 (Int32.toInt64 x3) (Int32.toInt64 x4) 1 (Int32.toInt64 (q21.1 a0 16)) (Int32.toInt64 (q21.1 a0 17)) 1) fun q23 =>
    Option.bind (f_X12_adds N q23.1 q23.2 P a0 (nI 3) x1 x2 q7 q9) fun q25 =>
    some (q25, q23.2)
  else
    some (I, L))
def J_X12_byCorner_38 (n : Nat) (N : pN) (I : pI) (L : pL) (P : pR) (x4 : Int32) (x3 : Int32) (a0 : Nat) (x1 : Int32) (x2 : Int32) : Option (pI × pL) :=
  (if x3 = (I a0 16) then
    (if x4 = (I a0 17) then
      some (I, L)
    else
      J_X12_byCorner_55 n N I L P a0 x1 x2 x3 x4)
  else
    J_X12_byCorner_55 n N I L P a0 x1 x2 x3 x4)
def f_X12_byCorner (n : Nat) (N : pN) (I : pI) (L : pL) (P : pR) (a0 : Nat) (x1 : Int32) (x2 : Int32) : Option (pI × pL) :=
  Option.bind (f_X12_wallOf N I P a0 x1 ((nI 2) * x2)) fun q1 =>
  Option.bind (f_X12_wallOf N I P a0 x1 (((nI 2) * x2) + (nI 1))) fun q3 =>
  (if q1 = (I a0 14) then
    (if q3 = (I a0 15) then
      some (I, L)
    else
      J_X12_byCorner_38 n N I L P q3 q1 a0 x1 x2)
  else
    J_X12_byCorner_38 n N I L P q3 q1 a0 x1 x2)
theorem c_X12_byCorner {G : pG} {d : Nat} {n : Nat} {N : pN} {I : pI} {L : pL} {P : pR} {a0 : Nat} {x1 : Int32} {x2 : Int32} {qq : pI × pL} (hd : 5 ≤ d) (hW : WT N P) (ha0 : p_tp N a0 15) (hf : f_X12_byCorner n N I L P a0 x1 x2 = some qq) : MT G mX12_byCorner d 0 0 [.ref a0, .int x1, .int x2] N I L P (p_R none N qq.1 qq.2 P) := by
  refine MT.of rfl (Nat.le_of_ble_eq_true rfl) ?_
  show SW G mX12_byCorner (p_rm d 0 0) 0 0 0 0 (p_R none N qq.1 qq.2 P) 0 [(0, .ref a0), (1, .int x1), (2, .int x2)] [] N I L P
  unfold f_X12_byCorner at hf
  refine s_aload_n (pc := 0) dX12_byCorner_0 0 rfl rfl ?_
  refine s_iload_n (pc := 1) dX12_byCorner_1 1 rfl rfl ?_
  refine s_iconst (pc := 2) dX12_byCorner_2 (v := nI 2) rfl ?_
  refine s_iload_n (pc := 3) dX12_byCorner_3 2 rfl rfl ?_
  refine s_imul (pc := 4) dX12_byCorner_4 ?_
  obtain ⟨q1, h2, hf⟩ := p_bd hf
  refine y_callV1 (pc := 5) dX12_byCorner_5 (c_X12_wallOf (p_dd hd (by decide)) hW ha0 h2) mk_X12_wallOf mv_X12_wallOf ml_X12_72 rfl rfl (Nat.le_of_ble_eq_true rfl) ha0 rfl (p_d1 hd (by decide)) (Nat.le_of_ble_eq_true rfl) ?_
  refine s_istore_n (pc := 8) (lo' := [(3, .int q1), (0, .ref a0), (1, .int x1), (2, .int x2)]) dX12_byCorner_8 rfl (Nat.le_of_ble_eq_true rfl) rfl ?_
  refine s_aload_n (pc := 9) dX12_byCorner_9 1 rfl rfl ?_
  refine s_iload_n (pc := 10) dX12_byCorner_10 2 rfl rfl ?_
  refine s_iconst (pc := 11) dX12_byCorner_11 (v := nI 2) rfl ?_
  refine s_iload_n (pc := 12) dX12_byCorner_12 3 rfl rfl ?_
  refine s_imul (pc := 13) dX12_byCorner_13 ?_
  refine s_iconst (pc := 14) dX12_byCorner_14 (v := nI 1) rfl ?_
  refine s_iadd (pc := 15) dX12_byCorner_15 ?_
  obtain ⟨q3, h4, hf⟩ := p_bd hf
  refine y_callV1 (pc := 16) dX12_byCorner_16 (c_X12_wallOf (p_dd hd (by decide)) hW ha0 h4) mk_X12_wallOf mv_X12_wallOf ml_X12_72 rfl rfl (Nat.le_of_ble_eq_true rfl) ha0 rfl (p_d1 hd (by decide)) (Nat.le_of_ble_eq_true rfl) ?_
  refine s_istore (pc := 19) (lo' := [(4, .int q3), (3, .int q1), (0, .ref a0), (1, .int x1), (2, .int x2)]) dX12_byCorner_19 (Nat.le_of_ble_eq_true rfl) rfl ?_
  refine s_iload_n (pc := 21) dX12_byCorner_21 1 rfl rfl ?_
  refine s_aload_n (pc := 22) dX12_byCorner_22 2 rfl rfl ?_
  refine x_getI (pc := 23) dX12_byCorner_23 fl_X12_145 rfl ha0 ?_
  have k50 : J_X12_byCorner_38 n N I L P q3 q1 a0 x1 x2 = some qq → SW G mX12_byCorner (p_rm d 0 0) 0 0 0 0 (p_R none N qq.1 qq.2 P) 38 [(4, .int q3), (3, .int q1), (0, .ref a0), (1, .int x1), (2, .int x2)] [] N I L P := by
    intro hf
    unfold J_X12_byCorner_38 at hf
    refine s_iload_n (pc := 38) dX12_byCorner_38 1 rfl rfl ?_
    refine s_aload_n (pc := 39) dX12_byCorner_39 2 rfl rfl ?_
    refine x_getI (pc := 40) dX12_byCorner_40 fl_X12_151 rfl ha0 ?_
    have k51 : J_X12_byCorner_55 n N I L P a0 x1 x2 q1 q3 = some qq → SW G mX12_byCorner (p_rm d 0 0) 0 0 0 0 (p_R none N qq.1 qq.2 P) 55 [(4, .int q3), (3, .int q1), (0, .ref a0), (1, .int x1), (2, .int x2)] [] N I L P := by
      intro hf
      unfold J_X12_byCorner_55 at hf
      refine s_aload_n (pc := 55) dX12_byCorner_55 2 rfl rfl ?_
      refine s_iload_n (pc := 56) dX12_byCorner_56 3 rfl rfl ?_
      refine s_iload_n (pc := 57) dX12_byCorner_57 1 rfl rfl ?_
      refine s_iload (pc := 58) dX12_byCorner_58 0 rfl ?_
      obtain ⟨q52, h53, hf⟩ := p_bd hf
      refine y_callV1 (pc := 60) dX12_byCorner_60 (c_X12_isEndAhead (p_dd hd (by decide)) hW ha0 h53) mk_X12_isEndAhead mv_X12_isEndAhead ml_X12_183 rfl rfl (Nat.le_of_ble_eq_true rfl) ha0 rfl (p_d1 hd (by decide)) (Nat.le_of_ble_eq_true rfl) ?_
      refine s_if_eq (pc := 63) (tgt := 67) dX12_byCorner_63 rfl (fun hc => ?_) (fun hc => ?_)
      · replace hf := p_ps hf hc
        refine s_iload_n (pc := 67) dX12_byCorner_67 1 rfl rfl ?_
        refine s_aload_n (pc := 68) dX12_byCorner_68 2 rfl rfl ?_
        refine x_getI (pc := 69) dX12_byCorner_69 fl_X12_145 rfl ha0 ?_
        refine s_isub (pc := 72) dX12_byCorner_72 ?_
        refine s_i2l (pc := 73) dX12_byCorner_73 ?_
        refine s_iload (pc := 74) dX12_byCorner_74 0 rfl ?_
        refine s_aload_n (pc := 76) dX12_byCorner_76 2 rfl rfl ?_
        refine x_getI (pc := 77) dX12_byCorner_77 fl_X12_148 rfl ha0 ?_
        refine s_isub (pc := 80) dX12_byCorner_80 ?_
        refine s_i2l (pc := 81) dX12_byCorner_81 ?_
        obtain ⟨q54, h55, hf⟩ := p_bd hf
        refine y_callS1 (pc := 82) dX12_byCorner_82 (c_X12_squares (p_dd hd (by decide)) hW  h55) mk_X12_squares mz_X12_squares ml_X12_167 rfl rfl (Nat.le_of_ble_eq_true rfl) (p_d1 hd (by decide)) (Nat.le_of_ble_eq_true rfl) ?_
        refine s_lstore (pc := 85) (lo' := [(5, .long q54), (4, .int q3), (3, .int q1), (0, .ref a0), (1, .int x1), (2, .int x2)]) dX12_byCorner_85 (Nat.le_of_ble_eq_true rfl) rfl ?_
        refine s_iload_n (pc := 87) dX12_byCorner_87 2 rfl rfl ?_
        refine s_aload_n (pc := 88) dX12_byCorner_88 3 rfl rfl ?_
        refine x_getI (pc := 89) dX12_byCorner_89 fl_X12_151 rfl ha0 ?_
        refine s_isub (pc := 92) dX12_byCorner_92 ?_
        refine s_i2l (pc := 93) dX12_byCorner_93 ?_
        refine s_iload (pc := 94) dX12_byCorner_94 1 rfl ?_
        refine s_aload_n (pc := 96) dX12_byCorner_96 3 rfl rfl ?_
        refine x_getI (pc := 97) dX12_byCorner_97 fl_X12_154 rfl ha0 ?_
        refine s_isub (pc := 100) dX12_byCorner_100 ?_
        refine s_i2l (pc := 101) dX12_byCorner_101 ?_
        obtain ⟨q56, h57, hf⟩ := p_bd hf
        refine y_callS1 (pc := 102) dX12_byCorner_102 (c_X12_squares (p_dd hd (by decide)) hW  h57) mk_X12_squares mz_X12_squares ml_X12_167 rfl rfl (Nat.le_of_ble_eq_true rfl) (p_d1 hd (by decide)) (Nat.le_of_ble_eq_true rfl) ?_
        refine s_lstore (pc := 105) (lo' := [(7, .long q56), (5, .long q54), (4, .int q3), (3, .int q1), (0, .ref a0), (1, .int x1), (2, .int x2)]) dX12_byCorner_105 (Nat.le_of_ble_eq_true rfl) rfl ?_
        refine s_aload_n (pc := 107) dX12_byCorner_107 4 rfl rfl ?_
        refine s_lload (pc := 108) dX12_byCorner_108 1 rfl ?_
        refine s_lload (pc := 110) dX12_byCorner_110 0 rfl ?_
        refine s_ladd (pc := 112) dX12_byCorner_112 ?_
        refine s_ldc2 (pc := 113) kl_X12_134 dX12_byCorner_113 ?_
        refine s_lload (pc := 116) dX12_byCorner_116 1 rfl ?_
        refine s_lload (pc := 118) dX12_byCorner_118 0 rfl ?_
        refine s_lmul (pc := 120) dX12_byCorner_120 ?_
        obtain ⟨q58, h59, hf⟩ := p_bd hf
        refine y_callS1 (pc := 121) dX12_byCorner_121 (c_X12_root (p_dd hd (by decide)) hW  h59) mk_X12_root mz_X12_root ml_X12_186 rfl rfl (Nat.le_of_ble_eq_true rfl) (p_d1 hd (by decide)) (Nat.le_of_ble_eq_true rfl) ?_
        refine s_lmul (pc := 124) dX12_byCorner_124 ?_
        refine s_ladd (pc := 125) dX12_byCorner_125 ?_
        obtain ⟨q60, h61, hf⟩ := p_bd hf
        refine y_callV0 (pc := 126) dX12_byCorner_126 (c_X12_begins (p_dd hd (by decide)) hW ha0 h61) mk_X12_begins mv_X12_begins ml_X12_171 rfl rfl (Nat.le_of_ble_eq_true rfl) ha0 rfl (p_d1 hd (by decide)) (Nat.le_of_ble_eq_true rfl) ?_
        refine s_aload_n (pc := 129) dX12_byCorner_129 4 rfl rfl ?_
        refine s_aload_n (pc := 130) dX12_byCorner_130 4 rfl rfl ?_
        obtain ⟨q62, h63, hf⟩ := p_bd hf
        have t64 : p_tp N q62 0 := WT.get hW ha0 h63
        refine x_getR (pc := 131) dX12_byCorner_131 fl_X12_7 rfl ha0 h63 ?_
        refine s_bipush (pc := 134) dX12_byCorner_134 (v := nI 12) rfl ?_
        obtain ⟨c65, hf⟩ := p_ckx hf
        refine x_iald (pc := 136) dX12_byCorner_136 t64 c65 ?_
        obtain ⟨q66, h67, hf⟩ := p_bd hf
        refine y_callV0 (pc := 137) dX12_byCorner_137 (c_X12_weakens (p_dd hd (by decide)) hW ha0 h67) mk_X12_weakens mv_X12_weakens ml_X12_128 rfl rfl (Nat.le_of_ble_eq_true rfl) ha0 rfl (p_d1 hd (by decide)) (Nat.le_of_ble_eq_true rfl) ?_
        refine s_aload_n (pc := 140) dX12_byCorner_140 4 rfl rfl ?_
        refine s_aload_n (pc := 141) dX12_byCorner_141 4 rfl rfl ?_
        refine x_getI (pc := 142) dX12_byCorner_142 fl_X12_145 rfl ha0 ?_
        refine s_i2l (pc := 145) dX12_byCorner_145 ?_
        refine s_aload_n (pc := 146) dX12_byCorner_146 4 rfl rfl ?_
        refine x_getI (pc := 147) dX12_byCorner_147 fl_X12_148 rfl ha0 ?_
        refine s_i2l (pc := 150) dX12_byCorner_150 ?_
        refine s_lconst (pc := 151) dX12_byCorner_151 (v := 1) rfl ?_
        refine s_iload_n (pc := 152) dX12_byCorner_152 3 rfl rfl ?_
        refine s_i2l (pc := 153) dX12_byCorner_153 ?_
        refine s_iload (pc := 154) dX12_byCorner_154 2 rfl ?_
        refine s_i2l (pc := 156) dX12_byCorner_156 ?_
        refine s_lconst (pc := 157) dX12_byCorner_157 (v := 1) rfl ?_
        obtain ⟨q68, h69, hf⟩ := p_bd hf
        refine y_callV0 (pc := 158) dX12_byCorner_158 (c_X12_leg (p_dd hd (by decide)) hW ha0 h69) mk_X12_leg mv_X12_leg ml_X12_175 rfl rfl (Nat.le_of_ble_eq_true rfl) ha0 rfl (p_d1 hd (by decide)) (Nat.le_of_ble_eq_true rfl) ?_
        refine s_aload_n (pc := 161) dX12_byCorner_161 4 rfl rfl ?_
        refine s_iload_n (pc := 162) dX12_byCorner_162 3 rfl rfl ?_
        refine s_i2l (pc := 163) dX12_byCorner_163 ?_
        refine s_iload (pc := 164) dX12_byCorner_164 2 rfl ?_
        refine s_i2l (pc := 166) dX12_byCorner_166 ?_
        refine s_lconst (pc := 167) dX12_byCorner_167 (v := 1) rfl ?_
        refine s_aload_n (pc := 168) dX12_byCorner_168 4 rfl rfl ?_
        refine x_getI (pc := 169) dX12_byCorner_169 fl_X12_151 rfl ha0 ?_
        refine s_i2l (pc := 172) dX12_byCorner_172 ?_
        refine s_aload_n (pc := 173) dX12_byCorner_173 4 rfl rfl ?_
        refine x_getI (pc := 174) dX12_byCorner_174 fl_X12_154 rfl ha0 ?_
        refine s_i2l (pc := 177) dX12_byCorner_177 ?_
        refine s_lconst (pc := 178) dX12_byCorner_178 (v := 1) rfl ?_
        obtain ⟨q70, h71, hf⟩ := p_bd hf
        refine y_callV0 (pc := 179) dX12_byCorner_179 (c_X12_leg (p_dd hd (by decide)) hW ha0 h71) mk_X12_leg mv_X12_leg ml_X12_175 rfl rfl (Nat.le_of_ble_eq_true rfl) ha0 rfl (p_d1 hd (by decide)) (Nat.le_of_ble_eq_true rfl) ?_
        refine s_aload_n (pc := 182) dX12_byCorner_182 4 rfl rfl ?_
        refine s_iconst (pc := 183) dX12_byCorner_183 (v := nI 3) rfl ?_
        refine s_iload_n (pc := 184) dX12_byCorner_184 5 rfl rfl ?_
        refine s_iload_n (pc := 185) dX12_byCorner_185 6 rfl rfl ?_
        refine s_lload (pc := 186) dX12_byCorner_186 1 rfl ?_
        refine s_lload (pc := 188) dX12_byCorner_188 0 rfl ?_
        obtain ⟨q72, h73, hf⟩ := p_bd hf
        refine y_callV0 (pc := 190) dX12_byCorner_190 (c_X12_adds (p_dd hd (by decide)) hW ha0 h73) mk_X12_adds mv_X12_adds ml_X12_179 rfl rfl (Nat.le_of_ble_eq_true rfl) ha0 rfl (p_d1 hd (by decide)) (Nat.le_of_ble_eq_true rfl) ?_
        cases hf
        exact s_return (pc := 193) dX12_byCorner_193 rfl ⟨rfl, rfl, rfl, rfl, rfl⟩
      · replace hf := p_ng hf hc
        cases hf
        exact s_return (pc := 66) dX12_byCorner_66 rfl ⟨rfl, rfl, rfl, rfl, rfl⟩
    refine s_icmp_ne (pc := 43) (tgt := 55) dX12_byCorner_43 rfl (fun hc => ?_) (fun hc => ?_)
    · replace hf := p_ng hf hc
      exact s_lo [0, 1, 2, 3, 4] rfl (k51 hf)
    · replace hf := p_ps hf hc
      refine s_iload (pc := 46) dX12_byCorner_46 0 rfl ?_
      refine s_aload_n (pc := 48) dX12_byCorner_48 2 rfl rfl ?_
      refine x_getI (pc := 49) dX12_byCorner_49 fl_X12_154 rfl ha0 ?_
      refine s_icmp_eq (pc := 52) (tgt := 66) dX12_byCorner_52 rfl (fun hc => ?_) (fun hc => ?_)
      · replace hf := p_ps hf hc
        cases hf
        exact s_return (pc := 66) dX12_byCorner_66 rfl ⟨rfl, rfl, rfl, rfl, rfl⟩
      · replace hf := p_ng hf hc
        exact s_lo [0, 1, 2, 3, 4] rfl (k51 hf)
  refine s_icmp_ne (pc := 26) (tgt := 38) dX12_byCorner_26 rfl (fun hc => ?_) (fun hc => ?_)
  · replace hf := p_ng hf hc
    exact s_lo [0, 1, 2, 3, 4] rfl (k50 hf)
  · replace hf := p_ps hf hc
    refine s_iload (pc := 29) dX12_byCorner_29 0 rfl ?_
    refine s_aload_n (pc := 31) dX12_byCorner_31 2 rfl rfl ?_
    refine x_getI (pc := 32) dX12_byCorner_32 fl_X12_148 rfl ha0 ?_
    refine s_icmp_eq (pc := 35) (tgt := 66) dX12_byCorner_35 rfl (fun hc => ?_) (fun hc => ?_)
    · replace hf := p_ps hf hc
      cases hf
      exact s_return (pc := 66) dX12_byCorner_66 rfl ⟨rfl, rfl, rfl, rfl, rfl⟩
    · replace hf := p_ng hf hc
      exact s_lo [0, 1, 2, 3, 4] rfl (k50 hf)
def f_X12_from (I : pI) (a0 : Nat) (x1 : Int32) (x2 : Int32) (x3 : Int32) : Option pI :=
  p_let (p_u I a0 14 x1) fun I1 =>
  p_let (p_u I1 a0 15 x2) fun I3 =>
  p_let (p_u I3 a0 18 x3) fun I5 =>
  some I5
theorem c_X12_from {G : pG} {d : Nat} {N : pN} {I : pI} {L : pL} {P : pR} {a0 : Nat} {x1 : Int32} {x2 : Int32} {x3 : Int32} {qq : pI} (hd : 0 ≤ d) (hW : WT N P) (ha0 : p_tp N a0 15) (hf : f_X12_from I a0 x1 x2 x3 = some qq) : MT G mX12_from d 0 0 [.ref a0, .int x1, .int x2, .int x3] N I L P (p_R none N qq L P) := by
  refine MT.of rfl (Nat.le_of_ble_eq_true rfl) ?_
  show SW G mX12_from (p_rm d 0 0) 0 0 0 0 (p_R none N qq L P) 0 [(0, .ref a0), (1, .int x1), (2, .int x2), (3, .int x3)] [] N I L P
  unfold f_X12_from at hf
  refine s_aload_n (pc := 0) dX12_from_0 0 rfl rfl ?_
  refine s_iload_n (pc := 1) dX12_from_1 1 rfl rfl ?_
  refine x_putI (pc := 2) dX12_from_2 fl_X12_145 (Or.inl rfl) rfl ha0 ?_
  refine s_nmI (fun I1 e2 => ?_)
  replace hf := p_lx hf e2
  refine s_aload_n (pc := 5) dX12_from_5 0 rfl rfl ?_
  refine s_iload_n (pc := 6) dX12_from_6 2 rfl rfl ?_
  refine x_putI (pc := 7) dX12_from_7 fl_X12_148 (Or.inl rfl) rfl ha0 ?_
  refine s_nmI (fun I3 e4 => ?_)
  replace hf := p_lx hf e4
  refine s_aload_n (pc := 10) dX12_from_10 0 rfl rfl ?_
  refine s_iload_n (pc := 11) dX12_from_11 3 rfl rfl ?_
  refine x_putI (pc := 12) dX12_from_12 fl_X12_136 (Or.inl rfl) rfl ha0 ?_
  refine s_nmI (fun I5 e6 => ?_)
  replace hf := p_lx hf e6
  cases hf
  exact s_return (pc := 15) dX12_from_15 rfl ⟨rfl, rfl, rfl, rfl, rfl⟩
def B_X12_tries_118 (n : Nat) (N : pN) (P : pR) (a0 : Nat) (x6 : Int32) (rec1 : (Int32 × pI × pL) → Option (pI × pL)) (s1 : Int32 × pI × pL) : Option (pI × pL) :=
  Option.bind (P a0 0) fun q33 =>
  p_ck (p_ib N q33 (nI 0)) <|
  (if (s1.2.1 q33 (Int32.toNatClampNeg (nI 0))) ≤ s1.1 then
    some (s1.2.1, s1.2.2)
  else
    Option.bind (P a0 0) fun q37 =>
    p_ck (p_ib N q37 (nI 11)) <|
    (if (s1.2.1 q37 (Int32.toNatClampNeg (nI 11))) ≤ (nI 1) then
      some (s1.2.1, s1.2.2)
    else
      Option.bind (α := pI × pL) ((if s1.1 = x6 then
        some (s1.2.1, s1.2.2)
      else
        Option.bind (f_X12_seesWall N s1.2.1 P a0 s1.1) fun q43 =>
        (if q43 = 0 then
          some (s1.2.1, s1.2.2)
        else
          Option.bind (f_X12_byMirrors n N s1.2.1 s1.2.2 P a0 x6 s1.1) fun q45 =>
          some (q45.1, q45.2)))) fun t41 =>
      rec1 (s1.1 + nI 1, t41.1, t41.2)))
def B_X12_tries_76 (n : Nat) (N : pN) (P : pR) (a0 : Nat) (rec0 : (Int32 × pI × pL) → Option (pI × pL)) (s0 : Int32 × pI × pL) : Option (pI × pL) :=
  Option.bind (P a0 0) fun q17 =>
  p_ck (p_ib N q17 (nI 0)) <|
  (if (s0.2.1 q17 (Int32.toNatClampNeg (nI 0))) ≤ s0.1 then
    some (s0.2.1, s0.2.2)
  else
    Option.bind (P a0 0) fun q21 =>
    p_ck (p_ib N q21 (nI 11)) <|
    (if (s0.2.1 q21 (Int32.toNatClampNeg (nI 11))) ≤ 0 then
      some (s0.2.1, s0.2.2)
    else
      Option.bind (f_X12_seesWall N s0.2.1 P a0 s0.1) fun q25 =>
      Option.bind (α := pI × pL) ((if q25 = 0 then
        some (s0.2.1, s0.2.2)
      else
        Option.bind (f_X12_byMirror n N s0.2.1 s0.2.2 P a0 s0.1) fun q29 =>
        Option.bind (p_it (B_X12_tries_118 n N P a0 s0.1) n (nI 0, q29.1, q29.2)) fun t31 =>
        some (t31.1, t31.2))) fun t27 =>
      rec0 (s0.1 + nI 1, t27.1, t27.2)))
def B_X12_tries_179 (n : Nat) (N : pN) (P : pR) (x5 : Int32) (a0 : Nat) (rec0 : (Int32 × pI × pL) → Option (pI × pL)) (s0 : Int32 × pI × pL) : Option (pI × pL) :=
  Option.bind (P a0 0) fun q96 =>
  p_ck (p_ib N q96 (nI 0)) <|
  (if (s0.2.1 q96 (Int32.toNatClampNeg (nI 0))) ≤ s0.1 then
    some (s0.2.1, s0.2.2)
  else
    (if x5 = 0 then
      some (s0.2.1, s0.2.2)
    else
      Option.bind (P a0 0) fun q100 =>
      p_ck (p_ib N q100 (nI 12)) <|
      (if (s0.2.1 q100 (Int32.toNatClampNeg (nI 12))) ≤ 0 then
        some (s0.2.1, s0.2.2)
      else
        Option.bind (f_X12_seesWall N s0.2.1 P a0 s0.1) fun q104 =>
        Option.bind (α := pI × pL) ((if q104 = 0 then
          some (s0.2.1, s0.2.2)
        else
          Option.bind (f_X12_byCorner n N s0.2.1 s0.2.2 P a0 s0.1 (nI 0)) fun q108 =>
          Option.bind (f_X12_byCorner n N q108.1 q108.2 P a0 s0.1 (nI 1)) fun q110 =>
          some (q110.1, q110.2))) fun t106 =>
        rec0 (s0.1 + nI 1, t106.1, t106.2))))
def f_X12_tries (n : Nat) (N : pN) (I : pI) (L : pL) (P : pR) (a0 : Nat) (x1 : Int32) (x2 : Int32) : Option (pI × pL) :=
  p_let (p_u I a0 16 x1) fun I1 =>
  p_let (p_u I1 a0 17 x2) fun I3 =>
  p_let (p_u I3 a0 13 (nI 0)) fun I5 =>
  Option.bind (f_X12_squares (Int32.toInt64 ((I5 a0 14) - x1)) (Int32.toInt64 ((I5 a0 15) - x2))) fun q7 =>
  Option.bind (f_X12_begins I5 L a0 q7) fun q9 =>
  Option.bind (f_X12_leg n N q9.1 q9.2 P a0 (Int32.toInt64 (q9.1 a0 14)) (Int32.toInt64 (q9.1 a0 15)) 1 (Int32.toInt64 x1) (Int32.toInt64 x2) 1) fun q11 =>
  Option.bind (f_X12_adds N q11.1 q11.2 P a0 (nI 0) (-1) (-1) q7 0) fun q13 =>
  Option.bind (p_it (B_X12_tries_76 n N P a0) n (nI 0, q13, q11.2)) fun t15 =>
  Option.bind (p_it (B_X12_tries_179 n N P (q11.1 a0 6) a0) n (nI 0, t15.1, t15.2)) fun t94 =>
  some (t94.1, t94.2)
theorem c_X12_tries {G : pG} {d : Nat} {n : Nat} {N : pN} {I : pI} {L : pL} {P : pR} {a0 : Nat} {x1 : Int32} {x2 : Int32} {qq : pI × pL} (hd : 6 ≤ d) (hW : WT N P) (ha0 : p_tp N a0 15) (hf : f_X12_tries n N I L P a0 x1 x2 = some qq) : MT G mX12_tries d 0 0 [.ref a0, .int x1, .int x2] N I L P (p_R none N qq.1 qq.2 P) := by
  refine MT.of rfl (Nat.le_of_ble_eq_true rfl) ?_
  show SW G mX12_tries (p_rm d 0 0) 0 0 0 0 (p_R none N qq.1 qq.2 P) 0 [(0, .ref a0), (1, .int x1), (2, .int x2)] [] N I L P
  unfold f_X12_tries at hf
  refine s_aload_n (pc := 0) dX12_tries_0 0 rfl rfl ?_
  refine s_iload_n (pc := 1) dX12_tries_1 1 rfl rfl ?_
  refine x_putI (pc := 2) dX12_tries_2 fl_X12_151 (Or.inl rfl) rfl ha0 ?_
  refine s_nmI (fun I1 e2 => ?_)
  replace hf := p_lx hf e2
  refine s_aload_n (pc := 5) dX12_tries_5 0 rfl rfl ?_
  refine s_iload_n (pc := 6) dX12_tries_6 2 rfl rfl ?_
  refine x_putI (pc := 7) dX12_tries_7 fl_X12_154 (Or.inl rfl) rfl ha0 ?_
  refine s_nmI (fun I3 e4 => ?_)
  replace hf := p_lx hf e4
  refine s_aload_n (pc := 10) dX12_tries_10 0 rfl rfl ?_
  refine s_iconst (pc := 11) dX12_tries_11 (v := nI 0) rfl ?_
  refine x_putI (pc := 12) dX12_tries_12 fl_X12_142 (Or.inl rfl) rfl ha0 ?_
  refine s_nmI (fun I5 e6 => ?_)
  replace hf := p_lx hf e6
  refine s_aload_n (pc := 15) dX12_tries_15 0 rfl rfl ?_
  refine x_getI (pc := 16) dX12_tries_16 fl_X12_145 rfl ha0 ?_
  refine s_iload_n (pc := 19) dX12_tries_19 1 rfl rfl ?_
  refine s_isub (pc := 20) dX12_tries_20 ?_
  refine s_i2l (pc := 21) dX12_tries_21 ?_
  refine s_aload_n (pc := 22) dX12_tries_22 0 rfl rfl ?_
  refine x_getI (pc := 23) dX12_tries_23 fl_X12_148 rfl ha0 ?_
  refine s_iload_n (pc := 26) dX12_tries_26 2 rfl rfl ?_
  refine s_isub (pc := 27) dX12_tries_27 ?_
  refine s_i2l (pc := 28) dX12_tries_28 ?_
  obtain ⟨q7, h8, hf⟩ := p_bd hf
  refine y_callS1 (pc := 29) dX12_tries_29 (c_X12_squares (p_dd hd (by decide)) hW  h8) mk_X12_squares mz_X12_squares ml_X12_167 rfl rfl (Nat.le_of_ble_eq_true rfl) (p_d1 hd (by decide)) (Nat.le_of_ble_eq_true rfl) ?_
  refine s_lstore_n (pc := 32) (lo' := [(3, .long q7), (0, .ref a0), (1, .int x1), (2, .int x2)]) dX12_tries_32 rfl (Nat.le_of_ble_eq_true rfl) rfl ?_
  refine s_aload_n (pc := 33) dX12_tries_33 1 rfl rfl ?_
  refine s_lload_n (pc := 34) dX12_tries_34 0 rfl rfl ?_
  obtain ⟨q9, h10, hf⟩ := p_bd hf
  refine y_callV0 (pc := 35) dX12_tries_35 (c_X12_begins (p_dd hd (by decide)) hW ha0 h10) mk_X12_begins mv_X12_begins ml_X12_171 rfl rfl (Nat.le_of_ble_eq_true rfl) ha0 rfl (p_d1 hd (by decide)) (Nat.le_of_ble_eq_true rfl) ?_
  refine s_aload_n (pc := 38) dX12_tries_38 1 rfl rfl ?_
  refine s_aload_n (pc := 39) dX12_tries_39 1 rfl rfl ?_
  refine x_getI (pc := 40) dX12_tries_40 fl_X12_145 rfl ha0 ?_
  refine s_i2l (pc := 43) dX12_tries_43 ?_
  refine s_aload_n (pc := 44) dX12_tries_44 1 rfl rfl ?_
  refine x_getI (pc := 45) dX12_tries_45 fl_X12_148 rfl ha0 ?_
  refine s_i2l (pc := 48) dX12_tries_48 ?_
  refine s_lconst (pc := 49) dX12_tries_49 (v := 1) rfl ?_
  refine s_iload_n (pc := 50) dX12_tries_50 2 rfl rfl ?_
  refine s_i2l (pc := 51) dX12_tries_51 ?_
  refine s_iload_n (pc := 52) dX12_tries_52 3 rfl rfl ?_
  refine s_i2l (pc := 53) dX12_tries_53 ?_
  refine s_lconst (pc := 54) dX12_tries_54 (v := 1) rfl ?_
  obtain ⟨q11, h12, hf⟩ := p_bd hf
  refine y_callV0 (pc := 55) dX12_tries_55 (c_X12_leg (p_dd hd (by decide)) hW ha0 h12) mk_X12_leg mv_X12_leg ml_X12_175 rfl rfl (Nat.le_of_ble_eq_true rfl) ha0 rfl (p_d1 hd (by decide)) (Nat.le_of_ble_eq_true rfl) ?_
  refine s_aload_n (pc := 58) dX12_tries_58 1 rfl rfl ?_
  refine x_getI (pc := 59) dX12_tries_59 fl_X12_124 rfl ha0 ?_
  refine s_istore (pc := 62) (lo' := [(5, .int (q11.1 a0 6)), (3, .long q7), (0, .ref a0), (1, .int x1), (2, .int x2)]) dX12_tries_62 (Nat.le_of_ble_eq_true rfl) rfl ?_
  refine s_aload_n (pc := 64) dX12_tries_64 2 rfl rfl ?_
  refine s_iconst (pc := 65) dX12_tries_65 (v := nI 0) rfl ?_
  refine s_iconst (pc := 66) dX12_tries_66 (v := (-1)) rfl ?_
  refine s_iconst (pc := 67) dX12_tries_67 (v := (-1)) rfl ?_
  refine s_lload_n (pc := 68) dX12_tries_68 1 rfl rfl ?_
  refine s_lconst (pc := 69) dX12_tries_69 (v := 0) rfl ?_
  obtain ⟨q13, h14, hf⟩ := p_bd hf
  refine y_callV0 (pc := 70) dX12_tries_70 (c_X12_adds (p_dd hd (by decide)) hW ha0 h14) mk_X12_adds mv_X12_adds ml_X12_179 rfl rfl (Nat.le_of_ble_eq_true rfl) ha0 rfl (p_d1 hd (by decide)) (Nat.le_of_ble_eq_true rfl) ?_
  refine s_iconst (pc := 73) dX12_tries_73 (v := nI 0) rfl ?_
  refine s_istore (pc := 74) (lo' := [(6, .int (nI 0)), (5, .int (q11.1 a0 6)), (3, .long q7), (0, .ref a0), (1, .int x1), (2, .int x2)]) dX12_tries_74 (Nat.le_of_ble_eq_true rfl) rfl ?_
  obtain ⟨t15, hg, hf⟩ := p_bd hf
  have k16 : SW G mX12_tries (p_rm d 0 0) 0 0 0 0 (p_R none N qq.1 qq.2 P) 176 [(5, .int (q11.1 a0 6)), (0, .ref a0)] [] N t15.1 t15.2 P := by
    refine s_iconst (pc := 176) dX12_tries_176 (v := nI 0) rfl ?_
    refine s_istore (pc := 177) (lo' := [(6, .int (nI 0)), (5, .int (q11.1 a0 6)), (0, .ref a0)]) dX12_tries_177 (Nat.le_of_ble_eq_true rfl) rfl ?_
    obtain ⟨t94, hg, hf⟩ := p_bd hf
    have k95 : SW G mX12_tries (p_rm d 0 0) 0 0 0 0 (p_R none N qq.1 qq.2 P) 237 [] [] N t94.1 t94.2 P := by
      cases hf
      exact s_return (pc := 237) dX12_tries_237 rfl ⟨rfl, rfl, rfl, rfl, rfl⟩
    replace hf := hg
    have k112 : ∀ (k : Nat) (s0 : Int32 × pI × pL), p_it (B_X12_tries_179 n N P (q11.1 a0 6) a0) k s0 = some t94 → (SW G mX12_tries (p_rm d 0 0) 0 0 0 0 (p_R none N qq.1 qq.2 P) 179 [(5, .int (q11.1 a0 6)), (0, .ref a0), (6, .int s0.1)] [] N s0.2.1 s0.2.2 P) := p_it_ind (C := fun (s0 : Int32 × pI × pL) => SW G mX12_tries (p_rm d 0 0) 0 0 0 0 (p_R none N qq.1 qq.2 P) 179 [(5, .int (q11.1 a0 6)), (0, .ref a0), (6, .int s0.1)] [] N s0.2.1 s0.2.2 P) (by
      intro rec0 hrec0 s0 hf
      unfold B_X12_tries_179 at hf
      refine s_iload (pc := 179) dX12_tries_179 2 rfl ?_
      refine s_aload_n (pc := 181) dX12_tries_181 1 rfl rfl ?_
      obtain ⟨q113, h114, hf⟩ := p_bd hf
      have t115 : p_tp N q113 0 := WT.get hW ha0 h114
      refine x_getR (pc := 182) dX12_tries_182 fl_X12_7 rfl ha0 h114 ?_
      refine s_iconst (pc := 185) dX12_tries_185 (v := nI 0) rfl ?_
      obtain ⟨c116, hf⟩ := p_ckx hf
      refine x_iald (pc := 186) dX12_tries_186 t115 c116 ?_
      refine s_icmp_ge (pc := 187) (tgt := 237) dX12_tries_187 rfl (fun hc => ?_) (fun hc => ?_)
      · replace hf := p_ps hf hc
        cases hf
        exact s_lo [] rfl (k95)
      · replace hf := p_ng hf hc
        refine s_iload (pc := 190) dX12_tries_190 0 rfl ?_
        refine s_if_eq (pc := 192) (tgt := 237) dX12_tries_192 rfl (fun hc => ?_) (fun hc => ?_)
        · replace hf := p_ps hf hc
          cases hf
          exact s_lo [] rfl (k95)
        · replace hf := p_ng hf hc
          refine s_aload_n (pc := 195) dX12_tries_195 1 rfl rfl ?_
          obtain ⟨q117, h118, hf⟩ := p_bd hf
          have t119 : p_tp N q117 0 := WT.get hW ha0 h118
          refine x_getR (pc := 196) dX12_tries_196 fl_X12_7 rfl ha0 h118 ?_
          refine s_bipush (pc := 199) dX12_tries_199 (v := nI 12) rfl ?_
          obtain ⟨c120, hf⟩ := p_ckx hf
          refine x_iald (pc := 201) dX12_tries_201 t119 c120 ?_
          refine s_if_le (pc := 202) (tgt := 237) dX12_tries_202 rfl (fun hc => ?_) (fun hc => ?_)
          · replace hf := p_ps hf hc
            cases hf
            exact s_lo [] rfl (k95)
          · replace hf := p_ng hf hc
            refine s_aload_n (pc := 205) dX12_tries_205 1 rfl rfl ?_
            refine s_iload (pc := 206) dX12_tries_206 2 rfl ?_
            obtain ⟨q121, h122, hf⟩ := p_bd hf
            refine y_callV1 (pc := 208) dX12_tries_208 (c_X12_seesWall (p_dd hd (by decide)) hW ha0 h122) mk_X12_seesWall mv_X12_seesWall ml_X12_113 rfl rfl (Nat.le_of_ble_eq_true rfl) ha0 rfl (p_d1 hd (by decide)) (Nat.le_of_ble_eq_true rfl) ?_
            obtain ⟨t123, hg, hf⟩ := p_bd hf
            have k124 : SW G mX12_tries (p_rm d 0 0) 0 0 0 0 (p_R none N qq.1 qq.2 P) 231 [(5, .int (q11.1 a0 6)), (0, .ref a0), (6, .int s0.1)] [] N t123.1 t123.2 P := by
              refine s_iinc (pc := 231) (lo' := [(6, .int (s0.1 + nI 1)), (5, .int (q11.1 a0 6)), (0, .ref a0)]) dX12_tries_231 2 rfl (v := s0.1 + nI 1) rfl (Nat.le_of_ble_eq_true rfl) rfl ?_
              refine s_goto (pc := 234) (tgt := 179) dX12_tries_234 rfl ?_
              exact s_lo [1, 2, 0] rfl (hrec0 (s0.1 + nI 1, t123.1, t123.2) hf)
            replace hf := hg
            refine s_if_ne (pc := 211) (tgt := 217) dX12_tries_211 rfl (fun hc => ?_) (fun hc => ?_)
            · replace hf := p_ng hf hc
              refine s_aload_n (pc := 217) dX12_tries_217 1 rfl rfl ?_
              refine s_iload (pc := 218) dX12_tries_218 2 rfl ?_
              refine s_iconst (pc := 220) dX12_tries_220 (v := nI 0) rfl ?_
              obtain ⟨q125, h126, hf⟩ := p_bd hf
              refine y_callV0 (pc := 221) dX12_tries_221 (c_X12_byCorner (p_dd hd (by decide)) hW ha0 h126) mk_X12_byCorner mv_X12_byCorner ml_X12_196 rfl rfl (Nat.le_of_ble_eq_true rfl) ha0 rfl (p_d1 hd (by decide)) (Nat.le_of_ble_eq_true rfl) ?_
              refine s_aload_n (pc := 224) dX12_tries_224 1 rfl rfl ?_
              refine s_iload (pc := 225) dX12_tries_225 2 rfl ?_
              refine s_iconst (pc := 227) dX12_tries_227 (v := nI 1) rfl ?_
              obtain ⟨q127, h128, hf⟩ := p_bd hf
              refine y_callV0 (pc := 228) dX12_tries_228 (c_X12_byCorner (p_dd hd (by decide)) hW ha0 h128) mk_X12_byCorner mv_X12_byCorner ml_X12_196 rfl rfl (Nat.le_of_ble_eq_true rfl) ha0 rfl (p_d1 hd (by decide)) (Nat.le_of_ble_eq_true rfl) ?_
              cases hf
              exact s_lo [0, 1, 2] rfl (k124)
            · replace hf := p_ps hf hc
              refine s_goto (pc := 214) (tgt := 231) dX12_tries_214 rfl ?_
              cases hf
              exact s_lo [0, 1, 2] rfl (k124))
    exact s_lo [1, 2, 0] rfl (k112 n (nI 0, t15.1, t15.2) hf)
  replace hf := hg
  have k62 : ∀ (k : Nat) (s0 : Int32 × pI × pL), p_it (B_X12_tries_76 n N P a0) k s0 = some t15 → (SW G mX12_tries (p_rm d 0 0) 0 0 0 0 (p_R none N qq.1 qq.2 P) 76 [(5, .int (q11.1 a0 6)), (0, .ref a0), (6, .int s0.1)] [] N s0.2.1 s0.2.2 P) := p_it_ind (C := fun (s0 : Int32 × pI × pL) => SW G mX12_tries (p_rm d 0 0) 0 0 0 0 (p_R none N qq.1 qq.2 P) 76 [(5, .int (q11.1 a0 6)), (0, .ref a0), (6, .int s0.1)] [] N s0.2.1 s0.2.2 P) (by
    intro rec0 hrec0 s0 hf
    unfold B_X12_tries_76 at hf
    refine s_iload (pc := 76) dX12_tries_76 2 rfl ?_
    refine s_aload_n (pc := 78) dX12_tries_78 1 rfl rfl ?_
    obtain ⟨q63, h64, hf⟩ := p_bd hf
    have t65 : p_tp N q63 0 := WT.get hW ha0 h64
    refine x_getR (pc := 79) dX12_tries_79 fl_X12_7 rfl ha0 h64 ?_
    refine s_iconst (pc := 82) dX12_tries_82 (v := nI 0) rfl ?_
    obtain ⟨c66, hf⟩ := p_ckx hf
    refine x_iald (pc := 83) dX12_tries_83 t65 c66 ?_
    refine s_icmp_ge (pc := 84) (tgt := 176) dX12_tries_84 rfl (fun hc => ?_) (fun hc => ?_)
    · replace hf := p_ps hf hc
      cases hf
      exact s_lo [0, 1] rfl (k16)
    · replace hf := p_ng hf hc
      refine s_aload_n (pc := 87) dX12_tries_87 1 rfl rfl ?_
      obtain ⟨q67, h68, hf⟩ := p_bd hf
      have t69 : p_tp N q67 0 := WT.get hW ha0 h68
      refine x_getR (pc := 88) dX12_tries_88 fl_X12_7 rfl ha0 h68 ?_
      refine s_bipush (pc := 91) dX12_tries_91 (v := nI 11) rfl ?_
      obtain ⟨c70, hf⟩ := p_ckx hf
      refine x_iald (pc := 93) dX12_tries_93 t69 c70 ?_
      refine s_if_le (pc := 94) (tgt := 176) dX12_tries_94 rfl (fun hc => ?_) (fun hc => ?_)
      · replace hf := p_ps hf hc
        cases hf
        exact s_lo [0, 1] rfl (k16)
      · replace hf := p_ng hf hc
        refine s_aload_n (pc := 97) dX12_tries_97 1 rfl rfl ?_
        refine s_iload (pc := 98) dX12_tries_98 2 rfl ?_
        obtain ⟨q71, h72, hf⟩ := p_bd hf
        refine y_callV1 (pc := 100) dX12_tries_100 (c_X12_seesWall (p_dd hd (by decide)) hW ha0 h72) mk_X12_seesWall mv_X12_seesWall ml_X12_113 rfl rfl (Nat.le_of_ble_eq_true rfl) ha0 rfl (p_d1 hd (by decide)) (Nat.le_of_ble_eq_true rfl) ?_
        obtain ⟨t73, hg, hf⟩ := p_bd hf
        have k74 : SW G mX12_tries (p_rm d 0 0) 0 0 0 0 (p_R none N qq.1 qq.2 P) 170 [(5, .int (q11.1 a0 6)), (0, .ref a0), (6, .int s0.1)] [] N t73.1 t73.2 P := by
          refine s_iinc (pc := 170) (lo' := [(6, .int (s0.1 + nI 1)), (5, .int (q11.1 a0 6)), (0, .ref a0)]) dX12_tries_170 2 rfl (v := s0.1 + nI 1) rfl (Nat.le_of_ble_eq_true rfl) rfl ?_
          refine s_goto (pc := 173) (tgt := 76) dX12_tries_173 rfl ?_
          exact s_lo [1, 2, 0] rfl (hrec0 (s0.1 + nI 1, t73.1, t73.2) hf)
        replace hf := hg
        refine s_if_ne (pc := 103) (tgt := 109) dX12_tries_103 rfl (fun hc => ?_) (fun hc => ?_)
        · replace hf := p_ng hf hc
          refine s_aload_n (pc := 109) dX12_tries_109 1 rfl rfl ?_
          refine s_iload (pc := 110) dX12_tries_110 2 rfl ?_
          obtain ⟨q75, h76, hf⟩ := p_bd hf
          refine y_callV0 (pc := 112) dX12_tries_112 (c_X12_byMirror (p_dd hd (by decide)) hW ha0 h76) mk_X12_byMirror mv_X12_byMirror ml_X12_189 rfl rfl (Nat.le_of_ble_eq_true rfl) ha0 rfl (p_d1 hd (by decide)) (Nat.le_of_ble_eq_true rfl) ?_
          refine s_iconst (pc := 115) dX12_tries_115 (v := nI 0) rfl ?_
          refine s_istore (pc := 116) (lo' := [(7, .int (nI 0)), (5, .int (q11.1 a0 6)), (0, .ref a0), (6, .int s0.1)]) dX12_tries_116 (Nat.le_of_ble_eq_true rfl) rfl ?_
          obtain ⟨t77, hg, hf⟩ := p_bd hf
          have k78 : SW G mX12_tries (p_rm d 0 0) 0 0 0 0 (p_R none N qq.1 qq.2 P) 170 [(5, .int (q11.1 a0 6)), (0, .ref a0), (6, .int s0.1)] [] N t77.1 t77.2 P := by
            cases hf
            exact s_lo [0, 1, 2] rfl (k74)
          replace hf := hg
          have k79 : ∀ (k : Nat) (s1 : Int32 × pI × pL), p_it (B_X12_tries_118 n N P a0 s0.1) k s1 = some t77 → (SW G mX12_tries (p_rm d 0 0) 0 0 0 0 (p_R none N qq.1 qq.2 P) 118 [(5, .int (q11.1 a0 6)), (0, .ref a0), (6, .int s0.1), (7, .int s1.1)] [] N s1.2.1 s1.2.2 P) := p_it_ind (C := fun (s1 : Int32 × pI × pL) => SW G mX12_tries (p_rm d 0 0) 0 0 0 0 (p_R none N qq.1 qq.2 P) 118 [(5, .int (q11.1 a0 6)), (0, .ref a0), (6, .int s0.1), (7, .int s1.1)] [] N s1.2.1 s1.2.2 P) (by
            intro rec1 hrec1 s1 hf
            unfold B_X12_tries_118 at hf
            refine s_iload (pc := 118) dX12_tries_118 3 rfl ?_
            refine s_aload_n (pc := 120) dX12_tries_120 1 rfl rfl ?_
            obtain ⟨q80, h81, hf⟩ := p_bd hf
            have t82 : p_tp N q80 0 := WT.get hW ha0 h81
            refine x_getR (pc := 121) dX12_tries_121 fl_X12_7 rfl ha0 h81 ?_
            refine s_iconst (pc := 124) dX12_tries_124 (v := nI 0) rfl ?_
            obtain ⟨c83, hf⟩ := p_ckx hf
            refine x_iald (pc := 125) dX12_tries_125 t82 c83 ?_
            refine s_icmp_ge (pc := 126) (tgt := 170) dX12_tries_126 rfl (fun hc => ?_) (fun hc => ?_)
            · replace hf := p_ps hf hc
              cases hf
              exact s_lo [0, 1, 2] rfl (k78)
            · replace hf := p_ng hf hc
              refine s_aload_n (pc := 129) dX12_tries_129 1 rfl rfl ?_
              obtain ⟨q84, h85, hf⟩ := p_bd hf
              have t86 : p_tp N q84 0 := WT.get hW ha0 h85
              refine x_getR (pc := 130) dX12_tries_130 fl_X12_7 rfl ha0 h85 ?_
              refine s_bipush (pc := 133) dX12_tries_133 (v := nI 11) rfl ?_
              obtain ⟨c87, hf⟩ := p_ckx hf
              refine x_iald (pc := 135) dX12_tries_135 t86 c87 ?_
              refine s_iconst (pc := 136) dX12_tries_136 (v := nI 1) rfl ?_
              refine s_icmp_le (pc := 137) (tgt := 170) dX12_tries_137 rfl (fun hc => ?_) (fun hc => ?_)
              · replace hf := p_ps hf hc
                cases hf
                exact s_lo [0, 1, 2] rfl (k78)
              · replace hf := p_ng hf hc
                refine s_iload (pc := 140) dX12_tries_140 3 rfl ?_
                refine s_iload (pc := 142) dX12_tries_142 2 rfl ?_
                obtain ⟨t88, hg, hf⟩ := p_bd hf
                have k89 : SW G mX12_tries (p_rm d 0 0) 0 0 0 0 (p_R none N qq.1 qq.2 P) 164 [(5, .int (q11.1 a0 6)), (0, .ref a0), (6, .int s0.1), (7, .int s1.1)] [] N t88.1 t88.2 P := by
                  refine s_iinc (pc := 164) (lo' := [(7, .int (s1.1 + nI 1)), (5, .int (q11.1 a0 6)), (0, .ref a0), (6, .int s0.1)]) dX12_tries_164 3 rfl (v := s1.1 + nI 1) rfl (Nat.le_of_ble_eq_true rfl) rfl ?_
                  refine s_goto (pc := 167) (tgt := 118) dX12_tries_167 rfl ?_
                  exact s_lo [1, 2, 3, 0] rfl (hrec1 (s1.1 + nI 1, t88.1, t88.2) hf)
                replace hf := hg
                refine s_icmp_eq (pc := 144) (tgt := 164) dX12_tries_144 rfl (fun hc => ?_) (fun hc => ?_)
                · replace hf := p_ps hf hc
                  cases hf
                  exact s_lo [0, 1, 2, 3] rfl (k89)
                · replace hf := p_ng hf hc
                  refine s_aload_n (pc := 147) dX12_tries_147 1 rfl rfl ?_
                  refine s_iload (pc := 148) dX12_tries_148 3 rfl ?_
                  obtain ⟨q90, h91, hf⟩ := p_bd hf
                  refine y_callV1 (pc := 150) dX12_tries_150 (c_X12_seesWall (p_dd hd (by decide)) hW ha0 h91) mk_X12_seesWall mv_X12_seesWall ml_X12_113 rfl rfl (Nat.le_of_ble_eq_true rfl) ha0 rfl (p_d1 hd (by decide)) (Nat.le_of_ble_eq_true rfl) ?_
                  refine s_if_eq (pc := 153) (tgt := 164) dX12_tries_153 rfl (fun hc => ?_) (fun hc => ?_)
                  · replace hf := p_ps hf hc
                    cases hf
                    exact s_lo [0, 1, 2, 3] rfl (k89)
                  · replace hf := p_ng hf hc
                    refine s_aload_n (pc := 156) dX12_tries_156 1 rfl rfl ?_
                    refine s_iload (pc := 157) dX12_tries_157 2 rfl ?_
                    refine s_iload (pc := 159) dX12_tries_159 3 rfl ?_
                    obtain ⟨q92, h93, hf⟩ := p_bd hf
                    refine y_callV0 (pc := 161) dX12_tries_161 (c_X12_byMirrors (p_dd hd (by decide)) hW ha0 h93) mk_X12_byMirrors mv_X12_byMirrors ml_X12_192 rfl rfl (Nat.le_of_ble_eq_true rfl) ha0 rfl (p_d1 hd (by decide)) (Nat.le_of_ble_eq_true rfl) ?_
                    cases hf
                    exact s_lo [0, 1, 2, 3] rfl (k89))
          exact s_lo [1, 2, 3, 0] rfl (k79 n (nI 0, q75.1, q75.2) hf)
        · replace hf := p_ps hf hc
          refine s_goto (pc := 106) (tgt := 170) dX12_tries_106 rfl ?_
          cases hf
          exact s_lo [0, 1, 2] rfl (k74))
  exact s_lo [1, 3, 0] rfl (k62 n (nI 0, q13, q11.2) hf)
def f_X12_withMore (x0 : Int64) (x2 : Int64) (x4 : Int64) : Option Int32 :=
  (if 0 ≤ ((x4 - x0) - (x2 * x2)) then
    p_let (((x4 - x0) - (x2 * x2)) * ((x4 - x0) - (x2 * x2))) fun v1 =>
    (if v1 ≤ (((4 * x2) * x2) * x0) then
      (if (((4 * x2) * x2) * x0) ≤ v1 then
        some (nI 0)
      else
        some (nI 1))
    else
      some (-1))
  else
    some (nI 1))
theorem c_X12_withMore {G : pG} {d : Nat} {N : pN} {I : pI} {L : pL} {P : pR} {x0 : Int64} {x2 : Int64} {x4 : Int64} {qq : Int32} (hd : 0 ≤ d) (hW : WT N P) (hf : f_X12_withMore x0 x2 x4 = some qq) : MT G mX12_withMore d 0 0 [.long x0, .long x2, .long x4] N I L P (p_R (some (.int qq)) N I L P) := by
  refine MT.of rfl (Nat.le_of_ble_eq_true rfl) ?_
  show SW G mX12_withMore (p_rm d 0 0) 0 0 0 0 (p_R (some (.int qq)) N I L P) 0 [(0, .long x0), (2, .long x2), (4, .long x4)] [] N I L P
  unfold f_X12_withMore at hf
  refine s_lload (pc := 0) dX12_withMore_0 2 rfl ?_
  refine s_lload_n (pc := 2) dX12_withMore_2 0 rfl rfl ?_
  refine s_lsub (pc := 3) dX12_withMore_3 ?_
  refine s_lload_n (pc := 4) dX12_withMore_4 1 rfl rfl ?_
  refine s_lload_n (pc := 5) dX12_withMore_5 1 rfl rfl ?_
  refine s_lmul (pc := 6) dX12_withMore_6 ?_
  refine s_lsub (pc := 7) dX12_withMore_7 ?_
  refine s_lstore (pc := 8) (lo' := [(6, .long ((x4 - x0) - (x2 * x2))), (0, .long x0), (2, .long x2), (4, .long x4)]) dX12_withMore_8 (Nat.le_of_ble_eq_true rfl) rfl ?_
  refine s_lload (pc := 10) dX12_withMore_10 0 rfl ?_
  refine s_lconst (pc := 12) dX12_withMore_12 (v := 0) rfl ?_
  refine x_lcmp_ge (pc := 13) (tgt := 19) dX12_withMore_13 dX12_withMore_14 rfl (fun hc => ?_) (fun hc => ?_)
  · replace hf := p_ps hf hc
    refine s_ldc2 (pc := 19) kl_X12_199 dX12_withMore_19 ?_
    refine s_lload_n (pc := 22) dX12_withMore_22 2 rfl rfl ?_
    refine s_lmul (pc := 23) dX12_withMore_23 ?_
    refine s_lload_n (pc := 24) dX12_withMore_24 2 rfl rfl ?_
    refine s_lmul (pc := 25) dX12_withMore_25 ?_
    refine s_lload_n (pc := 26) dX12_withMore_26 1 rfl rfl ?_
    refine s_lmul (pc := 27) dX12_withMore_27 ?_
    refine s_lstore (pc := 28) (lo' := [(8, .long (((4 * x2) * x2) * x0)), (6, .long ((x4 - x0) - (x2 * x2))), (0, .long x0), (2, .long x2), (4, .long x4)]) dX12_withMore_28 (Nat.le_of_ble_eq_true rfl) rfl ?_
    refine s_lload (pc := 30) dX12_withMore_30 1 rfl ?_
    refine s_lload (pc := 32) dX12_withMore_32 1 rfl ?_
    refine s_lmul (pc := 34) dX12_withMore_34 ?_
    refine s_topl (fun v1 e2 => ?_)
    replace hf := p_lx hf e2
    refine s_lstore (pc := 35) (lo' := [(10, .long v1), (8, .long (((4 * x2) * x2) * x0)), (6, .long ((x4 - x0) - (x2 * x2))), (0, .long x0), (2, .long x2), (4, .long x4)]) dX12_withMore_35 (Nat.le_of_ble_eq_true rfl) rfl ?_
    refine s_lload (pc := 37) dX12_withMore_37 1 rfl ?_
    refine s_lload (pc := 39) dX12_withMore_39 0 rfl ?_
    refine x_lcmp_ge (pc := 41) (tgt := 49) dX12_withMore_41 dX12_withMore_42 rfl (fun hc => ?_) (fun hc => ?_)
    · replace hf := p_ps hf hc
      refine s_lload (pc := 49) dX12_withMore_49 1 rfl ?_
      refine s_lload (pc := 51) dX12_withMore_51 0 rfl ?_
      refine x_lcmp_le (pc := 53) (tgt := 61) dX12_withMore_53 dX12_withMore_54 rfl (fun hc => ?_) (fun hc => ?_)
      · replace hf := p_ps hf hc
        refine s_iconst (pc := 61) dX12_withMore_61 (v := nI 0) rfl ?_
        cases hf
        exact s_ireturn (pc := 62) dX12_withMore_62 rfl rfl ⟨rfl, rfl, rfl, rfl, rfl⟩
      · replace hf := p_ng hf hc
        refine s_iconst (pc := 57) dX12_withMore_57 (v := nI 1) rfl ?_
        refine s_goto (pc := 58) (tgt := 62) dX12_withMore_58 rfl ?_
        cases hf
        exact s_ireturn (pc := 62) dX12_withMore_62 rfl rfl ⟨rfl, rfl, rfl, rfl, rfl⟩
    · replace hf := p_ng hf hc
      refine s_iconst (pc := 45) dX12_withMore_45 (v := (-1)) rfl ?_
      refine s_goto (pc := 46) (tgt := 62) dX12_withMore_46 rfl ?_
      cases hf
      exact s_ireturn (pc := 62) dX12_withMore_62 rfl rfl ⟨rfl, rfl, rfl, rfl, rfl⟩
  · replace hf := p_ng hf hc
    refine s_iconst (pc := 17) dX12_withMore_17 (v := nI 1) rfl ?_
    cases hf
    exact s_ireturn (pc := 18) dX12_withMore_18 rfl rfl ⟨rfl, rfl, rfl, rfl, rfl⟩
def f_X12_compareRoots (x0 : Int64) (x2 : Int64) (x4 : Int64) (x6 : Int64) : Option Int32 :=
  (if (((x0 + x2) - x4) - x6) < 0 then
    Option.bind (f_X12_withMore ((4 * x4) * x6) (-(((x0 + x2) - x4) - x6)) ((4 * x0) * x2)) fun q1 =>
    some (-q1)
  else
    Option.bind (f_X12_withMore ((4 * x0) * x2) (((x0 + x2) - x4) - x6) ((4 * x4) * x6)) fun q3 =>
    some q3)
theorem c_X12_compareRoots {G : pG} {d : Nat} {N : pN} {I : pI} {L : pL} {P : pR} {x0 : Int64} {x2 : Int64} {x4 : Int64} {x6 : Int64} {qq : Int32} (hd : 1 ≤ d) (hW : WT N P) (hf : f_X12_compareRoots x0 x2 x4 x6 = some qq) : MT G mX12_compareRoots d 0 0 [.long x0, .long x2, .long x4, .long x6] N I L P (p_R (some (.int qq)) N I L P) := by
  refine MT.of rfl (Nat.le_of_ble_eq_true rfl) ?_
  show SW G mX12_compareRoots (p_rm d 0 0) 0 0 0 0 (p_R (some (.int qq)) N I L P) 0 [(0, .long x0), (2, .long x2), (4, .long x4), (6, .long x6)] [] N I L P
  unfold f_X12_compareRoots at hf
  refine s_lload_n (pc := 0) dX12_compareRoots_0 0 rfl rfl ?_
  refine s_lload_n (pc := 1) dX12_compareRoots_1 1 rfl rfl ?_
  refine s_ladd (pc := 2) dX12_compareRoots_2 ?_
  refine s_lload (pc := 3) dX12_compareRoots_3 2 rfl ?_
  refine s_lsub (pc := 5) dX12_compareRoots_5 ?_
  refine s_lload (pc := 6) dX12_compareRoots_6 3 rfl ?_
  refine s_lsub (pc := 8) dX12_compareRoots_8 ?_
  refine s_lstore (pc := 9) (lo' := [(8, .long (((x0 + x2) - x4) - x6)), (0, .long x0), (2, .long x2), (4, .long x4), (6, .long x6)]) dX12_compareRoots_9 (Nat.le_of_ble_eq_true rfl) rfl ?_
  refine s_lload (pc := 11) dX12_compareRoots_11 0 rfl ?_
  refine s_lconst (pc := 13) dX12_compareRoots_13 (v := 0) rfl ?_
  refine x_lcmp_lt (pc := 14) (tgt := 42) dX12_compareRoots_14 dX12_compareRoots_15 rfl (fun hc => ?_) (fun hc => ?_)
  · replace hf := p_ps hf hc
    refine s_ldc2 (pc := 42) kl_X12_199 dX12_compareRoots_42 ?_
    refine s_lload (pc := 45) dX12_compareRoots_45 3 rfl ?_
    refine s_lmul (pc := 47) dX12_compareRoots_47 ?_
    refine s_lload (pc := 48) dX12_compareRoots_48 4 rfl ?_
    refine s_lmul (pc := 50) dX12_compareRoots_50 ?_
    refine s_lload (pc := 51) dX12_compareRoots_51 0 rfl ?_
    refine s_lneg (pc := 53) dX12_compareRoots_53 ?_
    refine s_ldc2 (pc := 54) kl_X12_199 dX12_compareRoots_54 ?_
    refine s_lload_n (pc := 57) dX12_compareRoots_57 1 rfl rfl ?_
    refine s_lmul (pc := 58) dX12_compareRoots_58 ?_
    refine s_lload_n (pc := 59) dX12_compareRoots_59 2 rfl rfl ?_
    refine s_lmul (pc := 60) dX12_compareRoots_60 ?_
    obtain ⟨q1, h2, hf⟩ := p_bd hf
    refine y_callS1 (pc := 61) dX12_compareRoots_61 (c_X12_withMore (p_dd hd (by decide)) hW  h2) mk_X12_withMore mz_X12_withMore ml_X12_201 rfl rfl (Nat.le_of_ble_eq_true rfl) (p_d1 hd (by decide)) (Nat.le_of_ble_eq_true rfl) ?_
    refine s_ineg (pc := 64) dX12_compareRoots_64 ?_
    cases hf
    exact s_ireturn (pc := 65) dX12_compareRoots_65 rfl rfl ⟨rfl, rfl, rfl, rfl, rfl⟩
  · replace hf := p_ng hf hc
    refine s_ldc2 (pc := 18) kl_X12_199 dX12_compareRoots_18 ?_
    refine s_lload_n (pc := 21) dX12_compareRoots_21 1 rfl rfl ?_
    refine s_lmul (pc := 22) dX12_compareRoots_22 ?_
    refine s_lload_n (pc := 23) dX12_compareRoots_23 2 rfl rfl ?_
    refine s_lmul (pc := 24) dX12_compareRoots_24 ?_
    refine s_lload (pc := 25) dX12_compareRoots_25 0 rfl ?_
    refine s_ldc2 (pc := 27) kl_X12_199 dX12_compareRoots_27 ?_
    refine s_lload (pc := 30) dX12_compareRoots_30 3 rfl ?_
    refine s_lmul (pc := 32) dX12_compareRoots_32 ?_
    refine s_lload (pc := 33) dX12_compareRoots_33 4 rfl ?_
    refine s_lmul (pc := 35) dX12_compareRoots_35 ?_
    obtain ⟨q3, h4, hf⟩ := p_bd hf
    refine y_callS1 (pc := 36) dX12_compareRoots_36 (c_X12_withMore (p_dd hd (by decide)) hW  h4) mk_X12_withMore mz_X12_withMore ml_X12_201 rfl rfl (Nat.le_of_ble_eq_true rfl) (p_d1 hd (by decide)) (Nat.le_of_ble_eq_true rfl) ?_
    refine s_goto (pc := 39) (tgt := 65) dX12_compareRoots_39 rfl ?_
    cases hf
    exact s_ireturn (pc := 65) dX12_compareRoots_65 rfl rfl ⟨rfl, rfl, rfl, rfl, rfl⟩
def f_X12_lengths (N : pN) (I : pI) (P : pR) (a0 : Nat) (x1 : Int32) (x2 : Int32) : Option Int32 :=
  Option.bind (P a0 10) fun q1 =>
  p_ck (p_ib N q1 x1) <|
  Option.bind (P a0 11) fun q5 =>
  p_ck (p_ib N q5 x1) <|
  Option.bind (P a0 10) fun q9 =>
  p_ck (p_ib N q9 x2) <|
  Option.bind (P a0 11) fun q13 =>
  p_ck (p_ib N q13 x2) <|
  Option.bind (f_X12_compareRoots (Int32.toInt64 (I q1 (Int32.toNatClampNeg x1))) (Int32.toInt64 (I q5 (Int32.toNatClampNeg x1))) (Int32.toInt64 (I q9 (Int32.toNatClampNeg x2))) (Int32.toInt64 (I q13 (Int32.toNatClampNeg x2)))) fun q17 =>
  some q17
theorem c_X12_lengths {G : pG} {d : Nat} {N : pN} {I : pI} {L : pL} {P : pR} {a0 : Nat} {x1 : Int32} {x2 : Int32} {qq : Int32} (hd : 2 ≤ d) (hW : WT N P) (ha0 : p_tp N a0 15) (hf : f_X12_lengths N I P a0 x1 x2 = some qq) : MT G mX12_lengths d 0 0 [.ref a0, .int x1, .int x2] N I L P (p_R (some (.int qq)) N I L P) := by
  refine MT.of rfl (Nat.le_of_ble_eq_true rfl) ?_
  show SW G mX12_lengths (p_rm d 0 0) 0 0 0 0 (p_R (some (.int qq)) N I L P) 0 [(0, .ref a0), (1, .int x1), (2, .int x2)] [] N I L P
  unfold f_X12_lengths at hf
  refine s_aload_n (pc := 0) dX12_lengths_0 0 rfl rfl ?_
  obtain ⟨q1, h2, hf⟩ := p_bd hf
  have t3 : p_tp N q1 0 := WT.get hW ha0 h2
  refine x_getR (pc := 1) dX12_lengths_1 fl_X12_26 rfl ha0 h2 ?_
  refine s_iload_n (pc := 4) dX12_lengths_4 1 rfl rfl ?_
  obtain ⟨c4, hf⟩ := p_ckx hf
  refine x_iald (pc := 5) dX12_lengths_5 t3 c4 ?_
  refine s_i2l (pc := 6) dX12_lengths_6 ?_
  refine s_aload_n (pc := 7) dX12_lengths_7 0 rfl rfl ?_
  obtain ⟨q5, h6, hf⟩ := p_bd hf
  have t7 : p_tp N q5 0 := WT.get hW ha0 h6
  refine x_getR (pc := 8) dX12_lengths_8 fl_X12_29 rfl ha0 h6 ?_
  refine s_iload_n (pc := 11) dX12_lengths_11 1 rfl rfl ?_
  obtain ⟨c8, hf⟩ := p_ckx hf
  refine x_iald (pc := 12) dX12_lengths_12 t7 c8 ?_
  refine s_i2l (pc := 13) dX12_lengths_13 ?_
  refine s_aload_n (pc := 14) dX12_lengths_14 0 rfl rfl ?_
  obtain ⟨q9, h10, hf⟩ := p_bd hf
  have t11 : p_tp N q9 0 := WT.get hW ha0 h10
  refine x_getR (pc := 15) dX12_lengths_15 fl_X12_26 rfl ha0 h10 ?_
  refine s_iload_n (pc := 18) dX12_lengths_18 2 rfl rfl ?_
  obtain ⟨c12, hf⟩ := p_ckx hf
  refine x_iald (pc := 19) dX12_lengths_19 t11 c12 ?_
  refine s_i2l (pc := 20) dX12_lengths_20 ?_
  refine s_aload_n (pc := 21) dX12_lengths_21 0 rfl rfl ?_
  obtain ⟨q13, h14, hf⟩ := p_bd hf
  have t15 : p_tp N q13 0 := WT.get hW ha0 h14
  refine x_getR (pc := 22) dX12_lengths_22 fl_X12_29 rfl ha0 h14 ?_
  refine s_iload_n (pc := 25) dX12_lengths_25 2 rfl rfl ?_
  obtain ⟨c16, hf⟩ := p_ckx hf
  refine x_iald (pc := 26) dX12_lengths_26 t15 c16 ?_
  refine s_i2l (pc := 27) dX12_lengths_27 ?_
  obtain ⟨q17, h18, hf⟩ := p_bd hf
  refine y_callS1 (pc := 28) dX12_lengths_28 (c_X12_compareRoots (p_dd hd (by decide)) hW  h18) mk_X12_compareRoots mz_X12_compareRoots ml_X12_205 rfl rfl (Nat.le_of_ble_eq_true rfl) (p_d1 hd (by decide)) (Nat.le_of_ble_eq_true rfl) ?_
  cases hf
  exact s_ireturn (pc := 31) dX12_lengths_31 rfl rfl ⟨rfl, rfl, rfl, rfl, rfl⟩
def f_X12_isAhead (N : pN) (I : pI) (P : pR) (a0 : Nat) (x1 : Int32) (x2 : Int32) : Option Int32 :=
  Option.bind (f_X12_lengths N I P a0 x1 x2) fun q1 =>
  (if q1 = 0 then
    Option.bind (P a0 7) fun q3 =>
    p_ck (p_ib N q3 x1) <|
    Option.bind (P a0 7) fun q7 =>
    p_ck (p_ib N q7 x2) <|
    (if (I q3 (Int32.toNatClampNeg x1)) = (I q7 (Int32.toNatClampNeg x2)) then
      Option.bind (P a0 8) fun q11 =>
      p_ck (p_ib N q11 x1) <|
      Option.bind (P a0 8) fun q15 =>
      p_ck (p_ib N q15 x2) <|
      (if (I q11 (Int32.toNatClampNeg x1)) = (I q15 (Int32.toNatClampNeg x2)) then
        Option.bind (P a0 9) fun q19 =>
        p_ck (p_ib N q19 x1) <|
        Option.bind (P a0 9) fun q23 =>
        p_ck (p_ib N q23 x2) <|
        (if (I q23 (Int32.toNatClampNeg x2)) ≤ (I q19 (Int32.toNatClampNeg x1)) then
          some (nI 0)
        else
          some (nI 1))
      else
        Option.bind (P a0 8) fun q27 =>
        p_ck (p_ib N q27 x1) <|
        Option.bind (P a0 8) fun q31 =>
        p_ck (p_ib N q31 x2) <|
        (if (I q31 (Int32.toNatClampNeg x2)) ≤ (I q27 (Int32.toNatClampNeg x1)) then
          some (nI 0)
        else
          some (nI 1)))
    else
      Option.bind (P a0 7) fun q35 =>
      p_ck (p_ib N q35 x1) <|
      Option.bind (P a0 7) fun q39 =>
      p_ck (p_ib N q39 x2) <|
      (if (I q39 (Int32.toNatClampNeg x2)) ≤ (I q35 (Int32.toNatClampNeg x1)) then
        some (nI 0)
      else
        some (nI 1)))
  else
    (if 0 ≤ q1 then
      some (nI 0)
    else
      some (nI 1)))
theorem c_X12_isAhead {G : pG} {d : Nat} {N : pN} {I : pI} {L : pL} {P : pR} {a0 : Nat} {x1 : Int32} {x2 : Int32} {qq : Int32} (hd : 3 ≤ d) (hW : WT N P) (ha0 : p_tp N a0 15) (hf : f_X12_isAhead N I P a0 x1 x2 = some qq) : MT G mX12_isAhead d 0 0 [.ref a0, .int x1, .int x2] N I L P (p_R (some (.int qq)) N I L P) := by
  refine MT.of rfl (Nat.le_of_ble_eq_true rfl) ?_
  show SW G mX12_isAhead (p_rm d 0 0) 0 0 0 0 (p_R (some (.int qq)) N I L P) 0 [(0, .ref a0), (1, .int x1), (2, .int x2)] [] N I L P
  unfold f_X12_isAhead at hf
  refine s_aload_n (pc := 0) dX12_isAhead_0 0 rfl rfl ?_
  refine s_iload_n (pc := 1) dX12_isAhead_1 1 rfl rfl ?_
  refine s_iload_n (pc := 2) dX12_isAhead_2 2 rfl rfl ?_
  obtain ⟨q1, h2, hf⟩ := p_bd hf
  refine y_callV1 (pc := 3) dX12_isAhead_3 (c_X12_lengths (p_dd hd (by decide)) hW ha0 h2) mk_X12_lengths mv_X12_lengths ml_X12_209 rfl rfl (Nat.le_of_ble_eq_true rfl) ha0 rfl (p_d1 hd (by decide)) (Nat.le_of_ble_eq_true rfl) ?_
  refine s_istore_n (pc := 6) (lo' := [(3, .int q1), (0, .ref a0), (1, .int x1), (2, .int x2)]) dX12_isAhead_6 rfl (Nat.le_of_ble_eq_true rfl) rfl ?_
  refine s_iload_n (pc := 7) dX12_isAhead_7 0 rfl rfl ?_
  refine s_if_eq (pc := 8) (tgt := 21) dX12_isAhead_8 rfl (fun hc => ?_) (fun hc => ?_)
  · replace hf := p_ps hf hc
    refine s_aload_n (pc := 21) dX12_isAhead_21 1 rfl rfl ?_
    obtain ⟨q3, h4, hf⟩ := p_bd hf
    have t5 : p_tp N q3 0 := WT.get hW ha0 h4
    refine x_getR (pc := 22) dX12_isAhead_22 fl_X12_17 rfl ha0 h4 ?_
    refine s_iload_n (pc := 25) dX12_isAhead_25 2 rfl rfl ?_
    obtain ⟨c6, hf⟩ := p_ckx hf
    refine x_iald (pc := 26) dX12_isAhead_26 t5 c6 ?_
    refine s_aload_n (pc := 27) dX12_isAhead_27 1 rfl rfl ?_
    obtain ⟨q7, h8, hf⟩ := p_bd hf
    have t9 : p_tp N q7 0 := WT.get hW ha0 h8
    refine x_getR (pc := 28) dX12_isAhead_28 fl_X12_17 rfl ha0 h8 ?_
    refine s_iload_n (pc := 31) dX12_isAhead_31 3 rfl rfl ?_
    obtain ⟨c10, hf⟩ := p_ckx hf
    refine x_iald (pc := 32) dX12_isAhead_32 t9 c10 ?_
    refine s_icmp_eq (pc := 33) (tgt := 57) dX12_isAhead_33 rfl (fun hc => ?_) (fun hc => ?_)
    · replace hf := p_ps hf hc
      refine s_aload_n (pc := 57) dX12_isAhead_57 1 rfl rfl ?_
      obtain ⟨q11, h12, hf⟩ := p_bd hf
      have t13 : p_tp N q11 0 := WT.get hW ha0 h12
      refine x_getR (pc := 58) dX12_isAhead_58 fl_X12_20 rfl ha0 h12 ?_
      refine s_iload_n (pc := 61) dX12_isAhead_61 2 rfl rfl ?_
      obtain ⟨c14, hf⟩ := p_ckx hf
      refine x_iald (pc := 62) dX12_isAhead_62 t13 c14 ?_
      refine s_aload_n (pc := 63) dX12_isAhead_63 1 rfl rfl ?_
      obtain ⟨q15, h16, hf⟩ := p_bd hf
      have t17 : p_tp N q15 0 := WT.get hW ha0 h16
      refine x_getR (pc := 64) dX12_isAhead_64 fl_X12_20 rfl ha0 h16 ?_
      refine s_iload_n (pc := 67) dX12_isAhead_67 3 rfl rfl ?_
      obtain ⟨c18, hf⟩ := p_ckx hf
      refine x_iald (pc := 68) dX12_isAhead_68 t17 c18 ?_
      refine s_icmp_eq (pc := 69) (tgt := 93) dX12_isAhead_69 rfl (fun hc => ?_) (fun hc => ?_)
      · replace hf := p_ps hf hc
        refine s_aload_n (pc := 93) dX12_isAhead_93 1 rfl rfl ?_
        obtain ⟨q19, h20, hf⟩ := p_bd hf
        have t21 : p_tp N q19 0 := WT.get hW ha0 h20
        refine x_getR (pc := 94) dX12_isAhead_94 fl_X12_23 rfl ha0 h20 ?_
        refine s_iload_n (pc := 97) dX12_isAhead_97 2 rfl rfl ?_
        obtain ⟨c22, hf⟩ := p_ckx hf
        refine x_iald (pc := 98) dX12_isAhead_98 t21 c22 ?_
        refine s_aload_n (pc := 99) dX12_isAhead_99 1 rfl rfl ?_
        obtain ⟨q23, h24, hf⟩ := p_bd hf
        have t25 : p_tp N q23 0 := WT.get hW ha0 h24
        refine x_getR (pc := 100) dX12_isAhead_100 fl_X12_23 rfl ha0 h24 ?_
        refine s_iload_n (pc := 103) dX12_isAhead_103 3 rfl rfl ?_
        obtain ⟨c26, hf⟩ := p_ckx hf
        refine x_iald (pc := 104) dX12_isAhead_104 t25 c26 ?_
        refine s_icmp_ge (pc := 105) (tgt := 112) dX12_isAhead_105 rfl (fun hc => ?_) (fun hc => ?_)
        · replace hf := p_ps hf hc
          refine s_iconst (pc := 112) dX12_isAhead_112 (v := nI 0) rfl ?_
          cases hf
          exact s_ireturn (pc := 113) dX12_isAhead_113 rfl rfl ⟨rfl, rfl, rfl, rfl, rfl⟩
        · replace hf := p_ng hf hc
          refine s_iconst (pc := 108) dX12_isAhead_108 (v := nI 1) rfl ?_
          refine s_goto (pc := 109) (tgt := 113) dX12_isAhead_109 rfl ?_
          cases hf
          exact s_ireturn (pc := 113) dX12_isAhead_113 rfl rfl ⟨rfl, rfl, rfl, rfl, rfl⟩
      · replace hf := p_ng hf hc
        refine s_aload_n (pc := 72) dX12_isAhead_72 1 rfl rfl ?_
        obtain ⟨q27, h28, hf⟩ := p_bd hf
        have t29 : p_tp N q27 0 := WT.get hW ha0 h28
        refine x_getR (pc := 73) dX12_isAhead_73 fl_X12_20 rfl ha0 h28 ?_
        refine s_iload_n (pc := 76) dX12_isAhead_76 2 rfl rfl ?_
        obtain ⟨c30, hf⟩ := p_ckx hf
        refine x_iald (pc := 77) dX12_isAhead_77 t29 c30 ?_
        refine s_aload_n (pc := 78) dX12_isAhead_78 1 rfl rfl ?_
        obtain ⟨q31, h32, hf⟩ := p_bd hf
        have t33 : p_tp N q31 0 := WT.get hW ha0 h32
        refine x_getR (pc := 79) dX12_isAhead_79 fl_X12_20 rfl ha0 h32 ?_
        refine s_iload_n (pc := 82) dX12_isAhead_82 3 rfl rfl ?_
        obtain ⟨c34, hf⟩ := p_ckx hf
        refine x_iald (pc := 83) dX12_isAhead_83 t33 c34 ?_
        refine s_icmp_ge (pc := 84) (tgt := 91) dX12_isAhead_84 rfl (fun hc => ?_) (fun hc => ?_)
        · replace hf := p_ps hf hc
          refine s_iconst (pc := 91) dX12_isAhead_91 (v := nI 0) rfl ?_
          cases hf
          exact s_ireturn (pc := 92) dX12_isAhead_92 rfl rfl ⟨rfl, rfl, rfl, rfl, rfl⟩
        · replace hf := p_ng hf hc
          refine s_iconst (pc := 87) dX12_isAhead_87 (v := nI 1) rfl ?_
          refine s_goto (pc := 88) (tgt := 92) dX12_isAhead_88 rfl ?_
          cases hf
          exact s_ireturn (pc := 92) dX12_isAhead_92 rfl rfl ⟨rfl, rfl, rfl, rfl, rfl⟩
    · replace hf := p_ng hf hc
      refine s_aload_n (pc := 36) dX12_isAhead_36 1 rfl rfl ?_
      obtain ⟨q35, h36, hf⟩ := p_bd hf
      have t37 : p_tp N q35 0 := WT.get hW ha0 h36
      refine x_getR (pc := 37) dX12_isAhead_37 fl_X12_17 rfl ha0 h36 ?_
      refine s_iload_n (pc := 40) dX12_isAhead_40 2 rfl rfl ?_
      obtain ⟨c38, hf⟩ := p_ckx hf
      refine x_iald (pc := 41) dX12_isAhead_41 t37 c38 ?_
      refine s_aload_n (pc := 42) dX12_isAhead_42 1 rfl rfl ?_
      obtain ⟨q39, h40, hf⟩ := p_bd hf
      have t41 : p_tp N q39 0 := WT.get hW ha0 h40
      refine x_getR (pc := 43) dX12_isAhead_43 fl_X12_17 rfl ha0 h40 ?_
      refine s_iload_n (pc := 46) dX12_isAhead_46 3 rfl rfl ?_
      obtain ⟨c42, hf⟩ := p_ckx hf
      refine x_iald (pc := 47) dX12_isAhead_47 t41 c42 ?_
      refine s_icmp_ge (pc := 48) (tgt := 55) dX12_isAhead_48 rfl (fun hc => ?_) (fun hc => ?_)
      · replace hf := p_ps hf hc
        refine s_iconst (pc := 55) dX12_isAhead_55 (v := nI 0) rfl ?_
        cases hf
        exact s_ireturn (pc := 56) dX12_isAhead_56 rfl rfl ⟨rfl, rfl, rfl, rfl, rfl⟩
      · replace hf := p_ng hf hc
        refine s_iconst (pc := 51) dX12_isAhead_51 (v := nI 1) rfl ?_
        refine s_goto (pc := 52) (tgt := 56) dX12_isAhead_52 rfl ?_
        cases hf
        exact s_ireturn (pc := 56) dX12_isAhead_56 rfl rfl ⟨rfl, rfl, rfl, rfl, rfl⟩
  · replace hf := p_ng hf hc
    refine s_iload_n (pc := 11) dX12_isAhead_11 0 rfl rfl ?_
    refine s_if_ge (pc := 12) (tgt := 19) dX12_isAhead_12 rfl (fun hc => ?_) (fun hc => ?_)
    · replace hf := p_ps hf hc
      refine s_iconst (pc := 19) dX12_isAhead_19 (v := nI 0) rfl ?_
      cases hf
      exact s_ireturn (pc := 20) dX12_isAhead_20 rfl rfl ⟨rfl, rfl, rfl, rfl, rfl⟩
    · replace hf := p_ng hf hc
      refine s_iconst (pc := 15) dX12_isAhead_15 (v := nI 1) rfl ?_
      refine s_goto (pc := 16) (tgt := 20) dX12_isAhead_16 rfl ?_
      cases hf
      exact s_ireturn (pc := 20) dX12_isAhead_20 rfl rfl ⟨rfl, rfl, rfl, rfl, rfl⟩
def B_X12_orders_12 (N : pN) (P : pR) (a0 : Nat) (x1 : Int32) (rec1 : (Int32 × pI) → Option (Int32 × pI)) (s1 : Int32 × pI) : Option (Int32 × pI) :=
  (if s1.1 ≤ 0 then
    some (s1.1, s1.2)
  else
    Option.bind (P a0 19) fun q5 =>
    p_ck (p_ib N q5 (s1.1 - (nI 1))) <|
    Option.bind (f_X12_isAhead N s1.2 P a0 x1 (s1.2 q5 (Int32.toNatClampNeg (s1.1 - (nI 1))))) fun q9 =>
    (if q9 = 0 then
      some (s1.1, s1.2)
    else
      Option.bind (P a0 19) fun q11 =>
      Option.bind (P a0 19) fun q14 =>
      p_ck (p_ib N q14 (s1.1 - (nI 1))) <|
      p_ck (p_ib N q11 s1.1) <|
      p_let (p_u s1.2 q11 (Int32.toNatClampNeg s1.1) (s1.2 q14 (Int32.toNatClampNeg (s1.1 - (nI 1))))) fun I19 =>
      rec1 (s1.1 + (-1), I19)))
def B_X12_orders_2 (n : Nat) (N : pN) (P : pR) (a0 : Nat) (rec0 : (Int32 × pI) → Option pI) (s0 : Int32 × pI) : Option pI :=
  (if (s0.2 a0 13) ≤ s0.1 then
    some s0.2
  else
    Option.bind (p_it (B_X12_orders_12 N P a0 s0.1) n (s0.1, s0.2)) fun t3 =>
    Option.bind (P a0 19) fun q38 =>
    p_ck (p_ib N q38 t3.1) <|
    p_let (p_u t3.2 q38 (Int32.toNatClampNeg t3.1) s0.1) fun I42 =>
    rec0 (s0.1 + nI 1, I42))
def f_X12_orders (n : Nat) (N : pN) (I : pI) (P : pR) (a0 : Nat) : Option pI :=
  Option.bind (p_it (B_X12_orders_2 n N P a0) n (nI 0, I)) fun t1 =>
  some t1
theorem c_X12_orders {G : pG} {d : Nat} {n : Nat} {N : pN} {I : pI} {L : pL} {P : pR} {a0 : Nat} {qq : pI} (hd : 4 ≤ d) (hW : WT N P) (ha0 : p_tp N a0 15) (hf : f_X12_orders n N I P a0 = some qq) : MT G mX12_orders d 0 0 [.ref a0] N I L P (p_R none N qq L P) := by
  refine MT.of rfl (Nat.le_of_ble_eq_true rfl) ?_
  show SW G mX12_orders (p_rm d 0 0) 0 0 0 0 (p_R none N qq L P) 0 [(0, .ref a0)] [] N I L P
  unfold f_X12_orders at hf
  refine s_iconst (pc := 0) dX12_orders_0 (v := nI 0) rfl ?_
  refine s_istore_n (pc := 1) (lo' := [(1, .int (nI 0)), (0, .ref a0)]) dX12_orders_1 rfl (Nat.le_of_ble_eq_true rfl) rfl ?_
  obtain ⟨t1, hg, hf⟩ := p_bd hf
  have k2 : SW G mX12_orders (p_rm d 0 0) 0 0 0 0 (p_R none N qq L P) 65 [] [] N t1 L P := by
    cases hf
    exact s_return (pc := 65) dX12_orders_65 rfl ⟨rfl, rfl, rfl, rfl, rfl⟩
  replace hf := hg
  have k44 : ∀ (k : Nat) (s0 : Int32 × pI), p_it (B_X12_orders_2 n N P a0) k s0 = some t1 → (SW G mX12_orders (p_rm d 0 0) 0 0 0 0 (p_R none N qq L P) 2 [(0, .ref a0), (1, .int s0.1)] [] N s0.2 L P) := p_it_ind (C := fun (s0 : Int32 × pI) => SW G mX12_orders (p_rm d 0 0) 0 0 0 0 (p_R none N qq L P) 2 [(0, .ref a0), (1, .int s0.1)] [] N s0.2 L P) (by
    intro rec0 hrec0 s0 hf
    unfold B_X12_orders_2 at hf
    refine s_iload_n (pc := 2) dX12_orders_2 1 rfl rfl ?_
    refine s_aload_n (pc := 3) dX12_orders_3 0 rfl rfl ?_
    refine x_getI (pc := 4) dX12_orders_4 fl_X12_142 rfl ha0 ?_
    refine s_icmp_ge (pc := 7) (tgt := 65) dX12_orders_7 rfl (fun hc => ?_) (fun hc => ?_)
    · replace hf := p_ps hf hc
      cases hf
      exact s_lo [] rfl (k2)
    · replace hf := p_ng hf hc
      refine s_iload_n (pc := 10) dX12_orders_10 1 rfl rfl ?_
      refine s_istore_n (pc := 11) (lo' := [(2, .int s0.1), (0, .ref a0), (1, .int s0.1)]) dX12_orders_11 rfl (Nat.le_of_ble_eq_true rfl) rfl ?_
      obtain ⟨t45, hg, hf⟩ := p_bd hf
      have k46 : SW G mX12_orders (p_rm d 0 0) 0 0 0 0 (p_R none N qq L P) 52 [(0, .ref a0), (1, .int s0.1), (2, .int t45.1)] [] N t45.2 L P := by
        refine s_aload_n (pc := 52) dX12_orders_52 0 rfl rfl ?_
        obtain ⟨q64, h65, hf⟩ := p_bd hf
        have t66 : p_tp N q64 0 := WT.get hW ha0 h65
        refine x_getR (pc := 53) dX12_orders_53 fl_X12_35 rfl ha0 h65 ?_
        refine s_iload_n (pc := 56) dX12_orders_56 2 rfl rfl ?_
        refine s_iload_n (pc := 57) dX12_orders_57 1 rfl rfl ?_
        obtain ⟨c67, hf⟩ := p_ckx hf
        refine x_iast (pc := 58) dX12_orders_58 t66 c67 ?_
        refine s_nmI (fun I68 e69 => ?_)
        replace hf := p_lx hf e69
        refine s_iinc (pc := 59) (lo' := [(1, .int (s0.1 + nI 1)), (0, .ref a0), (2, .int t45.1)]) dX12_orders_59 1 rfl (v := s0.1 + nI 1) rfl (Nat.le_of_ble_eq_true rfl) rfl ?_
        refine s_goto (pc := 62) (tgt := 2) dX12_orders_62 rfl ?_
        exact s_lo [1, 0] rfl (hrec0 (s0.1 + nI 1, I68) hf)
      replace hf := hg
      have k47 : ∀ (k : Nat) (s1 : Int32 × pI), p_it (B_X12_orders_12 N P a0 s0.1) k s1 = some t45 → (SW G mX12_orders (p_rm d 0 0) 0 0 0 0 (p_R none N qq L P) 12 [(0, .ref a0), (1, .int s0.1), (2, .int s1.1)] [] N s1.2 L P) := p_it_ind (C := fun (s1 : Int32 × pI) => SW G mX12_orders (p_rm d 0 0) 0 0 0 0 (p_R none N qq L P) 12 [(0, .ref a0), (1, .int s0.1), (2, .int s1.1)] [] N s1.2 L P) (by
        intro rec1 hrec1 s1 hf
        unfold B_X12_orders_12 at hf
        refine s_iload_n (pc := 12) dX12_orders_12 2 rfl rfl ?_
        refine s_if_le (pc := 13) (tgt := 52) dX12_orders_13 rfl (fun hc => ?_) (fun hc => ?_)
        · replace hf := p_ps hf hc
          cases hf
          exact s_lo [0, 1, 2] rfl (k46)
        · replace hf := p_ng hf hc
          refine s_aload_n (pc := 16) dX12_orders_16 0 rfl rfl ?_
          refine s_iload_n (pc := 17) dX12_orders_17 1 rfl rfl ?_
          refine s_aload_n (pc := 18) dX12_orders_18 0 rfl rfl ?_
          obtain ⟨q48, h49, hf⟩ := p_bd hf
          have t50 : p_tp N q48 0 := WT.get hW ha0 h49
          refine x_getR (pc := 19) dX12_orders_19 fl_X12_35 rfl ha0 h49 ?_
          refine s_iload_n (pc := 22) dX12_orders_22 2 rfl rfl ?_
          refine s_iconst (pc := 23) dX12_orders_23 (v := nI 1) rfl ?_
          refine s_isub (pc := 24) dX12_orders_24 ?_
          obtain ⟨c51, hf⟩ := p_ckx hf
          refine x_iald (pc := 25) dX12_orders_25 t50 c51 ?_
          obtain ⟨q52, h53, hf⟩ := p_bd hf
          refine y_callV1 (pc := 26) dX12_orders_26 (c_X12_isAhead (p_dd hd (by decide)) hW ha0 h53) mk_X12_isAhead mv_X12_isAhead ml_X12_212 rfl rfl (Nat.le_of_ble_eq_true rfl) ha0 rfl (p_d1 hd (by decide)) (Nat.le_of_ble_eq_true rfl) ?_
          refine s_if_eq (pc := 29) (tgt := 52) dX12_orders_29 rfl (fun hc => ?_) (fun hc => ?_)
          · replace hf := p_ps hf hc
            cases hf
            exact s_lo [0, 1, 2] rfl (k46)
          · replace hf := p_ng hf hc
            refine s_aload_n (pc := 32) dX12_orders_32 0 rfl rfl ?_
            obtain ⟨q54, h55, hf⟩ := p_bd hf
            have t56 : p_tp N q54 0 := WT.get hW ha0 h55
            refine x_getR (pc := 33) dX12_orders_33 fl_X12_35 rfl ha0 h55 ?_
            refine s_iload_n (pc := 36) dX12_orders_36 2 rfl rfl ?_
            refine s_aload_n (pc := 37) dX12_orders_37 0 rfl rfl ?_
            obtain ⟨q57, h58, hf⟩ := p_bd hf
            have t59 : p_tp N q57 0 := WT.get hW ha0 h58
            refine x_getR (pc := 38) dX12_orders_38 fl_X12_35 rfl ha0 h58 ?_
            refine s_iload_n (pc := 41) dX12_orders_41 2 rfl rfl ?_
            refine s_iconst (pc := 42) dX12_orders_42 (v := nI 1) rfl ?_
            refine s_isub (pc := 43) dX12_orders_43 ?_
            obtain ⟨c60, hf⟩ := p_ckx hf
            refine x_iald (pc := 44) dX12_orders_44 t59 c60 ?_
            obtain ⟨c61, hf⟩ := p_ckx hf
            refine x_iast (pc := 45) dX12_orders_45 t56 c61 ?_
            refine s_nmI (fun I62 e63 => ?_)
            replace hf := p_lx hf e63
            refine s_iinc (pc := 46) (lo' := [(2, .int (s1.1 + (-1))), (0, .ref a0), (1, .int s0.1)]) dX12_orders_46 2 rfl (v := s1.1 + (-1)) rfl (Nat.le_of_ble_eq_true rfl) rfl ?_
            refine s_goto (pc := 49) (tgt := 12) dX12_orders_49 rfl ?_
            exact s_lo [1, 2, 0] rfl (hrec1 (s1.1 + (-1), I62) hf))
      exact s_lo [1, 2, 0] rfl (k47 n (s0.1, s0.2) hf))
  exact s_lo [1, 0] rfl (k44 n (nI 0, I) hf)
def f_X12_finds (n : Nat) (N : pN) (I : pI) (L : pL) (P : pR) (a0 : Nat) (x1 : Int32) (x2 : Int32) (x3 : Int32) : Option (Int32 × pI × pL) :=
  Option.bind (f_X12_seesSender N I P a0 x1) fun q1 =>
  (if q1 = 0 then
    some (nI 0, I, L)
  else
    Option.bind (f_X12_isPoint x2 x3) fun q3 =>
    (if q3 = 0 then
      some (nI 0, I, L)
    else
      Option.bind (f_X12_senderOf N I P a0 x1 (nI 0)) fun q5 =>
      Option.bind (f_X12_senderOf N I P a0 x1 (nI 1)) fun q7 =>
      Option.bind (f_X12_senderOf N I P a0 x1 (nI 3)) fun q9 =>
      Option.bind (f_X12_from I a0 q5 q7 q9) fun q11 =>
      Option.bind (f_X12_tries n N q11 L P a0 x2 x3) fun q13 =>
      Option.bind (f_X12_orders n N q13.1 P a0) fun q15 =>
      some (nI 1, q15, q13.2)))
theorem c_X12_finds {G : pG} {d : Nat} {n : Nat} {N : pN} {I : pI} {L : pL} {P : pR} {a0 : Nat} {x1 : Int32} {x2 : Int32} {x3 : Int32} {qq : Int32 × pI × pL} (hd : 7 ≤ d) (hW : WT N P) (ha0 : p_tp N a0 15) (hf : f_X12_finds n N I L P a0 x1 x2 x3 = some qq) : MT G mX12_finds d 0 0 [.ref a0, .int x1, .int x2, .int x3] N I L P (p_R (some (.int qq.1)) N qq.2.1 qq.2.2 P) := by
  refine MT.of rfl (Nat.le_of_ble_eq_true rfl) ?_
  show SW G mX12_finds (p_rm d 0 0) 0 0 0 0 (p_R (some (.int qq.1)) N qq.2.1 qq.2.2 P) 0 [(0, .ref a0), (1, .int x1), (2, .int x2), (3, .int x3)] [] N I L P
  unfold f_X12_finds at hf
  refine s_aload_n (pc := 0) dX12_finds_0 0 rfl rfl ?_
  refine s_iload_n (pc := 1) dX12_finds_1 1 rfl rfl ?_
  obtain ⟨q1, h2, hf⟩ := p_bd hf
  refine y_callV1 (pc := 2) dX12_finds_2 (c_X12_seesSender (p_dd hd (by decide)) hW ha0 h2) mk_X12_seesSender mv_X12_seesSender ml_X12_215 rfl rfl (Nat.le_of_ble_eq_true rfl) ha0 rfl (p_d1 hd (by decide)) (Nat.le_of_ble_eq_true rfl) ?_
  refine s_if_eq (pc := 5) (tgt := 16) dX12_finds_5 rfl (fun hc => ?_) (fun hc => ?_)
  · replace hf := p_ps hf hc
    refine s_iconst (pc := 16) dX12_finds_16 (v := nI 0) rfl ?_
    cases hf
    exact s_ireturn (pc := 17) dX12_finds_17 rfl rfl ⟨rfl, rfl, rfl, rfl, rfl⟩
  · replace hf := p_ng hf hc
    refine s_iload_n (pc := 8) dX12_finds_8 2 rfl rfl ?_
    refine s_iload_n (pc := 9) dX12_finds_9 3 rfl rfl ?_
    obtain ⟨q3, h4, hf⟩ := p_bd hf
    refine y_callS1 (pc := 10) dX12_finds_10 (c_X12_isPoint (p_dd hd (by decide)) hW  h4) mk_X12_isPoint mz_X12_isPoint ml_X12_218 rfl rfl (Nat.le_of_ble_eq_true rfl) (p_d1 hd (by decide)) (Nat.le_of_ble_eq_true rfl) ?_
    refine s_if_ne (pc := 13) (tgt := 18) dX12_finds_13 rfl (fun hc => ?_) (fun hc => ?_)
    · replace hf := p_ng hf hc
      refine s_aload_n (pc := 18) dX12_finds_18 0 rfl rfl ?_
      refine s_aload_n (pc := 19) dX12_finds_19 0 rfl rfl ?_
      refine s_iload_n (pc := 20) dX12_finds_20 1 rfl rfl ?_
      refine s_iconst (pc := 21) dX12_finds_21 (v := nI 0) rfl ?_
      obtain ⟨q5, h6, hf⟩ := p_bd hf
      refine y_callV1 (pc := 22) dX12_finds_22 (c_X12_senderOf (p_dd hd (by decide)) hW ha0 h6) mk_X12_senderOf mv_X12_senderOf ml_X12_83 rfl rfl (Nat.le_of_ble_eq_true rfl) ha0 rfl (p_d1 hd (by decide)) (Nat.le_of_ble_eq_true rfl) ?_
      refine s_aload_n (pc := 25) dX12_finds_25 0 rfl rfl ?_
      refine s_iload_n (pc := 26) dX12_finds_26 1 rfl rfl ?_
      refine s_iconst (pc := 27) dX12_finds_27 (v := nI 1) rfl ?_
      obtain ⟨q7, h8, hf⟩ := p_bd hf
      refine y_callV1 (pc := 28) dX12_finds_28 (c_X12_senderOf (p_dd hd (by decide)) hW ha0 h8) mk_X12_senderOf mv_X12_senderOf ml_X12_83 rfl rfl (Nat.le_of_ble_eq_true rfl) ha0 rfl (p_d1 hd (by decide)) (Nat.le_of_ble_eq_true rfl) ?_
      refine s_aload_n (pc := 31) dX12_finds_31 0 rfl rfl ?_
      refine s_iload_n (pc := 32) dX12_finds_32 1 rfl rfl ?_
      refine s_iconst (pc := 33) dX12_finds_33 (v := nI 3) rfl ?_
      obtain ⟨q9, h10, hf⟩ := p_bd hf
      refine y_callV1 (pc := 34) dX12_finds_34 (c_X12_senderOf (p_dd hd (by decide)) hW ha0 h10) mk_X12_senderOf mv_X12_senderOf ml_X12_83 rfl rfl (Nat.le_of_ble_eq_true rfl) ha0 rfl (p_d1 hd (by decide)) (Nat.le_of_ble_eq_true rfl) ?_
      obtain ⟨q11, h12, hf⟩ := p_bd hf
      refine y_callV0 (pc := 37) dX12_finds_37 (c_X12_from (p_dd hd (by decide)) hW ha0 h12) mk_X12_from mv_X12_from ml_X12_221 rfl rfl (Nat.le_of_ble_eq_true rfl) ha0 rfl (p_d1 hd (by decide)) (Nat.le_of_ble_eq_true rfl) ?_
      refine s_aload_n (pc := 40) dX12_finds_40 0 rfl rfl ?_
      refine s_iload_n (pc := 41) dX12_finds_41 2 rfl rfl ?_
      refine s_iload_n (pc := 42) dX12_finds_42 3 rfl rfl ?_
      obtain ⟨q13, h14, hf⟩ := p_bd hf
      refine y_callV0 (pc := 43) dX12_finds_43 (c_X12_tries (p_dd hd (by decide)) hW ha0 h14) mk_X12_tries mv_X12_tries ml_X12_225 rfl rfl (Nat.le_of_ble_eq_true rfl) ha0 rfl (p_d1 hd (by decide)) (Nat.le_of_ble_eq_true rfl) ?_
      refine s_aload_n (pc := 46) dX12_finds_46 0 rfl rfl ?_
      obtain ⟨q15, h16, hf⟩ := p_bd hf
      refine y_callV0 (pc := 47) dX12_finds_47 (c_X12_orders (p_dd hd (by decide)) hW ha0 h16) mk_X12_orders mv_X12_orders ml_X12_228 rfl rfl (Nat.le_of_ble_eq_true rfl) ha0 rfl (p_d1 hd (by decide)) (Nat.le_of_ble_eq_true rfl) ?_
      refine s_iconst (pc := 50) dX12_finds_50 (v := nI 1) rfl ?_
      cases hf
      exact s_ireturn (pc := 51) dX12_finds_51 rfl rfl ⟨rfl, rfl, rfl, rfl, rfl⟩
    · replace hf := p_ps hf hc
      refine s_iconst (pc := 16) dX12_finds_16 (v := nI 0) rfl ?_
      cases hf
      exact s_ireturn (pc := 17) dX12_finds_17 rfl rfl ⟨rfl, rfl, rfl, rfl, rfl⟩
def B_X12_sees_18 (N : pN) (I : pI) (P : pR) (a0 : Nat) (rec0 : (Int32 × Int32) → Option Int32) (s0 : Int32 × Int32) : Option Int32 :=
  (if (I a0 13) ≤ s0.2 then
    some s0.1
  else
    Option.bind (α := Int32) ((if s0.1 = 0 then
      Option.bind (P a0 7) fun q7 =>
      p_ck (p_ib N q7 s0.2) <|
      (if (I q7 (Int32.toNatClampNeg s0.2)) = 0 then
        some (nI 1)
      else
        some (nI 0))
    else
      some (nI 1))) fun t5 =>
    rec0 (t5, s0.2 + nI 1))
def f_X12_sees (n : Nat) (N : pN) (I : pI) (L : pL) (P : pR) (a0 : Nat) (x1 : Int32) (x2 : Int32) (x3 : Int32) : Option (Int32 × pI × pL) :=
  Option.bind (f_X12_finds n N I L P a0 x1 x2 x3) fun q1 =>
  (if q1.1 = 0 then
    some (nI 0, q1.2.1, q1.2.2)
  else
    Option.bind (p_it (B_X12_sees_18 N q1.2.1 P a0) n (nI 0, nI 0)) fun t3 =>
    p_ck (decide (t3 = 0 ∨ t3 = 1)) <|
    some (t3, q1.2.1, q1.2.2))
theorem c_X12_sees {G : pG} {d : Nat} {n : Nat} {N : pN} {I : pI} {L : pL} {P : pR} {a0 : Nat} {x1 : Int32} {x2 : Int32} {x3 : Int32} {qq : Int32 × pI × pL} (hd : 8 ≤ d) (hW : WT N P) (ha0 : p_tp N a0 15) (hf : f_X12_sees n N I L P a0 x1 x2 x3 = some qq) : MT G mX12_sees d 0 0 [.ref a0, .int x1, .int x2, .int x3] N I L P (p_R (some (.int qq.1)) N qq.2.1 qq.2.2 P) := by
  refine MT.of rfl (Nat.le_of_ble_eq_true rfl) ?_
  show SW G mX12_sees (p_rm d 0 0) 0 0 0 0 (p_R (some (.int qq.1)) N qq.2.1 qq.2.2 P) 0 [(0, .ref a0), (1, .int x1), (2, .int x2), (3, .int x3)] [] N I L P
  unfold f_X12_sees at hf
  refine s_aload_n (pc := 0) dX12_sees_0 0 rfl rfl ?_
  refine s_iload_n (pc := 1) dX12_sees_1 1 rfl rfl ?_
  refine s_iload_n (pc := 2) dX12_sees_2 2 rfl rfl ?_
  refine s_iload_n (pc := 3) dX12_sees_3 3 rfl rfl ?_
  obtain ⟨q1, h2, hf⟩ := p_bd hf
  refine y_callV1 (pc := 4) dX12_sees_4 (c_X12_finds (p_dd hd (by decide)) hW ha0 h2) mk_X12_finds mv_X12_finds ml_X12_231 rfl rfl (Nat.le_of_ble_eq_true rfl) ha0 rfl (p_d1 hd (by decide)) (Nat.le_of_ble_eq_true rfl) ?_
  refine s_if_ne (pc := 7) (tgt := 12) dX12_sees_7 rfl (fun hc => ?_) (fun hc => ?_)
  · replace hf := p_ng hf hc
    refine s_iconst (pc := 12) dX12_sees_12 (v := nI 0) rfl ?_
    refine s_istore (pc := 13) (lo' := [(4, .int (nI 0)), (0, .ref a0), (1, .int x1), (2, .int x2), (3, .int x3)]) dX12_sees_13 (Nat.le_of_ble_eq_true rfl) rfl ?_
    refine s_iconst (pc := 15) dX12_sees_15 (v := nI 0) rfl ?_
    refine s_istore (pc := 16) (lo' := [(5, .int (nI 0)), (4, .int (nI 0)), (0, .ref a0), (1, .int x1), (2, .int x2), (3, .int x3)]) dX12_sees_16 (Nat.le_of_ble_eq_true rfl) rfl ?_
    obtain ⟨t3, hg, hf⟩ := p_bd hf
    have k4 : SW G mX12_sees (p_rm d 0 0) 0 0 0 0 (p_R (some (.int qq.1)) N qq.2.1 qq.2.2 P) 55 [(4, .int t3)] [] N q1.2.1 q1.2.2 P := by
      refine s_iload (pc := 55) dX12_sees_55 0 rfl ?_
      obtain ⟨c18, hf⟩ := p_ckx hf
      cases hf
      exact s_ireturn (pc := 57) dX12_sees_57 rfl (p_nr (of_decide_eq_true c18)) ⟨rfl, rfl, rfl, rfl, rfl⟩
    replace hf := hg
    have k11 : ∀ (k : Nat) (s0 : Int32 × Int32), p_it (B_X12_sees_18 N q1.2.1 P a0) k s0 = some t3 → (SW G mX12_sees (p_rm d 0 0) 0 0 0 0 (p_R (some (.int qq.1)) N qq.2.1 qq.2.2 P) 18 [(0, .ref a0), (4, .int s0.1), (5, .int s0.2)] [] N q1.2.1 q1.2.2 P) := p_it_ind (C := fun (s0 : Int32 × Int32) => SW G mX12_sees (p_rm d 0 0) 0 0 0 0 (p_R (some (.int qq.1)) N qq.2.1 qq.2.2 P) 18 [(0, .ref a0), (4, .int s0.1), (5, .int s0.2)] [] N q1.2.1 q1.2.2 P) (by
      intro rec0 hrec0 s0 hf
      unfold B_X12_sees_18 at hf
      refine s_iload (pc := 18) dX12_sees_18 2 rfl ?_
      refine s_aload_n (pc := 20) dX12_sees_20 0 rfl rfl ?_
      refine x_getI (pc := 21) dX12_sees_21 fl_X12_142 rfl ha0 ?_
      refine s_icmp_ge (pc := 24) (tgt := 55) dX12_sees_24 rfl (fun hc => ?_) (fun hc => ?_)
      · replace hf := p_ps hf hc
        cases hf
        exact s_lo [1] rfl (k4)
      · replace hf := p_ng hf hc
        refine s_iload (pc := 27) dX12_sees_27 1 rfl ?_
        obtain ⟨t12, hg, hf⟩ := p_bd hf
        have k13 : SW G mX12_sees (p_rm d 0 0) 0 0 0 0 (p_R (some (.int qq.1)) N qq.2.1 qq.2.2 P) 47 [(0, .ref a0), (5, .int s0.2)] [.int t12] N q1.2.1 q1.2.2 P := by
          refine s_istore (pc := 47) (lo' := [(4, .int t12), (0, .ref a0), (5, .int s0.2)]) dX12_sees_47 (Nat.le_of_ble_eq_true rfl) rfl ?_
          refine s_iinc (pc := 49) (lo' := [(5, .int (s0.2 + nI 1)), (4, .int t12), (0, .ref a0)]) dX12_sees_49 2 rfl (v := s0.2 + nI 1) rfl (Nat.le_of_ble_eq_true rfl) rfl ?_
          refine s_goto (pc := 52) (tgt := 18) dX12_sees_52 rfl ?_
          exact s_lo [2, 1, 0] rfl (hrec0 (t12, s0.2 + nI 1) hf)
        replace hf := hg
        refine s_if_ne (pc := 29) (tgt := 42) dX12_sees_29 rfl (fun hc => ?_) (fun hc => ?_)
        · replace hf := p_ng hf hc
          refine s_iconst (pc := 42) dX12_sees_42 (v := nI 1) rfl ?_
          refine s_goto (pc := 43) (tgt := 47) dX12_sees_43 rfl ?_
          cases hf
          exact s_lo [0, 2] rfl (k13)
        · replace hf := p_ps hf hc
          refine s_aload_n (pc := 32) dX12_sees_32 0 rfl rfl ?_
          obtain ⟨q14, h15, hf⟩ := p_bd hf
          have t16 : p_tp N q14 0 := WT.get hW ha0 h15
          refine x_getR (pc := 33) dX12_sees_33 fl_X12_17 rfl ha0 h15 ?_
          refine s_iload (pc := 36) dX12_sees_36 2 rfl ?_
          obtain ⟨c17, hf⟩ := p_ckx hf
          refine x_iald (pc := 38) dX12_sees_38 t16 c17 ?_
          refine s_if_ne (pc := 39) (tgt := 46) dX12_sees_39 rfl (fun hc => ?_) (fun hc => ?_)
          · replace hf := p_ng hf hc
            refine s_iconst (pc := 46) dX12_sees_46 (v := nI 0) rfl ?_
            cases hf
            exact s_lo [0, 2] rfl (k13)
          · replace hf := p_ps hf hc
            refine s_iconst (pc := 42) dX12_sees_42 (v := nI 1) rfl ?_
            refine s_goto (pc := 43) (tgt := 47) dX12_sees_43 rfl ?_
            cases hf
            exact s_lo [0, 2] rfl (k13))
    exact s_lo [2, 1, 0] rfl (k11 n (nI 0, nI 0) hf)
  · replace hf := p_ps hf hc
    refine s_iconst (pc := 10) dX12_sees_10 (v := nI 0) rfl ?_
    cases hf
    exact s_ireturn (pc := 11) dX12_sees_11 rfl rfl ⟨rfl, rfl, rfl, rfl, rfl⟩
def f_X12_ways (n : Nat) (N : pN) (I : pI) (L : pL) (P : pR) (a0 : Nat) (x1 : Int32) (x2 : Int32) (x3 : Int32) : Option (Int32 × pI × pL) :=
  Option.bind (f_X12_finds n N I L P a0 x1 x2 x3) fun q1 =>
  (if q1.1 = 0 then
    some ((-1), q1.2.1, q1.2.2)
  else
    some (q1.2.1 a0 13, q1.2.1, q1.2.2))
theorem c_X12_ways {G : pG} {d : Nat} {n : Nat} {N : pN} {I : pI} {L : pL} {P : pR} {a0 : Nat} {x1 : Int32} {x2 : Int32} {x3 : Int32} {qq : Int32 × pI × pL} (hd : 8 ≤ d) (hW : WT N P) (ha0 : p_tp N a0 15) (hf : f_X12_ways n N I L P a0 x1 x2 x3 = some qq) : MT G mX12_ways d 0 0 [.ref a0, .int x1, .int x2, .int x3] N I L P (p_R (some (.int qq.1)) N qq.2.1 qq.2.2 P) := by
  refine MT.of rfl (Nat.le_of_ble_eq_true rfl) ?_
  show SW G mX12_ways (p_rm d 0 0) 0 0 0 0 (p_R (some (.int qq.1)) N qq.2.1 qq.2.2 P) 0 [(0, .ref a0), (1, .int x1), (2, .int x2), (3, .int x3)] [] N I L P
  unfold f_X12_ways at hf
  refine s_aload_n (pc := 0) dX12_ways_0 0 rfl rfl ?_
  refine s_iload_n (pc := 1) dX12_ways_1 1 rfl rfl ?_
  refine s_iload_n (pc := 2) dX12_ways_2 2 rfl rfl ?_
  refine s_iload_n (pc := 3) dX12_ways_3 3 rfl rfl ?_
  obtain ⟨q1, h2, hf⟩ := p_bd hf
  refine y_callV1 (pc := 4) dX12_ways_4 (c_X12_finds (p_dd hd (by decide)) hW ha0 h2) mk_X12_finds mv_X12_finds ml_X12_231 rfl rfl (Nat.le_of_ble_eq_true rfl) ha0 rfl (p_d1 hd (by decide)) (Nat.le_of_ble_eq_true rfl) ?_
  refine s_if_eq (pc := 7) (tgt := 17) dX12_ways_7 rfl (fun hc => ?_) (fun hc => ?_)
  · replace hf := p_ps hf hc
    refine s_iconst (pc := 17) dX12_ways_17 (v := (-1)) rfl ?_
    cases hf
    exact s_ireturn (pc := 18) dX12_ways_18 rfl rfl ⟨rfl, rfl, rfl, rfl, rfl⟩
  · replace hf := p_ng hf hc
    refine s_aload_n (pc := 10) dX12_ways_10 0 rfl rfl ?_
    refine x_getI (pc := 11) dX12_ways_11 fl_X12_142 rfl ha0 ?_
    refine s_goto (pc := 14) (tgt := 18) dX12_ways_14 rfl ?_
    cases hf
    exact s_ireturn (pc := 18) dX12_ways_18 rfl rfl ⟨rfl, rfl, rfl, rfl, rfl⟩
def f_X12_late (n : Nat) (x0 : Int64) : Option Int32 :=
  Option.bind (f_X12_root n (10000 * x0)) fun q1 =>
  some (Int64.toInt32 q1)
theorem c_X12_late {G : pG} {d : Nat} {n : Nat} {N : pN} {I : pI} {L : pL} {P : pR} {x0 : Int64} {qq : Int32} (hd : 1 ≤ d) (hW : WT N P) (hf : f_X12_late n x0 = some qq) : MT G mX12_late d 0 0 [.long x0] N I L P (p_R (some (.int qq)) N I L P) := by
  refine MT.of rfl (Nat.le_of_ble_eq_true rfl) ?_
  show SW G mX12_late (p_rm d 0 0) 0 0 0 0 (p_R (some (.int qq)) N I L P) 0 [(0, .long x0)] [] N I L P
  unfold f_X12_late at hf
  refine s_ldc2 (pc := 0) kl_X12_234 dX12_late_0 ?_
  refine s_lload_n (pc := 3) dX12_late_3 0 rfl rfl ?_
  refine s_lmul (pc := 4) dX12_late_4 ?_
  obtain ⟨q1, h2, hf⟩ := p_bd hf
  refine y_callS1 (pc := 5) dX12_late_5 (c_X12_root (p_dd hd (by decide)) hW  h2) mk_X12_root mz_X12_root ml_X12_186 rfl rfl (Nat.le_of_ble_eq_true rfl) (p_d1 hd (by decide)) (Nat.le_of_ble_eq_true rfl) ?_
  refine s_l2i (pc := 8) dX12_late_8 ?_
  cases hf
  exact s_ireturn (pc := 9) dX12_late_9 rfl rfl ⟨rfl, rfl, rfl, rfl, rfl⟩
