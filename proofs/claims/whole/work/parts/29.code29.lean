def f_X12_seesWall (N : pN) (I : pI) (P : pR) (a0 : Nat) (x1 : Int32) : Option Int32 :=
  Option.bind (f_X12_wallOf N I P a0 x1 (nI 5)) fun q1 =>
  Option.bind (f_X12_wallOf N I P a0 x1 (nI 6)) fun q3 =>
  Option.bind (f_X12_isThere N I P a0 q1 q3) fun q5 =>
  p_ck (decide (q5 = 0 ∨ q5 = 1)) <|
  some q5
theorem c_X12_seesWall {G : pG} {d : Nat} {N : pN} {I : pI} {L : pL} {P : pR} {a0 : Nat} {x1 : Int32} {qq : Int32} (hd : 1 ≤ d) (hW : WT N P) (ha0 : p_tp N a0 15) (hf : f_X12_seesWall N I P a0 x1 = some qq) : MT G mX12_seesWall d 0 0 [.ref a0, .int x1] N I L P (p_R (some (.int qq)) N I L P) := by
  refine MT.of rfl (Nat.le_of_ble_eq_true rfl) ?_
  show SW G mX12_seesWall (p_rm d 0 0) 0 0 0 0 (p_R (some (.int qq)) N I L P) 0 [(0, .ref a0), (1, .int x1)] [] N I L P
  unfold f_X12_seesWall at hf
  refine s_aload_n (pc := 0) dX12_seesWall_0 0 rfl rfl ?_
  refine s_aload_n (pc := 1) dX12_seesWall_1 0 rfl rfl ?_
  refine s_iload_n (pc := 2) dX12_seesWall_2 1 rfl rfl ?_
  refine s_iconst (pc := 3) dX12_seesWall_3 (v := nI 5) rfl ?_
  obtain ⟨q1, h2, hf⟩ := p_bd hf
  refine y_callV1 (pc := 4) dX12_seesWall_4 (c_X12_wallOf (p_dd hd (by decide)) hW ha0 h2) mk_X12_wallOf mv_X12_wallOf ml_X12_72 rfl rfl (Nat.le_of_ble_eq_true rfl) ha0 rfl (p_d1 hd (by decide)) (Nat.le_of_ble_eq_true rfl) ?_
  refine s_aload_n (pc := 7) dX12_seesWall_7 0 rfl rfl ?_
  refine s_iload_n (pc := 8) dX12_seesWall_8 1 rfl rfl ?_
  refine s_bipush (pc := 9) dX12_seesWall_9 (v := nI 6) rfl ?_
  obtain ⟨q3, h4, hf⟩ := p_bd hf
  refine y_callV1 (pc := 11) dX12_seesWall_11 (c_X12_wallOf (p_dd hd (by decide)) hW ha0 h4) mk_X12_wallOf mv_X12_wallOf ml_X12_72 rfl rfl (Nat.le_of_ble_eq_true rfl) ha0 rfl (p_d1 hd (by decide)) (Nat.le_of_ble_eq_true rfl) ?_
  obtain ⟨q5, h6, hf⟩ := p_bd hf
  refine y_callV1 (pc := 14) dX12_seesWall_14 (c_X12_isThere (p_dd hd (by decide)) hW ha0 h6) mk_X12_isThere mv_X12_isThere ml_X12_76 rfl rfl (Nat.le_of_ble_eq_true rfl) ha0 rfl (p_d1 hd (by decide)) (Nat.le_of_ble_eq_true rfl) ?_
  obtain ⟨c7, hf⟩ := p_ckx hf
  cases hf
  exact s_ireturn (pc := 17) dX12_seesWall_17 rfl (p_nr (of_decide_eq_true c7)) ⟨rfl, rfl, rfl, rfl, rfl⟩
def f_X12_seesSender (N : pN) (I : pI) (P : pR) (a0 : Nat) (x1 : Int32) : Option Int32 :=
  Option.bind (f_X12_isOf N I P a0 x1 (nI 1)) fun q1 =>
  (if q1 = 0 then
    some (nI 0)
  else
    Option.bind (f_X12_senderOf N I P a0 x1 (nI 4)) fun q3 =>
    Option.bind (f_X12_senderOf N I P a0 x1 (nI 5)) fun q5 =>
    Option.bind (f_X12_isThere N I P a0 q3 q5) fun q7 =>
    (if q7 = 0 then
      some (nI 0)
    else
      some (nI 1)))
theorem c_X12_seesSender {G : pG} {d : Nat} {N : pN} {I : pI} {L : pL} {P : pR} {a0 : Nat} {x1 : Int32} {qq : Int32} (hd : 2 ≤ d) (hW : WT N P) (ha0 : p_tp N a0 15) (hf : f_X12_seesSender N I P a0 x1 = some qq) : MT G mX12_seesSender d 0 0 [.ref a0, .int x1] N I L P (p_R (some (.int qq)) N I L P) := by
  refine MT.of rfl (Nat.le_of_ble_eq_true rfl) ?_
  show SW G mX12_seesSender (p_rm d 0 0) 0 0 0 0 (p_R (some (.int qq)) N I L P) 0 [(0, .ref a0), (1, .int x1)] [] N I L P
  unfold f_X12_seesSender at hf
  refine s_aload_n (pc := 0) dX12_seesSender_0 0 rfl rfl ?_
  refine s_iload_n (pc := 1) dX12_seesSender_1 1 rfl rfl ?_
  refine s_iconst (pc := 2) dX12_seesSender_2 (v := nI 1) rfl ?_
  obtain ⟨q1, h2, hf⟩ := p_bd hf
  refine y_callV1 (pc := 3) dX12_seesSender_3 (c_X12_isOf (p_dd hd (by decide)) hW ha0 h2) mk_X12_isOf mv_X12_isOf ml_X12_80 rfl rfl (Nat.le_of_ble_eq_true rfl) ha0 rfl (p_d1 hd (by decide)) (Nat.le_of_ble_eq_true rfl) ?_
  refine s_if_eq (pc := 6) (tgt := 32) dX12_seesSender_6 rfl (fun hc => ?_) (fun hc => ?_)
  · replace hf := p_ps hf hc
    refine s_iconst (pc := 32) dX12_seesSender_32 (v := nI 0) rfl ?_
    cases hf
    exact s_ireturn (pc := 33) dX12_seesSender_33 rfl rfl ⟨rfl, rfl, rfl, rfl, rfl⟩
  · replace hf := p_ng hf hc
    refine s_aload_n (pc := 9) dX12_seesSender_9 0 rfl rfl ?_
    refine s_aload_n (pc := 10) dX12_seesSender_10 0 rfl rfl ?_
    refine s_iload_n (pc := 11) dX12_seesSender_11 1 rfl rfl ?_
    refine s_iconst (pc := 12) dX12_seesSender_12 (v := nI 4) rfl ?_
    obtain ⟨q3, h4, hf⟩ := p_bd hf
    refine y_callV1 (pc := 13) dX12_seesSender_13 (c_X12_senderOf (p_dd hd (by decide)) hW ha0 h4) mk_X12_senderOf mv_X12_senderOf ml_X12_83 rfl rfl (Nat.le_of_ble_eq_true rfl) ha0 rfl (p_d1 hd (by decide)) (Nat.le_of_ble_eq_true rfl) ?_
    refine s_aload_n (pc := 16) dX12_seesSender_16 0 rfl rfl ?_
    refine s_iload_n (pc := 17) dX12_seesSender_17 1 rfl rfl ?_
    refine s_iconst (pc := 18) dX12_seesSender_18 (v := nI 5) rfl ?_
    obtain ⟨q5, h6, hf⟩ := p_bd hf
    refine y_callV1 (pc := 19) dX12_seesSender_19 (c_X12_senderOf (p_dd hd (by decide)) hW ha0 h6) mk_X12_senderOf mv_X12_senderOf ml_X12_83 rfl rfl (Nat.le_of_ble_eq_true rfl) ha0 rfl (p_d1 hd (by decide)) (Nat.le_of_ble_eq_true rfl) ?_
    obtain ⟨q7, h8, hf⟩ := p_bd hf
    refine y_callV1 (pc := 22) dX12_seesSender_22 (c_X12_isThere (p_dd hd (by decide)) hW ha0 h8) mk_X12_isThere mv_X12_isThere ml_X12_76 rfl rfl (Nat.le_of_ble_eq_true rfl) ha0 rfl (p_d1 hd (by decide)) (Nat.le_of_ble_eq_true rfl) ?_
    refine s_if_eq (pc := 25) (tgt := 32) dX12_seesSender_25 rfl (fun hc => ?_) (fun hc => ?_)
    · replace hf := p_ps hf hc
      refine s_iconst (pc := 32) dX12_seesSender_32 (v := nI 0) rfl ?_
      cases hf
      exact s_ireturn (pc := 33) dX12_seesSender_33 rfl rfl ⟨rfl, rfl, rfl, rfl, rfl⟩
    · replace hf := p_ng hf hc
      refine s_iconst (pc := 28) dX12_seesSender_28 (v := nI 1) rfl ?_
      refine s_goto (pc := 29) (tgt := 33) dX12_seesSender_29 rfl ?_
      cases hf
      exact s_ireturn (pc := 33) dX12_seesSender_33 rfl rfl ⟨rfl, rfl, rfl, rfl, rfl⟩
def f_X12_isUpright (N : pN) (I : pI) (P : pR) (a0 : Nat) (x1 : Int32) : Option Int32 :=
  Option.bind (f_X12_wallOf N I P a0 x1 (nI 0)) fun q1 =>
  Option.bind (f_X12_wallOf N I P a0 x1 (nI 2)) fun q3 =>
  (if q1 = q3 then
    some (nI 1)
  else
    some (nI 0))
theorem c_X12_isUpright {G : pG} {d : Nat} {N : pN} {I : pI} {L : pL} {P : pR} {a0 : Nat} {x1 : Int32} {qq : Int32} (hd : 1 ≤ d) (hW : WT N P) (ha0 : p_tp N a0 15) (hf : f_X12_isUpright N I P a0 x1 = some qq) : MT G mX12_isUpright d 0 0 [.ref a0, .int x1] N I L P (p_R (some (.int qq)) N I L P) := by
  refine MT.of rfl (Nat.le_of_ble_eq_true rfl) ?_
  show SW G mX12_isUpright (p_rm d 0 0) 0 0 0 0 (p_R (some (.int qq)) N I L P) 0 [(0, .ref a0), (1, .int x1)] [] N I L P
  unfold f_X12_isUpright at hf
  refine s_aload_n (pc := 0) dX12_isUpright_0 0 rfl rfl ?_
  refine s_iload_n (pc := 1) dX12_isUpright_1 1 rfl rfl ?_
  refine s_iconst (pc := 2) dX12_isUpright_2 (v := nI 0) rfl ?_
  obtain ⟨q1, h2, hf⟩ := p_bd hf
  refine y_callV1 (pc := 3) dX12_isUpright_3 (c_X12_wallOf (p_dd hd (by decide)) hW ha0 h2) mk_X12_wallOf mv_X12_wallOf ml_X12_72 rfl rfl (Nat.le_of_ble_eq_true rfl) ha0 rfl (p_d1 hd (by decide)) (Nat.le_of_ble_eq_true rfl) ?_
  refine s_aload_n (pc := 6) dX12_isUpright_6 0 rfl rfl ?_
  refine s_iload_n (pc := 7) dX12_isUpright_7 1 rfl rfl ?_
  refine s_iconst (pc := 8) dX12_isUpright_8 (v := nI 2) rfl ?_
  obtain ⟨q3, h4, hf⟩ := p_bd hf
  refine y_callV1 (pc := 9) dX12_isUpright_9 (c_X12_wallOf (p_dd hd (by decide)) hW ha0 h4) mk_X12_wallOf mv_X12_wallOf ml_X12_72 rfl rfl (Nat.le_of_ble_eq_true rfl) ha0 rfl (p_d1 hd (by decide)) (Nat.le_of_ble_eq_true rfl) ?_
  refine s_icmp_ne (pc := 12) (tgt := 19) dX12_isUpright_12 rfl (fun hc => ?_) (fun hc => ?_)
  · replace hf := p_ng hf hc
    refine s_iconst (pc := 19) dX12_isUpright_19 (v := nI 0) rfl ?_
    cases hf
    exact s_ireturn (pc := 20) dX12_isUpright_20 rfl rfl ⟨rfl, rfl, rfl, rfl, rfl⟩
  · replace hf := p_ps hf hc
    refine s_iconst (pc := 15) dX12_isUpright_15 (v := nI 1) rfl ?_
    refine s_goto (pc := 16) (tgt := 20) dX12_isUpright_16 rfl ?_
    cases hf
    exact s_ireturn (pc := 20) dX12_isUpright_20 rfl rfl ⟨rfl, rfl, rfl, rfl, rfl⟩
def f_X12_side (N : pN) (I : pI) (P : pR) (a0 : Nat) (x1 : Int32) (x2 : Int64) (x4 : Int64) (x6 : Int64) : Option Int64 :=
  Option.bind (f_X12_isUpright N I P a0 x1) fun q1 =>
  (if q1 = 0 then
    Option.bind (f_X12_wallOf N I P a0 x1 (nI 1)) fun q3 =>
    some (x4 - ((Int32.toInt64 q3) * x6))
  else
    Option.bind (f_X12_wallOf N I P a0 x1 (nI 0)) fun q5 =>
    some (x2 - ((Int32.toInt64 q5) * x6)))
theorem c_X12_side {G : pG} {d : Nat} {N : pN} {I : pI} {L : pL} {P : pR} {a0 : Nat} {x1 : Int32} {x2 : Int64} {x4 : Int64} {x6 : Int64} {qq : Int64} (hd : 2 ≤ d) (hW : WT N P) (ha0 : p_tp N a0 15) (hf : f_X12_side N I P a0 x1 x2 x4 x6 = some qq) : MT G mX12_side d 0 0 [.ref a0, .int x1, .long x2, .long x4, .long x6] N I L P (p_R (some (.long qq)) N I L P) := by
  refine MT.of rfl (Nat.le_of_ble_eq_true rfl) ?_
  show SW G mX12_side (p_rm d 0 0) 0 0 0 0 (p_R (some (.long qq)) N I L P) 0 [(0, .ref a0), (1, .int x1), (2, .long x2), (4, .long x4), (6, .long x6)] [] N I L P
  unfold f_X12_side at hf
  refine s_aload_n (pc := 0) dX12_side_0 0 rfl rfl ?_
  refine s_iload_n (pc := 1) dX12_side_1 1 rfl rfl ?_
  obtain ⟨q1, h2, hf⟩ := p_bd hf
  refine y_callV1 (pc := 2) dX12_side_2 (c_X12_isUpright (p_dd hd (by decide)) hW ha0 h2) mk_X12_isUpright mv_X12_isUpright ml_X12_86 rfl rfl (Nat.le_of_ble_eq_true rfl) ha0 rfl (p_d1 hd (by decide)) (Nat.le_of_ble_eq_true rfl) ?_
  refine s_if_eq (pc := 5) (tgt := 23) dX12_side_5 rfl (fun hc => ?_) (fun hc => ?_)
  · replace hf := p_ps hf hc
    refine s_lload (pc := 23) dX12_side_23 3 rfl ?_
    refine s_aload_n (pc := 25) dX12_side_25 0 rfl rfl ?_
    refine s_iload_n (pc := 26) dX12_side_26 1 rfl rfl ?_
    refine s_iconst (pc := 27) dX12_side_27 (v := nI 1) rfl ?_
    obtain ⟨q3, h4, hf⟩ := p_bd hf
    refine y_callV1 (pc := 28) dX12_side_28 (c_X12_wallOf (p_dd hd (by decide)) hW ha0 h4) mk_X12_wallOf mv_X12_wallOf ml_X12_72 rfl rfl (Nat.le_of_ble_eq_true rfl) ha0 rfl (p_d1 hd (by decide)) (Nat.le_of_ble_eq_true rfl) ?_
    refine s_i2l (pc := 31) dX12_side_31 ?_
    refine s_lload (pc := 32) dX12_side_32 4 rfl ?_
    refine s_lmul (pc := 34) dX12_side_34 ?_
    refine s_lsub (pc := 35) dX12_side_35 ?_
    cases hf
    exact s_lreturn (pc := 36) dX12_side_36 rfl ⟨rfl, rfl, rfl, rfl, rfl⟩
  · replace hf := p_ng hf hc
    refine s_lload_n (pc := 8) dX12_side_8 2 rfl rfl ?_
    refine s_aload_n (pc := 9) dX12_side_9 0 rfl rfl ?_
    refine s_iload_n (pc := 10) dX12_side_10 1 rfl rfl ?_
    refine s_iconst (pc := 11) dX12_side_11 (v := nI 0) rfl ?_
    obtain ⟨q5, h6, hf⟩ := p_bd hf
    refine y_callV1 (pc := 12) dX12_side_12 (c_X12_wallOf (p_dd hd (by decide)) hW ha0 h6) mk_X12_wallOf mv_X12_wallOf ml_X12_72 rfl rfl (Nat.le_of_ble_eq_true rfl) ha0 rfl (p_d1 hd (by decide)) (Nat.le_of_ble_eq_true rfl) ?_
    refine s_i2l (pc := 15) dX12_side_15 ?_
    refine s_lload (pc := 16) dX12_side_16 4 rfl ?_
    refine s_lmul (pc := 18) dX12_side_18 ?_
    refine s_lsub (pc := 19) dX12_side_19 ?_
    refine s_goto (pc := 20) (tgt := 36) dX12_side_20 rfl ?_
    cases hf
    exact s_lreturn (pc := 36) dX12_side_36 rfl ⟨rfl, rfl, rfl, rfl, rfl⟩
def f_X12_size (x0 : Int64) : Option Int64 :=
  (if 0 ≤ x0 then
    some x0
  else
    some (-x0))
theorem c_X12_size {G : pG} {d : Nat} {N : pN} {I : pI} {L : pL} {P : pR} {x0 : Int64} {qq : Int64} (hd : 0 ≤ d) (hW : WT N P) (hf : f_X12_size x0 = some qq) : MT G mX12_size d 0 0 [.long x0] N I L P (p_R (some (.long qq)) N I L P) := by
  refine MT.of rfl (Nat.le_of_ble_eq_true rfl) ?_
  show SW G mX12_size (p_rm d 0 0) 0 0 0 0 (p_R (some (.long qq)) N I L P) 0 [(0, .long x0)] [] N I L P
  unfold f_X12_size at hf
  refine s_lload_n (pc := 0) dX12_size_0 0 rfl rfl ?_
  refine s_lconst (pc := 1) dX12_size_1 (v := 0) rfl ?_
  refine x_lcmp_ge (pc := 2) (tgt := 11) dX12_size_2 dX12_size_3 rfl (fun hc => ?_) (fun hc => ?_)
  · replace hf := p_ps hf hc
    refine s_lload_n (pc := 11) dX12_size_11 0 rfl rfl ?_
    cases hf
    exact s_lreturn (pc := 12) dX12_size_12 rfl ⟨rfl, rfl, rfl, rfl, rfl⟩
  · replace hf := p_ng hf hc
    refine s_lload_n (pc := 6) dX12_size_6 0 rfl rfl ?_
    refine s_lneg (pc := 7) dX12_size_7 ?_
    refine s_goto (pc := 8) (tgt := 12) dX12_size_8 rfl ?_
    cases hf
    exact s_lreturn (pc := 12) dX12_size_12 rfl ⟨rfl, rfl, rfl, rfl, rfl⟩
def f_X12_areOpposite (x0 : Int64) (x2 : Int64) : Option Int32 :=
  (if 0 ≤ x0 then
    (if x0 ≤ 0 then
      some (nI 0)
    else
      (if 0 ≤ x2 then
        some (nI 0)
      else
        some (nI 1)))
  else
    (if 0 < x2 then
      some (nI 1)
    else
      (if x0 ≤ 0 then
        some (nI 0)
      else
        (if 0 ≤ x2 then
          some (nI 0)
        else
          some (nI 1)))))
theorem c_X12_areOpposite {G : pG} {d : Nat} {N : pN} {I : pI} {L : pL} {P : pR} {x0 : Int64} {x2 : Int64} {qq : Int32} (hd : 0 ≤ d) (hW : WT N P) (hf : f_X12_areOpposite x0 x2 = some qq) : MT G mX12_areOpposite d 0 0 [.long x0, .long x2] N I L P (p_R (some (.int qq)) N I L P) := by
  refine MT.of rfl (Nat.le_of_ble_eq_true rfl) ?_
  show SW G mX12_areOpposite (p_rm d 0 0) 0 0 0 0 (p_R (some (.int qq)) N I L P) 0 [(0, .long x0), (2, .long x2)] [] N I L P
  unfold f_X12_areOpposite at hf
  refine s_lload_n (pc := 0) dX12_areOpposite_0 0 rfl rfl ?_
  refine s_lconst (pc := 1) dX12_areOpposite_1 (v := 0) rfl ?_
  refine x_lcmp_ge (pc := 2) (tgt := 12) dX12_areOpposite_2 dX12_areOpposite_3 rfl (fun hc => ?_) (fun hc => ?_)
  · replace hf := p_ps hf hc
    refine s_lload_n (pc := 12) dX12_areOpposite_12 0 rfl rfl ?_
    refine s_lconst (pc := 13) dX12_areOpposite_13 (v := 0) rfl ?_
    refine x_lcmp_le (pc := 14) (tgt := 28) dX12_areOpposite_14 dX12_areOpposite_15 rfl (fun hc => ?_) (fun hc => ?_)
    · replace hf := p_ps hf hc
      refine s_iconst (pc := 28) dX12_areOpposite_28 (v := nI 0) rfl ?_
      cases hf
      exact s_ireturn (pc := 29) dX12_areOpposite_29 rfl rfl ⟨rfl, rfl, rfl, rfl, rfl⟩
    · replace hf := p_ng hf hc
      refine s_lload_n (pc := 18) dX12_areOpposite_18 1 rfl rfl ?_
      refine s_lconst (pc := 19) dX12_areOpposite_19 (v := 0) rfl ?_
      refine x_lcmp_ge (pc := 20) (tgt := 28) dX12_areOpposite_20 dX12_areOpposite_21 rfl (fun hc => ?_) (fun hc => ?_)
      · replace hf := p_ps hf hc
        refine s_iconst (pc := 28) dX12_areOpposite_28 (v := nI 0) rfl ?_
        cases hf
        exact s_ireturn (pc := 29) dX12_areOpposite_29 rfl rfl ⟨rfl, rfl, rfl, rfl, rfl⟩
      · replace hf := p_ng hf hc
        refine s_iconst (pc := 24) dX12_areOpposite_24 (v := nI 1) rfl ?_
        refine s_goto (pc := 25) (tgt := 29) dX12_areOpposite_25 rfl ?_
        cases hf
        exact s_ireturn (pc := 29) dX12_areOpposite_29 rfl rfl ⟨rfl, rfl, rfl, rfl, rfl⟩
  · replace hf := p_ng hf hc
    refine s_lload_n (pc := 6) dX12_areOpposite_6 1 rfl rfl ?_
    refine s_lconst (pc := 7) dX12_areOpposite_7 (v := 0) rfl ?_
    refine x_lcmp_gt (pc := 8) (tgt := 24) dX12_areOpposite_8 dX12_areOpposite_9 rfl (fun hc => ?_) (fun hc => ?_)
    · replace hf := p_ps hf hc
      refine s_iconst (pc := 24) dX12_areOpposite_24 (v := nI 1) rfl ?_
      refine s_goto (pc := 25) (tgt := 29) dX12_areOpposite_25 rfl ?_
      cases hf
      exact s_ireturn (pc := 29) dX12_areOpposite_29 rfl rfl ⟨rfl, rfl, rfl, rfl, rfl⟩
    · replace hf := p_ng hf hc
      refine s_lload_n (pc := 12) dX12_areOpposite_12 0 rfl rfl ?_
      refine s_lconst (pc := 13) dX12_areOpposite_13 (v := 0) rfl ?_
      refine x_lcmp_le (pc := 14) (tgt := 28) dX12_areOpposite_14 dX12_areOpposite_15 rfl (fun hc => ?_) (fun hc => ?_)
      · replace hf := p_ps hf hc
        refine s_iconst (pc := 28) dX12_areOpposite_28 (v := nI 0) rfl ?_
        cases hf
        exact s_ireturn (pc := 29) dX12_areOpposite_29 rfl rfl ⟨rfl, rfl, rfl, rfl, rfl⟩
      · replace hf := p_ng hf hc
        refine s_lload_n (pc := 18) dX12_areOpposite_18 1 rfl rfl ?_
        refine s_lconst (pc := 19) dX12_areOpposite_19 (v := 0) rfl ?_
        refine x_lcmp_ge (pc := 20) (tgt := 28) dX12_areOpposite_20 dX12_areOpposite_21 rfl (fun hc => ?_) (fun hc => ?_)
        · replace hf := p_ps hf hc
          refine s_iconst (pc := 28) dX12_areOpposite_28 (v := nI 0) rfl ?_
          cases hf
          exact s_ireturn (pc := 29) dX12_areOpposite_29 rfl rfl ⟨rfl, rfl, rfl, rfl, rfl⟩
        · replace hf := p_ng hf hc
          refine s_iconst (pc := 24) dX12_areOpposite_24 (v := nI 1) rfl ?_
          refine s_goto (pc := 25) (tgt := 29) dX12_areOpposite_25 rfl ?_
          cases hf
          exact s_ireturn (pc := 29) dX12_areOpposite_29 rfl rfl ⟨rfl, rfl, rfl, rfl, rfl⟩
def f_X12_areAlike (x0 : Int64) (x2 : Int64) : Option Int32 :=
  (if 0 ≤ x0 then
    (if x0 ≤ 0 then
      some (nI 0)
    else
      (if x2 ≤ 0 then
        some (nI 0)
      else
        some (nI 1)))
  else
    (if x2 < 0 then
      some (nI 1)
    else
      (if x0 ≤ 0 then
        some (nI 0)
      else
        (if x2 ≤ 0 then
          some (nI 0)
        else
          some (nI 1)))))
theorem c_X12_areAlike {G : pG} {d : Nat} {N : pN} {I : pI} {L : pL} {P : pR} {x0 : Int64} {x2 : Int64} {qq : Int32} (hd : 0 ≤ d) (hW : WT N P) (hf : f_X12_areAlike x0 x2 = some qq) : MT G mX12_areAlike d 0 0 [.long x0, .long x2] N I L P (p_R (some (.int qq)) N I L P) := by
  refine MT.of rfl (Nat.le_of_ble_eq_true rfl) ?_
  show SW G mX12_areAlike (p_rm d 0 0) 0 0 0 0 (p_R (some (.int qq)) N I L P) 0 [(0, .long x0), (2, .long x2)] [] N I L P
  unfold f_X12_areAlike at hf
  refine s_lload_n (pc := 0) dX12_areAlike_0 0 rfl rfl ?_
  refine s_lconst (pc := 1) dX12_areAlike_1 (v := 0) rfl ?_
  refine x_lcmp_ge (pc := 2) (tgt := 12) dX12_areAlike_2 dX12_areAlike_3 rfl (fun hc => ?_) (fun hc => ?_)
  · replace hf := p_ps hf hc
    refine s_lload_n (pc := 12) dX12_areAlike_12 0 rfl rfl ?_
    refine s_lconst (pc := 13) dX12_areAlike_13 (v := 0) rfl ?_
    refine x_lcmp_le (pc := 14) (tgt := 28) dX12_areAlike_14 dX12_areAlike_15 rfl (fun hc => ?_) (fun hc => ?_)
    · replace hf := p_ps hf hc
      refine s_iconst (pc := 28) dX12_areAlike_28 (v := nI 0) rfl ?_
      cases hf
      exact s_ireturn (pc := 29) dX12_areAlike_29 rfl rfl ⟨rfl, rfl, rfl, rfl, rfl⟩
    · replace hf := p_ng hf hc
      refine s_lload_n (pc := 18) dX12_areAlike_18 1 rfl rfl ?_
      refine s_lconst (pc := 19) dX12_areAlike_19 (v := 0) rfl ?_
      refine x_lcmp_le (pc := 20) (tgt := 28) dX12_areAlike_20 dX12_areAlike_21 rfl (fun hc => ?_) (fun hc => ?_)
      · replace hf := p_ps hf hc
        refine s_iconst (pc := 28) dX12_areAlike_28 (v := nI 0) rfl ?_
        cases hf
        exact s_ireturn (pc := 29) dX12_areAlike_29 rfl rfl ⟨rfl, rfl, rfl, rfl, rfl⟩
      · replace hf := p_ng hf hc
        refine s_iconst (pc := 24) dX12_areAlike_24 (v := nI 1) rfl ?_
        refine s_goto (pc := 25) (tgt := 29) dX12_areAlike_25 rfl ?_
        cases hf
        exact s_ireturn (pc := 29) dX12_areAlike_29 rfl rfl ⟨rfl, rfl, rfl, rfl, rfl⟩
  · replace hf := p_ng hf hc
    refine s_lload_n (pc := 6) dX12_areAlike_6 1 rfl rfl ?_
    refine s_lconst (pc := 7) dX12_areAlike_7 (v := 0) rfl ?_
    refine x_lcmp_lt (pc := 8) (tgt := 24) dX12_areAlike_8 dX12_areAlike_9 rfl (fun hc => ?_) (fun hc => ?_)
    · replace hf := p_ps hf hc
      refine s_iconst (pc := 24) dX12_areAlike_24 (v := nI 1) rfl ?_
      refine s_goto (pc := 25) (tgt := 29) dX12_areAlike_25 rfl ?_
      cases hf
      exact s_ireturn (pc := 29) dX12_areAlike_29 rfl rfl ⟨rfl, rfl, rfl, rfl, rfl⟩
    · replace hf := p_ng hf hc
      refine s_lload_n (pc := 12) dX12_areAlike_12 0 rfl rfl ?_
      refine s_lconst (pc := 13) dX12_areAlike_13 (v := 0) rfl ?_
      refine x_lcmp_le (pc := 14) (tgt := 28) dX12_areAlike_14 dX12_areAlike_15 rfl (fun hc => ?_) (fun hc => ?_)
      · replace hf := p_ps hf hc
        refine s_iconst (pc := 28) dX12_areAlike_28 (v := nI 0) rfl ?_
        cases hf
        exact s_ireturn (pc := 29) dX12_areAlike_29 rfl rfl ⟨rfl, rfl, rfl, rfl, rfl⟩
      · replace hf := p_ng hf hc
        refine s_lload_n (pc := 18) dX12_areAlike_18 1 rfl rfl ?_
        refine s_lconst (pc := 19) dX12_areAlike_19 (v := 0) rfl ?_
        refine x_lcmp_le (pc := 20) (tgt := 28) dX12_areAlike_20 dX12_areAlike_21 rfl (fun hc => ?_) (fun hc => ?_)
        · replace hf := p_ps hf hc
          refine s_iconst (pc := 28) dX12_areAlike_28 (v := nI 0) rfl ?_
          cases hf
          exact s_ireturn (pc := 29) dX12_areAlike_29 rfl rfl ⟨rfl, rfl, rfl, rfl, rfl⟩
        · replace hf := p_ng hf hc
          refine s_iconst (pc := 24) dX12_areAlike_24 (v := nI 1) rfl ?_
          refine s_goto (pc := 25) (tgt := 29) dX12_areAlike_25 rfl ?_
          cases hf
          exact s_ireturn (pc := 29) dX12_areAlike_29 rfl rfl ⟨rfl, rfl, rfl, rfl, rfl⟩
def f_X12_crosses (N : pN) (I : pI) (L : pL) (P : pR) (a0 : Nat) (x1 : Int32) (x2 : Int64) (x4 : Int64) (x6 : Int64) (x8 : Int64) (x10 : Int64) (x12 : Int64) : Option (Int32 × pL) :=
  Option.bind (f_X12_side N I P a0 x1 x2 x4 x6) fun q1 =>
  Option.bind (f_X12_size q1) fun q3 =>
  Option.bind (f_X12_side N I P a0 x1 x8 x10 x12) fun q5 =>
  Option.bind (f_X12_size q5) fun q7 =>
  p_let (p_u L a0 2 ((x2 * q7) + (x8 * q3))) fun L9 =>
  p_let (p_u L9 a0 3 ((x4 * q7) + (x10 * q3))) fun L11 =>
  p_let (p_u L11 a0 4 ((x6 * q7) + (x12 * q3))) fun L13 =>
  Option.bind (f_X12_isUpright N I P a0 x1) fun q15 =>
  (if q15 = 0 then
    Option.bind (f_X12_wallOf N I P a0 x1 (nI 0)) fun q17 =>
    (if (L13 a0 2) < ((Int32.toInt64 q17) * (L13 a0 4)) then
      some (nI 0, L13)
    else
      Option.bind (f_X12_wallOf N I P a0 x1 (nI 2)) fun q19 =>
      (if ((Int32.toInt64 q19) * (L13 a0 4)) < (L13 a0 2) then
        some (nI 0, L13)
      else
        some (nI 1, L13)))
  else
    Option.bind (f_X12_wallOf N I P a0 x1 (nI 1)) fun q21 =>
    (if (L13 a0 3) < ((Int32.toInt64 q21) * (L13 a0 4)) then
      some (nI 0, L13)
    else
      Option.bind (f_X12_wallOf N I P a0 x1 (nI 3)) fun q23 =>
      (if ((Int32.toInt64 q23) * (L13 a0 4)) < (L13 a0 3) then
        some (nI 0, L13)
      else
        some (nI 1, L13))))
theorem c_X12_crosses {G : pG} {d : Nat} {N : pN} {I : pI} {L : pL} {P : pR} {a0 : Nat} {x1 : Int32} {x2 : Int64} {x4 : Int64} {x6 : Int64} {x8 : Int64} {x10 : Int64} {x12 : Int64} {qq : Int32 × pL} (hd : 3 ≤ d) (hW : WT N P) (ha0 : p_tp N a0 15) (hf : f_X12_crosses N I L P a0 x1 x2 x4 x6 x8 x10 x12 = some qq) : MT G mX12_crosses d 0 0 [.ref a0, .int x1, .long x2, .long x4, .long x6, .long x8, .long x10, .long x12] N I L P (p_R (some (.int qq.1)) N I qq.2 P) := by
  refine MT.of rfl (Nat.le_of_ble_eq_true rfl) ?_
  show SW G mX12_crosses (p_rm d 0 0) 0 0 0 0 (p_R (some (.int qq.1)) N I qq.2 P) 0 [(0, .ref a0), (1, .int x1), (2, .long x2), (4, .long x4), (6, .long x6), (8, .long x8), (10, .long x10), (12, .long x12)] [] N I L P
  unfold f_X12_crosses at hf
  refine s_aload_n (pc := 0) dX12_crosses_0 0 rfl rfl ?_
  refine s_iload_n (pc := 1) dX12_crosses_1 1 rfl rfl ?_
  refine s_lload_n (pc := 2) dX12_crosses_2 2 rfl rfl ?_
  refine s_lload (pc := 3) dX12_crosses_3 3 rfl ?_
  refine s_lload (pc := 5) dX12_crosses_5 4 rfl ?_
  obtain ⟨q1, h2, hf⟩ := p_bd hf
  refine y_callV1 (pc := 7) dX12_crosses_7 (c_X12_side (p_dd hd (by decide)) hW ha0 h2) mk_X12_side mv_X12_side ml_X12_90 rfl rfl (Nat.le_of_ble_eq_true rfl) ha0 rfl (p_d1 hd (by decide)) (Nat.le_of_ble_eq_true rfl) ?_
  obtain ⟨q3, h4, hf⟩ := p_bd hf
  refine y_callS1 (pc := 10) dX12_crosses_10 (c_X12_size (p_dd hd (by decide)) hW  h4) mk_X12_size mz_X12_size ml_X12_94 rfl rfl (Nat.le_of_ble_eq_true rfl) (p_d1 hd (by decide)) (Nat.le_of_ble_eq_true rfl) ?_
  refine s_lstore (pc := 13) (lo' := [(14, .long q3), (0, .ref a0), (1, .int x1), (2, .long x2), (4, .long x4), (6, .long x6), (8, .long x8), (10, .long x10), (12, .long x12)]) dX12_crosses_13 (Nat.le_of_ble_eq_true rfl) rfl ?_
  refine s_aload_n (pc := 15) dX12_crosses_15 1 rfl rfl ?_
  refine s_iload_n (pc := 16) dX12_crosses_16 2 rfl rfl ?_
  refine s_lload (pc := 17) dX12_crosses_17 6 rfl ?_
  refine s_lload (pc := 19) dX12_crosses_19 7 rfl ?_
  refine s_lload (pc := 21) dX12_crosses_21 8 rfl ?_
  obtain ⟨q5, h6, hf⟩ := p_bd hf
  refine y_callV1 (pc := 23) dX12_crosses_23 (c_X12_side (p_dd hd (by decide)) hW ha0 h6) mk_X12_side mv_X12_side ml_X12_90 rfl rfl (Nat.le_of_ble_eq_true rfl) ha0 rfl (p_d1 hd (by decide)) (Nat.le_of_ble_eq_true rfl) ?_
  obtain ⟨q7, h8, hf⟩ := p_bd hf
  refine y_callS1 (pc := 26) dX12_crosses_26 (c_X12_size (p_dd hd (by decide)) hW  h8) mk_X12_size mz_X12_size ml_X12_94 rfl rfl (Nat.le_of_ble_eq_true rfl) (p_d1 hd (by decide)) (Nat.le_of_ble_eq_true rfl) ?_
  refine s_lstore (pc := 29) (lo' := [(16, .long q7), (14, .long q3), (0, .ref a0), (1, .int x1), (2, .long x2), (4, .long x4), (6, .long x6), (8, .long x8), (10, .long x10), (12, .long x12)]) dX12_crosses_29 (Nat.le_of_ble_eq_true rfl) rfl ?_
  refine s_aload_n (pc := 31) dX12_crosses_31 2 rfl rfl ?_
  refine s_lload_n (pc := 32) dX12_crosses_32 4 rfl rfl ?_
  refine s_lload (pc := 33) dX12_crosses_33 0 rfl ?_
  refine s_lmul (pc := 35) dX12_crosses_35 ?_
  refine s_lload (pc := 36) dX12_crosses_36 7 rfl ?_
  refine s_lload (pc := 38) dX12_crosses_38 1 rfl ?_
  refine s_lmul (pc := 40) dX12_crosses_40 ?_
  refine s_ladd (pc := 41) dX12_crosses_41 ?_
  refine x_putL (pc := 42) dX12_crosses_42 fl_X12_98 (Or.inl rfl) rfl ha0 ?_
  refine s_nmL (fun L9 e10 => ?_)
  replace hf := p_lx hf e10
  refine s_aload_n (pc := 45) dX12_crosses_45 2 rfl rfl ?_
  refine s_lload (pc := 46) dX12_crosses_46 5 rfl ?_
  refine s_lload (pc := 48) dX12_crosses_48 0 rfl ?_
  refine s_lmul (pc := 50) dX12_crosses_50 ?_
  refine s_lload (pc := 51) dX12_crosses_51 8 rfl ?_
  refine s_lload (pc := 53) dX12_crosses_53 1 rfl ?_
  refine s_lmul (pc := 55) dX12_crosses_55 ?_
  refine s_ladd (pc := 56) dX12_crosses_56 ?_
  refine x_putL (pc := 57) dX12_crosses_57 fl_X12_102 (Or.inl rfl) rfl ha0 ?_
  refine s_nmL (fun L11 e12 => ?_)
  replace hf := p_lx hf e12
  refine s_aload_n (pc := 60) dX12_crosses_60 2 rfl rfl ?_
  refine s_lload (pc := 61) dX12_crosses_61 6 rfl ?_
  refine s_lload (pc := 63) dX12_crosses_63 0 rfl ?_
  refine s_lmul (pc := 65) dX12_crosses_65 ?_
  refine s_lload (pc := 66) dX12_crosses_66 9 rfl ?_
  refine s_lload (pc := 68) dX12_crosses_68 1 rfl ?_
  refine s_lmul (pc := 70) dX12_crosses_70 ?_
  refine s_ladd (pc := 71) dX12_crosses_71 ?_
  refine x_putL (pc := 72) dX12_crosses_72 fl_X12_105 (Or.inl rfl) rfl ha0 ?_
  refine s_nmL (fun L13 e14 => ?_)
  replace hf := p_lx hf e14
  refine s_aload_n (pc := 75) dX12_crosses_75 2 rfl rfl ?_
  refine s_iload_n (pc := 76) dX12_crosses_76 3 rfl rfl ?_
  obtain ⟨q15, h16, hf⟩ := p_bd hf
  refine y_callV1 (pc := 77) dX12_crosses_77 (c_X12_isUpright (p_dd hd (by decide)) hW ha0 h16) mk_X12_isUpright mv_X12_isUpright ml_X12_86 rfl rfl (Nat.le_of_ble_eq_true rfl) ha0 rfl (p_d1 hd (by decide)) (Nat.le_of_ble_eq_true rfl) ?_
  refine s_if_eq (pc := 80) (tgt := 131) dX12_crosses_80 rfl (fun hc => ?_) (fun hc => ?_)
  · replace hf := p_ps hf hc
    refine s_aload_n (pc := 131) dX12_crosses_131 2 rfl rfl ?_
    refine s_iload_n (pc := 132) dX12_crosses_132 3 rfl rfl ?_
    refine s_iconst (pc := 133) dX12_crosses_133 (v := nI 0) rfl ?_
    obtain ⟨q17, h18, hf⟩ := p_bd hf
    refine y_callV1 (pc := 134) dX12_crosses_134 (c_X12_wallOf (p_dd hd (by decide)) hW ha0 h18) mk_X12_wallOf mv_X12_wallOf ml_X12_72 rfl rfl (Nat.le_of_ble_eq_true rfl) ha0 rfl (p_d1 hd (by decide)) (Nat.le_of_ble_eq_true rfl) ?_
    refine s_i2l (pc := 137) dX12_crosses_137 ?_
    refine s_aload_n (pc := 138) dX12_crosses_138 2 rfl rfl ?_
    refine x_getL (pc := 139) dX12_crosses_139 fl_X12_105 rfl ha0 ?_
    refine s_lmul (pc := 142) dX12_crosses_142 ?_
    refine s_aload_n (pc := 143) dX12_crosses_143 2 rfl rfl ?_
    refine x_getL (pc := 144) dX12_crosses_144 fl_X12_98 rfl ha0 ?_
    refine x_lcmp_gt (pc := 147) (tgt := 175) dX12_crosses_147 dX12_crosses_148 rfl (fun hc => ?_) (fun hc => ?_)
    · replace hf := p_ps hf hc
      refine s_iconst (pc := 175) dX12_crosses_175 (v := nI 0) rfl ?_
      cases hf
      exact s_ireturn (pc := 176) dX12_crosses_176 rfl rfl ⟨rfl, rfl, rfl, rfl, rfl⟩
    · replace hf := p_ng hf hc
      refine s_aload_n (pc := 151) dX12_crosses_151 2 rfl rfl ?_
      refine x_getL (pc := 152) dX12_crosses_152 fl_X12_98 rfl ha0 ?_
      refine s_aload_n (pc := 155) dX12_crosses_155 2 rfl rfl ?_
      refine s_iload_n (pc := 156) dX12_crosses_156 3 rfl rfl ?_
      refine s_iconst (pc := 157) dX12_crosses_157 (v := nI 2) rfl ?_
      obtain ⟨q19, h20, hf⟩ := p_bd hf
      refine y_callV1 (pc := 158) dX12_crosses_158 (c_X12_wallOf (p_dd hd (by decide)) hW ha0 h20) mk_X12_wallOf mv_X12_wallOf ml_X12_72 rfl rfl (Nat.le_of_ble_eq_true rfl) ha0 rfl (p_d1 hd (by decide)) (Nat.le_of_ble_eq_true rfl) ?_
      refine s_i2l (pc := 161) dX12_crosses_161 ?_
      refine s_aload_n (pc := 162) dX12_crosses_162 2 rfl rfl ?_
      refine x_getL (pc := 163) dX12_crosses_163 fl_X12_105 rfl ha0 ?_
      refine s_lmul (pc := 166) dX12_crosses_166 ?_
      refine x_lcmp_gt (pc := 167) (tgt := 175) dX12_crosses_167 dX12_crosses_168 rfl (fun hc => ?_) (fun hc => ?_)
      · replace hf := p_ps hf hc
        refine s_iconst (pc := 175) dX12_crosses_175 (v := nI 0) rfl ?_
        cases hf
        exact s_ireturn (pc := 176) dX12_crosses_176 rfl rfl ⟨rfl, rfl, rfl, rfl, rfl⟩
      · replace hf := p_ng hf hc
        refine s_iconst (pc := 171) dX12_crosses_171 (v := nI 1) rfl ?_
        refine s_goto (pc := 172) (tgt := 176) dX12_crosses_172 rfl ?_
        cases hf
        exact s_ireturn (pc := 176) dX12_crosses_176 rfl rfl ⟨rfl, rfl, rfl, rfl, rfl⟩
  · replace hf := p_ng hf hc
    refine s_aload_n (pc := 83) dX12_crosses_83 2 rfl rfl ?_
    refine s_iload_n (pc := 84) dX12_crosses_84 3 rfl rfl ?_
    refine s_iconst (pc := 85) dX12_crosses_85 (v := nI 1) rfl ?_
    obtain ⟨q21, h22, hf⟩ := p_bd hf
    refine y_callV1 (pc := 86) dX12_crosses_86 (c_X12_wallOf (p_dd hd (by decide)) hW ha0 h22) mk_X12_wallOf mv_X12_wallOf ml_X12_72 rfl rfl (Nat.le_of_ble_eq_true rfl) ha0 rfl (p_d1 hd (by decide)) (Nat.le_of_ble_eq_true rfl) ?_
    refine s_i2l (pc := 89) dX12_crosses_89 ?_
    refine s_aload_n (pc := 90) dX12_crosses_90 2 rfl rfl ?_
    refine x_getL (pc := 91) dX12_crosses_91 fl_X12_105 rfl ha0 ?_
    refine s_lmul (pc := 94) dX12_crosses_94 ?_
    refine s_aload_n (pc := 95) dX12_crosses_95 2 rfl rfl ?_
    refine x_getL (pc := 96) dX12_crosses_96 fl_X12_102 rfl ha0 ?_
    refine x_lcmp_gt (pc := 99) (tgt := 127) dX12_crosses_99 dX12_crosses_100 rfl (fun hc => ?_) (fun hc => ?_)
    · replace hf := p_ps hf hc
      refine s_iconst (pc := 127) dX12_crosses_127 (v := nI 0) rfl ?_
      refine s_goto (pc := 128) (tgt := 176) dX12_crosses_128 rfl ?_
      cases hf
      exact s_ireturn (pc := 176) dX12_crosses_176 rfl rfl ⟨rfl, rfl, rfl, rfl, rfl⟩
    · replace hf := p_ng hf hc
      refine s_aload_n (pc := 103) dX12_crosses_103 2 rfl rfl ?_
      refine x_getL (pc := 104) dX12_crosses_104 fl_X12_102 rfl ha0 ?_
      refine s_aload_n (pc := 107) dX12_crosses_107 2 rfl rfl ?_
      refine s_iload_n (pc := 108) dX12_crosses_108 3 rfl rfl ?_
      refine s_iconst (pc := 109) dX12_crosses_109 (v := nI 3) rfl ?_
      obtain ⟨q23, h24, hf⟩ := p_bd hf
      refine y_callV1 (pc := 110) dX12_crosses_110 (c_X12_wallOf (p_dd hd (by decide)) hW ha0 h24) mk_X12_wallOf mv_X12_wallOf ml_X12_72 rfl rfl (Nat.le_of_ble_eq_true rfl) ha0 rfl (p_d1 hd (by decide)) (Nat.le_of_ble_eq_true rfl) ?_
      refine s_i2l (pc := 113) dX12_crosses_113 ?_
      refine s_aload_n (pc := 114) dX12_crosses_114 2 rfl rfl ?_
      refine x_getL (pc := 115) dX12_crosses_115 fl_X12_105 rfl ha0 ?_
      refine s_lmul (pc := 118) dX12_crosses_118 ?_
      refine x_lcmp_gt (pc := 119) (tgt := 127) dX12_crosses_119 dX12_crosses_120 rfl (fun hc => ?_) (fun hc => ?_)
      · replace hf := p_ps hf hc
        refine s_iconst (pc := 127) dX12_crosses_127 (v := nI 0) rfl ?_
        refine s_goto (pc := 128) (tgt := 176) dX12_crosses_128 rfl ?_
        cases hf
        exact s_ireturn (pc := 176) dX12_crosses_176 rfl rfl ⟨rfl, rfl, rfl, rfl, rfl⟩
      · replace hf := p_ng hf hc
        refine s_iconst (pc := 123) dX12_crosses_123 (v := nI 1) rfl ?_
        refine s_goto (pc := 124) (tgt := 176) dX12_crosses_124 rfl ?_
        cases hf
        exact s_ireturn (pc := 176) dX12_crosses_176 rfl rfl ⟨rfl, rfl, rfl, rfl, rfl⟩
def f_X12_weakens (L : pL) (a0 : Nat) (x1 : Int32) : Option pL :=
  p_let (p_u L a0 5 (((L a0 5) * (Int32.toInt64 x1)) / 100)) fun L1 =>
  some L1
theorem c_X12_weakens {G : pG} {d : Nat} {N : pN} {I : pI} {L : pL} {P : pR} {a0 : Nat} {x1 : Int32} {qq : pL} (hd : 0 ≤ d) (hW : WT N P) (ha0 : p_tp N a0 15) (hf : f_X12_weakens L a0 x1 = some qq) : MT G mX12_weakens d 0 0 [.ref a0, .int x1] N I L P (p_R none N I qq P) := by
  refine MT.of rfl (Nat.le_of_ble_eq_true rfl) ?_
  show SW G mX12_weakens (p_rm d 0 0) 0 0 0 0 (p_R none N I qq P) 0 [(0, .ref a0), (1, .int x1)] [] N I L P
  unfold f_X12_weakens at hf
  refine s_aload_n (pc := 0) dX12_weakens_0 0 rfl rfl ?_
  refine s_aload_n (pc := 1) dX12_weakens_1 0 rfl rfl ?_
  refine x_getL (pc := 2) dX12_weakens_2 fl_X12_108 rfl ha0 ?_
  refine s_iload_n (pc := 5) dX12_weakens_5 1 rfl rfl ?_
  refine s_i2l (pc := 6) dX12_weakens_6 ?_
  refine s_lmul (pc := 7) dX12_weakens_7 ?_
  refine s_ldc2 (pc := 8) kl_X12_111 dX12_weakens_8 ?_
  refine s_ldiv (pc := 11) dX12_weakens_11 (by decide) ?_
  refine x_putL (pc := 12) dX12_weakens_12 fl_X12_108 (Or.inl rfl) rfl ha0 ?_
  refine s_nmL (fun L1 e2 => ?_)
  replace hf := p_lx hf e2
  cases hf
  exact s_return (pc := 15) dX12_weakens_15 rfl ⟨rfl, rfl, rfl, rfl, rfl⟩
def B_X12_leg_3 (N : pN) (P : pR) (a0 : Nat) (x1 : Int64) (x3 : Int64) (x5 : Int64) (x7 : Int64) (x9 : Int64) (x11 : Int64) (rec0 : (Int32 × pI × pL) → Option (pI × pL)) (s0 : Int32 × pI × pL) : Option (pI × pL) :=
  Option.bind (P a0 0) fun q3 =>
  p_ck (p_ib N q3 (nI 0)) <|
  (if (s0.2.1 q3 (Int32.toNatClampNeg (nI 0))) ≤ s0.1 then
    some (s0.2.1, s0.2.2)
  else
    Option.bind (f_X12_seesWall N s0.2.1 P a0 s0.1) fun q7 =>
    Option.bind (α := pI × pL) ((if q7 = 0 then
      some (s0.2.1, s0.2.2)
    else
      Option.bind (f_X12_side N s0.2.1 P a0 s0.1 x1 x3 x5) fun q11 =>
      Option.bind (f_X12_side N s0.2.1 P a0 s0.1 x7 x9 x11) fun q13 =>
      Option.bind (f_X12_areOpposite q11 q13) fun q15 =>
      (if q15 = 0 then
        some (s0.2.1, s0.2.2)
      else
        Option.bind (f_X12_crosses N s0.2.1 s0.2.2 P a0 s0.1 x1 x3 x5 x7 x9 x11) fun q17 =>
        (if q17.1 = 0 then
          some (s0.2.1, q17.2)
        else
          Option.bind (α := Int32) ((if (s0.2.1 a0 6) = 0 then
            Option.bind (P a0 0) fun q21 =>
            Option.bind (f_X12_wallOf N s0.2.1 P a0 s0.1 (nI 4)) fun q24 =>
            p_ck (p_ib N q21 ((nI 23) + q24)) <|
            (if (s0.2.1 q21 (Int32.toNatClampNeg ((nI 23) + q24))) = 0 then
              some (nI 1)
            else
              some (nI 0))
          else
            some (nI 1))) fun t19 =>
          p_ck (decide (t19 = 0 ∨ t19 = 1)) <|
          p_let (p_u s0.2.1 a0 6 t19) fun I28 =>
          Option.bind (P a0 0) fun q30 =>
          Option.bind (f_X12_wallOf N I28 P a0 s0.1 (nI 4)) fun q33 =>
          p_ck (p_ib N q30 ((nI 23) + q33)) <|
          Option.bind (f_X12_weakens q17.2 a0 (I28 q30 (Int32.toNatClampNeg ((nI 23) + q33)))) fun q36 =>
          some (I28, q36))))) fun t9 =>
    rec0 (s0.1 + nI 1, t9.1, t9.2))
def f_X12_leg (n : Nat) (N : pN) (I : pI) (L : pL) (P : pR) (a0 : Nat) (x1 : Int64) (x3 : Int64) (x5 : Int64) (x7 : Int64) (x9 : Int64) (x11 : Int64) : Option (pI × pL) :=
  Option.bind (p_it (B_X12_leg_3 N P a0 x1 x3 x5 x7 x9 x11) n (nI 0, I, L)) fun t1 =>
  some (t1.1, t1.2)
theorem c_X12_leg {G : pG} {d : Nat} {n : Nat} {N : pN} {I : pI} {L : pL} {P : pR} {a0 : Nat} {x1 : Int64} {x3 : Int64} {x5 : Int64} {x7 : Int64} {x9 : Int64} {x11 : Int64} {qq : pI × pL} (hd : 4 ≤ d) (hW : WT N P) (ha0 : p_tp N a0 15) (hf : f_X12_leg n N I L P a0 x1 x3 x5 x7 x9 x11 = some qq) : MT G mX12_leg d 0 0 [.ref a0, .long x1, .long x3, .long x5, .long x7, .long x9, .long x11] N I L P (p_R none N qq.1 qq.2 P) := by
  refine MT.of rfl (Nat.le_of_ble_eq_true rfl) ?_
  show SW G mX12_leg (p_rm d 0 0) 0 0 0 0 (p_R none N qq.1 qq.2 P) 0 [(0, .ref a0), (1, .long x1), (3, .long x3), (5, .long x5), (7, .long x7), (9, .long x9), (11, .long x11)] [] N I L P
  unfold f_X12_leg at hf
  refine s_iconst (pc := 0) dX12_leg_0 (v := nI 0) rfl ?_
  refine s_istore (pc := 1) (lo' := [(13, .int (nI 0)), (0, .ref a0), (1, .long x1), (3, .long x3), (5, .long x5), (7, .long x7), (9, .long x9), (11, .long x11)]) dX12_leg_1 (Nat.le_of_ble_eq_true rfl) rfl ?_
  obtain ⟨t1, hg, hf⟩ := p_bd hf
  have k2 : SW G mX12_leg (p_rm d 0 0) 0 0 0 0 (p_R none N qq.1 qq.2 P) 132 [] [] N t1.1 t1.2 P := by
    cases hf
    exact s_return (pc := 132) dX12_leg_132 rfl ⟨rfl, rfl, rfl, rfl, rfl⟩
  replace hf := hg
  have k38 : ∀ (k : Nat) (s0 : Int32 × pI × pL), p_it (B_X12_leg_3 N P a0 x1 x3 x5 x7 x9 x11) k s0 = some t1 → (SW G mX12_leg (p_rm d 0 0) 0 0 0 0 (p_R none N qq.1 qq.2 P) 3 [(0, .ref a0), (1, .long x1), (3, .long x3), (5, .long x5), (7, .long x7), (9, .long x9), (11, .long x11), (13, .int s0.1)] [] N s0.2.1 s0.2.2 P) := p_it_ind (C := fun (s0 : Int32 × pI × pL) => SW G mX12_leg (p_rm d 0 0) 0 0 0 0 (p_R none N qq.1 qq.2 P) 3 [(0, .ref a0), (1, .long x1), (3, .long x3), (5, .long x5), (7, .long x7), (9, .long x9), (11, .long x11), (13, .int s0.1)] [] N s0.2.1 s0.2.2 P) (by
    intro rec0 hrec0 s0 hf
    unfold B_X12_leg_3 at hf
    refine s_iload (pc := 3) dX12_leg_3 7 rfl ?_
    refine s_aload_n (pc := 5) dX12_leg_5 0 rfl rfl ?_
    obtain ⟨q39, h40, hf⟩ := p_bd hf
    have t41 : p_tp N q39 0 := WT.get hW ha0 h40
    refine x_getR (pc := 6) dX12_leg_6 fl_X12_7 rfl ha0 h40 ?_
    refine s_iconst (pc := 9) dX12_leg_9 (v := nI 0) rfl ?_
    obtain ⟨c42, hf⟩ := p_ckx hf
    refine x_iald (pc := 10) dX12_leg_10 t41 c42 ?_
    refine s_icmp_ge (pc := 11) (tgt := 132) dX12_leg_11 rfl (fun hc => ?_) (fun hc => ?_)
    · replace hf := p_ps hf hc
      cases hf
      exact s_lo [] rfl (k2)
    · replace hf := p_ng hf hc
      refine s_aload_n (pc := 14) dX12_leg_14 0 rfl rfl ?_
      refine s_iload (pc := 15) dX12_leg_15 7 rfl ?_
      obtain ⟨q43, h44, hf⟩ := p_bd hf
      refine y_callV1 (pc := 17) dX12_leg_17 (c_X12_seesWall (p_dd hd (by decide)) hW ha0 h44) mk_X12_seesWall mv_X12_seesWall ml_X12_113 rfl rfl (Nat.le_of_ble_eq_true rfl) ha0 rfl (p_d1 hd (by decide)) (Nat.le_of_ble_eq_true rfl) ?_
      obtain ⟨t45, hg, hf⟩ := p_bd hf
      have k46 : SW G mX12_leg (p_rm d 0 0) 0 0 0 0 (p_R none N qq.1 qq.2 P) 126 [(0, .ref a0), (1, .long x1), (3, .long x3), (5, .long x5), (7, .long x7), (9, .long x9), (11, .long x11), (13, .int s0.1)] [] N t45.1 t45.2 P := by
        refine s_iinc (pc := 126) (lo' := [(13, .int (s0.1 + nI 1)), (0, .ref a0), (1, .long x1), (3, .long x3), (5, .long x5), (7, .long x7), (9, .long x9), (11, .long x11)]) dX12_leg_126 7 rfl (v := s0.1 + nI 1) rfl (Nat.le_of_ble_eq_true rfl) rfl ?_
        refine s_goto (pc := 129) (tgt := 3) dX12_leg_129 rfl ?_
        exact s_lo [1, 2, 3, 4, 5, 6, 7, 0] rfl (hrec0 (s0.1 + nI 1, t45.1, t45.2) hf)
      replace hf := hg
      refine s_if_eq (pc := 20) (tgt := 126) dX12_leg_20 rfl (fun hc => ?_) (fun hc => ?_)
      · replace hf := p_ps hf hc
        cases hf
        exact s_lo [0, 1, 2, 3, 4, 5, 6, 7] rfl (k46)
      · replace hf := p_ng hf hc
        refine s_aload_n (pc := 23) dX12_leg_23 0 rfl rfl ?_
        refine s_iload (pc := 24) dX12_leg_24 7 rfl ?_
        refine s_lload_n (pc := 26) dX12_leg_26 1 rfl rfl ?_
        refine s_lload_n (pc := 27) dX12_leg_27 2 rfl rfl ?_
        refine s_lload (pc := 28) dX12_leg_28 3 rfl ?_
        obtain ⟨q47, h48, hf⟩ := p_bd hf
        refine y_callV1 (pc := 30) dX12_leg_30 (c_X12_side (p_dd hd (by decide)) hW ha0 h48) mk_X12_side mv_X12_side ml_X12_90 rfl rfl (Nat.le_of_ble_eq_true rfl) ha0 rfl (p_d1 hd (by decide)) (Nat.le_of_ble_eq_true rfl) ?_
        refine s_aload_n (pc := 33) dX12_leg_33 0 rfl rfl ?_
        refine s_iload (pc := 34) dX12_leg_34 7 rfl ?_
        refine s_lload (pc := 36) dX12_leg_36 4 rfl ?_
        refine s_lload (pc := 38) dX12_leg_38 5 rfl ?_
        refine s_lload (pc := 40) dX12_leg_40 6 rfl ?_
        obtain ⟨q49, h50, hf⟩ := p_bd hf
        refine y_callV1 (pc := 42) dX12_leg_42 (c_X12_side (p_dd hd (by decide)) hW ha0 h50) mk_X12_side mv_X12_side ml_X12_90 rfl rfl (Nat.le_of_ble_eq_true rfl) ha0 rfl (p_d1 hd (by decide)) (Nat.le_of_ble_eq_true rfl) ?_
        obtain ⟨q51, h52, hf⟩ := p_bd hf
        refine y_callS1 (pc := 45) dX12_leg_45 (c_X12_areOpposite (p_dd hd (by decide)) hW  h52) mk_X12_areOpposite mz_X12_areOpposite ml_X12_116 rfl rfl (Nat.le_of_ble_eq_true rfl) (p_d1 hd (by decide)) (Nat.le_of_ble_eq_true rfl) ?_
        refine s_if_eq (pc := 48) (tgt := 126) dX12_leg_48 rfl (fun hc => ?_) (fun hc => ?_)
        · replace hf := p_ps hf hc
          cases hf
          exact s_lo [0, 1, 2, 3, 4, 5, 6, 7] rfl (k46)
        · replace hf := p_ng hf hc
          refine s_aload_n (pc := 51) dX12_leg_51 0 rfl rfl ?_
          refine s_iload (pc := 52) dX12_leg_52 7 rfl ?_
          refine s_lload_n (pc := 54) dX12_leg_54 1 rfl rfl ?_
          refine s_lload_n (pc := 55) dX12_leg_55 2 rfl rfl ?_
          refine s_lload (pc := 56) dX12_leg_56 3 rfl ?_
          refine s_lload (pc := 58) dX12_leg_58 4 rfl ?_
          refine s_lload (pc := 60) dX12_leg_60 5 rfl ?_
          refine s_lload (pc := 62) dX12_leg_62 6 rfl ?_
          obtain ⟨q53, h54, hf⟩ := p_bd hf
          refine y_callV1 (pc := 64) dX12_leg_64 (c_X12_crosses (p_dd hd (by decide)) hW ha0 h54) mk_X12_crosses mv_X12_crosses ml_X12_120 rfl rfl (Nat.le_of_ble_eq_true rfl) ha0 rfl (p_d1 hd (by decide)) (Nat.le_of_ble_eq_true rfl) ?_
          refine s_if_ne (pc := 67) (tgt := 73) dX12_leg_67 rfl (fun hc => ?_) (fun hc => ?_)
          · replace hf := p_ng hf hc
            refine s_aload_n (pc := 73) dX12_leg_73 0 rfl rfl ?_
            refine s_aload_n (pc := 74) dX12_leg_74 0 rfl rfl ?_
            refine x_getI (pc := 75) dX12_leg_75 fl_X12_124 rfl ha0 ?_
            obtain ⟨t55, hg, hf⟩ := p_bd hf
            have k56 : SW G mX12_leg (p_rm d 0 0) 0 0 0 0 (p_R none N qq.1 qq.2 P) 104 [(0, .ref a0), (1, .long x1), (3, .long x3), (5, .long x5), (7, .long x7), (9, .long x9), (11, .long x11), (13, .int s0.1)] [.int t55, .ref a0] N s0.2.1 q53.2 P := by
              obtain ⟨c63, hf⟩ := p_ckx hf
              refine x_putZ (pc := 104) dX12_leg_104 fl_X12_124 (Or.inl rfl) rfl (of_decide_eq_true c63) ha0 ?_
              refine s_nmI (fun I64 e65 => ?_)
              replace hf := p_lx hf e65
              refine s_aload_n (pc := 107) dX12_leg_107 0 rfl rfl ?_
              refine s_aload_n (pc := 108) dX12_leg_108 0 rfl rfl ?_
              obtain ⟨q66, h67, hf⟩ := p_bd hf
              have t68 : p_tp N q66 0 := WT.get hW ha0 h67
              refine x_getR (pc := 109) dX12_leg_109 fl_X12_7 rfl ha0 h67 ?_
              refine s_bipush (pc := 112) dX12_leg_112 (v := nI 23) rfl ?_
              refine s_aload_n (pc := 114) dX12_leg_114 0 rfl rfl ?_
              refine s_iload (pc := 115) dX12_leg_115 7 rfl ?_
              refine s_iconst (pc := 117) dX12_leg_117 (v := nI 4) rfl ?_
              obtain ⟨q69, h70, hf⟩ := p_bd hf
              refine y_callV1 (pc := 118) dX12_leg_118 (c_X12_wallOf (p_dd hd (by decide)) hW ha0 h70) mk_X12_wallOf mv_X12_wallOf ml_X12_72 rfl rfl (Nat.le_of_ble_eq_true rfl) ha0 rfl (p_d1 hd (by decide)) (Nat.le_of_ble_eq_true rfl) ?_
              refine s_iadd (pc := 121) dX12_leg_121 ?_
              obtain ⟨c71, hf⟩ := p_ckx hf
              refine x_iald (pc := 122) dX12_leg_122 t68 c71 ?_
              obtain ⟨q72, h73, hf⟩ := p_bd hf
              refine y_callV0 (pc := 123) dX12_leg_123 (c_X12_weakens (p_dd hd (by decide)) hW ha0 h73) mk_X12_weakens mv_X12_weakens ml_X12_128 rfl rfl (Nat.le_of_ble_eq_true rfl) ha0 rfl (p_d1 hd (by decide)) (Nat.le_of_ble_eq_true rfl) ?_
              cases hf
              exact s_lo [0, 1, 2, 3, 4, 5, 6, 7] rfl (k46)
            replace hf := hg
            refine s_if_ne (pc := 78) (tgt := 99) dX12_leg_78 rfl (fun hc => ?_) (fun hc => ?_)
            · replace hf := p_ng hf hc
              refine s_iconst (pc := 99) dX12_leg_99 (v := nI 1) rfl ?_
              refine s_goto (pc := 100) (tgt := 104) dX12_leg_100 rfl ?_
              cases hf
              exact s_lo [0, 1, 2, 3, 4, 5, 6, 7] rfl (k56)
            · replace hf := p_ps hf hc
              refine s_aload_n (pc := 81) dX12_leg_81 0 rfl rfl ?_
              obtain ⟨q57, h58, hf⟩ := p_bd hf
              have t59 : p_tp N q57 0 := WT.get hW ha0 h58
              refine x_getR (pc := 82) dX12_leg_82 fl_X12_7 rfl ha0 h58 ?_
              refine s_bipush (pc := 85) dX12_leg_85 (v := nI 23) rfl ?_
              refine s_aload_n (pc := 87) dX12_leg_87 0 rfl rfl ?_
              refine s_iload (pc := 88) dX12_leg_88 7 rfl ?_
              refine s_iconst (pc := 90) dX12_leg_90 (v := nI 4) rfl ?_
              obtain ⟨q60, h61, hf⟩ := p_bd hf
              refine y_callV1 (pc := 91) dX12_leg_91 (c_X12_wallOf (p_dd hd (by decide)) hW ha0 h61) mk_X12_wallOf mv_X12_wallOf ml_X12_72 rfl rfl (Nat.le_of_ble_eq_true rfl) ha0 rfl (p_d1 hd (by decide)) (Nat.le_of_ble_eq_true rfl) ?_
              refine s_iadd (pc := 94) dX12_leg_94 ?_
              obtain ⟨c62, hf⟩ := p_ckx hf
              refine x_iald (pc := 95) dX12_leg_95 t59 c62 ?_
              refine s_if_ne (pc := 96) (tgt := 103) dX12_leg_96 rfl (fun hc => ?_) (fun hc => ?_)
              · replace hf := p_ng hf hc
                refine s_iconst (pc := 103) dX12_leg_103 (v := nI 0) rfl ?_
                cases hf
                exact s_lo [0, 1, 2, 3, 4, 5, 6, 7] rfl (k56)
              · replace hf := p_ps hf hc
                refine s_iconst (pc := 99) dX12_leg_99 (v := nI 1) rfl ?_
                refine s_goto (pc := 100) (tgt := 104) dX12_leg_100 rfl ?_
                cases hf
                exact s_lo [0, 1, 2, 3, 4, 5, 6, 7] rfl (k56)
          · replace hf := p_ps hf hc
            refine s_goto (pc := 70) (tgt := 126) dX12_leg_70 rfl ?_
            cases hf
            exact s_lo [0, 1, 2, 3, 4, 5, 6, 7] rfl (k46))
  exact s_lo [1, 2, 3, 4, 5, 6, 7, 0] rfl (k38 n (nI 0, I, L) hf)
def f_X12_squares (x0 : Int64) (x2 : Int64) : Option Int64 :=
  some ((x0 * x0) + (x2 * x2))
theorem c_X12_squares {G : pG} {d : Nat} {N : pN} {I : pI} {L : pL} {P : pR} {x0 : Int64} {x2 : Int64} {qq : Int64} (hd : 0 ≤ d) (hW : WT N P) (hf : f_X12_squares x0 x2 = some qq) : MT G mX12_squares d 0 0 [.long x0, .long x2] N I L P (p_R (some (.long qq)) N I L P) := by
  refine MT.of rfl (Nat.le_of_ble_eq_true rfl) ?_
  show SW G mX12_squares (p_rm d 0 0) 0 0 0 0 (p_R (some (.long qq)) N I L P) 0 [(0, .long x0), (2, .long x2)] [] N I L P
  unfold f_X12_squares at hf
  refine s_lload_n (pc := 0) dX12_squares_0 0 rfl rfl ?_
  refine s_lload_n (pc := 1) dX12_squares_1 0 rfl rfl ?_
  refine s_lmul (pc := 2) dX12_squares_2 ?_
  refine s_lload_n (pc := 3) dX12_squares_3 1 rfl rfl ?_
  refine s_lload_n (pc := 4) dX12_squares_4 1 rfl rfl ?_
  refine s_lmul (pc := 5) dX12_squares_5 ?_
  refine s_ladd (pc := 6) dX12_squares_6 ?_
  cases hf
  exact s_lreturn (pc := 7) dX12_squares_7 rfl ⟨rfl, rfl, rfl, rfl, rfl⟩
def B_X12_root_7 (x0 : Int64) (rec0 : (Int64 × Int64) → Option Int64) (s0 : Int64 × Int64) : Option Int64 :=
  (if s0.2 ≤ s0.1 then
    some s0.1
  else
    (if x0 < ((((s0.1 + s0.2) + 1) / 2) * (((s0.1 + s0.2) + 1) / 2)) then
      p_let ((((s0.1 + s0.2) + 1) / 2) - 1) fun v3 =>
      rec0 (s0.1, v3)
    else
      rec0 (((s0.1 + s0.2) + 1) / 2, s0.2)))
def f_X12_root (n : Nat) (x0 : Int64) : Option Int64 :=
  Option.bind (p_it (B_X12_root_7 x0) n (0, 20000)) fun t1 =>
  some t1
theorem c_X12_root {G : pG} {d : Nat} {n : Nat} {N : pN} {I : pI} {L : pL} {P : pR} {x0 : Int64} {qq : Int64} (hd : 0 ≤ d) (hW : WT N P) (hf : f_X12_root n x0 = some qq) : MT G mX12_root d 0 0 [.long x0] N I L P (p_R (some (.long qq)) N I L P) := by
  refine MT.of rfl (Nat.le_of_ble_eq_true rfl) ?_
  show SW G mX12_root (p_rm d 0 0) 0 0 0 0 (p_R (some (.long qq)) N I L P) 0 [(0, .long x0)] [] N I L P
  unfold f_X12_root at hf
  refine s_lconst (pc := 0) dX12_root_0 (v := 0) rfl ?_
  refine s_lstore_n (pc := 1) (lo' := [(2, .long 0), (0, .long x0)]) dX12_root_1 rfl (Nat.le_of_ble_eq_true rfl) rfl ?_
  refine s_ldc2 (pc := 2) kl_X12_132 dX12_root_2 ?_
  refine s_lstore (pc := 5) (lo' := [(4, .long 20000), (2, .long 0), (0, .long x0)]) dX12_root_5 (Nat.le_of_ble_eq_true rfl) rfl ?_
  obtain ⟨t1, hg, hf⟩ := p_bd hf
  have k2 : SW G mX12_root (p_rm d 0 0) 0 0 0 0 (p_R (some (.long qq)) N I L P) 51 [(2, .long t1)] [] N I L P := by
    refine s_lload_n (pc := 51) dX12_root_51 0 rfl rfl ?_
    cases hf
    exact s_lreturn (pc := 52) dX12_root_52 rfl ⟨rfl, rfl, rfl, rfl, rfl⟩
  replace hf := hg
  have k5 : ∀ (k : Nat) (s0 : Int64 × Int64), p_it (B_X12_root_7 x0) k s0 = some t1 → (SW G mX12_root (p_rm d 0 0) 0 0 0 0 (p_R (some (.long qq)) N I L P) 7 [(0, .long x0), (2, .long s0.1), (4, .long s0.2)] [] N I L P) := p_it_ind (C := fun (s0 : Int64 × Int64) => SW G mX12_root (p_rm d 0 0) 0 0 0 0 (p_R (some (.long qq)) N I L P) 7 [(0, .long x0), (2, .long s0.1), (4, .long s0.2)] [] N I L P) (by
    intro rec0 hrec0 s0 hf
    unfold B_X12_root_7 at hf
    refine s_lload_n (pc := 7) dX12_root_7 1 rfl rfl ?_
    refine s_lload (pc := 8) dX12_root_8 2 rfl ?_
    refine x_lcmp_ge (pc := 10) (tgt := 51) dX12_root_10 dX12_root_11 rfl (fun hc => ?_) (fun hc => ?_)
    · replace hf := p_ps hf hc
      cases hf
      exact s_lo [1] rfl (k2)
    · replace hf := p_ng hf hc
      refine s_lload_n (pc := 14) dX12_root_14 1 rfl rfl ?_
      refine s_lload (pc := 15) dX12_root_15 2 rfl ?_
      refine s_ladd (pc := 17) dX12_root_17 ?_
      refine s_lconst (pc := 18) dX12_root_18 (v := 1) rfl ?_
      refine s_ladd (pc := 19) dX12_root_19 ?_
      refine s_ldc2 (pc := 20) kl_X12_134 dX12_root_20 ?_
      refine s_ldiv (pc := 23) dX12_root_23 (by decide) ?_
      refine s_lstore (pc := 24) (lo' := [(6, .long (((s0.1 + s0.2) + 1) / 2)), (0, .long x0), (2, .long s0.1), (4, .long s0.2)]) dX12_root_24 (Nat.le_of_ble_eq_true rfl) rfl ?_
      refine s_lload (pc := 26) dX12_root_26 0 rfl ?_
      refine s_lload (pc := 28) dX12_root_28 0 rfl ?_
      refine s_lmul (pc := 30) dX12_root_30 ?_
      refine s_lload_n (pc := 31) dX12_root_31 1 rfl rfl ?_
      refine x_lcmp_gt (pc := 32) (tgt := 42) dX12_root_32 dX12_root_33 rfl (fun hc => ?_) (fun hc => ?_)
      · replace hf := p_ps hf hc
        refine s_lload (pc := 42) dX12_root_42 0 rfl ?_
        refine s_lconst (pc := 44) dX12_root_44 (v := 1) rfl ?_
        refine s_lsub (pc := 45) dX12_root_45 ?_
        refine s_topl (fun v6 e7 => ?_)
        replace hf := p_lx hf e7
        refine s_lstore (pc := 46) (lo' := [(4, .long v6), (6, .long (((s0.1 + s0.2) + 1) / 2)), (0, .long x0), (2, .long s0.1)]) dX12_root_46 (Nat.le_of_ble_eq_true rfl) rfl ?_
        refine s_goto (pc := 48) (tgt := 7) dX12_root_48 rfl ?_
        exact s_lo [2, 3, 0] rfl (hrec0 (s0.1, v6) hf)
      · replace hf := p_ng hf hc
        refine s_lload (pc := 36) dX12_root_36 0 rfl ?_
        refine s_lstore_n (pc := 38) (lo' := [(2, .long (((s0.1 + s0.2) + 1) / 2)), (6, .long (((s0.1 + s0.2) + 1) / 2)), (0, .long x0), (4, .long s0.2)]) dX12_root_38 rfl (Nat.le_of_ble_eq_true rfl) rfl ?_
        refine s_goto (pc := 39) (tgt := 48) dX12_root_39 rfl ?_
        refine s_goto (pc := 48) (tgt := 7) dX12_root_48 rfl ?_
        exact s_lo [2, 0, 3] rfl (hrec0 (((s0.1 + s0.2) + 1) / 2, s0.2) hf))
  exact s_lo [2, 1, 0] rfl (k5 n (0, 20000) hf)
def f_X12_begins (I : pI) (L : pL) (a0 : Nat) (x1 : Int64) : Option (pI × pL) :=
  p_let (α := Int64) ((if x1 = 0 then
    1
  else
    x1)) fun t1 =>
  p_ck (decide (¬ t1 = 0)) <|
  p_let (p_u L a0 5 (((Int32.toInt64 (I a0 18)) * 1000) / t1)) fun L4 =>
  p_let (p_u I a0 6 (nI 0)) fun I6 =>
  some (I6, L4)
theorem c_X12_begins {G : pG} {d : Nat} {N : pN} {I : pI} {L : pL} {P : pR} {a0 : Nat} {x1 : Int64} {qq : pI × pL} (hd : 0 ≤ d) (hW : WT N P) (ha0 : p_tp N a0 15) (hf : f_X12_begins I L a0 x1 = some qq) : MT G mX12_begins d 0 0 [.ref a0, .long x1] N I L P (p_R none N qq.1 qq.2 P) := by
  refine MT.of rfl (Nat.le_of_ble_eq_true rfl) ?_
  show SW G mX12_begins (p_rm d 0 0) 0 0 0 0 (p_R none N qq.1 qq.2 P) 0 [(0, .ref a0), (1, .long x1)] [] N I L P
  unfold f_X12_begins at hf
  refine s_aload_n (pc := 0) dX12_begins_0 0 rfl rfl ?_
  refine s_aload_n (pc := 1) dX12_begins_1 0 rfl rfl ?_
  refine x_getI (pc := 2) dX12_begins_2 fl_X12_136 rfl ha0 ?_
  refine s_i2l (pc := 5) dX12_begins_5 ?_
  refine s_ldc2 (pc := 6) kl_X12_140 dX12_begins_6 ?_
  refine s_lmul (pc := 9) dX12_begins_9 ?_
  refine s_lload_n (pc := 10) dX12_begins_10 1 rfl rfl ?_
  refine s_lconst (pc := 11) dX12_begins_11 (v := 0) rfl ?_
  obtain ⟨t1, hg, hf⟩ := p_lx2 hf
  have k2 : SW G mX12_begins (p_rm d 0 0) 0 0 0 0 (p_R none N qq.1 qq.2 P) 21 [(0, .ref a0)] [.long t1, .long ((Int32.toInt64 (I a0 18)) * 1000), .ref a0] N I L P := by
    obtain ⟨c3, hf⟩ := p_ckx hf
    refine s_ldiv (pc := 21) dX12_begins_21 (of_decide_eq_true c3) ?_
    refine x_putL (pc := 22) dX12_begins_22 fl_X12_108 (Or.inl rfl) rfl ha0 ?_
    refine s_nmL (fun L4 e5 => ?_)
    replace hf := p_lx hf e5
    refine s_aload_n (pc := 25) dX12_begins_25 0 rfl rfl ?_
    refine s_iconst (pc := 26) dX12_begins_26 (v := nI 0) rfl ?_
    refine x_putZ (pc := 27) dX12_begins_27 fl_X12_124 (Or.inl rfl) rfl (by decide) ha0 ?_
    refine s_nmI (fun I6 e7 => ?_)
    replace hf := p_lx hf e7
    cases hf
    exact s_return (pc := 30) dX12_begins_30 rfl ⟨rfl, rfl, rfl, rfl, rfl⟩
  replace hf := hg.symm
  refine x_lcmp_ne (pc := 12) (tgt := 20) dX12_begins_12 dX12_begins_13 rfl (fun hc => ?_) (fun hc => ?_)
  · replace hf := p_ng hf hc
    refine s_lload_n (pc := 20) dX12_begins_20 1 rfl rfl ?_
    cases hf
    exact s_lo [0] rfl (k2)
  · replace hf := p_ps hf hc
    refine s_lconst (pc := 16) dX12_begins_16 (v := 1) rfl ?_
    refine s_goto (pc := 17) (tgt := 21) dX12_begins_17 rfl ?_
    cases hf
    exact s_lo [0] rfl (k2)
def f_X12_adds (N : pN) (I : pI) (L : pL) (P : pR) (a0 : Nat) (x1 : Int32) (x2 : Int32) (x3 : Int32) (x4 : Int64) (x6 : Int64) : Option pI :=
  (if (I a0 6) = 0 then
    Option.bind (P a0 7) fun q1 =>
    p_ck (p_ib N q1 (I a0 13)) <|
    p_let (p_u I q1 (Int32.toNatClampNeg (I a0 13)) x1) fun I5 =>
    Option.bind (P a0 8) fun q7 =>
    p_ck (p_ib N q7 (I5 a0 13)) <|
    p_let (p_u I5 q7 (Int32.toNatClampNeg (I5 a0 13)) x2) fun I11 =>
    Option.bind (P a0 9) fun q13 =>
    p_ck (p_ib N q13 (I11 a0 13)) <|
    p_let (p_u I11 q13 (Int32.toNatClampNeg (I11 a0 13)) x3) fun I17 =>
    Option.bind (P a0 10) fun q19 =>
    p_ck (p_ib N q19 (I17 a0 13)) <|
    p_let (p_u I17 q19 (Int32.toNatClampNeg (I17 a0 13)) (Int64.toInt32 x4)) fun I23 =>
    Option.bind (P a0 11) fun q25 =>
    p_ck (p_ib N q25 (I23 a0 13)) <|
    p_let (p_u I23 q25 (Int32.toNatClampNeg (I23 a0 13)) (Int64.toInt32 x6)) fun I29 =>
    Option.bind (P a0 12) fun q31 =>
    p_ck (p_ib N q31 (I29 a0 13)) <|
    p_let (p_u I29 q31 (Int32.toNatClampNeg (I29 a0 13)) (Int64.toInt32 (L a0 5))) fun I35 =>
    p_let (p_u I35 a0 13 ((I35 a0 13) + (nI 1))) fun I37 =>
    some I37
  else
    some I)
theorem c_X12_adds {G : pG} {d : Nat} {N : pN} {I : pI} {L : pL} {P : pR} {a0 : Nat} {x1 : Int32} {x2 : Int32} {x3 : Int32} {x4 : Int64} {x6 : Int64} {qq : pI} (hd : 0 ≤ d) (hW : WT N P) (ha0 : p_tp N a0 15) (hf : f_X12_adds N I L P a0 x1 x2 x3 x4 x6 = some qq) : MT G mX12_adds d 0 0 [.ref a0, .int x1, .int x2, .int x3, .long x4, .long x6] N I L P (p_R none N qq L P) := by
  refine MT.of rfl (Nat.le_of_ble_eq_true rfl) ?_
  show SW G mX12_adds (p_rm d 0 0) 0 0 0 0 (p_R none N qq L P) 0 [(0, .ref a0), (1, .int x1), (2, .int x2), (3, .int x3), (4, .long x4), (6, .long x6)] [] N I L P
  unfold f_X12_adds at hf
  refine s_aload_n (pc := 0) dX12_adds_0 0 rfl rfl ?_
  refine x_getI (pc := 1) dX12_adds_1 fl_X12_124 rfl ha0 ?_
  refine s_if_eq (pc := 4) (tgt := 8) dX12_adds_4 rfl (fun hc => ?_) (fun hc => ?_)
  · replace hf := p_ps hf hc
    refine s_aload_n (pc := 8) dX12_adds_8 0 rfl rfl ?_
    obtain ⟨q1, h2, hf⟩ := p_bd hf
    have t3 : p_tp N q1 0 := WT.get hW ha0 h2
    refine x_getR (pc := 9) dX12_adds_9 fl_X12_17 rfl ha0 h2 ?_
    refine s_aload_n (pc := 12) dX12_adds_12 0 rfl rfl ?_
    refine x_getI (pc := 13) dX12_adds_13 fl_X12_142 rfl ha0 ?_
    refine s_iload_n (pc := 16) dX12_adds_16 1 rfl rfl ?_
    obtain ⟨c4, hf⟩ := p_ckx hf
    refine x_iast (pc := 17) dX12_adds_17 t3 c4 ?_
    refine s_nmI (fun I5 e6 => ?_)
    replace hf := p_lx hf e6
    refine s_aload_n (pc := 18) dX12_adds_18 0 rfl rfl ?_
    obtain ⟨q7, h8, hf⟩ := p_bd hf
    have t9 : p_tp N q7 0 := WT.get hW ha0 h8
    refine x_getR (pc := 19) dX12_adds_19 fl_X12_20 rfl ha0 h8 ?_
    refine s_aload_n (pc := 22) dX12_adds_22 0 rfl rfl ?_
    refine x_getI (pc := 23) dX12_adds_23 fl_X12_142 rfl ha0 ?_
    refine s_iload_n (pc := 26) dX12_adds_26 2 rfl rfl ?_
    obtain ⟨c10, hf⟩ := p_ckx hf
    refine x_iast (pc := 27) dX12_adds_27 t9 c10 ?_
    refine s_nmI (fun I11 e12 => ?_)
    replace hf := p_lx hf e12
    refine s_aload_n (pc := 28) dX12_adds_28 0 rfl rfl ?_
    obtain ⟨q13, h14, hf⟩ := p_bd hf
    have t15 : p_tp N q13 0 := WT.get hW ha0 h14
    refine x_getR (pc := 29) dX12_adds_29 fl_X12_23 rfl ha0 h14 ?_
    refine s_aload_n (pc := 32) dX12_adds_32 0 rfl rfl ?_
    refine x_getI (pc := 33) dX12_adds_33 fl_X12_142 rfl ha0 ?_
    refine s_iload_n (pc := 36) dX12_adds_36 3 rfl rfl ?_
    obtain ⟨c16, hf⟩ := p_ckx hf
    refine x_iast (pc := 37) dX12_adds_37 t15 c16 ?_
    refine s_nmI (fun I17 e18 => ?_)
    replace hf := p_lx hf e18
    refine s_aload_n (pc := 38) dX12_adds_38 0 rfl rfl ?_
    obtain ⟨q19, h20, hf⟩ := p_bd hf
    have t21 : p_tp N q19 0 := WT.get hW ha0 h20
    refine x_getR (pc := 39) dX12_adds_39 fl_X12_26 rfl ha0 h20 ?_
    refine s_aload_n (pc := 42) dX12_adds_42 0 rfl rfl ?_
    refine x_getI (pc := 43) dX12_adds_43 fl_X12_142 rfl ha0 ?_
    refine s_lload (pc := 46) dX12_adds_46 4 rfl ?_
    refine s_l2i (pc := 48) dX12_adds_48 ?_
    obtain ⟨c22, hf⟩ := p_ckx hf
    refine x_iast (pc := 49) dX12_adds_49 t21 c22 ?_
    refine s_nmI (fun I23 e24 => ?_)
    replace hf := p_lx hf e24
    refine s_aload_n (pc := 50) dX12_adds_50 0 rfl rfl ?_
    obtain ⟨q25, h26, hf⟩ := p_bd hf
    have t27 : p_tp N q25 0 := WT.get hW ha0 h26
    refine x_getR (pc := 51) dX12_adds_51 fl_X12_29 rfl ha0 h26 ?_
    refine s_aload_n (pc := 54) dX12_adds_54 0 rfl rfl ?_
    refine x_getI (pc := 55) dX12_adds_55 fl_X12_142 rfl ha0 ?_
    refine s_lload (pc := 58) dX12_adds_58 5 rfl ?_
    refine s_l2i (pc := 60) dX12_adds_60 ?_
    obtain ⟨c28, hf⟩ := p_ckx hf
    refine x_iast (pc := 61) dX12_adds_61 t27 c28 ?_
    refine s_nmI (fun I29 e30 => ?_)
    replace hf := p_lx hf e30
    refine s_aload_n (pc := 62) dX12_adds_62 0 rfl rfl ?_
    obtain ⟨q31, h32, hf⟩ := p_bd hf
    have t33 : p_tp N q31 0 := WT.get hW ha0 h32
    refine x_getR (pc := 63) dX12_adds_63 fl_X12_32 rfl ha0 h32 ?_
    refine s_aload_n (pc := 66) dX12_adds_66 0 rfl rfl ?_
    refine x_getI (pc := 67) dX12_adds_67 fl_X12_142 rfl ha0 ?_
    refine s_aload_n (pc := 70) dX12_adds_70 0 rfl rfl ?_
    refine x_getL (pc := 71) dX12_adds_71 fl_X12_108 rfl ha0 ?_
    refine s_l2i (pc := 74) dX12_adds_74 ?_
    obtain ⟨c34, hf⟩ := p_ckx hf
    refine x_iast (pc := 75) dX12_adds_75 t33 c34 ?_
    refine s_nmI (fun I35 e36 => ?_)
    replace hf := p_lx hf e36
    refine s_aload_n (pc := 76) dX12_adds_76 0 rfl rfl ?_
    refine s_dup (pc := 77) dX12_adds_77 rfl ?_
    refine x_getI (pc := 78) dX12_adds_78 fl_X12_142 rfl ha0 ?_
    refine s_iconst (pc := 81) dX12_adds_81 (v := nI 1) rfl ?_
    refine s_iadd (pc := 82) dX12_adds_82 ?_
    refine x_putI (pc := 83) dX12_adds_83 fl_X12_142 (Or.inl rfl) rfl ha0 ?_
    refine s_nmI (fun I37 e38 => ?_)
    replace hf := p_lx hf e38
    cases hf
    exact s_return (pc := 86) dX12_adds_86 rfl ⟨rfl, rfl, rfl, rfl, rfl⟩
  · replace hf := p_ng hf hc
    cases hf
    exact s_return (pc := 7) dX12_adds_7 rfl ⟨rfl, rfl, rfl, rfl, rfl⟩
def f_X12_mirrorX (N : pN) (I : pI) (P : pR) (a0 : Nat) (x1 : Int32) (x2 : Int64) : Option Int64 :=
  Option.bind (f_X12_isUpright N I P a0 x1) fun q1 =>
  (if q1 = 0 then
    some x2
  else
    Option.bind (f_X12_wallOf N I P a0 x1 (nI 0)) fun q3 =>
    some ((2 * (Int32.toInt64 q3)) - x2))
theorem c_X12_mirrorX {G : pG} {d : Nat} {N : pN} {I : pI} {L : pL} {P : pR} {a0 : Nat} {x1 : Int32} {x2 : Int64} {qq : Int64} (hd : 2 ≤ d) (hW : WT N P) (ha0 : p_tp N a0 15) (hf : f_X12_mirrorX N I P a0 x1 x2 = some qq) : MT G mX12_mirrorX d 0 0 [.ref a0, .int x1, .long x2] N I L P (p_R (some (.long qq)) N I L P) := by
  refine MT.of rfl (Nat.le_of_ble_eq_true rfl) ?_
  show SW G mX12_mirrorX (p_rm d 0 0) 0 0 0 0 (p_R (some (.long qq)) N I L P) 0 [(0, .ref a0), (1, .int x1), (2, .long x2)] [] N I L P
  unfold f_X12_mirrorX at hf
  refine s_aload_n (pc := 0) dX12_mirrorX_0 0 rfl rfl ?_
  refine s_iload_n (pc := 1) dX12_mirrorX_1 1 rfl rfl ?_
  obtain ⟨q1, h2, hf⟩ := p_bd hf
  refine y_callV1 (pc := 2) dX12_mirrorX_2 (c_X12_isUpright (p_dd hd (by decide)) hW ha0 h2) mk_X12_isUpright mv_X12_isUpright ml_X12_86 rfl rfl (Nat.le_of_ble_eq_true rfl) ha0 rfl (p_d1 hd (by decide)) (Nat.le_of_ble_eq_true rfl) ?_
  refine s_if_eq (pc := 5) (tgt := 24) dX12_mirrorX_5 rfl (fun hc => ?_) (fun hc => ?_)
  · replace hf := p_ps hf hc
    refine s_lload_n (pc := 24) dX12_mirrorX_24 2 rfl rfl ?_
    cases hf
    exact s_lreturn (pc := 25) dX12_mirrorX_25 rfl ⟨rfl, rfl, rfl, rfl, rfl⟩
  · replace hf := p_ng hf hc
    refine s_ldc2 (pc := 8) kl_X12_134 dX12_mirrorX_8 ?_
    refine s_aload_n (pc := 11) dX12_mirrorX_11 0 rfl rfl ?_
    refine s_iload_n (pc := 12) dX12_mirrorX_12 1 rfl rfl ?_
    refine s_iconst (pc := 13) dX12_mirrorX_13 (v := nI 0) rfl ?_
    obtain ⟨q3, h4, hf⟩ := p_bd hf
    refine y_callV1 (pc := 14) dX12_mirrorX_14 (c_X12_wallOf (p_dd hd (by decide)) hW ha0 h4) mk_X12_wallOf mv_X12_wallOf ml_X12_72 rfl rfl (Nat.le_of_ble_eq_true rfl) ha0 rfl (p_d1 hd (by decide)) (Nat.le_of_ble_eq_true rfl) ?_
    refine s_i2l (pc := 17) dX12_mirrorX_17 ?_
    refine s_lmul (pc := 18) dX12_mirrorX_18 ?_
    refine s_lload_n (pc := 19) dX12_mirrorX_19 2 rfl rfl ?_
    refine s_lsub (pc := 20) dX12_mirrorX_20 ?_
    refine s_goto (pc := 21) (tgt := 25) dX12_mirrorX_21 rfl ?_
    cases hf
    exact s_lreturn (pc := 25) dX12_mirrorX_25 rfl ⟨rfl, rfl, rfl, rfl, rfl⟩
def f_X12_mirrorY (N : pN) (I : pI) (P : pR) (a0 : Nat) (x1 : Int32) (x2 : Int64) : Option Int64 :=
  Option.bind (f_X12_isUpright N I P a0 x1) fun q1 =>
  (if q1 = 0 then
    Option.bind (f_X12_wallOf N I P a0 x1 (nI 1)) fun q3 =>
    some ((2 * (Int32.toInt64 q3)) - x2)
  else
    some x2)
theorem c_X12_mirrorY {G : pG} {d : Nat} {N : pN} {I : pI} {L : pL} {P : pR} {a0 : Nat} {x1 : Int32} {x2 : Int64} {qq : Int64} (hd : 2 ≤ d) (hW : WT N P) (ha0 : p_tp N a0 15) (hf : f_X12_mirrorY N I P a0 x1 x2 = some qq) : MT G mX12_mirrorY d 0 0 [.ref a0, .int x1, .long x2] N I L P (p_R (some (.long qq)) N I L P) := by
  refine MT.of rfl (Nat.le_of_ble_eq_true rfl) ?_
  show SW G mX12_mirrorY (p_rm d 0 0) 0 0 0 0 (p_R (some (.long qq)) N I L P) 0 [(0, .ref a0), (1, .int x1), (2, .long x2)] [] N I L P
  unfold f_X12_mirrorY at hf
  refine s_aload_n (pc := 0) dX12_mirrorY_0 0 rfl rfl ?_
  refine s_iload_n (pc := 1) dX12_mirrorY_1 1 rfl rfl ?_
  obtain ⟨q1, h2, hf⟩ := p_bd hf
  refine y_callV1 (pc := 2) dX12_mirrorY_2 (c_X12_isUpright (p_dd hd (by decide)) hW ha0 h2) mk_X12_isUpright mv_X12_isUpright ml_X12_86 rfl rfl (Nat.le_of_ble_eq_true rfl) ha0 rfl (p_d1 hd (by decide)) (Nat.le_of_ble_eq_true rfl) ?_
  refine s_if_eq (pc := 5) (tgt := 12) dX12_mirrorY_5 rfl (fun hc => ?_) (fun hc => ?_)
  · replace hf := p_ps hf hc
    refine s_ldc2 (pc := 12) kl_X12_134 dX12_mirrorY_12 ?_
    refine s_aload_n (pc := 15) dX12_mirrorY_15 0 rfl rfl ?_
    refine s_iload_n (pc := 16) dX12_mirrorY_16 1 rfl rfl ?_
    refine s_iconst (pc := 17) dX12_mirrorY_17 (v := nI 1) rfl ?_
    obtain ⟨q3, h4, hf⟩ := p_bd hf
    refine y_callV1 (pc := 18) dX12_mirrorY_18 (c_X12_wallOf (p_dd hd (by decide)) hW ha0 h4) mk_X12_wallOf mv_X12_wallOf ml_X12_72 rfl rfl (Nat.le_of_ble_eq_true rfl) ha0 rfl (p_d1 hd (by decide)) (Nat.le_of_ble_eq_true rfl) ?_
    refine s_i2l (pc := 21) dX12_mirrorY_21 ?_
    refine s_lmul (pc := 22) dX12_mirrorY_22 ?_
    refine s_lload_n (pc := 23) dX12_mirrorY_23 2 rfl rfl ?_
    refine s_lsub (pc := 24) dX12_mirrorY_24 ?_
    cases hf
    exact s_lreturn (pc := 25) dX12_mirrorY_25 rfl ⟨rfl, rfl, rfl, rfl, rfl⟩
  · replace hf := p_ng hf hc
    refine s_lload_n (pc := 8) dX12_mirrorY_8 2 rfl rfl ?_
    refine s_goto (pc := 9) (tgt := 25) dX12_mirrorY_9 rfl ?_
    cases hf
    exact s_lreturn (pc := 25) dX12_mirrorY_25 rfl ⟨rfl, rfl, rfl, rfl, rfl⟩
def f_X12_byMirror (n : Nat) (N : pN) (I : pI) (L : pL) (P : pR) (a0 : Nat) (x1 : Int32) : Option (pI × pL) :=
  Option.bind (f_X12_side N I P a0 x1 (Int32.toInt64 (I a0 14)) (Int32.toInt64 (I a0 15)) 1) fun q1 =>
  Option.bind (f_X12_side N I P a0 x1 (Int32.toInt64 (I a0 16)) (Int32.toInt64 (I a0 17)) 1) fun q3 =>
  Option.bind (f_X12_areAlike q1 q3) fun q5 =>
  (if q5 = 0 then
    some (I, L)
  else
    Option.bind (f_X12_mirrorX N I P a0 x1 (Int32.toInt64 (I a0 14))) fun q7 =>
    Option.bind (f_X12_mirrorY N I P a0 x1 (Int32.toInt64 (I a0 15))) fun q9 =>
    Option.bind (f_X12_crosses N I L P a0 x1 q7 q9 1 (Int32.toInt64 (I a0 16)) (Int32.toInt64 (I a0 17)) 1) fun q11 =>
    (if q11.1 = 0 then
      some (I, q11.2)
    else
      Option.bind (f_X12_squares (q7 - (Int32.toInt64 (I a0 16))) (q9 - (Int32.toInt64 (I a0 17)))) fun q13 =>
      Option.bind (f_X12_begins I q11.2 a0 q13) fun q15 =>
      Option.bind (P a0 0) fun q17 =>
      Option.bind (f_X12_wallOf N q15.1 P a0 x1 (nI 4)) fun q20 =>
      p_ck (p_ib N q17 ((nI 18) + q20)) <|
      Option.bind (f_X12_weakens q15.2 a0 (q15.1 q17 (Int32.toNatClampNeg ((nI 18) + q20)))) fun q23 =>
      Option.bind (f_X12_leg n N q15.1 q23 P a0 (Int32.toInt64 (q15.1 a0 14)) (Int32.toInt64 (q15.1 a0 15)) 1 (q11.2 a0 2) (q11.2 a0 3) (q11.2 a0 4)) fun q25 =>
      Option.bind (f_X12_leg n N q25.1 q25.2 P a0 (q11.2 a0 2) (q11.2 a0 3) (q11.2 a0 4) (Int32.toInt64 (q25.1 a0 16)) (Int32.toInt64 (q25.1 a0 17)) 1) fun q27 =>
      Option.bind (f_X12_adds N q27.1 q27.2 P a0 (nI 1) x1 (-1) q13 0) fun q29 =>
      some (q29, q27.2)))
theorem c_X12_byMirror {G : pG} {d : Nat} {n : Nat} {N : pN} {I : pI} {L : pL} {P : pR} {a0 : Nat} {x1 : Int32} {qq : pI × pL} (hd : 5 ≤ d) (hW : WT N P) (ha0 : p_tp N a0 15) (hf : f_X12_byMirror n N I L P a0 x1 = some qq) : MT G mX12_byMirror d 0 0 [.ref a0, .int x1] N I L P (p_R none N qq.1 qq.2 P) := by
  refine MT.of rfl (Nat.le_of_ble_eq_true rfl) ?_
  show SW G mX12_byMirror (p_rm d 0 0) 0 0 0 0 (p_R none N qq.1 qq.2 P) 0 [(0, .ref a0), (1, .int x1)] [] N I L P
  unfold f_X12_byMirror at hf
  refine s_aload_n (pc := 0) dX12_byMirror_0 0 rfl rfl ?_
  refine s_iload_n (pc := 1) dX12_byMirror_1 1 rfl rfl ?_
  refine s_aload_n (pc := 2) dX12_byMirror_2 0 rfl rfl ?_
  refine x_getI (pc := 3) dX12_byMirror_3 fl_X12_145 rfl ha0 ?_
  refine s_i2l (pc := 6) dX12_byMirror_6 ?_
  refine s_aload_n (pc := 7) dX12_byMirror_7 0 rfl rfl ?_
  refine x_getI (pc := 8) dX12_byMirror_8 fl_X12_148 rfl ha0 ?_
  refine s_i2l (pc := 11) dX12_byMirror_11 ?_
  refine s_lconst (pc := 12) dX12_byMirror_12 (v := 1) rfl ?_
  obtain ⟨q1, h2, hf⟩ := p_bd hf
  refine y_callV1 (pc := 13) dX12_byMirror_13 (c_X12_side (p_dd hd (by decide)) hW ha0 h2) mk_X12_side mv_X12_side ml_X12_90 rfl rfl (Nat.le_of_ble_eq_true rfl) ha0 rfl (p_d1 hd (by decide)) (Nat.le_of_ble_eq_true rfl) ?_
  refine s_aload_n (pc := 16) dX12_byMirror_16 0 rfl rfl ?_
  refine s_iload_n (pc := 17) dX12_byMirror_17 1 rfl rfl ?_
  refine s_aload_n (pc := 18) dX12_byMirror_18 0 rfl rfl ?_
  refine x_getI (pc := 19) dX12_byMirror_19 fl_X12_151 rfl ha0 ?_
  refine s_i2l (pc := 22) dX12_byMirror_22 ?_
  refine s_aload_n (pc := 23) dX12_byMirror_23 0 rfl rfl ?_
  refine x_getI (pc := 24) dX12_byMirror_24 fl_X12_154 rfl ha0 ?_
  refine s_i2l (pc := 27) dX12_byMirror_27 ?_
  refine s_lconst (pc := 28) dX12_byMirror_28 (v := 1) rfl ?_
  obtain ⟨q3, h4, hf⟩ := p_bd hf
  refine y_callV1 (pc := 29) dX12_byMirror_29 (c_X12_side (p_dd hd (by decide)) hW ha0 h4) mk_X12_side mv_X12_side ml_X12_90 rfl rfl (Nat.le_of_ble_eq_true rfl) ha0 rfl (p_d1 hd (by decide)) (Nat.le_of_ble_eq_true rfl) ?_
  obtain ⟨q5, h6, hf⟩ := p_bd hf
  refine y_callS1 (pc := 32) dX12_byMirror_32 (c_X12_areAlike (p_dd hd (by decide)) hW  h6) mk_X12_areAlike mz_X12_areAlike ml_X12_157 rfl rfl (Nat.le_of_ble_eq_true rfl) (p_d1 hd (by decide)) (Nat.le_of_ble_eq_true rfl) ?_
  refine s_if_ne (pc := 35) (tgt := 39) dX12_byMirror_35 rfl (fun hc => ?_) (fun hc => ?_)
  · replace hf := p_ng hf hc
    refine s_aload_n (pc := 39) dX12_byMirror_39 0 rfl rfl ?_
    refine s_iload_n (pc := 40) dX12_byMirror_40 1 rfl rfl ?_
    refine s_aload_n (pc := 41) dX12_byMirror_41 0 rfl rfl ?_
    refine x_getI (pc := 42) dX12_byMirror_42 fl_X12_145 rfl ha0 ?_
    refine s_i2l (pc := 45) dX12_byMirror_45 ?_
    obtain ⟨q7, h8, hf⟩ := p_bd hf
    refine y_callV1 (pc := 46) dX12_byMirror_46 (c_X12_mirrorX (p_dd hd (by decide)) hW ha0 h8) mk_X12_mirrorX mv_X12_mirrorX ml_X12_160 rfl rfl (Nat.le_of_ble_eq_true rfl) ha0 rfl (p_d1 hd (by decide)) (Nat.le_of_ble_eq_true rfl) ?_
    refine s_lstore_n (pc := 49) (lo' := [(2, .long q7), (0, .ref a0), (1, .int x1)]) dX12_byMirror_49 rfl (Nat.le_of_ble_eq_true rfl) rfl ?_
    refine s_aload_n (pc := 50) dX12_byMirror_50 1 rfl rfl ?_
    refine s_iload_n (pc := 51) dX12_byMirror_51 2 rfl rfl ?_
    refine s_aload_n (pc := 52) dX12_byMirror_52 1 rfl rfl ?_
    refine x_getI (pc := 53) dX12_byMirror_53 fl_X12_148 rfl ha0 ?_
    refine s_i2l (pc := 56) dX12_byMirror_56 ?_
    obtain ⟨q9, h10, hf⟩ := p_bd hf
    refine y_callV1 (pc := 57) dX12_byMirror_57 (c_X12_mirrorY (p_dd hd (by decide)) hW ha0 h10) mk_X12_mirrorY mv_X12_mirrorY ml_X12_164 rfl rfl (Nat.le_of_ble_eq_true rfl) ha0 rfl (p_d1 hd (by decide)) (Nat.le_of_ble_eq_true rfl) ?_
    refine s_lstore (pc := 60) (lo' := [(4, .long q9), (2, .long q7), (0, .ref a0), (1, .int x1)]) dX12_byMirror_60 (Nat.le_of_ble_eq_true rfl) rfl ?_
    refine s_aload_n (pc := 62) dX12_byMirror_62 2 rfl rfl ?_
    refine s_iload_n (pc := 63) dX12_byMirror_63 3 rfl rfl ?_
    refine s_lload_n (pc := 64) dX12_byMirror_64 1 rfl rfl ?_
    refine s_lload (pc := 65) dX12_byMirror_65 0 rfl ?_
    refine s_lconst (pc := 67) dX12_byMirror_67 (v := 1) rfl ?_
    refine s_aload_n (pc := 68) dX12_byMirror_68 2 rfl rfl ?_
    refine x_getI (pc := 69) dX12_byMirror_69 fl_X12_151 rfl ha0 ?_
    refine s_i2l (pc := 72) dX12_byMirror_72 ?_
    refine s_aload_n (pc := 73) dX12_byMirror_73 2 rfl rfl ?_
    refine x_getI (pc := 74) dX12_byMirror_74 fl_X12_154 rfl ha0 ?_
    refine s_i2l (pc := 77) dX12_byMirror_77 ?_
    refine s_lconst (pc := 78) dX12_byMirror_78 (v := 1) rfl ?_
    obtain ⟨q11, h12, hf⟩ := p_bd hf
    refine y_callV1 (pc := 79) dX12_byMirror_79 (c_X12_crosses (p_dd hd (by decide)) hW ha0 h12) mk_X12_crosses mv_X12_crosses ml_X12_120 rfl rfl (Nat.le_of_ble_eq_true rfl) ha0 rfl (p_d1 hd (by decide)) (Nat.le_of_ble_eq_true rfl) ?_
    refine s_if_ne (pc := 82) (tgt := 86) dX12_byMirror_82 rfl (fun hc => ?_) (fun hc => ?_)
    · replace hf := p_ng hf hc
      refine s_aload_n (pc := 86) dX12_byMirror_86 2 rfl rfl ?_
      refine x_getL (pc := 87) dX12_byMirror_87 fl_X12_98 rfl ha0 ?_
      refine s_lstore (pc := 90) (lo' := [(6, .long (q11.2 a0 2)), (4, .long q9), (2, .long q7), (0, .ref a0), (1, .int x1)]) dX12_byMirror_90 (Nat.le_of_ble_eq_true rfl) rfl ?_
      refine s_aload_n (pc := 92) dX12_byMirror_92 3 rfl rfl ?_
      refine x_getL (pc := 93) dX12_byMirror_93 fl_X12_102 rfl ha0 ?_
      refine s_lstore (pc := 96) (lo' := [(8, .long (q11.2 a0 3)), (6, .long (q11.2 a0 2)), (4, .long q9), (2, .long q7), (0, .ref a0), (1, .int x1)]) dX12_byMirror_96 (Nat.le_of_ble_eq_true rfl) rfl ?_
      refine s_aload_n (pc := 98) dX12_byMirror_98 4 rfl rfl ?_
      refine x_getL (pc := 99) dX12_byMirror_99 fl_X12_105 rfl ha0 ?_
      refine s_lstore (pc := 102) (lo' := [(10, .long (q11.2 a0 4)), (8, .long (q11.2 a0 3)), (6, .long (q11.2 a0 2)), (4, .long q9), (2, .long q7), (0, .ref a0), (1, .int x1)]) dX12_byMirror_102 (Nat.le_of_ble_eq_true rfl) rfl ?_
      refine s_lload_n (pc := 104) dX12_byMirror_104 4 rfl rfl ?_
      refine s_aload_n (pc := 105) dX12_byMirror_105 5 rfl rfl ?_
      refine x_getI (pc := 106) dX12_byMirror_106 fl_X12_151 rfl ha0 ?_
      refine s_i2l (pc := 109) dX12_byMirror_109 ?_
      refine s_lsub (pc := 110) dX12_byMirror_110 ?_
      refine s_lload (pc := 111) dX12_byMirror_111 3 rfl ?_
      refine s_aload_n (pc := 113) dX12_byMirror_113 5 rfl rfl ?_
      refine x_getI (pc := 114) dX12_byMirror_114 fl_X12_154 rfl ha0 ?_
      refine s_i2l (pc := 117) dX12_byMirror_117 ?_
      refine s_lsub (pc := 118) dX12_byMirror_118 ?_
      obtain ⟨q13, h14, hf⟩ := p_bd hf
      refine y_callS1 (pc := 119) dX12_byMirror_119 (c_X12_squares (p_dd hd (by decide)) hW  h14) mk_X12_squares mz_X12_squares ml_X12_167 rfl rfl (Nat.le_of_ble_eq_true rfl) (p_d1 hd (by decide)) (Nat.le_of_ble_eq_true rfl) ?_
      refine s_lstore (pc := 122) (lo' := [(12, .long q13), (10, .long (q11.2 a0 4)), (8, .long (q11.2 a0 3)), (6, .long (q11.2 a0 2)), (4, .long q9), (2, .long q7), (0, .ref a0), (1, .int x1)]) dX12_byMirror_122 (Nat.le_of_ble_eq_true rfl) rfl ?_
      refine s_aload_n (pc := 124) dX12_byMirror_124 6 rfl rfl ?_
      refine s_lload (pc := 125) dX12_byMirror_125 0 rfl ?_
      obtain ⟨q15, h16, hf⟩ := p_bd hf
      refine y_callV0 (pc := 127) dX12_byMirror_127 (c_X12_begins (p_dd hd (by decide)) hW ha0 h16) mk_X12_begins mv_X12_begins ml_X12_171 rfl rfl (Nat.le_of_ble_eq_true rfl) ha0 rfl (p_d1 hd (by decide)) (Nat.le_of_ble_eq_true rfl) ?_
      refine s_aload_n (pc := 130) dX12_byMirror_130 6 rfl rfl ?_
      refine s_aload_n (pc := 131) dX12_byMirror_131 6 rfl rfl ?_
      obtain ⟨q17, h18, hf⟩ := p_bd hf
      have t19 : p_tp N q17 0 := WT.get hW ha0 h18
      refine x_getR (pc := 132) dX12_byMirror_132 fl_X12_7 rfl ha0 h18 ?_
      refine s_bipush (pc := 135) dX12_byMirror_135 (v := nI 18) rfl ?_
      refine s_aload_n (pc := 137) dX12_byMirror_137 6 rfl rfl ?_
      refine s_iload_n (pc := 138) dX12_byMirror_138 7 rfl rfl ?_
      refine s_iconst (pc := 139) dX12_byMirror_139 (v := nI 4) rfl ?_
      obtain ⟨q20, h21, hf⟩ := p_bd hf
      refine y_callV1 (pc := 140) dX12_byMirror_140 (c_X12_wallOf (p_dd hd (by decide)) hW ha0 h21) mk_X12_wallOf mv_X12_wallOf ml_X12_72 rfl rfl (Nat.le_of_ble_eq_true rfl) ha0 rfl (p_d1 hd (by decide)) (Nat.le_of_ble_eq_true rfl) ?_
      refine s_iadd (pc := 143) dX12_byMirror_143 ?_
      obtain ⟨c22, hf⟩ := p_ckx hf
      refine x_iald (pc := 144) dX12_byMirror_144 t19 c22 ?_
      obtain ⟨q23, h24, hf⟩ := p_bd hf
      refine y_callV0 (pc := 145) dX12_byMirror_145 (c_X12_weakens (p_dd hd (by decide)) hW ha0 h24) mk_X12_weakens mv_X12_weakens ml_X12_128 rfl rfl (Nat.le_of_ble_eq_true rfl) ha0 rfl (p_d1 hd (by decide)) (Nat.le_of_ble_eq_true rfl) ?_
      refine s_aload_n (pc := 148) dX12_byMirror_148 6 rfl rfl ?_
      refine s_aload_n (pc := 149) dX12_byMirror_149 6 rfl rfl ?_
      refine x_getI (pc := 150) dX12_byMirror_150 fl_X12_145 rfl ha0 ?_
      refine s_i2l (pc := 153) dX12_byMirror_153 ?_
      refine s_aload_n (pc := 154) dX12_byMirror_154 6 rfl rfl ?_
      refine x_getI (pc := 155) dX12_byMirror_155 fl_X12_148 rfl ha0 ?_
      refine s_i2l (pc := 158) dX12_byMirror_158 ?_
      refine s_lconst (pc := 159) dX12_byMirror_159 (v := 1) rfl ?_
      refine s_lload (pc := 160) dX12_byMirror_160 3 rfl ?_
      refine s_lload (pc := 162) dX12_byMirror_162 2 rfl ?_
      refine s_lload (pc := 164) dX12_byMirror_164 1 rfl ?_
      obtain ⟨q25, h26, hf⟩ := p_bd hf
      refine y_callV0 (pc := 166) dX12_byMirror_166 (c_X12_leg (p_dd hd (by decide)) hW ha0 h26) mk_X12_leg mv_X12_leg ml_X12_175 rfl rfl (Nat.le_of_ble_eq_true rfl) ha0 rfl (p_d1 hd (by decide)) (Nat.le_of_ble_eq_true rfl) ?_
      refine s_aload_n (pc := 169) dX12_byMirror_169 6 rfl rfl ?_
      refine s_lload (pc := 170) dX12_byMirror_170 3 rfl ?_
      refine s_lload (pc := 172) dX12_byMirror_172 2 rfl ?_
      refine s_lload (pc := 174) dX12_byMirror_174 1 rfl ?_
      refine s_aload_n (pc := 176) dX12_byMirror_176 6 rfl rfl ?_
      refine x_getI (pc := 177) dX12_byMirror_177 fl_X12_151 rfl ha0 ?_
      refine s_i2l (pc := 180) dX12_byMirror_180 ?_
      refine s_aload_n (pc := 181) dX12_byMirror_181 6 rfl rfl ?_
      refine x_getI (pc := 182) dX12_byMirror_182 fl_X12_154 rfl ha0 ?_
      refine s_i2l (pc := 185) dX12_byMirror_185 ?_
      refine s_lconst (pc := 186) dX12_byMirror_186 (v := 1) rfl ?_
      obtain ⟨q27, h28, hf⟩ := p_bd hf
      refine y_callV0 (pc := 187) dX12_byMirror_187 (c_X12_leg (p_dd hd (by decide)) hW ha0 h28) mk_X12_leg mv_X12_leg ml_X12_175 rfl rfl (Nat.le_of_ble_eq_true rfl) ha0 rfl (p_d1 hd (by decide)) (Nat.le_of_ble_eq_true rfl) ?_
      refine s_aload_n (pc := 190) dX12_byMirror_190 6 rfl rfl ?_
      refine s_iconst (pc := 191) dX12_byMirror_191 (v := nI 1) rfl ?_
      refine s_iload_n (pc := 192) dX12_byMirror_192 7 rfl rfl ?_
      refine s_iconst (pc := 193) dX12_byMirror_193 (v := (-1)) rfl ?_
      refine s_lload (pc := 194) dX12_byMirror_194 0 rfl ?_
      refine s_lconst (pc := 196) dX12_byMirror_196 (v := 0) rfl ?_
      obtain ⟨q29, h30, hf⟩ := p_bd hf
      refine y_callV0 (pc := 197) dX12_byMirror_197 (c_X12_adds (p_dd hd (by decide)) hW ha0 h30) mk_X12_adds mv_X12_adds ml_X12_179 rfl rfl (Nat.le_of_ble_eq_true rfl) ha0 rfl (p_d1 hd (by decide)) (Nat.le_of_ble_eq_true rfl) ?_
      cases hf
      exact s_return (pc := 200) dX12_byMirror_200 rfl ⟨rfl, rfl, rfl, rfl, rfl⟩
    · replace hf := p_ps hf hc
      cases hf
      exact s_return (pc := 85) dX12_byMirror_85 rfl ⟨rfl, rfl, rfl, rfl, rfl⟩
  · replace hf := p_ps hf hc
    cases hf
    exact s_return (pc := 38) dX12_byMirror_38 rfl ⟨rfl, rfl, rfl, rfl, rfl⟩
def f_X12_byMirrors (n : Nat) (N : pN) (I : pI) (L : pL) (P : pR) (a0 : Nat) (x1 : Int32) (x2 : Int32) : Option (pI × pL) :=
  Option.bind (f_X12_mirrorX N I P a0 x1 (Int32.toInt64 (I a0 14))) fun q1 =>
  Option.bind (f_X12_mirrorY N I P a0 x1 (Int32.toInt64 (I a0 15))) fun q3 =>
  Option.bind (f_X12_side N I P a0 x2 q1 q3 1) fun q5 =>
  Option.bind (f_X12_side N I P a0 x2 (Int32.toInt64 (I a0 16)) (Int32.toInt64 (I a0 17)) 1) fun q7 =>
  Option.bind (f_X12_areAlike q5 q7) fun q9 =>
  (if q9 = 0 then
    some (I, L)
  else
    Option.bind (f_X12_mirrorX N I P a0 x2 q1) fun q11 =>
    Option.bind (f_X12_mirrorY N I P a0 x2 q3) fun q13 =>
    Option.bind (f_X12_crosses N I L P a0 x2 q11 q13 1 (Int32.toInt64 (I a0 16)) (Int32.toInt64 (I a0 17)) 1) fun q15 =>
    (if q15.1 = 0 then
      some (I, q15.2)
    else
      Option.bind (f_X12_side N I P a0 x1 (Int32.toInt64 (I a0 14)) (Int32.toInt64 (I a0 15)) 1) fun q17 =>
      Option.bind (f_X12_side N I P a0 x1 (q15.2 a0 2) (q15.2 a0 3) (q15.2 a0 4)) fun q19 =>
      Option.bind (f_X12_areAlike q17 q19) fun q21 =>
      (if q21 = 0 then
        some (I, q15.2)
      else
        Option.bind (f_X12_crosses N I q15.2 P a0 x1 q1 q3 1 (q15.2 a0 2) (q15.2 a0 3) (q15.2 a0 4)) fun q23 =>
        (if q23.1 = 0 then
          some (I, q23.2)
        else
          Option.bind (f_X12_squares (q11 - (Int32.toInt64 (I a0 16))) (q13 - (Int32.toInt64 (I a0 17)))) fun q25 =>
          Option.bind (f_X12_begins I q23.2 a0 q25) fun q27 =>
          Option.bind (P a0 0) fun q29 =>
          Option.bind (f_X12_wallOf N q27.1 P a0 x1 (nI 4)) fun q32 =>
          p_ck (p_ib N q29 ((nI 18) + q32)) <|
          Option.bind (f_X12_weakens q27.2 a0 (q27.1 q29 (Int32.toNatClampNeg ((nI 18) + q32)))) fun q35 =>
          Option.bind (P a0 0) fun q37 =>
          Option.bind (f_X12_wallOf N q27.1 P a0 x2 (nI 4)) fun q40 =>
          p_ck (p_ib N q37 ((nI 18) + q40)) <|
          Option.bind (f_X12_weakens q35 a0 (q27.1 q37 (Int32.toNatClampNeg ((nI 18) + q40)))) fun q43 =>
          Option.bind (f_X12_leg n N q27.1 q43 P a0 (Int32.toInt64 (q27.1 a0 14)) (Int32.toInt64 (q27.1 a0 15)) 1 (q23.2 a0 2) (q23.2 a0 3) (q23.2 a0 4)) fun q45 =>
          Option.bind (f_X12_leg n N q45.1 q45.2 P a0 (q23.2 a0 2) (q23.2 a0 3) (q23.2 a0 4) (q15.2 a0 2) (q15.2 a0 3) (q15.2 a0 4)) fun q47 =>
          Option.bind (f_X12_leg n N q47.1 q47.2 P a0 (q15.2 a0 2) (q15.2 a0 3) (q15.2 a0 4) (Int32.toInt64 (q47.1 a0 16)) (Int32.toInt64 (q47.1 a0 17)) 1) fun q49 =>
          Option.bind (f_X12_adds N q49.1 q49.2 P a0 (nI 2) x1 x2 q25 0) fun q51 =>
          some (q51, q49.2)))))
theorem c_X12_byMirrors {G : pG} {d : Nat} {n : Nat} {N : pN} {I : pI} {L : pL} {P : pR} {a0 : Nat} {x1 : Int32} {x2 : Int32} {qq : pI × pL} (hd : 5 ≤ d) (hW : WT N P) (ha0 : p_tp N a0 15) (hf : f_X12_byMirrors n N I L P a0 x1 x2 = some qq) : MT G mX12_byMirrors d 0 0 [.ref a0, .int x1, .int x2] N I L P (p_R none N qq.1 qq.2 P) := by
  refine MT.of rfl (Nat.le_of_ble_eq_true rfl) ?_
  show SW G mX12_byMirrors (p_rm d 0 0) 0 0 0 0 (p_R none N qq.1 qq.2 P) 0 [(0, .ref a0), (1, .int x1), (2, .int x2)] [] N I L P
  unfold f_X12_byMirrors at hf
  refine s_aload_n (pc := 0) dX12_byMirrors_0 0 rfl rfl ?_
  refine s_iload_n (pc := 1) dX12_byMirrors_1 1 rfl rfl ?_
  refine s_aload_n (pc := 2) dX12_byMirrors_2 0 rfl rfl ?_
  refine x_getI (pc := 3) dX12_byMirrors_3 fl_X12_145 rfl ha0 ?_
  refine s_i2l (pc := 6) dX12_byMirrors_6 ?_
  obtain ⟨q1, h2, hf⟩ := p_bd hf
  refine y_callV1 (pc := 7) dX12_byMirrors_7 (c_X12_mirrorX (p_dd hd (by decide)) hW ha0 h2) mk_X12_mirrorX mv_X12_mirrorX ml_X12_160 rfl rfl (Nat.le_of_ble_eq_true rfl) ha0 rfl (p_d1 hd (by decide)) (Nat.le_of_ble_eq_true rfl) ?_
  refine s_lstore_n (pc := 10) (lo' := [(3, .long q1), (0, .ref a0), (1, .int x1), (2, .int x2)]) dX12_byMirrors_10 rfl (Nat.le_of_ble_eq_true rfl) rfl ?_
  refine s_aload_n (pc := 11) dX12_byMirrors_11 1 rfl rfl ?_
  refine s_iload_n (pc := 12) dX12_byMirrors_12 2 rfl rfl ?_
  refine s_aload_n (pc := 13) dX12_byMirrors_13 1 rfl rfl ?_
  refine x_getI (pc := 14) dX12_byMirrors_14 fl_X12_148 rfl ha0 ?_
  refine s_i2l (pc := 17) dX12_byMirrors_17 ?_
  obtain ⟨q3, h4, hf⟩ := p_bd hf
  refine y_callV1 (pc := 18) dX12_byMirrors_18 (c_X12_mirrorY (p_dd hd (by decide)) hW ha0 h4) mk_X12_mirrorY mv_X12_mirrorY ml_X12_164 rfl rfl (Nat.le_of_ble_eq_true rfl) ha0 rfl (p_d1 hd (by decide)) (Nat.le_of_ble_eq_true rfl) ?_
  refine s_lstore (pc := 21) (lo' := [(5, .long q3), (3, .long q1), (0, .ref a0), (1, .int x1), (2, .int x2)]) dX12_byMirrors_21 (Nat.le_of_ble_eq_true rfl) rfl ?_
  refine s_aload_n (pc := 23) dX12_byMirrors_23 2 rfl rfl ?_
  refine s_iload_n (pc := 24) dX12_byMirrors_24 4 rfl rfl ?_
  refine s_lload_n (pc := 25) dX12_byMirrors_25 1 rfl rfl ?_
  refine s_lload (pc := 26) dX12_byMirrors_26 0 rfl ?_
  refine s_lconst (pc := 28) dX12_byMirrors_28 (v := 1) rfl ?_
  obtain ⟨q5, h6, hf⟩ := p_bd hf
  refine y_callV1 (pc := 29) dX12_byMirrors_29 (c_X12_side (p_dd hd (by decide)) hW ha0 h6) mk_X12_side mv_X12_side ml_X12_90 rfl rfl (Nat.le_of_ble_eq_true rfl) ha0 rfl (p_d1 hd (by decide)) (Nat.le_of_ble_eq_true rfl) ?_
  refine s_aload_n (pc := 32) dX12_byMirrors_32 2 rfl rfl ?_
  refine s_iload_n (pc := 33) dX12_byMirrors_33 4 rfl rfl ?_
  refine s_aload_n (pc := 34) dX12_byMirrors_34 2 rfl rfl ?_
  refine x_getI (pc := 35) dX12_byMirrors_35 fl_X12_151 rfl ha0 ?_
  refine s_i2l (pc := 38) dX12_byMirrors_38 ?_
  refine s_aload_n (pc := 39) dX12_byMirrors_39 2 rfl rfl ?_
  refine x_getI (pc := 40) dX12_byMirrors_40 fl_X12_154 rfl ha0 ?_
  refine s_i2l (pc := 43) dX12_byMirrors_43 ?_
  refine s_lconst (pc := 44) dX12_byMirrors_44 (v := 1) rfl ?_
  obtain ⟨q7, h8, hf⟩ := p_bd hf
  refine y_callV1 (pc := 45) dX12_byMirrors_45 (c_X12_side (p_dd hd (by decide)) hW ha0 h8) mk_X12_side mv_X12_side ml_X12_90 rfl rfl (Nat.le_of_ble_eq_true rfl) ha0 rfl (p_d1 hd (by decide)) (Nat.le_of_ble_eq_true rfl) ?_
  obtain ⟨q9, h10, hf⟩ := p_bd hf
  refine y_callS1 (pc := 48) dX12_byMirrors_48 (c_X12_areAlike (p_dd hd (by decide)) hW  h10) mk_X12_areAlike mz_X12_areAlike ml_X12_157 rfl rfl (Nat.le_of_ble_eq_true rfl) (p_d1 hd (by decide)) (Nat.le_of_ble_eq_true rfl) ?_
  refine s_if_ne (pc := 51) (tgt := 55) dX12_byMirrors_51 rfl (fun hc => ?_) (fun hc => ?_)
  · replace hf := p_ng hf hc
    refine s_aload_n (pc := 55) dX12_byMirrors_55 2 rfl rfl ?_
    refine s_iload_n (pc := 56) dX12_byMirrors_56 4 rfl rfl ?_
    refine s_lload_n (pc := 57) dX12_byMirrors_57 1 rfl rfl ?_
    obtain ⟨q11, h12, hf⟩ := p_bd hf
    refine y_callV1 (pc := 58) dX12_byMirrors_58 (c_X12_mirrorX (p_dd hd (by decide)) hW ha0 h12) mk_X12_mirrorX mv_X12_mirrorX ml_X12_160 rfl rfl (Nat.le_of_ble_eq_true rfl) ha0 rfl (p_d1 hd (by decide)) (Nat.le_of_ble_eq_true rfl) ?_
    refine s_lstore (pc := 61) (lo' := [(7, .long q11), (5, .long q3), (3, .long q1), (0, .ref a0), (1, .int x1), (2, .int x2)]) dX12_byMirrors_61 (Nat.le_of_ble_eq_true rfl) rfl ?_
    refine s_aload_n (pc := 63) dX12_byMirrors_63 3 rfl rfl ?_
    refine s_iload_n (pc := 64) dX12_byMirrors_64 5 rfl rfl ?_
    refine s_lload (pc := 65) dX12_byMirrors_65 1 rfl ?_
    obtain ⟨q13, h14, hf⟩ := p_bd hf
    refine y_callV1 (pc := 67) dX12_byMirrors_67 (c_X12_mirrorY (p_dd hd (by decide)) hW ha0 h14) mk_X12_mirrorY mv_X12_mirrorY ml_X12_164 rfl rfl (Nat.le_of_ble_eq_true rfl) ha0 rfl (p_d1 hd (by decide)) (Nat.le_of_ble_eq_true rfl) ?_
    refine s_lstore (pc := 70) (lo' := [(9, .long q13), (7, .long q11), (5, .long q3), (3, .long q1), (0, .ref a0), (1, .int x1), (2, .int x2)]) dX12_byMirrors_70 (Nat.le_of_ble_eq_true rfl) rfl ?_
    refine s_aload_n (pc := 72) dX12_byMirrors_72 4 rfl rfl ?_
    refine s_iload_n (pc := 73) dX12_byMirrors_73 6 rfl rfl ?_
    refine s_lload (pc := 74) dX12_byMirrors_74 1 rfl ?_
    refine s_lload (pc := 76) dX12_byMirrors_76 0 rfl ?_
    refine s_lconst (pc := 78) dX12_byMirrors_78 (v := 1) rfl ?_
    refine s_aload_n (pc := 79) dX12_byMirrors_79 4 rfl rfl ?_
    refine x_getI (pc := 80) dX12_byMirrors_80 fl_X12_151 rfl ha0 ?_
    refine s_i2l (pc := 83) dX12_byMirrors_83 ?_
    refine s_aload_n (pc := 84) dX12_byMirrors_84 4 rfl rfl ?_
    refine x_getI (pc := 85) dX12_byMirrors_85 fl_X12_154 rfl ha0 ?_
    refine s_i2l (pc := 88) dX12_byMirrors_88 ?_
    refine s_lconst (pc := 89) dX12_byMirrors_89 (v := 1) rfl ?_
    obtain ⟨q15, h16, hf⟩ := p_bd hf
    refine y_callV1 (pc := 90) dX12_byMirrors_90 (c_X12_crosses (p_dd hd (by decide)) hW ha0 h16) mk_X12_crosses mv_X12_crosses ml_X12_120 rfl rfl (Nat.le_of_ble_eq_true rfl) ha0 rfl (p_d1 hd (by decide)) (Nat.le_of_ble_eq_true rfl) ?_
    refine s_if_ne (pc := 93) (tgt := 97) dX12_byMirrors_93 rfl (fun hc => ?_) (fun hc => ?_)
    · replace hf := p_ng hf hc
      refine s_aload_n (pc := 97) dX12_byMirrors_97 4 rfl rfl ?_
      refine x_getL (pc := 98) dX12_byMirrors_98 fl_X12_98 rfl ha0 ?_
      refine s_lstore (pc := 101) (lo' := [(11, .long (q15.2 a0 2)), (9, .long q13), (7, .long q11), (5, .long q3), (3, .long q1), (0, .ref a0), (1, .int x1), (2, .int x2)]) dX12_byMirrors_101 (Nat.le_of_ble_eq_true rfl) rfl ?_
      refine s_aload_n (pc := 103) dX12_byMirrors_103 5 rfl rfl ?_
      refine x_getL (pc := 104) dX12_byMirrors_104 fl_X12_102 rfl ha0 ?_
      refine s_lstore (pc := 107) (lo' := [(13, .long (q15.2 a0 3)), (11, .long (q15.2 a0 2)), (9, .long q13), (7, .long q11), (5, .long q3), (3, .long q1), (0, .ref a0), (1, .int x1), (2, .int x2)]) dX12_byMirrors_107 (Nat.le_of_ble_eq_true rfl) rfl ?_
      refine s_aload_n (pc := 109) dX12_byMirrors_109 6 rfl rfl ?_
      refine x_getL (pc := 110) dX12_byMirrors_110 fl_X12_105 rfl ha0 ?_
      refine s_lstore (pc := 113) (lo' := [(15, .long (q15.2 a0 4)), (13, .long (q15.2 a0 3)), (11, .long (q15.2 a0 2)), (9, .long q13), (7, .long q11), (5, .long q3), (3, .long q1), (0, .ref a0), (1, .int x1), (2, .int x2)]) dX12_byMirrors_113 (Nat.le_of_ble_eq_true rfl) rfl ?_
      refine s_aload_n (pc := 115) dX12_byMirrors_115 7 rfl rfl ?_
      refine s_iload_n (pc := 116) dX12_byMirrors_116 8 rfl rfl ?_
      refine s_aload_n (pc := 117) dX12_byMirrors_117 7 rfl rfl ?_
      refine x_getI (pc := 118) dX12_byMirrors_118 fl_X12_145 rfl ha0 ?_
      refine s_i2l (pc := 121) dX12_byMirrors_121 ?_
      refine s_aload_n (pc := 122) dX12_byMirrors_122 7 rfl rfl ?_
      refine x_getI (pc := 123) dX12_byMirrors_123 fl_X12_148 rfl ha0 ?_
      refine s_i2l (pc := 126) dX12_byMirrors_126 ?_
      refine s_lconst (pc := 127) dX12_byMirrors_127 (v := 1) rfl ?_
      obtain ⟨q17, h18, hf⟩ := p_bd hf
      refine y_callV1 (pc := 128) dX12_byMirrors_128 (c_X12_side (p_dd hd (by decide)) hW ha0 h18) mk_X12_side mv_X12_side ml_X12_90 rfl rfl (Nat.le_of_ble_eq_true rfl) ha0 rfl (p_d1 hd (by decide)) (Nat.le_of_ble_eq_true rfl) ?_
      refine s_aload_n (pc := 131) dX12_byMirrors_131 7 rfl rfl ?_
      refine s_iload_n (pc := 132) dX12_byMirrors_132 8 rfl rfl ?_
      refine s_lload (pc := 133) dX12_byMirrors_133 2 rfl ?_
      refine s_lload (pc := 135) dX12_byMirrors_135 1 rfl ?_
      refine s_lload (pc := 137) dX12_byMirrors_137 0 rfl ?_
      obtain ⟨q19, h20, hf⟩ := p_bd hf
      refine y_callV1 (pc := 139) dX12_byMirrors_139 (c_X12_side (p_dd hd (by decide)) hW ha0 h20) mk_X12_side mv_X12_side ml_X12_90 rfl rfl (Nat.le_of_ble_eq_true rfl) ha0 rfl (p_d1 hd (by decide)) (Nat.le_of_ble_eq_true rfl) ?_
      obtain ⟨q21, h22, hf⟩ := p_bd hf
      refine y_callS1 (pc := 142) dX12_byMirrors_142 (c_X12_areAlike (p_dd hd (by decide)) hW  h22) mk_X12_areAlike mz_X12_areAlike ml_X12_157 rfl rfl (Nat.le_of_ble_eq_true rfl) (p_d1 hd (by decide)) (Nat.le_of_ble_eq_true rfl) ?_
      refine s_if_eq (pc := 145) (tgt := 166) dX12_byMirrors_145 rfl (fun hc => ?_) (fun hc => ?_)
      · replace hf := p_ps hf hc
        cases hf
        exact s_return (pc := 166) dX12_byMirrors_166 rfl ⟨rfl, rfl, rfl, rfl, rfl⟩
      · replace hf := p_ng hf hc
        refine s_aload_n (pc := 148) dX12_byMirrors_148 7 rfl rfl ?_
        refine s_iload_n (pc := 149) dX12_byMirrors_149 8 rfl rfl ?_
        refine s_lload_n (pc := 150) dX12_byMirrors_150 6 rfl rfl ?_
        refine s_lload (pc := 151) dX12_byMirrors_151 5 rfl ?_
        refine s_lconst (pc := 153) dX12_byMirrors_153 (v := 1) rfl ?_
        refine s_lload (pc := 154) dX12_byMirrors_154 2 rfl ?_
        refine s_lload (pc := 156) dX12_byMirrors_156 1 rfl ?_
        refine s_lload (pc := 158) dX12_byMirrors_158 0 rfl ?_
        obtain ⟨q23, h24, hf⟩ := p_bd hf
        refine y_callV1 (pc := 160) dX12_byMirrors_160 (c_X12_crosses (p_dd hd (by decide)) hW ha0 h24) mk_X12_crosses mv_X12_crosses ml_X12_120 rfl rfl (Nat.le_of_ble_eq_true rfl) ha0 rfl (p_d1 hd (by decide)) (Nat.le_of_ble_eq_true rfl) ?_
        refine s_if_ne (pc := 163) (tgt := 167) dX12_byMirrors_163 rfl (fun hc => ?_) (fun hc => ?_)
        · replace hf := p_ng hf hc
          refine s_aload_n (pc := 167) dX12_byMirrors_167 7 rfl rfl ?_
          refine x_getL (pc := 168) dX12_byMirrors_168 fl_X12_98 rfl ha0 ?_
          refine s_lstore (pc := 171) (lo' := [(17, .long (q23.2 a0 2)), (15, .long (q15.2 a0 4)), (13, .long (q15.2 a0 3)), (11, .long (q15.2 a0 2)), (9, .long q13), (7, .long q11), (5, .long q3), (3, .long q1), (0, .ref a0), (1, .int x1), (2, .int x2)]) dX12_byMirrors_171 (Nat.le_of_ble_eq_true rfl) rfl ?_
          refine s_aload_n (pc := 173) dX12_byMirrors_173 8 rfl rfl ?_
          refine x_getL (pc := 174) dX12_byMirrors_174 fl_X12_102 rfl ha0 ?_
          refine s_lstore (pc := 177) (lo' := [(19, .long (q23.2 a0 3)), (17, .long (q23.2 a0 2)), (15, .long (q15.2 a0 4)), (13, .long (q15.2 a0 3)), (11, .long (q15.2 a0 2)), (9, .long q13), (7, .long q11), (5, .long q3), (3, .long q1), (0, .ref a0), (1, .int x1), (2, .int x2)]) dX12_byMirrors_177 (Nat.le_of_ble_eq_true rfl) rfl ?_
          refine s_aload_n (pc := 179) dX12_byMirrors_179 9 rfl rfl ?_
          refine x_getL (pc := 180) dX12_byMirrors_180 fl_X12_105 rfl ha0 ?_
          refine s_lstore (pc := 183) (lo' := [(21, .long (q23.2 a0 4)), (19, .long (q23.2 a0 3)), (17, .long (q23.2 a0 2)), (15, .long (q15.2 a0 4)), (13, .long (q15.2 a0 3)), (11, .long (q15.2 a0 2)), (9, .long q13), (7, .long q11), (5, .long q3), (3, .long q1), (0, .ref a0), (1, .int x1), (2, .int x2)]) dX12_byMirrors_183 (Nat.le_of_ble_eq_true rfl) rfl ?_
          refine s_lload (pc := 185) dX12_byMirrors_185 7 rfl ?_
          refine s_aload_n (pc := 187) dX12_byMirrors_187 10 rfl rfl ?_
          refine x_getI (pc := 188) dX12_byMirrors_188 fl_X12_151 rfl ha0 ?_
          refine s_i2l (pc := 191) dX12_byMirrors_191 ?_
          refine s_lsub (pc := 192) dX12_byMirrors_192 ?_
          refine s_lload (pc := 193) dX12_byMirrors_193 6 rfl ?_
          refine s_aload_n (pc := 195) dX12_byMirrors_195 10 rfl rfl ?_
          refine x_getI (pc := 196) dX12_byMirrors_196 fl_X12_154 rfl ha0 ?_
          refine s_i2l (pc := 199) dX12_byMirrors_199 ?_
          refine s_lsub (pc := 200) dX12_byMirrors_200 ?_
          obtain ⟨q25, h26, hf⟩ := p_bd hf
          refine y_callS1 (pc := 201) dX12_byMirrors_201 (c_X12_squares (p_dd hd (by decide)) hW  h26) mk_X12_squares mz_X12_squares ml_X12_167 rfl rfl (Nat.le_of_ble_eq_true rfl) (p_d1 hd (by decide)) (Nat.le_of_ble_eq_true rfl) ?_
          refine s_lstore (pc := 204) (lo' := [(23, .long q25), (21, .long (q23.2 a0 4)), (19, .long (q23.2 a0 3)), (17, .long (q23.2 a0 2)), (15, .long (q15.2 a0 4)), (13, .long (q15.2 a0 3)), (11, .long (q15.2 a0 2)), (9, .long q13), (7, .long q11), (5, .long q3), (3, .long q1), (0, .ref a0), (1, .int x1), (2, .int x2)]) dX12_byMirrors_204 (Nat.le_of_ble_eq_true rfl) rfl ?_
          refine s_aload_n (pc := 206) dX12_byMirrors_206 11 rfl rfl ?_
          refine s_lload (pc := 207) dX12_byMirrors_207 0 rfl ?_
          obtain ⟨q27, h28, hf⟩ := p_bd hf
          refine y_callV0 (pc := 209) dX12_byMirrors_209 (c_X12_begins (p_dd hd (by decide)) hW ha0 h28) mk_X12_begins mv_X12_begins ml_X12_171 rfl rfl (Nat.le_of_ble_eq_true rfl) ha0 rfl (p_d1 hd (by decide)) (Nat.le_of_ble_eq_true rfl) ?_
          refine s_aload_n (pc := 212) dX12_byMirrors_212 11 rfl rfl ?_
          refine s_aload_n (pc := 213) dX12_byMirrors_213 11 rfl rfl ?_
          obtain ⟨q29, h30, hf⟩ := p_bd hf
          have t31 : p_tp N q29 0 := WT.get hW ha0 h30
          refine x_getR (pc := 214) dX12_byMirrors_214 fl_X12_7 rfl ha0 h30 ?_
          refine s_bipush (pc := 217) dX12_byMirrors_217 (v := nI 18) rfl ?_
          refine s_aload_n (pc := 219) dX12_byMirrors_219 11 rfl rfl ?_
          refine s_iload_n (pc := 220) dX12_byMirrors_220 12 rfl rfl ?_
          refine s_iconst (pc := 221) dX12_byMirrors_221 (v := nI 4) rfl ?_
          obtain ⟨q32, h33, hf⟩ := p_bd hf
          refine y_callV1 (pc := 222) dX12_byMirrors_222 (c_X12_wallOf (p_dd hd (by decide)) hW ha0 h33) mk_X12_wallOf mv_X12_wallOf ml_X12_72 rfl rfl (Nat.le_of_ble_eq_true rfl) ha0 rfl (p_d1 hd (by decide)) (Nat.le_of_ble_eq_true rfl) ?_
          refine s_iadd (pc := 225) dX12_byMirrors_225 ?_
          obtain ⟨c34, hf⟩ := p_ckx hf
          refine x_iald (pc := 226) dX12_byMirrors_226 t31 c34 ?_
          obtain ⟨q35, h36, hf⟩ := p_bd hf
          refine y_callV0 (pc := 227) dX12_byMirrors_227 (c_X12_weakens (p_dd hd (by decide)) hW ha0 h36) mk_X12_weakens mv_X12_weakens ml_X12_128 rfl rfl (Nat.le_of_ble_eq_true rfl) ha0 rfl (p_d1 hd (by decide)) (Nat.le_of_ble_eq_true rfl) ?_
          refine s_aload_n (pc := 230) dX12_byMirrors_230 11 rfl rfl ?_
          refine s_aload_n (pc := 231) dX12_byMirrors_231 11 rfl rfl ?_
          obtain ⟨q37, h38, hf⟩ := p_bd hf
          have t39 : p_tp N q37 0 := WT.get hW ha0 h38
          refine x_getR (pc := 232) dX12_byMirrors_232 fl_X12_7 rfl ha0 h38 ?_
          refine s_bipush (pc := 235) dX12_byMirrors_235 (v := nI 18) rfl ?_
          refine s_aload_n (pc := 237) dX12_byMirrors_237 11 rfl rfl ?_
          refine s_iload_n (pc := 238) dX12_byMirrors_238 13 rfl rfl ?_
          refine s_iconst (pc := 239) dX12_byMirrors_239 (v := nI 4) rfl ?_
          obtain ⟨q40, h41, hf⟩ := p_bd hf
          refine y_callV1 (pc := 240) dX12_byMirrors_240 (c_X12_wallOf (p_dd hd (by decide)) hW ha0 h41) mk_X12_wallOf mv_X12_wallOf ml_X12_72 rfl rfl (Nat.le_of_ble_eq_true rfl) ha0 rfl (p_d1 hd (by decide)) (Nat.le_of_ble_eq_true rfl) ?_
          refine s_iadd (pc := 243) dX12_byMirrors_243 ?_
          obtain ⟨c42, hf⟩ := p_ckx hf
          refine x_iald (pc := 244) dX12_byMirrors_244 t39 c42 ?_
          obtain ⟨q43, h44, hf⟩ := p_bd hf
          refine y_callV0 (pc := 245) dX12_byMirrors_245 (c_X12_weakens (p_dd hd (by decide)) hW ha0 h44) mk_X12_weakens mv_X12_weakens ml_X12_128 rfl rfl (Nat.le_of_ble_eq_true rfl) ha0 rfl (p_d1 hd (by decide)) (Nat.le_of_ble_eq_true rfl) ?_
          refine s_aload_n (pc := 248) dX12_byMirrors_248 11 rfl rfl ?_
          refine s_aload_n (pc := 249) dX12_byMirrors_249 11 rfl rfl ?_
          refine x_getI (pc := 250) dX12_byMirrors_250 fl_X12_145 rfl ha0 ?_
          refine s_i2l (pc := 253) dX12_byMirrors_253 ?_
          refine s_aload_n (pc := 254) dX12_byMirrors_254 11 rfl rfl ?_
          refine x_getI (pc := 255) dX12_byMirrors_255 fl_X12_148 rfl ha0 ?_
          refine s_i2l (pc := 258) dX12_byMirrors_258 ?_
          refine s_lconst (pc := 259) dX12_byMirrors_259 (v := 1) rfl ?_
          refine s_lload (pc := 260) dX12_byMirrors_260 3 rfl ?_
          refine s_lload (pc := 262) dX12_byMirrors_262 2 rfl ?_
          refine s_lload (pc := 264) dX12_byMirrors_264 1 rfl ?_
          obtain ⟨q45, h46, hf⟩ := p_bd hf
          refine y_callV0 (pc := 266) dX12_byMirrors_266 (c_X12_leg (p_dd hd (by decide)) hW ha0 h46) mk_X12_leg mv_X12_leg ml_X12_175 rfl rfl (Nat.le_of_ble_eq_true rfl) ha0 rfl (p_d1 hd (by decide)) (Nat.le_of_ble_eq_true rfl) ?_
          refine s_aload_n (pc := 269) dX12_byMirrors_269 11 rfl rfl ?_
          refine s_lload (pc := 270) dX12_byMirrors_270 3 rfl ?_
          refine s_lload (pc := 272) dX12_byMirrors_272 2 rfl ?_
          refine s_lload (pc := 274) dX12_byMirrors_274 1 rfl ?_
          refine s_lload (pc := 276) dX12_byMirrors_276 6 rfl ?_
          refine s_lload (pc := 278) dX12_byMirrors_278 5 rfl ?_
          refine s_lload (pc := 280) dX12_byMirrors_280 4 rfl ?_
          obtain ⟨q47, h48, hf⟩ := p_bd hf
          refine y_callV0 (pc := 282) dX12_byMirrors_282 (c_X12_leg (p_dd hd (by decide)) hW ha0 h48) mk_X12_leg mv_X12_leg ml_X12_175 rfl rfl (Nat.le_of_ble_eq_true rfl) ha0 rfl (p_d1 hd (by decide)) (Nat.le_of_ble_eq_true rfl) ?_
          refine s_aload_n (pc := 285) dX12_byMirrors_285 11 rfl rfl ?_
          refine s_lload (pc := 286) dX12_byMirrors_286 6 rfl ?_
          refine s_lload (pc := 288) dX12_byMirrors_288 5 rfl ?_
          refine s_lload (pc := 290) dX12_byMirrors_290 4 rfl ?_
          refine s_aload_n (pc := 292) dX12_byMirrors_292 11 rfl rfl ?_
          refine x_getI (pc := 293) dX12_byMirrors_293 fl_X12_151 rfl ha0 ?_
          refine s_i2l (pc := 296) dX12_byMirrors_296 ?_
          refine s_aload_n (pc := 297) dX12_byMirrors_297 11 rfl rfl ?_
          refine x_getI (pc := 298) dX12_byMirrors_298 fl_X12_154 rfl ha0 ?_
          refine s_i2l (pc := 301) dX12_byMirrors_301 ?_
          refine s_lconst (pc := 302) dX12_byMirrors_302 (v := 1) rfl ?_
          obtain ⟨q49, h50, hf⟩ := p_bd hf
          refine y_callV0 (pc := 303) dX12_byMirrors_303 (c_X12_leg (p_dd hd (by decide)) hW ha0 h50) mk_X12_leg mv_X12_leg ml_X12_175 rfl rfl (Nat.le_of_ble_eq_true rfl) ha0 rfl (p_d1 hd (by decide)) (Nat.le_of_ble_eq_true rfl) ?_
          refine s_aload_n (pc := 306) dX12_byMirrors_306 11 rfl rfl ?_
          refine s_iconst (pc := 307) dX12_byMirrors_307 (v := nI 2) rfl ?_
          refine s_iload_n (pc := 308) dX12_byMirrors_308 12 rfl rfl ?_
          refine s_iload_n (pc := 309) dX12_byMirrors_309 13 rfl rfl ?_
          refine s_lload (pc := 310) dX12_byMirrors_310 0 rfl ?_
          refine s_lconst (pc := 312) dX12_byMirrors_312 (v := 0) rfl ?_
          obtain ⟨q51, h52, hf⟩ := p_bd hf
          refine y_callV0 (pc := 313) dX12_byMirrors_313 (c_X12_adds (p_dd hd (by decide)) hW ha0 h52) mk_X12_adds mv_X12_adds ml_X12_179 rfl rfl (Nat.le_of_ble_eq_true rfl) ha0 rfl (p_d1 hd (by decide)) (Nat.le_of_ble_eq_true rfl) ?_
          cases hf
          exact s_return (pc := 316) dX12_byMirrors_316 rfl ⟨rfl, rfl, rfl, rfl, rfl⟩
        · replace hf := p_ps hf hc
          cases hf
          exact s_return (pc := 166) dX12_byMirrors_166 rfl ⟨rfl, rfl, rfl, rfl, rfl⟩
    · replace hf := p_ps hf hc
      cases hf
      exact s_return (pc := 96) dX12_byMirrors_96 rfl ⟨rfl, rfl, rfl, rfl, rfl⟩
  · replace hf := p_ps hf hc
    cases hf
    exact s_return (pc := 54) dX12_byMirrors_54 rfl ⟨rfl, rfl, rfl, rfl, rfl⟩
