def f_X12_served (n : Nat) (N : pN) (I : pI) (L : pL) (P : pR) (a0 : Nat) (x1 : Int32) : Option (Int32 × pI × pL) :=
  Option.bind (f_X12_isOf N I P a0 x1 (nI 7)) fun q1 =>
  (if q1 = 0 then
    some ((-1), I, L)
  else
    Option.bind (f_X12_walks n N I L P a0) fun q3 =>
    Option.bind (P a0 21) fun q5 =>
    p_ck (p_ib N q5 x1) <|
    some (q3.1 q5 (Int32.toNatClampNeg x1), q3.1, q3.2))
theorem c_X12_served {G : pG} {d : Nat} {n : Nat} {N : pN} {I : pI} {L : pL} {P : pR} {a0 : Nat} {x1 : Int32} {qq : Int32 × pI × pL} (hd : 11 ≤ d) (hW : WT N P) (ha0 : p_tp N a0 15) (hf : f_X12_served n N I L P a0 x1 = some qq) : MT G mX12_served d 0 0 [.ref a0, .int x1] N I L P (p_R (some (.int qq.1)) N qq.2.1 qq.2.2 P) := by
  refine MT.of rfl (Nat.le_of_ble_eq_true rfl) ?_
  show SW G mX12_served (p_rm d 0 0) 0 0 0 0 (p_R (some (.int qq.1)) N qq.2.1 qq.2.2 P) 0 [(0, .ref a0), (1, .int x1)] [] N I L P
  unfold f_X12_served at hf
  refine s_aload_n (pc := 0) dX12_served_0 0 rfl rfl ?_
  refine s_iload_n (pc := 1) dX12_served_1 1 rfl rfl ?_
  refine s_bipush (pc := 2) dX12_served_2 (v := nI 7) rfl ?_
  obtain ⟨q1, h2, hf⟩ := p_bd hf
  refine y_callV1 (pc := 4) dX12_served_4 (c_X12_isOf (p_dd hd (by decide)) hW ha0 h2) mk_X12_isOf mv_X12_isOf ml_X12_80 rfl rfl (Nat.le_of_ble_eq_true rfl) ha0 rfl (p_d1 hd (by decide)) (Nat.le_of_ble_eq_true rfl) ?_
  refine s_if_ne (pc := 7) (tgt := 12) dX12_served_7 rfl (fun hc => ?_) (fun hc => ?_)
  · replace hf := p_ng hf hc
    refine s_aload_n (pc := 12) dX12_served_12 0 rfl rfl ?_
    obtain ⟨q3, h4, hf⟩ := p_bd hf
    refine y_callV0 (pc := 13) dX12_served_13 (c_X12_walks (p_dd hd (by decide)) hW ha0 h4) mk_X12_walks mv_X12_walks ml_X12_254 rfl rfl (Nat.le_of_ble_eq_true rfl) ha0 rfl (p_d1 hd (by decide)) (Nat.le_of_ble_eq_true rfl) ?_
    refine s_aload_n (pc := 16) dX12_served_16 0 rfl rfl ?_
    obtain ⟨q5, h6, hf⟩ := p_bd hf
    have t7 : p_tp N q5 0 := WT.get hW ha0 h6
    refine x_getR (pc := 17) dX12_served_17 fl_X12_41 rfl ha0 h6 ?_
    refine s_iload_n (pc := 20) dX12_served_20 1 rfl rfl ?_
    obtain ⟨c8, hf⟩ := p_ckx hf
    refine x_iald (pc := 21) dX12_served_21 t7 c8 ?_
    cases hf
    exact s_ireturn (pc := 22) dX12_served_22 rfl rfl ⟨rfl, rfl, rfl, rfl, rfl⟩
  · replace hf := p_ps hf hc
    refine s_iconst (pc := 10) dX12_served_10 (v := (-1)) rfl ?_
    cases hf
    exact s_ireturn (pc := 11) dX12_served_11 rfl rfl ⟨rfl, rfl, rfl, rfl, rfl⟩
def B_X12_walk_11 (N : pN) (I : pI) (P : pR) (a0 : Nat) (rec0 : (Int32 × Int32 × Int32) → Option (Int32 × Int32)) (s0 : Int32 × Int32 × Int32) : Option (Int32 × Int32) :=
  Option.bind (P a0 0) fun q5 =>
  p_ck (p_ib N q5 (nI 7)) <|
  (if (I q5 (Int32.toNatClampNeg (nI 7))) ≤ s0.2.2 then
    some (s0.1, s0.2.1)
  else
    Option.bind (P a0 21) fun q9 =>
    p_ck (p_ib N q9 s0.2.2) <|
    p_let (α := Int32) ((if 0 ≤ (I q9 (Int32.toNatClampNeg s0.2.2)) then
      nI 0
    else
      nI 1)) fun t13 =>
    Option.bind (α := Int32) ((if s0.2.2 ≤ 0 then
      some (nI 0)
    else
      Option.bind (P a0 21) fun q17 =>
      p_ck (p_ib N q17 s0.2.2) <|
      (if (I q17 (Int32.toNatClampNeg s0.2.2)) < 0 then
        some (nI 0)
      else
        Option.bind (P a0 21) fun q21 =>
        p_ck (p_ib N q21 (s0.2.2 - (nI 1))) <|
        (if (I q21 (Int32.toNatClampNeg (s0.2.2 - (nI 1)))) < 0 then
          some (nI 0)
        else
          Option.bind (P a0 21) fun q25 =>
          p_ck (p_ib N q25 s0.2.2) <|
          Option.bind (P a0 21) fun q29 =>
          p_ck (p_ib N q29 (s0.2.2 - (nI 1))) <|
          (if (I q25 (Int32.toNatClampNeg s0.2.2)) = (I q29 (Int32.toNatClampNeg (s0.2.2 - (nI 1)))) then
            some (nI 0)
          else
            some (nI 1)))))) fun t15 =>
    rec0 (s0.1 + t15, s0.2.1 + t13, s0.2.2 + nI 1))
def f_X12_walk (n : Nat) (N : pN) (I : pI) (L : pL) (P : pR) (a0 : Nat) (x1 : Int32) : Option (Int32 × pI × pL) :=
  Option.bind (f_X12_walks n N I L P a0) fun q1 =>
  Option.bind (p_it (B_X12_walk_11 N q1.1 P a0) n (nI 0, nI 0, nI 0)) fun t3 =>
  (if x1 = 0 then
    Option.bind (P a0 0) fun q62 =>
    p_ck (p_ib N q62 (nI 7)) <|
    some (q1.1 q62 (Int32.toNatClampNeg (nI 7)), q1.1, q1.2)
  else
    (if x1 = (nI 1) then
      some (t3.1, q1.1, q1.2)
    else
      (if x1 = (nI 2) then
        some (t3.2, q1.1, q1.2)
      else
        some ((-1), q1.1, q1.2))))
theorem c_X12_walk {G : pG} {d : Nat} {n : Nat} {N : pN} {I : pI} {L : pL} {P : pR} {a0 : Nat} {x1 : Int32} {qq : Int32 × pI × pL} (hd : 11 ≤ d) (hW : WT N P) (ha0 : p_tp N a0 15) (hf : f_X12_walk n N I L P a0 x1 = some qq) : MT G mX12_walk d 0 0 [.ref a0, .int x1] N I L P (p_R (some (.int qq.1)) N qq.2.1 qq.2.2 P) := by
  refine MT.of rfl (Nat.le_of_ble_eq_true rfl) ?_
  show SW G mX12_walk (p_rm d 0 0) 0 0 0 0 (p_R (some (.int qq.1)) N qq.2.1 qq.2.2 P) 0 [(0, .ref a0), (1, .int x1)] [] N I L P
  unfold f_X12_walk at hf
  refine s_aload_n (pc := 0) dX12_walk_0 0 rfl rfl ?_
  obtain ⟨q1, h2, hf⟩ := p_bd hf
  refine y_callV0 (pc := 1) dX12_walk_1 (c_X12_walks (p_dd hd (by decide)) hW ha0 h2) mk_X12_walks mv_X12_walks ml_X12_254 rfl rfl (Nat.le_of_ble_eq_true rfl) ha0 rfl (p_d1 hd (by decide)) (Nat.le_of_ble_eq_true rfl) ?_
  refine s_iconst (pc := 4) dX12_walk_4 (v := nI 0) rfl ?_
  refine s_istore_n (pc := 5) (lo' := [(2, .int (nI 0)), (0, .ref a0), (1, .int x1)]) dX12_walk_5 rfl (Nat.le_of_ble_eq_true rfl) rfl ?_
  refine s_iconst (pc := 6) dX12_walk_6 (v := nI 0) rfl ?_
  refine s_istore_n (pc := 7) (lo' := [(3, .int (nI 0)), (2, .int (nI 0)), (0, .ref a0), (1, .int x1)]) dX12_walk_7 rfl (Nat.le_of_ble_eq_true rfl) rfl ?_
  refine s_iconst (pc := 8) dX12_walk_8 (v := nI 0) rfl ?_
  refine s_istore (pc := 9) (lo' := [(4, .int (nI 0)), (3, .int (nI 0)), (2, .int (nI 0)), (0, .ref a0), (1, .int x1)]) dX12_walk_9 (Nat.le_of_ble_eq_true rfl) rfl ?_
  obtain ⟨t3, hg, hf⟩ := p_bd hf
  have k4 : SW G mX12_walk (p_rm d 0 0) 0 0 0 0 (p_R (some (.int qq.1)) N qq.2.1 qq.2.2 P) 101 [(0, .ref a0), (1, .int x1), (2, .int t3.1), (3, .int t3.2)] [] N q1.1 q1.2 P := by
    refine s_iload_n (pc := 101) dX12_walk_101 1 rfl rfl ?_
    refine s_if_ne (pc := 102) (tgt := 115) dX12_walk_102 rfl (fun hc => ?_) (fun hc => ?_)
    · replace hf := p_ng hf hc
      refine s_iload_n (pc := 115) dX12_walk_115 1 rfl rfl ?_
      refine s_iconst (pc := 116) dX12_walk_116 (v := nI 1) rfl ?_
      refine s_icmp_ne (pc := 117) (tgt := 124) dX12_walk_117 rfl (fun hc => ?_) (fun hc => ?_)
      · replace hf := p_ng hf hc
        refine s_iload_n (pc := 124) dX12_walk_124 1 rfl rfl ?_
        refine s_iconst (pc := 125) dX12_walk_125 (v := nI 2) rfl ?_
        refine s_icmp_ne (pc := 126) (tgt := 133) dX12_walk_126 rfl (fun hc => ?_) (fun hc => ?_)
        · replace hf := p_ng hf hc
          refine s_iconst (pc := 133) dX12_walk_133 (v := (-1)) rfl ?_
          cases hf
          exact s_ireturn (pc := 134) dX12_walk_134 rfl rfl ⟨rfl, rfl, rfl, rfl, rfl⟩
        · replace hf := p_ps hf hc
          refine s_iload_n (pc := 129) dX12_walk_129 3 rfl rfl ?_
          refine s_goto (pc := 130) (tgt := 134) dX12_walk_130 rfl ?_
          cases hf
          exact s_ireturn (pc := 134) dX12_walk_134 rfl rfl ⟨rfl, rfl, rfl, rfl, rfl⟩
      · replace hf := p_ps hf hc
        refine s_iload_n (pc := 120) dX12_walk_120 2 rfl rfl ?_
        refine s_goto (pc := 121) (tgt := 134) dX12_walk_121 rfl ?_
        cases hf
        exact s_ireturn (pc := 134) dX12_walk_134 rfl rfl ⟨rfl, rfl, rfl, rfl, rfl⟩
    · replace hf := p_ps hf hc
      refine s_aload_n (pc := 105) dX12_walk_105 0 rfl rfl ?_
      obtain ⟨q62, h63, hf⟩ := p_bd hf
      have t64 : p_tp N q62 0 := WT.get hW ha0 h63
      refine x_getR (pc := 106) dX12_walk_106 fl_X12_7 rfl ha0 h63 ?_
      refine s_bipush (pc := 109) dX12_walk_109 (v := nI 7) rfl ?_
      obtain ⟨c65, hf⟩ := p_ckx hf
      refine x_iald (pc := 111) dX12_walk_111 t64 c65 ?_
      refine s_goto (pc := 112) (tgt := 134) dX12_walk_112 rfl ?_
      cases hf
      exact s_ireturn (pc := 134) dX12_walk_134 rfl rfl ⟨rfl, rfl, rfl, rfl, rfl⟩
  replace hf := hg
  have k33 : ∀ (k : Nat) (s0 : Int32 × Int32 × Int32), p_it (B_X12_walk_11 N q1.1 P a0) k s0 = some t3 → (SW G mX12_walk (p_rm d 0 0) 0 0 0 0 (p_R (some (.int qq.1)) N qq.2.1 qq.2.2 P) 11 [(0, .ref a0), (1, .int x1), (2, .int s0.1), (3, .int s0.2.1), (4, .int s0.2.2)] [] N q1.1 q1.2 P) := p_it_ind (C := fun (s0 : Int32 × Int32 × Int32) => SW G mX12_walk (p_rm d 0 0) 0 0 0 0 (p_R (some (.int qq.1)) N qq.2.1 qq.2.2 P) 11 [(0, .ref a0), (1, .int x1), (2, .int s0.1), (3, .int s0.2.1), (4, .int s0.2.2)] [] N q1.1 q1.2 P) (by
    intro rec0 hrec0 s0 hf
    unfold B_X12_walk_11 at hf
    refine s_iload (pc := 11) dX12_walk_11 4 rfl ?_
    refine s_aload_n (pc := 13) dX12_walk_13 0 rfl rfl ?_
    obtain ⟨q34, h35, hf⟩ := p_bd hf
    have t36 : p_tp N q34 0 := WT.get hW ha0 h35
    refine x_getR (pc := 14) dX12_walk_14 fl_X12_7 rfl ha0 h35 ?_
    refine s_bipush (pc := 17) dX12_walk_17 (v := nI 7) rfl ?_
    obtain ⟨c37, hf⟩ := p_ckx hf
    refine x_iald (pc := 19) dX12_walk_19 t36 c37 ?_
    refine s_icmp_ge (pc := 20) (tgt := 101) dX12_walk_20 rfl (fun hc => ?_) (fun hc => ?_)
    · replace hf := p_ps hf hc
      cases hf
      exact s_lo [0, 1, 2, 3] rfl (k4)
    · replace hf := p_ng hf hc
      refine s_iload_n (pc := 23) dX12_walk_23 3 rfl rfl ?_
      refine s_aload_n (pc := 24) dX12_walk_24 0 rfl rfl ?_
      obtain ⟨q38, h39, hf⟩ := p_bd hf
      have t40 : p_tp N q38 0 := WT.get hW ha0 h39
      refine x_getR (pc := 25) dX12_walk_25 fl_X12_41 rfl ha0 h39 ?_
      refine s_iload (pc := 28) dX12_walk_28 4 rfl ?_
      obtain ⟨c41, hf⟩ := p_ckx hf
      refine x_iald (pc := 30) dX12_walk_30 t40 c41 ?_
      obtain ⟨t42, hg, hf⟩ := p_lx2 hf
      have k43 : SW G mX12_walk (p_rm d 0 0) 0 0 0 0 (p_R (some (.int qq.1)) N qq.2.1 qq.2.2 P) 39 [(0, .ref a0), (1, .int x1), (2, .int s0.1), (4, .int s0.2.2)] [.int t42, .int s0.2.1] N q1.1 q1.2 P := by
        refine s_iadd (pc := 39) dX12_walk_39 ?_
        refine s_istore_n (pc := 40) (lo' := [(3, .int (s0.2.1 + t42)), (0, .ref a0), (1, .int x1), (2, .int s0.1), (4, .int s0.2.2)]) dX12_walk_40 rfl (Nat.le_of_ble_eq_true rfl) rfl ?_
        refine s_iload_n (pc := 41) dX12_walk_41 3 rfl rfl ?_
        refine s_iload (pc := 42) dX12_walk_42 4 rfl ?_
        obtain ⟨t44, hg, hf⟩ := p_bd hf
        have k45 : SW G mX12_walk (p_rm d 0 0) 0 0 0 0 (p_R (some (.int qq.1)) N qq.2.1 qq.2.2 P) 93 [(3, .int (s0.2.1 + t42)), (0, .ref a0), (1, .int x1), (4, .int s0.2.2)] [.int t44, .int s0.1] N q1.1 q1.2 P := by
          refine s_iadd (pc := 93) dX12_walk_93 ?_
          refine s_istore_n (pc := 94) (lo' := [(2, .int (s0.1 + t44)), (3, .int (s0.2.1 + t42)), (0, .ref a0), (1, .int x1), (4, .int s0.2.2)]) dX12_walk_94 rfl (Nat.le_of_ble_eq_true rfl) rfl ?_
          refine s_iinc (pc := 95) (lo' := [(4, .int (s0.2.2 + nI 1)), (2, .int (s0.1 + t44)), (3, .int (s0.2.1 + t42)), (0, .ref a0), (1, .int x1)]) dX12_walk_95 4 rfl (v := s0.2.2 + nI 1) rfl (Nat.le_of_ble_eq_true rfl) rfl ?_
          refine s_goto (pc := 98) (tgt := 11) dX12_walk_98 rfl ?_
          exact s_lo [3, 4, 1, 2, 0] rfl (hrec0 (s0.1 + t44, s0.2.1 + t42, s0.2.2 + nI 1) hf)
        replace hf := hg
        refine s_if_le (pc := 44) (tgt := 92) dX12_walk_44 rfl (fun hc => ?_) (fun hc => ?_)
        · replace hf := p_ps hf hc
          refine s_iconst (pc := 92) dX12_walk_92 (v := nI 0) rfl ?_
          cases hf
          exact s_lo [0, 1, 2, 4] rfl (k45)
        · replace hf := p_ng hf hc
          refine s_aload_n (pc := 47) dX12_walk_47 1 rfl rfl ?_
          obtain ⟨q46, h47, hf⟩ := p_bd hf
          have t48 : p_tp N q46 0 := WT.get hW ha0 h47
          refine x_getR (pc := 48) dX12_walk_48 fl_X12_41 rfl ha0 h47 ?_
          refine s_iload (pc := 51) dX12_walk_51 4 rfl ?_
          obtain ⟨c49, hf⟩ := p_ckx hf
          refine x_iald (pc := 53) dX12_walk_53 t48 c49 ?_
          refine s_if_lt (pc := 54) (tgt := 92) dX12_walk_54 rfl (fun hc => ?_) (fun hc => ?_)
          · replace hf := p_ps hf hc
            refine s_iconst (pc := 92) dX12_walk_92 (v := nI 0) rfl ?_
            cases hf
            exact s_lo [0, 1, 2, 4] rfl (k45)
          · replace hf := p_ng hf hc
            refine s_aload_n (pc := 57) dX12_walk_57 1 rfl rfl ?_
            obtain ⟨q50, h51, hf⟩ := p_bd hf
            have t52 : p_tp N q50 0 := WT.get hW ha0 h51
            refine x_getR (pc := 58) dX12_walk_58 fl_X12_41 rfl ha0 h51 ?_
            refine s_iload (pc := 61) dX12_walk_61 4 rfl ?_
            refine s_iconst (pc := 63) dX12_walk_63 (v := nI 1) rfl ?_
            refine s_isub (pc := 64) dX12_walk_64 ?_
            obtain ⟨c53, hf⟩ := p_ckx hf
            refine x_iald (pc := 65) dX12_walk_65 t52 c53 ?_
            refine s_if_lt (pc := 66) (tgt := 92) dX12_walk_66 rfl (fun hc => ?_) (fun hc => ?_)
            · replace hf := p_ps hf hc
              refine s_iconst (pc := 92) dX12_walk_92 (v := nI 0) rfl ?_
              cases hf
              exact s_lo [0, 1, 2, 4] rfl (k45)
            · replace hf := p_ng hf hc
              refine s_aload_n (pc := 69) dX12_walk_69 1 rfl rfl ?_
              obtain ⟨q54, h55, hf⟩ := p_bd hf
              have t56 : p_tp N q54 0 := WT.get hW ha0 h55
              refine x_getR (pc := 70) dX12_walk_70 fl_X12_41 rfl ha0 h55 ?_
              refine s_iload (pc := 73) dX12_walk_73 4 rfl ?_
              obtain ⟨c57, hf⟩ := p_ckx hf
              refine x_iald (pc := 75) dX12_walk_75 t56 c57 ?_
              refine s_aload_n (pc := 76) dX12_walk_76 1 rfl rfl ?_
              obtain ⟨q58, h59, hf⟩ := p_bd hf
              have t60 : p_tp N q58 0 := WT.get hW ha0 h59
              refine x_getR (pc := 77) dX12_walk_77 fl_X12_41 rfl ha0 h59 ?_
              refine s_iload (pc := 80) dX12_walk_80 4 rfl ?_
              refine s_iconst (pc := 82) dX12_walk_82 (v := nI 1) rfl ?_
              refine s_isub (pc := 83) dX12_walk_83 ?_
              obtain ⟨c61, hf⟩ := p_ckx hf
              refine x_iald (pc := 84) dX12_walk_84 t60 c61 ?_
              refine s_icmp_eq (pc := 85) (tgt := 92) dX12_walk_85 rfl (fun hc => ?_) (fun hc => ?_)
              · replace hf := p_ps hf hc
                refine s_iconst (pc := 92) dX12_walk_92 (v := nI 0) rfl ?_
                cases hf
                exact s_lo [0, 1, 2, 4] rfl (k45)
              · replace hf := p_ng hf hc
                refine s_iconst (pc := 88) dX12_walk_88 (v := nI 1) rfl ?_
                refine s_goto (pc := 89) (tgt := 93) dX12_walk_89 rfl ?_
                cases hf
                exact s_lo [0, 1, 2, 4] rfl (k45)
      replace hf := hg.symm
      refine s_if_ge (pc := 31) (tgt := 38) dX12_walk_31 rfl (fun hc => ?_) (fun hc => ?_)
      · replace hf := p_ps hf hc
        refine s_iconst (pc := 38) dX12_walk_38 (v := nI 0) rfl ?_
        cases hf
        exact s_lo [0, 1, 2, 4] rfl (k43)
      · replace hf := p_ng hf hc
        refine s_iconst (pc := 34) dX12_walk_34 (v := nI 1) rfl ?_
        refine s_goto (pc := 35) (tgt := 39) dX12_walk_35 rfl ?_
        cases hf
        exact s_lo [0, 1, 2, 4] rfl (k43))
  exact s_lo [3, 4, 2, 1, 0] rfl (k33 n (nI 0, nI 0, nI 0) hf)
def f_X12_siteSignal (n : Nat) (N : pN) (I : pI) (L : pL) (P : pR) (a0 : Nat) (x1 : Int32) (x2 : Int32) : Option (Int32 × pI × pL) :=
  Option.bind (P a0 0) fun q1 =>
  p_ck (p_ib N q1 ((nI 170) + ((nI 4) * x1))) <|
  Option.bind (P a0 0) fun q5 =>
  p_ck (p_ib N q5 (((nI 170) + ((nI 4) * x1)) + (nI 1))) <|
  Option.bind (P a0 0) fun q9 =>
  p_ck (p_ib N q9 (((nI 170) + ((nI 4) * x1)) + (nI 2))) <|
  Option.bind (f_X12_from I a0 (I q1 (Int32.toNatClampNeg ((nI 170) + ((nI 4) * x1)))) (I q5 (Int32.toNatClampNeg (((nI 170) + ((nI 4) * x1)) + (nI 1)))) (I q9 (Int32.toNatClampNeg (((nI 170) + ((nI 4) * x1)) + (nI 2))))) fun q13 =>
  Option.bind (P a0 0) fun q15 =>
  p_ck (p_ib N q15 ((nI 202) + ((nI 2) * x2))) <|
  Option.bind (P a0 0) fun q19 =>
  p_ck (p_ib N q19 (((nI 202) + ((nI 2) * x2)) + (nI 1))) <|
  Option.bind (f_X12_tries n N q13 L P a0 (q13 q15 (Int32.toNatClampNeg ((nI 202) + ((nI 2) * x2)))) (q13 q19 (Int32.toNatClampNeg (((nI 202) + ((nI 2) * x2)) + (nI 1))))) fun q23 =>
  Option.bind (f_X12_sum n N q23.1 P a0) fun q25 =>
  some (q25, q23.1, q23.2)
theorem c_X12_siteSignal {G : pG} {d : Nat} {n : Nat} {N : pN} {I : pI} {L : pL} {P : pR} {a0 : Nat} {x1 : Int32} {x2 : Int32} {qq : Int32 × pI × pL} (hd : 7 ≤ d) (hW : WT N P) (ha0 : p_tp N a0 15) (hf : f_X12_siteSignal n N I L P a0 x1 x2 = some qq) : MT G mX12_siteSignal d 0 0 [.ref a0, .int x1, .int x2] N I L P (p_R (some (.int qq.1)) N qq.2.1 qq.2.2 P) := by
  refine MT.of rfl (Nat.le_of_ble_eq_true rfl) ?_
  show SW G mX12_siteSignal (p_rm d 0 0) 0 0 0 0 (p_R (some (.int qq.1)) N qq.2.1 qq.2.2 P) 0 [(0, .ref a0), (1, .int x1), (2, .int x2)] [] N I L P
  unfold f_X12_siteSignal at hf
  refine s_sipush (pc := 0) dX12_siteSignal_0 (v := nI 170) rfl ?_
  refine s_iconst (pc := 3) dX12_siteSignal_3 (v := nI 4) rfl ?_
  refine s_iload_n (pc := 4) dX12_siteSignal_4 1 rfl rfl ?_
  refine s_imul (pc := 5) dX12_siteSignal_5 ?_
  refine s_iadd (pc := 6) dX12_siteSignal_6 ?_
  refine s_istore_n (pc := 7) (lo' := [(3, .int ((nI 170) + ((nI 4) * x1))), (0, .ref a0), (1, .int x1), (2, .int x2)]) dX12_siteSignal_7 rfl (Nat.le_of_ble_eq_true rfl) rfl ?_
  refine s_aload_n (pc := 8) dX12_siteSignal_8 1 rfl rfl ?_
  refine s_aload_n (pc := 9) dX12_siteSignal_9 1 rfl rfl ?_
  obtain ⟨q1, h2, hf⟩ := p_bd hf
  have t3 : p_tp N q1 0 := WT.get hW ha0 h2
  refine x_getR (pc := 10) dX12_siteSignal_10 fl_X12_7 rfl ha0 h2 ?_
  refine s_iload_n (pc := 13) dX12_siteSignal_13 0 rfl rfl ?_
  obtain ⟨c4, hf⟩ := p_ckx hf
  refine x_iald (pc := 14) dX12_siteSignal_14 t3 c4 ?_
  refine s_aload_n (pc := 15) dX12_siteSignal_15 1 rfl rfl ?_
  obtain ⟨q5, h6, hf⟩ := p_bd hf
  have t7 : p_tp N q5 0 := WT.get hW ha0 h6
  refine x_getR (pc := 16) dX12_siteSignal_16 fl_X12_7 rfl ha0 h6 ?_
  refine s_iload_n (pc := 19) dX12_siteSignal_19 0 rfl rfl ?_
  refine s_iconst (pc := 20) dX12_siteSignal_20 (v := nI 1) rfl ?_
  refine s_iadd (pc := 21) dX12_siteSignal_21 ?_
  obtain ⟨c8, hf⟩ := p_ckx hf
  refine x_iald (pc := 22) dX12_siteSignal_22 t7 c8 ?_
  refine s_aload_n (pc := 23) dX12_siteSignal_23 1 rfl rfl ?_
  obtain ⟨q9, h10, hf⟩ := p_bd hf
  have t11 : p_tp N q9 0 := WT.get hW ha0 h10
  refine x_getR (pc := 24) dX12_siteSignal_24 fl_X12_7 rfl ha0 h10 ?_
  refine s_iload_n (pc := 27) dX12_siteSignal_27 0 rfl rfl ?_
  refine s_iconst (pc := 28) dX12_siteSignal_28 (v := nI 2) rfl ?_
  refine s_iadd (pc := 29) dX12_siteSignal_29 ?_
  obtain ⟨c12, hf⟩ := p_ckx hf
  refine x_iald (pc := 30) dX12_siteSignal_30 t11 c12 ?_
  obtain ⟨q13, h14, hf⟩ := p_bd hf
  refine y_callV0 (pc := 31) dX12_siteSignal_31 (c_X12_from (p_dd hd (by decide)) hW ha0 h14) mk_X12_from mv_X12_from ml_X12_221 rfl rfl (Nat.le_of_ble_eq_true rfl) ha0 rfl (p_d1 hd (by decide)) (Nat.le_of_ble_eq_true rfl) ?_
  refine s_aload_n (pc := 34) dX12_siteSignal_34 1 rfl rfl ?_
  refine s_aload_n (pc := 35) dX12_siteSignal_35 1 rfl rfl ?_
  obtain ⟨q15, h16, hf⟩ := p_bd hf
  have t17 : p_tp N q15 0 := WT.get hW ha0 h16
  refine x_getR (pc := 36) dX12_siteSignal_36 fl_X12_7 rfl ha0 h16 ?_
  refine s_sipush (pc := 39) dX12_siteSignal_39 (v := nI 202) rfl ?_
  refine s_iconst (pc := 42) dX12_siteSignal_42 (v := nI 2) rfl ?_
  refine s_iload_n (pc := 43) dX12_siteSignal_43 3 rfl rfl ?_
  refine s_imul (pc := 44) dX12_siteSignal_44 ?_
  refine s_iadd (pc := 45) dX12_siteSignal_45 ?_
  obtain ⟨c18, hf⟩ := p_ckx hf
  refine x_iald (pc := 46) dX12_siteSignal_46 t17 c18 ?_
  refine s_aload_n (pc := 47) dX12_siteSignal_47 1 rfl rfl ?_
  obtain ⟨q19, h20, hf⟩ := p_bd hf
  have t21 : p_tp N q19 0 := WT.get hW ha0 h20
  refine x_getR (pc := 48) dX12_siteSignal_48 fl_X12_7 rfl ha0 h20 ?_
  refine s_sipush (pc := 51) dX12_siteSignal_51 (v := nI 202) rfl ?_
  refine s_iconst (pc := 54) dX12_siteSignal_54 (v := nI 2) rfl ?_
  refine s_iload_n (pc := 55) dX12_siteSignal_55 3 rfl rfl ?_
  refine s_imul (pc := 56) dX12_siteSignal_56 ?_
  refine s_iadd (pc := 57) dX12_siteSignal_57 ?_
  refine s_iconst (pc := 58) dX12_siteSignal_58 (v := nI 1) rfl ?_
  refine s_iadd (pc := 59) dX12_siteSignal_59 ?_
  obtain ⟨c22, hf⟩ := p_ckx hf
  refine x_iald (pc := 60) dX12_siteSignal_60 t21 c22 ?_
  obtain ⟨q23, h24, hf⟩ := p_bd hf
  refine y_callV0 (pc := 61) dX12_siteSignal_61 (c_X12_tries (p_dd hd (by decide)) hW ha0 h24) mk_X12_tries mv_X12_tries ml_X12_225 rfl rfl (Nat.le_of_ble_eq_true rfl) ha0 rfl (p_d1 hd (by decide)) (Nat.le_of_ble_eq_true rfl) ?_
  refine s_aload_n (pc := 64) dX12_siteSignal_64 1 rfl rfl ?_
  obtain ⟨q25, h26, hf⟩ := p_bd hf
  refine y_callV1 (pc := 65) dX12_siteSignal_65 (c_X12_sum (p_dd hd (by decide)) hW ha0 h26) mk_X12_sum mv_X12_sum ml_X12_240 rfl rfl (Nat.le_of_ble_eq_true rfl) ha0 rfl (p_d1 hd (by decide)) (Nat.le_of_ble_eq_true rfl) ?_
  cases hf
  exact s_ireturn (pc := 68) dX12_siteSignal_68 rfl rfl ⟨rfl, rfl, rfl, rfl, rfl⟩
def f_X12_serves (n : Nat) (N : pN) (I : pI) (L : pL) (P : pR) (a0 : Nat) (x1 : Int32) (x2 : Int32) : Option (Int32 × pI × pL) :=
  Option.bind (f_X12_isOf N I P a0 x1 (nI 2)) fun q1 =>
  (if q1 = 0 then
    some ((-1), I, L)
  else
    Option.bind (f_X12_isOf N I P a0 x2 (nI 3)) fun q3 =>
    (if q3 = 0 then
      some ((-1), I, L)
    else
      Option.bind (f_X12_siteSignal n N I L P a0 x1 x2) fun q5 =>
      some (q5.1, q5.2.1, q5.2.2)))
theorem c_X12_serves {G : pG} {d : Nat} {n : Nat} {N : pN} {I : pI} {L : pL} {P : pR} {a0 : Nat} {x1 : Int32} {x2 : Int32} {qq : Int32 × pI × pL} (hd : 8 ≤ d) (hW : WT N P) (ha0 : p_tp N a0 15) (hf : f_X12_serves n N I L P a0 x1 x2 = some qq) : MT G mX12_serves d 0 0 [.ref a0, .int x1, .int x2] N I L P (p_R (some (.int qq.1)) N qq.2.1 qq.2.2 P) := by
  refine MT.of rfl (Nat.le_of_ble_eq_true rfl) ?_
  show SW G mX12_serves (p_rm d 0 0) 0 0 0 0 (p_R (some (.int qq.1)) N qq.2.1 qq.2.2 P) 0 [(0, .ref a0), (1, .int x1), (2, .int x2)] [] N I L P
  unfold f_X12_serves at hf
  refine s_aload_n (pc := 0) dX12_serves_0 0 rfl rfl ?_
  refine s_iload_n (pc := 1) dX12_serves_1 1 rfl rfl ?_
  refine s_iconst (pc := 2) dX12_serves_2 (v := nI 2) rfl ?_
  obtain ⟨q1, h2, hf⟩ := p_bd hf
  refine y_callV1 (pc := 3) dX12_serves_3 (c_X12_isOf (p_dd hd (by decide)) hW ha0 h2) mk_X12_isOf mv_X12_isOf ml_X12_80 rfl rfl (Nat.le_of_ble_eq_true rfl) ha0 rfl (p_d1 hd (by decide)) (Nat.le_of_ble_eq_true rfl) ?_
  refine s_if_eq (pc := 6) (tgt := 27) dX12_serves_6 rfl (fun hc => ?_) (fun hc => ?_)
  · replace hf := p_ps hf hc
    refine s_iconst (pc := 27) dX12_serves_27 (v := (-1)) rfl ?_
    cases hf
    exact s_ireturn (pc := 28) dX12_serves_28 rfl rfl ⟨rfl, rfl, rfl, rfl, rfl⟩
  · replace hf := p_ng hf hc
    refine s_aload_n (pc := 9) dX12_serves_9 0 rfl rfl ?_
    refine s_iload_n (pc := 10) dX12_serves_10 2 rfl rfl ?_
    refine s_iconst (pc := 11) dX12_serves_11 (v := nI 3) rfl ?_
    obtain ⟨q3, h4, hf⟩ := p_bd hf
    refine y_callV1 (pc := 12) dX12_serves_12 (c_X12_isOf (p_dd hd (by decide)) hW ha0 h4) mk_X12_isOf mv_X12_isOf ml_X12_80 rfl rfl (Nat.le_of_ble_eq_true rfl) ha0 rfl (p_d1 hd (by decide)) (Nat.le_of_ble_eq_true rfl) ?_
    refine s_if_eq (pc := 15) (tgt := 27) dX12_serves_15 rfl (fun hc => ?_) (fun hc => ?_)
    · replace hf := p_ps hf hc
      refine s_iconst (pc := 27) dX12_serves_27 (v := (-1)) rfl ?_
      cases hf
      exact s_ireturn (pc := 28) dX12_serves_28 rfl rfl ⟨rfl, rfl, rfl, rfl, rfl⟩
    · replace hf := p_ng hf hc
      refine s_aload_n (pc := 18) dX12_serves_18 0 rfl rfl ?_
      refine s_iload_n (pc := 19) dX12_serves_19 1 rfl rfl ?_
      refine s_iload_n (pc := 20) dX12_serves_20 2 rfl rfl ?_
      obtain ⟨q5, h6, hf⟩ := p_bd hf
      refine y_callV1 (pc := 21) dX12_serves_21 (c_X12_siteSignal (p_dd hd (by decide)) hW ha0 h6) mk_X12_siteSignal mv_X12_siteSignal ml_X12_257 rfl rfl (Nat.le_of_ble_eq_true rfl) ha0 rfl (p_d1 hd (by decide)) (Nat.le_of_ble_eq_true rfl) ?_
      refine s_goto (pc := 24) (tgt := 28) dX12_serves_24 rfl ?_
      cases hf
      exact s_ireturn (pc := 28) dX12_serves_28 rfl rfl ⟨rfl, rfl, rfl, rfl, rfl⟩
def B_X12_covers_32 (n : Nat) (N : pN) (P : pR) (a0 : Nat) (x2 : Int32) (rec1 : (Int32 × pI × pL) → Option (pI × pL)) (s1 : Int32 × pI × pL) : Option (pI × pL) :=
  Option.bind (P a0 0) fun q21 =>
  p_ck (p_ib N q21 (nI 3)) <|
  (if (s1.2.1 q21 (Int32.toNatClampNeg (nI 3))) ≤ s1.1 then
    some (s1.2.1, s1.2.2)
  else
    Option.bind (P a0 22) fun q25 =>
    p_ck (p_ib N q25 x2) <|
    Option.bind (f_X12_siteSignal n N s1.2.1 s1.2.2 P a0 x2 s1.1) fun q29 =>
    Option.bind (P a0 0) fun q31 =>
    p_ck (p_ib N q31 (nI 15)) <|
    p_let (α := Int32) ((if q29.1 < (q29.2.1 q31 (Int32.toNatClampNeg (nI 15))) then
      nI 0
    else
      (nI 1) <<< (s1.1 &&& 31))) fun t35 =>
    p_ck (p_ib N q25 x2) <|
    p_let (p_u q29.2.1 q25 (Int32.toNatClampNeg x2) ((s1.2.1 q25 (Int32.toNatClampNeg x2)) ||| t35)) fun I38 =>
    rec1 (s1.1 + nI 1, I38, q29.2.2))
def B_X12_covers_13 (n : Nat) (N : pN) (P : pR) (a0 : Nat) (rec0 : (Int32 × pI × pL) → Option (pI × pL)) (s0 : Int32 × pI × pL) : Option (pI × pL) :=
  Option.bind (P a0 0) fun q9 =>
  p_ck (p_ib N q9 (nI 2)) <|
  (if (s0.2.1 q9 (Int32.toNatClampNeg (nI 2))) ≤ s0.1 then
    some (s0.2.1, s0.2.2)
  else
    Option.bind (P a0 22) fun q13 =>
    p_ck (p_ib N q13 s0.1) <|
    p_let (p_u s0.2.1 q13 (Int32.toNatClampNeg s0.1) (nI 0)) fun I17 =>
    Option.bind (p_it (B_X12_covers_32 n N P a0 s0.1) n (nI 0, I17, s0.2.2)) fun t19 =>
    rec0 (s0.1 + nI 1, t19.1, t19.2))
def B_X12_covers_114 (N : pN) (I : pI) (P : pR) (a0 : Nat) (x3 : Int32) (rec1 : (Int32 × Int32 × Int32 × Int32) → Option (Int32 × Int32 × Int32)) (s1 : Int32 × Int32 × Int32 × Int32) : Option (Int32 × Int32 × Int32) :=
  Option.bind (P a0 0) fun q101 =>
  p_ck (p_ib N q101 (nI 2)) <|
  (if (I q101 (Int32.toNatClampNeg (nI 2))) ≤ s1.2.2.2 then
    some (s1.1, s1.2.1, s1.2.2.1)
  else
    Option.bind (α := Int32 × Int32 × Int32) ((if ((x3 >>> (s1.2.2.2 &&& 31)) &&& (nI 1)) = 0 then
      some (s1.1, s1.2.1, s1.2.2.1)
    else
      Option.bind (P a0 22) fun q107 =>
      p_ck (p_ib N q107 s1.2.2.2) <|
      p_let (s1.1 ||| (I q107 (Int32.toNatClampNeg s1.2.2.2))) fun v111 =>
      Option.bind (P a0 0) fun q113 =>
      p_ck (p_ib N q113 (((nI 170) + ((nI 4) * s1.2.2.2)) + (nI 3))) <|
      p_let (s1.2.1 + (I q113 (Int32.toNatClampNeg (((nI 170) + ((nI 4) * s1.2.2.2)) + (nI 3))))) fun v117 =>
      some (v111, v117, s1.2.2.1 + nI 1))) fun t105 =>
    rec1 (t105.1, t105.2.1, t105.2.2, s1.2.2.2 + nI 1))
def B_X12_covers_90 (n : Nat) (N : pN) (P : pR) (x1 : Int32) (a0 : Nat) (rec0 : (Int32 × Int32 × pI) → Option (Int32 × pI)) (s0 : Int32 × Int32 × pI) : Option (Int32 × pI) :=
  Option.bind (P a0 0) fun q95 =>
  p_ck (p_ib N q95 (nI 2)) <|
  (if ((nI 1) <<< ((s0.2.2 q95 (Int32.toNatClampNeg (nI 2))) &&& 31)) ≤ s0.2.1 then
    some (s0.1, s0.2.2)
  else
    Option.bind (p_it (B_X12_covers_114 N s0.2.2 P a0 s0.2.1) n (nI 0, nI 0, nI 0, nI 0)) fun t99 =>
    Option.bind (α := Int32 × pI) ((if t99.1 = x1 then
      (if s0.1 = 0 then
        p_let (p_u s0.2.2 a0 23 t99.2.1) fun I140 =>
        p_let (p_u I140 a0 24 t99.2.2) fun I142 =>
        p_let (p_u I142 a0 25 s0.2.1) fun I144 =>
        some (nI 1, I144)
      else
        (if (s0.2.2 a0 23) < t99.2.1 then
          some (s0.1, s0.2.2)
        else
          (if t99.2.1 = (s0.2.2 a0 23) then
            (if t99.2.2 < (s0.2.2 a0 24) then
              p_let (p_u s0.2.2 a0 23 t99.2.1) fun I152 =>
              p_let (p_u I152 a0 24 t99.2.2) fun I154 =>
              p_let (p_u I154 a0 25 s0.2.1) fun I156 =>
              some (nI 1, I156)
            else
              some (s0.1, s0.2.2))
          else
            p_let (p_u s0.2.2 a0 23 t99.2.1) fun I146 =>
            p_let (p_u I146 a0 24 t99.2.2) fun I148 =>
            p_let (p_u I148 a0 25 s0.2.1) fun I150 =>
            some (nI 1, I150))))
    else
      some (s0.1, s0.2.2))) fun t138 =>
    rec0 (t138.1, s0.2.1 + nI 1, t138.2))
def f_X12_covers (n : Nat) (N : pN) (I : pI) (L : pL) (P : pR) (a0 : Nat) : Option (Int32 × pI × pL) :=
  Option.bind (P a0 0) fun q1 =>
  p_ck (p_ib N q1 (nI 3)) <|
  p_let (((nI 1) <<< ((I q1 (Int32.toNatClampNeg (nI 3))) &&& 31)) - (nI 1)) fun v5 =>
  Option.bind (p_it (B_X12_covers_13 n N P a0) n (nI 0, I, L)) fun t7 =>
  Option.bind (p_it (B_X12_covers_90 n N P v5 a0) n (nI 0, nI 0, t7.1)) fun t93 =>
  p_ck (decide (t93.1 = 0 ∨ t93.1 = 1)) <|
  some (t93.1, t93.2, t7.2)
theorem c_X12_covers {G : pG} {d : Nat} {n : Nat} {N : pN} {I : pI} {L : pL} {P : pR} {a0 : Nat} {qq : Int32 × pI × pL} (hd : 8 ≤ d) (hW : WT N P) (ha0 : p_tp N a0 15) (hf : f_X12_covers n N I L P a0 = some qq) : MT G mX12_covers d 0 0 [.ref a0] N I L P (p_R (some (.int qq.1)) N qq.2.1 qq.2.2 P) := by
  refine MT.of rfl (Nat.le_of_ble_eq_true rfl) ?_
  show SW G mX12_covers (p_rm d 0 0) 0 0 0 0 (p_R (some (.int qq.1)) N qq.2.1 qq.2.2 P) 0 [(0, .ref a0)] [] N I L P
  unfold f_X12_covers at hf
  refine s_iconst (pc := 0) dX12_covers_0 (v := nI 1) rfl ?_
  refine s_aload_n (pc := 1) dX12_covers_1 0 rfl rfl ?_
  obtain ⟨q1, h2, hf⟩ := p_bd hf
  have t3 : p_tp N q1 0 := WT.get hW ha0 h2
  refine x_getR (pc := 2) dX12_covers_2 fl_X12_7 rfl ha0 h2 ?_
  refine s_iconst (pc := 5) dX12_covers_5 (v := nI 3) rfl ?_
  obtain ⟨c4, hf⟩ := p_ckx hf
  refine x_iald (pc := 6) dX12_covers_6 t3 c4 ?_
  refine s_ishl (pc := 7) dX12_covers_7 ?_
  refine s_iconst (pc := 8) dX12_covers_8 (v := nI 1) rfl ?_
  refine s_isub (pc := 9) dX12_covers_9 ?_
  refine s_topi (fun v5 e6 => ?_)
  replace hf := p_lx hf e6
  refine s_istore_n (pc := 10) (lo' := [(1, .int v5), (0, .ref a0)]) dX12_covers_10 rfl (Nat.le_of_ble_eq_true rfl) rfl ?_
  refine s_iconst (pc := 11) dX12_covers_11 (v := nI 0) rfl ?_
  refine s_istore_n (pc := 12) (lo' := [(2, .int (nI 0)), (1, .int v5), (0, .ref a0)]) dX12_covers_12 rfl (Nat.le_of_ble_eq_true rfl) rfl ?_
  obtain ⟨t7, hg, hf⟩ := p_bd hf
  have k8 : SW G mX12_covers (p_rm d 0 0) 0 0 0 0 (p_R (some (.int qq.1)) N qq.2.1 qq.2.2 P) 86 [(1, .int v5), (0, .ref a0)] [] N t7.1 t7.2 P := by
    refine s_iconst (pc := 86) dX12_covers_86 (v := nI 0) rfl ?_
    refine s_istore_n (pc := 87) (lo' := [(2, .int (nI 0)), (1, .int v5), (0, .ref a0)]) dX12_covers_87 rfl (Nat.le_of_ble_eq_true rfl) rfl ?_
    refine s_iconst (pc := 88) dX12_covers_88 (v := nI 0) rfl ?_
    refine s_istore_n (pc := 89) (lo' := [(3, .int (nI 0)), (2, .int (nI 0)), (1, .int v5), (0, .ref a0)]) dX12_covers_89 rfl (Nat.le_of_ble_eq_true rfl) rfl ?_
    obtain ⟨t93, hg, hf⟩ := p_bd hf
    have k94 : SW G mX12_covers (p_rm d 0 0) 0 0 0 0 (p_R (some (.int qq.1)) N qq.2.1 qq.2.2 P) 243 [(2, .int t93.1)] [] N t93.2 t7.2 P := by
      refine s_iload_n (pc := 243) dX12_covers_243 0 rfl rfl ?_
      obtain ⟨c204, hf⟩ := p_ckx hf
      cases hf
      exact s_ireturn (pc := 244) dX12_covers_244 rfl (p_nr (of_decide_eq_true c204)) ⟨rfl, rfl, rfl, rfl, rfl⟩
    replace hf := hg
    have k158 : ∀ (k : Nat) (s0 : Int32 × Int32 × pI), p_it (B_X12_covers_90 n N P v5 a0) k s0 = some t93 → (SW G mX12_covers (p_rm d 0 0) 0 0 0 0 (p_R (some (.int qq.1)) N qq.2.1 qq.2.2 P) 90 [(1, .int v5), (0, .ref a0), (2, .int s0.1), (3, .int s0.2.1)] [] N s0.2.2 t7.2 P) := p_it_ind (C := fun (s0 : Int32 × Int32 × pI) => SW G mX12_covers (p_rm d 0 0) 0 0 0 0 (p_R (some (.int qq.1)) N qq.2.1 qq.2.2 P) 90 [(1, .int v5), (0, .ref a0), (2, .int s0.1), (3, .int s0.2.1)] [] N s0.2.2 t7.2 P) (by
      intro rec0 hrec0 s0 hf
      unfold B_X12_covers_90 at hf
      refine s_iload_n (pc := 90) dX12_covers_90 3 rfl rfl ?_
      refine s_iconst (pc := 91) dX12_covers_91 (v := nI 1) rfl ?_
      refine s_aload_n (pc := 92) dX12_covers_92 1 rfl rfl ?_
      obtain ⟨q159, h160, hf⟩ := p_bd hf
      have t161 : p_tp N q159 0 := WT.get hW ha0 h160
      refine x_getR (pc := 93) dX12_covers_93 fl_X12_7 rfl ha0 h160 ?_
      refine s_iconst (pc := 96) dX12_covers_96 (v := nI 2) rfl ?_
      obtain ⟨c162, hf⟩ := p_ckx hf
      refine x_iald (pc := 97) dX12_covers_97 t161 c162 ?_
      refine s_ishl (pc := 98) dX12_covers_98 ?_
      refine s_icmp_ge (pc := 99) (tgt := 243) dX12_covers_99 rfl (fun hc => ?_) (fun hc => ?_)
      · replace hf := p_ps hf hc
        cases hf
        exact s_lo [2] rfl (k94)
      · replace hf := p_ng hf hc
        refine s_iconst (pc := 102) dX12_covers_102 (v := nI 0) rfl ?_
        refine s_istore (pc := 103) (lo' := [(4, .int (nI 0)), (1, .int v5), (0, .ref a0), (2, .int s0.1), (3, .int s0.2.1)]) dX12_covers_103 (Nat.le_of_ble_eq_true rfl) rfl ?_
        refine s_iconst (pc := 105) dX12_covers_105 (v := nI 0) rfl ?_
        refine s_istore (pc := 106) (lo' := [(5, .int (nI 0)), (4, .int (nI 0)), (1, .int v5), (0, .ref a0), (2, .int s0.1), (3, .int s0.2.1)]) dX12_covers_106 (Nat.le_of_ble_eq_true rfl) rfl ?_
        refine s_iconst (pc := 108) dX12_covers_108 (v := nI 0) rfl ?_
        refine s_istore (pc := 109) (lo' := [(6, .int (nI 0)), (5, .int (nI 0)), (4, .int (nI 0)), (1, .int v5), (0, .ref a0), (2, .int s0.1), (3, .int s0.2.1)]) dX12_covers_109 (Nat.le_of_ble_eq_true rfl) rfl ?_
        refine s_iconst (pc := 111) dX12_covers_111 (v := nI 0) rfl ?_
        refine s_istore (pc := 112) (lo' := [(7, .int (nI 0)), (6, .int (nI 0)), (5, .int (nI 0)), (4, .int (nI 0)), (1, .int v5), (0, .ref a0), (2, .int s0.1), (3, .int s0.2.1)]) dX12_covers_112 (Nat.le_of_ble_eq_true rfl) rfl ?_
        obtain ⟨t163, hg, hf⟩ := p_bd hf
        have k164 : SW G mX12_covers (p_rm d 0 0) 0 0 0 0 (p_R (some (.int qq.1)) N qq.2.1 qq.2.2 P) 178 [(1, .int v5), (0, .ref a0), (2, .int s0.1), (3, .int s0.2.1), (4, .int t163.1), (5, .int t163.2.1), (6, .int t163.2.2)] [] N s0.2.2 t7.2 P := by
          refine s_iload (pc := 178) dX12_covers_178 4 rfl ?_
          refine s_iload_n (pc := 180) dX12_covers_180 0 rfl rfl ?_
          obtain ⟨t184, hg, hf⟩ := p_bd hf
          have k185 : SW G mX12_covers (p_rm d 0 0) 0 0 0 0 (p_R (some (.int qq.1)) N qq.2.1 qq.2.2 P) 237 [(1, .int v5), (0, .ref a0), (3, .int s0.2.1), (2, .int t184.1)] [] N t184.2 t7.2 P := by
            refine s_iinc (pc := 237) (lo' := [(3, .int (s0.2.1 + nI 1)), (1, .int v5), (0, .ref a0), (2, .int t184.1)]) dX12_covers_237 2 rfl (v := s0.2.1 + nI 1) rfl (Nat.le_of_ble_eq_true rfl) rfl ?_
            refine s_goto (pc := 240) (tgt := 90) dX12_covers_240 rfl ?_
            exact s_lo [1, 2, 3, 0] rfl (hrec0 (t184.1, s0.2.1 + nI 1, t184.2) hf)
          replace hf := hg
          refine s_icmp_ne (pc := 181) (tgt := 237) dX12_covers_181 rfl (fun hc => ?_) (fun hc => ?_)
          · replace hf := p_ng hf hc
            cases hf
            exact s_lo [0, 1, 3, 2] rfl (k185)
          · replace hf := p_ps hf hc
            refine s_iload_n (pc := 184) dX12_covers_184 2 rfl rfl ?_
            refine s_if_eq (pc := 185) (tgt := 218) dX12_covers_185 rfl (fun hc => ?_) (fun hc => ?_)
            · replace hf := p_ps hf hc
              refine s_iconst (pc := 218) dX12_covers_218 (v := nI 1) rfl ?_
              refine s_istore_n (pc := 219) (lo' := [(2, .int (nI 1)), (1, .int v5), (0, .ref a0), (3, .int s0.2.1), (4, .int t163.1), (5, .int t163.2.1), (6, .int t163.2.2)]) dX12_covers_219 rfl (Nat.le_of_ble_eq_true rfl) rfl ?_
              refine s_aload_n (pc := 220) dX12_covers_220 2 rfl rfl ?_
              refine s_iload (pc := 221) dX12_covers_221 5 rfl ?_
              refine x_putI (pc := 223) dX12_covers_223 fl_X12_260 (Or.inl rfl) rfl ha0 ?_
              refine s_nmI (fun I186 e187 => ?_)
              replace hf := p_lx hf e187
              refine s_aload_n (pc := 226) dX12_covers_226 2 rfl rfl ?_
              refine s_iload (pc := 227) dX12_covers_227 6 rfl ?_
              refine x_putI (pc := 229) dX12_covers_229 fl_X12_263 (Or.inl rfl) rfl ha0 ?_
              refine s_nmI (fun I188 e189 => ?_)
              replace hf := p_lx hf e189
              refine s_aload_n (pc := 232) dX12_covers_232 2 rfl rfl ?_
              refine s_iload_n (pc := 233) dX12_covers_233 3 rfl rfl ?_
              refine x_putI (pc := 234) dX12_covers_234 fl_X12_266 (Or.inl rfl) rfl ha0 ?_
              refine s_nmI (fun I190 e191 => ?_)
              replace hf := p_lx hf e191
              cases hf
              exact s_lo [1, 2, 3, 0] rfl (k185)
            · replace hf := p_ng hf hc
              refine s_iload (pc := 188) dX12_covers_188 5 rfl ?_
              refine s_aload_n (pc := 190) dX12_covers_190 1 rfl rfl ?_
              refine x_getI (pc := 191) dX12_covers_191 fl_X12_260 rfl ha0 ?_
              refine s_icmp_gt (pc := 194) (tgt := 237) dX12_covers_194 rfl (fun hc => ?_) (fun hc => ?_)
              · replace hf := p_ps hf hc
                cases hf
                exact s_lo [0, 1, 3, 2] rfl (k185)
              · replace hf := p_ng hf hc
                refine s_iload (pc := 197) dX12_covers_197 5 rfl ?_
                refine s_aload_n (pc := 199) dX12_covers_199 1 rfl rfl ?_
                refine x_getI (pc := 200) dX12_covers_200 fl_X12_260 rfl ha0 ?_
                refine s_icmp_ne (pc := 203) (tgt := 218) dX12_covers_203 rfl (fun hc => ?_) (fun hc => ?_)
                · replace hf := p_ng hf hc
                  refine s_iconst (pc := 218) dX12_covers_218 (v := nI 1) rfl ?_
                  refine s_istore_n (pc := 219) (lo' := [(2, .int (nI 1)), (1, .int v5), (0, .ref a0), (3, .int s0.2.1), (4, .int t163.1), (5, .int t163.2.1), (6, .int t163.2.2)]) dX12_covers_219 rfl (Nat.le_of_ble_eq_true rfl) rfl ?_
                  refine s_aload_n (pc := 220) dX12_covers_220 2 rfl rfl ?_
                  refine s_iload (pc := 221) dX12_covers_221 5 rfl ?_
                  refine x_putI (pc := 223) dX12_covers_223 fl_X12_260 (Or.inl rfl) rfl ha0 ?_
                  refine s_nmI (fun I192 e193 => ?_)
                  replace hf := p_lx hf e193
                  refine s_aload_n (pc := 226) dX12_covers_226 2 rfl rfl ?_
                  refine s_iload (pc := 227) dX12_covers_227 6 rfl ?_
                  refine x_putI (pc := 229) dX12_covers_229 fl_X12_263 (Or.inl rfl) rfl ha0 ?_
                  refine s_nmI (fun I194 e195 => ?_)
                  replace hf := p_lx hf e195
                  refine s_aload_n (pc := 232) dX12_covers_232 2 rfl rfl ?_
                  refine s_iload_n (pc := 233) dX12_covers_233 3 rfl rfl ?_
                  refine x_putI (pc := 234) dX12_covers_234 fl_X12_266 (Or.inl rfl) rfl ha0 ?_
                  refine s_nmI (fun I196 e197 => ?_)
                  replace hf := p_lx hf e197
                  cases hf
                  exact s_lo [1, 2, 3, 0] rfl (k185)
                · replace hf := p_ps hf hc
                  refine s_iload (pc := 206) dX12_covers_206 6 rfl ?_
                  refine s_aload_n (pc := 208) dX12_covers_208 1 rfl rfl ?_
                  refine x_getI (pc := 209) dX12_covers_209 fl_X12_263 rfl ha0 ?_
                  refine s_icmp_lt (pc := 212) (tgt := 218) dX12_covers_212 rfl (fun hc => ?_) (fun hc => ?_)
                  · replace hf := p_ps hf hc
                    refine s_iconst (pc := 218) dX12_covers_218 (v := nI 1) rfl ?_
                    refine s_istore_n (pc := 219) (lo' := [(2, .int (nI 1)), (1, .int v5), (0, .ref a0), (3, .int s0.2.1), (4, .int t163.1), (5, .int t163.2.1), (6, .int t163.2.2)]) dX12_covers_219 rfl (Nat.le_of_ble_eq_true rfl) rfl ?_
                    refine s_aload_n (pc := 220) dX12_covers_220 2 rfl rfl ?_
                    refine s_iload (pc := 221) dX12_covers_221 5 rfl ?_
                    refine x_putI (pc := 223) dX12_covers_223 fl_X12_260 (Or.inl rfl) rfl ha0 ?_
                    refine s_nmI (fun I198 e199 => ?_)
                    replace hf := p_lx hf e199
                    refine s_aload_n (pc := 226) dX12_covers_226 2 rfl rfl ?_
                    refine s_iload (pc := 227) dX12_covers_227 6 rfl ?_
                    refine x_putI (pc := 229) dX12_covers_229 fl_X12_263 (Or.inl rfl) rfl ha0 ?_
                    refine s_nmI (fun I200 e201 => ?_)
                    replace hf := p_lx hf e201
                    refine s_aload_n (pc := 232) dX12_covers_232 2 rfl rfl ?_
                    refine s_iload_n (pc := 233) dX12_covers_233 3 rfl rfl ?_
                    refine x_putI (pc := 234) dX12_covers_234 fl_X12_266 (Or.inl rfl) rfl ha0 ?_
                    refine s_nmI (fun I202 e203 => ?_)
                    replace hf := p_lx hf e203
                    cases hf
                    exact s_lo [1, 2, 3, 0] rfl (k185)
                  · replace hf := p_ng hf hc
                    refine s_goto (pc := 215) (tgt := 237) dX12_covers_215 rfl ?_
                    cases hf
                    exact s_lo [0, 1, 3, 2] rfl (k185)
        replace hf := hg
        have k165 : ∀ (k : Nat) (s1 : Int32 × Int32 × Int32 × Int32), p_it (B_X12_covers_114 N s0.2.2 P a0 s0.2.1) k s1 = some t163 → (SW G mX12_covers (p_rm d 0 0) 0 0 0 0 (p_R (some (.int qq.1)) N qq.2.1 qq.2.2 P) 114 [(1, .int v5), (0, .ref a0), (2, .int s0.1), (3, .int s0.2.1), (4, .int s1.1), (5, .int s1.2.1), (6, .int s1.2.2.1), (7, .int s1.2.2.2)] [] N s0.2.2 t7.2 P) := p_it_ind (C := fun (s1 : Int32 × Int32 × Int32 × Int32) => SW G mX12_covers (p_rm d 0 0) 0 0 0 0 (p_R (some (.int qq.1)) N qq.2.1 qq.2.2 P) 114 [(1, .int v5), (0, .ref a0), (2, .int s0.1), (3, .int s0.2.1), (4, .int s1.1), (5, .int s1.2.1), (6, .int s1.2.2.1), (7, .int s1.2.2.2)] [] N s0.2.2 t7.2 P) (by
          intro rec1 hrec1 s1 hf
          unfold B_X12_covers_114 at hf
          refine s_iload (pc := 114) dX12_covers_114 7 rfl ?_
          refine s_aload_n (pc := 116) dX12_covers_116 1 rfl rfl ?_
          obtain ⟨q166, h167, hf⟩ := p_bd hf
          have t168 : p_tp N q166 0 := WT.get hW ha0 h167
          refine x_getR (pc := 117) dX12_covers_117 fl_X12_7 rfl ha0 h167 ?_
          refine s_iconst (pc := 120) dX12_covers_120 (v := nI 2) rfl ?_
          obtain ⟨c169, hf⟩ := p_ckx hf
          refine x_iald (pc := 121) dX12_covers_121 t168 c169 ?_
          refine s_icmp_ge (pc := 122) (tgt := 178) dX12_covers_122 rfl (fun hc => ?_) (fun hc => ?_)
          · replace hf := p_ps hf hc
            cases hf
            exact s_lo [0, 1, 2, 3, 4, 5, 6] rfl (k164)
          · replace hf := p_ng hf hc
            refine s_iload_n (pc := 125) dX12_covers_125 3 rfl rfl ?_
            refine s_iload (pc := 126) dX12_covers_126 7 rfl ?_
            refine s_ishr (pc := 128) dX12_covers_128 ?_
            refine s_iconst (pc := 129) dX12_covers_129 (v := nI 1) rfl ?_
            refine s_iand (pc := 130) dX12_covers_130 ?_
            obtain ⟨t170, hg, hf⟩ := p_bd hf
            have k171 : SW G mX12_covers (p_rm d 0 0) 0 0 0 0 (p_R (some (.int qq.1)) N qq.2.1 qq.2.2 P) 172 [(1, .int v5), (0, .ref a0), (2, .int s0.1), (3, .int s0.2.1), (7, .int s1.2.2.2), (4, .int t170.1), (5, .int t170.2.1), (6, .int t170.2.2)] [] N s0.2.2 t7.2 P := by
              refine s_iinc (pc := 172) (lo' := [(7, .int (s1.2.2.2 + nI 1)), (1, .int v5), (0, .ref a0), (2, .int s0.1), (3, .int s0.2.1), (4, .int t170.1), (5, .int t170.2.1), (6, .int t170.2.2)]) dX12_covers_172 4 rfl (v := s1.2.2.2 + nI 1) rfl (Nat.le_of_ble_eq_true rfl) rfl ?_
              refine s_goto (pc := 175) (tgt := 114) dX12_covers_175 rfl ?_
              exact s_lo [1, 2, 3, 4, 5, 6, 7, 0] rfl (hrec1 (t170.1, t170.2.1, t170.2.2, s1.2.2.2 + nI 1) hf)
            replace hf := hg
            refine s_if_ne (pc := 131) (tgt := 137) dX12_covers_131 rfl (fun hc => ?_) (fun hc => ?_)
            · replace hf := p_ng hf hc
              refine s_iload (pc := 137) dX12_covers_137 4 rfl ?_
              refine s_aload_n (pc := 139) dX12_covers_139 1 rfl rfl ?_
              obtain ⟨q172, h173, hf⟩ := p_bd hf
              have t174 : p_tp N q172 0 := WT.get hW ha0 h173
              refine x_getR (pc := 140) dX12_covers_140 fl_X12_44 rfl ha0 h173 ?_
              refine s_iload (pc := 143) dX12_covers_143 7 rfl ?_
              obtain ⟨c175, hf⟩ := p_ckx hf
              refine x_iald (pc := 145) dX12_covers_145 t174 c175 ?_
              refine s_ior (pc := 146) dX12_covers_146 ?_
              refine s_topi (fun v176 e177 => ?_)
              replace hf := p_lx hf e177
              refine s_istore (pc := 147) (lo' := [(4, .int v176), (1, .int v5), (0, .ref a0), (2, .int s0.1), (3, .int s0.2.1), (5, .int s1.2.1), (6, .int s1.2.2.1), (7, .int s1.2.2.2)]) dX12_covers_147 (Nat.le_of_ble_eq_true rfl) rfl ?_
              refine s_iload (pc := 149) dX12_covers_149 5 rfl ?_
              refine s_aload_n (pc := 151) dX12_covers_151 2 rfl rfl ?_
              obtain ⟨q178, h179, hf⟩ := p_bd hf
              have t180 : p_tp N q178 0 := WT.get hW ha0 h179
              refine x_getR (pc := 152) dX12_covers_152 fl_X12_7 rfl ha0 h179 ?_
              refine s_sipush (pc := 155) dX12_covers_155 (v := nI 170) rfl ?_
              refine s_iconst (pc := 158) dX12_covers_158 (v := nI 4) rfl ?_
              refine s_iload (pc := 159) dX12_covers_159 7 rfl ?_
              refine s_imul (pc := 161) dX12_covers_161 ?_
              refine s_iadd (pc := 162) dX12_covers_162 ?_
              refine s_iconst (pc := 163) dX12_covers_163 (v := nI 3) rfl ?_
              refine s_iadd (pc := 164) dX12_covers_164 ?_
              obtain ⟨c181, hf⟩ := p_ckx hf
              refine x_iald (pc := 165) dX12_covers_165 t180 c181 ?_
              refine s_iadd (pc := 166) dX12_covers_166 ?_
              refine s_topi (fun v182 e183 => ?_)
              replace hf := p_lx hf e183
              refine s_istore (pc := 167) (lo' := [(5, .int v182), (4, .int v176), (1, .int v5), (0, .ref a0), (2, .int s0.1), (3, .int s0.2.1), (6, .int s1.2.2.1), (7, .int s1.2.2.2)]) dX12_covers_167 (Nat.le_of_ble_eq_true rfl) rfl ?_
              refine s_iinc (pc := 169) (lo' := [(6, .int (s1.2.2.1 + nI 1)), (5, .int v182), (4, .int v176), (1, .int v5), (0, .ref a0), (2, .int s0.1), (3, .int s0.2.1), (7, .int s1.2.2.2)]) dX12_covers_169 6 rfl (v := s1.2.2.1 + nI 1) rfl (Nat.le_of_ble_eq_true rfl) rfl ?_
              cases hf
              exact s_lo [3, 4, 5, 6, 7, 2, 1, 0] rfl (k171)
            · replace hf := p_ps hf hc
              refine s_goto (pc := 134) (tgt := 172) dX12_covers_134 rfl ?_
              cases hf
              exact s_lo [0, 1, 2, 3, 7, 4, 5, 6] rfl (k171))
        exact s_lo [4, 5, 6, 7, 3, 2, 1, 0] rfl (k165 n (nI 0, nI 0, nI 0, nI 0) hf))
    exact s_lo [2, 3, 1, 0] rfl (k158 n (nI 0, nI 0, t7.1) hf)
  replace hf := hg
  have k60 : ∀ (k : Nat) (s0 : Int32 × pI × pL), p_it (B_X12_covers_13 n N P a0) k s0 = some t7 → (SW G mX12_covers (p_rm d 0 0) 0 0 0 0 (p_R (some (.int qq.1)) N qq.2.1 qq.2.2 P) 13 [(1, .int v5), (0, .ref a0), (2, .int s0.1)] [] N s0.2.1 s0.2.2 P) := p_it_ind (C := fun (s0 : Int32 × pI × pL) => SW G mX12_covers (p_rm d 0 0) 0 0 0 0 (p_R (some (.int qq.1)) N qq.2.1 qq.2.2 P) 13 [(1, .int v5), (0, .ref a0), (2, .int s0.1)] [] N s0.2.1 s0.2.2 P) (by
    intro rec0 hrec0 s0 hf
    unfold B_X12_covers_13 at hf
    refine s_iload_n (pc := 13) dX12_covers_13 2 rfl rfl ?_
    refine s_aload_n (pc := 14) dX12_covers_14 1 rfl rfl ?_
    obtain ⟨q61, h62, hf⟩ := p_bd hf
    have t63 : p_tp N q61 0 := WT.get hW ha0 h62
    refine x_getR (pc := 15) dX12_covers_15 fl_X12_7 rfl ha0 h62 ?_
    refine s_iconst (pc := 18) dX12_covers_18 (v := nI 2) rfl ?_
    obtain ⟨c64, hf⟩ := p_ckx hf
    refine x_iald (pc := 19) dX12_covers_19 t63 c64 ?_
    refine s_icmp_ge (pc := 20) (tgt := 86) dX12_covers_20 rfl (fun hc => ?_) (fun hc => ?_)
    · replace hf := p_ps hf hc
      cases hf
      exact s_lo [0, 1] rfl (k8)
    · replace hf := p_ng hf hc
      refine s_aload_n (pc := 23) dX12_covers_23 1 rfl rfl ?_
      obtain ⟨q65, h66, hf⟩ := p_bd hf
      have t67 : p_tp N q65 0 := WT.get hW ha0 h66
      refine x_getR (pc := 24) dX12_covers_24 fl_X12_44 rfl ha0 h66 ?_
      refine s_iload_n (pc := 27) dX12_covers_27 2 rfl rfl ?_
      refine s_iconst (pc := 28) dX12_covers_28 (v := nI 0) rfl ?_
      obtain ⟨c68, hf⟩ := p_ckx hf
      refine x_iast (pc := 29) dX12_covers_29 t67 c68 ?_
      refine s_nmI (fun I69 e70 => ?_)
      replace hf := p_lx hf e70
      refine s_iconst (pc := 30) dX12_covers_30 (v := nI 0) rfl ?_
      refine s_istore_n (pc := 31) (lo' := [(3, .int (nI 0)), (1, .int v5), (0, .ref a0), (2, .int s0.1)]) dX12_covers_31 rfl (Nat.le_of_ble_eq_true rfl) rfl ?_
      obtain ⟨t71, hg, hf⟩ := p_bd hf
      have k72 : SW G mX12_covers (p_rm d 0 0) 0 0 0 0 (p_R (some (.int qq.1)) N qq.2.1 qq.2.2 P) 80 [(1, .int v5), (0, .ref a0), (2, .int s0.1)] [] N t71.1 t71.2 P := by
        refine s_iinc (pc := 80) (lo' := [(2, .int (s0.1 + nI 1)), (1, .int v5), (0, .ref a0)]) dX12_covers_80 2 rfl (v := s0.1 + nI 1) rfl (Nat.le_of_ble_eq_true rfl) rfl ?_
        refine s_goto (pc := 83) (tgt := 13) dX12_covers_83 rfl ?_
        exact s_lo [1, 2, 0] rfl (hrec0 (s0.1 + nI 1, t71.1, t71.2) hf)
      replace hf := hg
      have k73 : ∀ (k : Nat) (s1 : Int32 × pI × pL), p_it (B_X12_covers_32 n N P a0 s0.1) k s1 = some t71 → (SW G mX12_covers (p_rm d 0 0) 0 0 0 0 (p_R (some (.int qq.1)) N qq.2.1 qq.2.2 P) 32 [(1, .int v5), (0, .ref a0), (2, .int s0.1), (3, .int s1.1)] [] N s1.2.1 s1.2.2 P) := p_it_ind (C := fun (s1 : Int32 × pI × pL) => SW G mX12_covers (p_rm d 0 0) 0 0 0 0 (p_R (some (.int qq.1)) N qq.2.1 qq.2.2 P) 32 [(1, .int v5), (0, .ref a0), (2, .int s0.1), (3, .int s1.1)] [] N s1.2.1 s1.2.2 P) (by
        intro rec1 hrec1 s1 hf
        unfold B_X12_covers_32 at hf
        refine s_iload_n (pc := 32) dX12_covers_32 3 rfl rfl ?_
        refine s_aload_n (pc := 33) dX12_covers_33 1 rfl rfl ?_
        obtain ⟨q74, h75, hf⟩ := p_bd hf
        have t76 : p_tp N q74 0 := WT.get hW ha0 h75
        refine x_getR (pc := 34) dX12_covers_34 fl_X12_7 rfl ha0 h75 ?_
        refine s_iconst (pc := 37) dX12_covers_37 (v := nI 3) rfl ?_
        obtain ⟨c77, hf⟩ := p_ckx hf
        refine x_iald (pc := 38) dX12_covers_38 t76 c77 ?_
        refine s_icmp_ge (pc := 39) (tgt := 80) dX12_covers_39 rfl (fun hc => ?_) (fun hc => ?_)
        · replace hf := p_ps hf hc
          cases hf
          exact s_lo [0, 1, 2] rfl (k72)
        · replace hf := p_ng hf hc
          refine s_aload_n (pc := 42) dX12_covers_42 1 rfl rfl ?_
          obtain ⟨q78, h79, hf⟩ := p_bd hf
          have t80 : p_tp N q78 0 := WT.get hW ha0 h79
          refine x_getR (pc := 43) dX12_covers_43 fl_X12_44 rfl ha0 h79 ?_
          refine s_iload_n (pc := 46) dX12_covers_46 2 rfl rfl ?_
          refine s_dup2_11 (pc := 47) dX12_covers_47 rfl rfl ?_
          obtain ⟨c81, hf⟩ := p_ckx hf
          refine x_iald (pc := 48) dX12_covers_48 t80 c81 ?_
          refine s_aload_n (pc := 49) dX12_covers_49 1 rfl rfl ?_
          refine s_iload_n (pc := 50) dX12_covers_50 2 rfl rfl ?_
          refine s_iload_n (pc := 51) dX12_covers_51 3 rfl rfl ?_
          obtain ⟨q82, h83, hf⟩ := p_bd hf
          refine y_callV1 (pc := 52) dX12_covers_52 (c_X12_siteSignal (p_dd hd (by decide)) hW ha0 h83) mk_X12_siteSignal mv_X12_siteSignal ml_X12_257 rfl rfl (Nat.le_of_ble_eq_true rfl) ha0 rfl (p_d1 hd (by decide)) (Nat.le_of_ble_eq_true rfl) ?_
          refine s_aload_n (pc := 55) dX12_covers_55 1 rfl rfl ?_
          obtain ⟨q84, h85, hf⟩ := p_bd hf
          have t86 : p_tp N q84 0 := WT.get hW ha0 h85
          refine x_getR (pc := 56) dX12_covers_56 fl_X12_7 rfl ha0 h85 ?_
          refine s_bipush (pc := 59) dX12_covers_59 (v := nI 15) rfl ?_
          obtain ⟨c87, hf⟩ := p_ckx hf
          refine x_iald (pc := 61) dX12_covers_61 t86 c87 ?_
          obtain ⟨t88, hg, hf⟩ := p_lx2 hf
          have k89 : SW G mX12_covers (p_rm d 0 0) 0 0 0 0 (p_R (some (.int qq.1)) N qq.2.1 qq.2.2 P) 72 [(1, .int v5), (0, .ref a0), (2, .int s0.1), (3, .int s1.1)] [.int t88, .int (s1.2.1 q78 (Int32.toNatClampNeg s0.1)), .int s0.1, .ref q78] N q82.2.1 q82.2.2 P := by
            refine s_ior (pc := 72) dX12_covers_72 ?_
            obtain ⟨c90, hf⟩ := p_ckx hf
            refine x_iast (pc := 73) dX12_covers_73 t80 c90 ?_
            refine s_nmI (fun I91 e92 => ?_)
            replace hf := p_lx hf e92
            refine s_iinc (pc := 74) (lo' := [(3, .int (s1.1 + nI 1)), (1, .int v5), (0, .ref a0), (2, .int s0.1)]) dX12_covers_74 3 rfl (v := s1.1 + nI 1) rfl (Nat.le_of_ble_eq_true rfl) rfl ?_
            refine s_goto (pc := 77) (tgt := 32) dX12_covers_77 rfl ?_
            exact s_lo [1, 2, 3, 0] rfl (hrec1 (s1.1 + nI 1, I91, q82.2.2) hf)
          replace hf := hg.symm
          refine s_icmp_lt (pc := 62) (tgt := 71) dX12_covers_62 rfl (fun hc => ?_) (fun hc => ?_)
          · replace hf := p_ps hf hc
            refine s_iconst (pc := 71) dX12_covers_71 (v := nI 0) rfl ?_
            cases hf
            exact s_lo [0, 1, 2, 3] rfl (k89)
          · replace hf := p_ng hf hc
            refine s_iconst (pc := 65) dX12_covers_65 (v := nI 1) rfl ?_
            refine s_iload_n (pc := 66) dX12_covers_66 3 rfl rfl ?_
            refine s_ishl (pc := 67) dX12_covers_67 ?_
            refine s_goto (pc := 68) (tgt := 72) dX12_covers_68 rfl ?_
            cases hf
            exact s_lo [0, 1, 2, 3] rfl (k89))
      exact s_lo [1, 2, 3, 0] rfl (k73 n (nI 0, I69, s0.2.2) hf))
  exact s_lo [1, 2, 0] rfl (k60 n (nI 0, I, L) hf)
def f_X12_cover (n : Nat) (N : pN) (I : pI) (L : pL) (P : pR) (a0 : Nat) (x1 : Int32) : Option (Int32 × pI × pL) :=
  Option.bind (f_X12_isIn x1 (nI 0) (nI 2)) fun q1 =>
  (if q1 = 0 then
    some ((-1), I, L)
  else
    Option.bind (f_X12_covers n N I L P a0) fun q3 =>
    (if q3.1 = 0 then
      some ((-1), q3.2.1, q3.2.2)
    else
      (if x1 = 0 then
        some (q3.2.1 a0 23, q3.2.1, q3.2.2)
      else
        (if x1 = (nI 1) then
          some (q3.2.1 a0 24, q3.2.1, q3.2.2)
        else
          some (q3.2.1 a0 25, q3.2.1, q3.2.2)))))
theorem c_X12_cover {G : pG} {d : Nat} {n : Nat} {N : pN} {I : pI} {L : pL} {P : pR} {a0 : Nat} {x1 : Int32} {qq : Int32 × pI × pL} (hd : 9 ≤ d) (hW : WT N P) (ha0 : p_tp N a0 15) (hf : f_X12_cover n N I L P a0 x1 = some qq) : MT G mX12_cover d 0 0 [.ref a0, .int x1] N I L P (p_R (some (.int qq.1)) N qq.2.1 qq.2.2 P) := by
  refine MT.of rfl (Nat.le_of_ble_eq_true rfl) ?_
  show SW G mX12_cover (p_rm d 0 0) 0 0 0 0 (p_R (some (.int qq.1)) N qq.2.1 qq.2.2 P) 0 [(0, .ref a0), (1, .int x1)] [] N I L P
  unfold f_X12_cover at hf
  refine s_iload_n (pc := 0) dX12_cover_0 1 rfl rfl ?_
  refine s_iconst (pc := 1) dX12_cover_1 (v := nI 0) rfl ?_
  refine s_iconst (pc := 2) dX12_cover_2 (v := nI 2) rfl ?_
  obtain ⟨q1, h2, hf⟩ := p_bd hf
  refine y_callS1 (pc := 3) dX12_cover_3 (c_X12_isIn (p_dd hd (by decide)) hW  h2) mk_X12_isIn mz_X12_isIn ml_X12_68 rfl rfl (Nat.le_of_ble_eq_true rfl) (p_d1 hd (by decide)) (Nat.le_of_ble_eq_true rfl) ?_
  refine s_if_eq (pc := 6) (tgt := 46) dX12_cover_6 rfl (fun hc => ?_) (fun hc => ?_)
  · replace hf := p_ps hf hc
    refine s_iconst (pc := 46) dX12_cover_46 (v := (-1)) rfl ?_
    cases hf
    exact s_ireturn (pc := 47) dX12_cover_47 rfl rfl ⟨rfl, rfl, rfl, rfl, rfl⟩
  · replace hf := p_ng hf hc
    refine s_aload_n (pc := 9) dX12_cover_9 0 rfl rfl ?_
    obtain ⟨q3, h4, hf⟩ := p_bd hf
    refine y_callV1 (pc := 10) dX12_cover_10 (c_X12_covers (p_dd hd (by decide)) hW ha0 h4) mk_X12_covers mv_X12_covers ml_X12_269 rfl rfl (Nat.le_of_ble_eq_true rfl) ha0 rfl (p_d1 hd (by decide)) (Nat.le_of_ble_eq_true rfl) ?_
    refine s_if_eq (pc := 13) (tgt := 46) dX12_cover_13 rfl (fun hc => ?_) (fun hc => ?_)
    · replace hf := p_ps hf hc
      refine s_iconst (pc := 46) dX12_cover_46 (v := (-1)) rfl ?_
      cases hf
      exact s_ireturn (pc := 47) dX12_cover_47 rfl rfl ⟨rfl, rfl, rfl, rfl, rfl⟩
    · replace hf := p_ng hf hc
      refine s_iload_n (pc := 16) dX12_cover_16 1 rfl rfl ?_
      refine s_if_ne (pc := 17) (tgt := 27) dX12_cover_17 rfl (fun hc => ?_) (fun hc => ?_)
      · replace hf := p_ng hf hc
        refine s_iload_n (pc := 27) dX12_cover_27 1 rfl rfl ?_
        refine s_iconst (pc := 28) dX12_cover_28 (v := nI 1) rfl ?_
        refine s_icmp_ne (pc := 29) (tgt := 39) dX12_cover_29 rfl (fun hc => ?_) (fun hc => ?_)
        · replace hf := p_ng hf hc
          refine s_aload_n (pc := 39) dX12_cover_39 0 rfl rfl ?_
          refine x_getI (pc := 40) dX12_cover_40 fl_X12_266 rfl ha0 ?_
          refine s_goto (pc := 43) (tgt := 47) dX12_cover_43 rfl ?_
          cases hf
          exact s_ireturn (pc := 47) dX12_cover_47 rfl rfl ⟨rfl, rfl, rfl, rfl, rfl⟩
        · replace hf := p_ps hf hc
          refine s_aload_n (pc := 32) dX12_cover_32 0 rfl rfl ?_
          refine x_getI (pc := 33) dX12_cover_33 fl_X12_263 rfl ha0 ?_
          refine s_goto (pc := 36) (tgt := 47) dX12_cover_36 rfl ?_
          cases hf
          exact s_ireturn (pc := 47) dX12_cover_47 rfl rfl ⟨rfl, rfl, rfl, rfl, rfl⟩
      · replace hf := p_ps hf hc
        refine s_aload_n (pc := 20) dX12_cover_20 0 rfl rfl ?_
        refine x_getI (pc := 21) dX12_cover_21 fl_X12_260 rfl ha0 ?_
        refine s_goto (pc := 24) (tgt := 47) dX12_cover_24 rfl ?_
        cases hf
        exact s_ireturn (pc := 47) dX12_cover_47 rfl rfl ⟨rfl, rfl, rfl, rfl, rfl⟩
def B_X12_clashes_5 (n : Nat) (N : pN) (P : pR) (a0 : Nat) (x1 : Int32) (x2 : Int32) (rec0 : (Int32 × Int32 × pI × pL) → Option (Int32 × pI × pL)) (s0 : Int32 × Int32 × pI × pL) : Option (Int32 × pI × pL) :=
  Option.bind (P a0 0) fun q3 =>
  p_ck (p_ib N q3 (nI 3)) <|
  (if (s0.2.2.1 q3 (Int32.toNatClampNeg (nI 3))) ≤ s0.2.1 then
    some (s0.1, s0.2.2.1, s0.2.2.2)
  else
    (if s0.1 = 0 then
      Option.bind (P a0 0) fun q7 =>
      p_ck (p_ib N q7 ((nI 202) + ((nI 2) * s0.2.1))) <|
      p_let (s0.2.2.1 q7 (Int32.toNatClampNeg ((nI 202) + ((nI 2) * s0.2.1)))) fun v11 =>
      Option.bind (P a0 0) fun q13 =>
      p_ck (p_ib N q13 (((nI 202) + ((nI 2) * s0.2.1)) + (nI 1))) <|
      p_let (s0.2.2.1 q13 (Int32.toNatClampNeg (((nI 202) + ((nI 2) * s0.2.1)) + (nI 1)))) fun v17 =>
      Option.bind (f_X12_signalOf n N s0.2.2.1 s0.2.2.2 P a0 x1 v11 v17) fun q19 =>
      Option.bind (P a0 0) fun q21 =>
      p_ck (p_ib N q21 (nI 15)) <|
      Option.bind (α := Int32 × pI × pL) ((if q19.1 < (q19.2.1 q21 (Int32.toNatClampNeg (nI 15))) then
        some (nI 0, q19.2.1, q19.2.2)
      else
        Option.bind (f_X12_signalOf n N q19.2.1 q19.2.2 P a0 x2 v11 v17) fun q27 =>
        Option.bind (P a0 0) fun q29 =>
        p_ck (p_ib N q29 (nI 15)) <|
        (if q27.1 < (q27.2.1 q29 (Int32.toNatClampNeg (nI 15))) then
          some (nI 0, q27.2.1, q27.2.2)
        else
          some (nI 1, q27.2.1, q27.2.2)))) fun t25 =>
      rec0 (t25.1, s0.2.1 + nI 1, t25.2.1, t25.2.2)
    else
      some (s0.1, s0.2.2.1, s0.2.2.2)))
def f_X12_clashes (n : Nat) (N : pN) (I : pI) (L : pL) (P : pR) (a0 : Nat) (x1 : Int32) (x2 : Int32) : Option (Int32 × pI × pL) :=
  Option.bind (p_it (B_X12_clashes_5 n N P a0 x1 x2) n (nI 0, nI 0, I, L)) fun t1 =>
  p_ck (decide (t1.1 = 0 ∨ t1.1 = 1)) <|
  some (t1.1, t1.2.1, t1.2.2)
theorem c_X12_clashes {G : pG} {d : Nat} {n : Nat} {N : pN} {I : pI} {L : pL} {P : pR} {a0 : Nat} {x1 : Int32} {x2 : Int32} {qq : Int32 × pI × pL} (hd : 8 ≤ d) (hW : WT N P) (ha0 : p_tp N a0 15) (hf : f_X12_clashes n N I L P a0 x1 x2 = some qq) : MT G mX12_clashes d 0 0 [.ref a0, .int x1, .int x2] N I L P (p_R (some (.int qq.1)) N qq.2.1 qq.2.2 P) := by
  refine MT.of rfl (Nat.le_of_ble_eq_true rfl) ?_
  show SW G mX12_clashes (p_rm d 0 0) 0 0 0 0 (p_R (some (.int qq.1)) N qq.2.1 qq.2.2 P) 0 [(0, .ref a0), (1, .int x1), (2, .int x2)] [] N I L P
  unfold f_X12_clashes at hf
  refine s_iconst (pc := 0) dX12_clashes_0 (v := nI 0) rfl ?_
  refine s_istore_n (pc := 1) (lo' := [(3, .int (nI 0)), (0, .ref a0), (1, .int x1), (2, .int x2)]) dX12_clashes_1 rfl (Nat.le_of_ble_eq_true rfl) rfl ?_
  refine s_iconst (pc := 2) dX12_clashes_2 (v := nI 0) rfl ?_
  refine s_istore (pc := 3) (lo' := [(4, .int (nI 0)), (3, .int (nI 0)), (0, .ref a0), (1, .int x1), (2, .int x2)]) dX12_clashes_3 (Nat.le_of_ble_eq_true rfl) rfl ?_
  obtain ⟨t1, hg, hf⟩ := p_bd hf
  have k2 : SW G mX12_clashes (p_rm d 0 0) 0 0 0 0 (p_R (some (.int qq.1)) N qq.2.1 qq.2.2 P) 102 [(3, .int t1.1)] [] N t1.2.1 t1.2.2 P := by
    refine s_iload_n (pc := 102) dX12_clashes_102 0 rfl rfl ?_
    obtain ⟨c64, hf⟩ := p_ckx hf
    cases hf
    exact s_ireturn (pc := 103) dX12_clashes_103 rfl (p_nr (of_decide_eq_true c64)) ⟨rfl, rfl, rfl, rfl, rfl⟩
  replace hf := hg
  have k33 : ∀ (k : Nat) (s0 : Int32 × Int32 × pI × pL), p_it (B_X12_clashes_5 n N P a0 x1 x2) k s0 = some t1 → (SW G mX12_clashes (p_rm d 0 0) 0 0 0 0 (p_R (some (.int qq.1)) N qq.2.1 qq.2.2 P) 5 [(0, .ref a0), (1, .int x1), (2, .int x2), (3, .int s0.1), (4, .int s0.2.1)] [] N s0.2.2.1 s0.2.2.2 P) := p_it_ind (C := fun (s0 : Int32 × Int32 × pI × pL) => SW G mX12_clashes (p_rm d 0 0) 0 0 0 0 (p_R (some (.int qq.1)) N qq.2.1 qq.2.2 P) 5 [(0, .ref a0), (1, .int x1), (2, .int x2), (3, .int s0.1), (4, .int s0.2.1)] [] N s0.2.2.1 s0.2.2.2 P) (by
    intro rec0 hrec0 s0 hf
    unfold B_X12_clashes_5 at hf
    refine s_iload (pc := 5) dX12_clashes_5 4 rfl ?_
    refine s_aload_n (pc := 7) dX12_clashes_7 0 rfl rfl ?_
    obtain ⟨q34, h35, hf⟩ := p_bd hf
    have t36 : p_tp N q34 0 := WT.get hW ha0 h35
    refine x_getR (pc := 8) dX12_clashes_8 fl_X12_7 rfl ha0 h35 ?_
    refine s_iconst (pc := 11) dX12_clashes_11 (v := nI 3) rfl ?_
    obtain ⟨c37, hf⟩ := p_ckx hf
    refine x_iald (pc := 12) dX12_clashes_12 t36 c37 ?_
    refine s_icmp_ge (pc := 13) (tgt := 102) dX12_clashes_13 rfl (fun hc => ?_) (fun hc => ?_)
    · replace hf := p_ps hf hc
      cases hf
      exact s_lo [3] rfl (k2)
    · replace hf := p_ng hf hc
      refine s_iload_n (pc := 16) dX12_clashes_16 3 rfl rfl ?_
      refine s_if_ne (pc := 17) (tgt := 102) dX12_clashes_17 rfl (fun hc => ?_) (fun hc => ?_)
      · replace hf := p_ng hf hc
        cases hf
        exact s_lo [3] rfl (k2)
      · replace hf := p_ps hf hc
        refine s_aload_n (pc := 20) dX12_clashes_20 0 rfl rfl ?_
        obtain ⟨q38, h39, hf⟩ := p_bd hf
        have t40 : p_tp N q38 0 := WT.get hW ha0 h39
        refine x_getR (pc := 21) dX12_clashes_21 fl_X12_7 rfl ha0 h39 ?_
        refine s_sipush (pc := 24) dX12_clashes_24 (v := nI 202) rfl ?_
        refine s_iconst (pc := 27) dX12_clashes_27 (v := nI 2) rfl ?_
        refine s_iload (pc := 28) dX12_clashes_28 4 rfl ?_
        refine s_imul (pc := 30) dX12_clashes_30 ?_
        refine s_iadd (pc := 31) dX12_clashes_31 ?_
        obtain ⟨c41, hf⟩ := p_ckx hf
        refine x_iald (pc := 32) dX12_clashes_32 t40 c41 ?_
        refine s_topi (fun v42 e43 => ?_)
        replace hf := p_lx hf e43
        refine s_istore (pc := 33) (lo' := [(5, .int v42), (0, .ref a0), (1, .int x1), (2, .int x2), (3, .int s0.1), (4, .int s0.2.1)]) dX12_clashes_33 (Nat.le_of_ble_eq_true rfl) rfl ?_
        refine s_aload_n (pc := 35) dX12_clashes_35 1 rfl rfl ?_
        obtain ⟨q44, h45, hf⟩ := p_bd hf
        have t46 : p_tp N q44 0 := WT.get hW ha0 h45
        refine x_getR (pc := 36) dX12_clashes_36 fl_X12_7 rfl ha0 h45 ?_
        refine s_sipush (pc := 39) dX12_clashes_39 (v := nI 202) rfl ?_
        refine s_iconst (pc := 42) dX12_clashes_42 (v := nI 2) rfl ?_
        refine s_iload (pc := 43) dX12_clashes_43 5 rfl ?_
        refine s_imul (pc := 45) dX12_clashes_45 ?_
        refine s_iadd (pc := 46) dX12_clashes_46 ?_
        refine s_iconst (pc := 47) dX12_clashes_47 (v := nI 1) rfl ?_
        refine s_iadd (pc := 48) dX12_clashes_48 ?_
        obtain ⟨c47, hf⟩ := p_ckx hf
        refine x_iald (pc := 49) dX12_clashes_49 t46 c47 ?_
        refine s_topi (fun v48 e49 => ?_)
        replace hf := p_lx hf e49
        refine s_istore (pc := 50) (lo' := [(6, .int v48), (5, .int v42), (0, .ref a0), (1, .int x1), (2, .int x2), (3, .int s0.1), (4, .int s0.2.1)]) dX12_clashes_50 (Nat.le_of_ble_eq_true rfl) rfl ?_
        refine s_aload_n (pc := 52) dX12_clashes_52 2 rfl rfl ?_
        refine s_iload_n (pc := 53) dX12_clashes_53 3 rfl rfl ?_
        refine s_iload (pc := 54) dX12_clashes_54 1 rfl ?_
        refine s_iload (pc := 56) dX12_clashes_56 0 rfl ?_
        obtain ⟨q50, h51, hf⟩ := p_bd hf
        refine y_callV1 (pc := 58) dX12_clashes_58 (c_X12_signalOf (p_dd hd (by decide)) hW ha0 h51) mk_X12_signalOf mv_X12_signalOf ml_X12_244 rfl rfl (Nat.le_of_ble_eq_true rfl) ha0 rfl (p_d1 hd (by decide)) (Nat.le_of_ble_eq_true rfl) ?_
        refine s_aload_n (pc := 61) dX12_clashes_61 2 rfl rfl ?_
        obtain ⟨q52, h53, hf⟩ := p_bd hf
        have t54 : p_tp N q52 0 := WT.get hW ha0 h53
        refine x_getR (pc := 62) dX12_clashes_62 fl_X12_7 rfl ha0 h53 ?_
        refine s_bipush (pc := 65) dX12_clashes_65 (v := nI 15) rfl ?_
        obtain ⟨c55, hf⟩ := p_ckx hf
        refine x_iald (pc := 67) dX12_clashes_67 t54 c55 ?_
        obtain ⟨t56, hg, hf⟩ := p_bd hf
        have k57 : SW G mX12_clashes (p_rm d 0 0) 0 0 0 0 (p_R (some (.int qq.1)) N qq.2.1 qq.2.2 P) 95 [(0, .ref a0), (1, .int x1), (2, .int x2), (4, .int s0.2.1)] [.int t56.1] N t56.2.1 t56.2.2 P := by
          refine s_istore_n (pc := 95) (lo' := [(3, .int t56.1), (0, .ref a0), (1, .int x1), (2, .int x2), (4, .int s0.2.1)]) dX12_clashes_95 rfl (Nat.le_of_ble_eq_true rfl) rfl ?_
          refine s_iinc (pc := 96) (lo' := [(4, .int (s0.2.1 + nI 1)), (3, .int t56.1), (0, .ref a0), (1, .int x1), (2, .int x2)]) dX12_clashes_96 4 rfl (v := s0.2.1 + nI 1) rfl (Nat.le_of_ble_eq_true rfl) rfl ?_
          refine s_goto (pc := 99) (tgt := 5) dX12_clashes_99 rfl ?_
          exact s_lo [2, 3, 4, 1, 0] rfl (hrec0 (t56.1, s0.2.1 + nI 1, t56.2.1, t56.2.2) hf)
        replace hf := hg
        refine s_icmp_lt (pc := 68) (tgt := 94) dX12_clashes_68 rfl (fun hc => ?_) (fun hc => ?_)
        · replace hf := p_ps hf hc
          refine s_iconst (pc := 94) dX12_clashes_94 (v := nI 0) rfl ?_
          cases hf
          exact s_lo [2, 3, 4, 6] rfl (k57)
        · replace hf := p_ng hf hc
          refine s_aload_n (pc := 71) dX12_clashes_71 2 rfl rfl ?_
          refine s_iload_n (pc := 72) dX12_clashes_72 4 rfl rfl ?_
          refine s_iload (pc := 73) dX12_clashes_73 1 rfl ?_
          refine s_iload (pc := 75) dX12_clashes_75 0 rfl ?_
          obtain ⟨q58, h59, hf⟩ := p_bd hf
          refine y_callV1 (pc := 77) dX12_clashes_77 (c_X12_signalOf (p_dd hd (by decide)) hW ha0 h59) mk_X12_signalOf mv_X12_signalOf ml_X12_244 rfl rfl (Nat.le_of_ble_eq_true rfl) ha0 rfl (p_d1 hd (by decide)) (Nat.le_of_ble_eq_true rfl) ?_
          refine s_aload_n (pc := 80) dX12_clashes_80 2 rfl rfl ?_
          obtain ⟨q60, h61, hf⟩ := p_bd hf
          have t62 : p_tp N q60 0 := WT.get hW ha0 h61
          refine x_getR (pc := 81) dX12_clashes_81 fl_X12_7 rfl ha0 h61 ?_
          refine s_bipush (pc := 84) dX12_clashes_84 (v := nI 15) rfl ?_
          obtain ⟨c63, hf⟩ := p_ckx hf
          refine x_iald (pc := 86) dX12_clashes_86 t62 c63 ?_
          refine s_icmp_lt (pc := 87) (tgt := 94) dX12_clashes_87 rfl (fun hc => ?_) (fun hc => ?_)
          · replace hf := p_ps hf hc
            refine s_iconst (pc := 94) dX12_clashes_94 (v := nI 0) rfl ?_
            cases hf
            exact s_lo [2, 3, 4, 6] rfl (k57)
          · replace hf := p_ng hf hc
            refine s_iconst (pc := 90) dX12_clashes_90 (v := nI 1) rfl ?_
            refine s_goto (pc := 91) (tgt := 95) dX12_clashes_91 rfl ?_
            cases hf
            exact s_lo [2, 3, 4, 6] rfl (k57))
  exact s_lo [2, 3, 4, 1, 0] rfl (k33 n (nI 0, nI 0, I, L) hf)
def f_X12_clash (n : Nat) (N : pN) (I : pI) (L : pL) (P : pR) (a0 : Nat) (x1 : Int32) (x2 : Int32) : Option (Int32 × pI × pL) :=
  (if x1 = x2 then
    some (nI 0, I, L)
  else
    Option.bind (f_X12_seesSender N I P a0 x1) fun q1 =>
    (if q1 = 0 then
      some (nI 0, I, L)
    else
      Option.bind (f_X12_seesSender N I P a0 x2) fun q3 =>
      (if q3 = 0 then
        some (nI 0, I, L)
      else
        Option.bind (f_X12_clashes n N I L P a0 x1 x2) fun q5 =>
        (if q5.1 = 0 then
          some (nI 0, q5.2.1, q5.2.2)
        else
          some (nI 1, q5.2.1, q5.2.2)))))
theorem c_X12_clash {G : pG} {d : Nat} {n : Nat} {N : pN} {I : pI} {L : pL} {P : pR} {a0 : Nat} {x1 : Int32} {x2 : Int32} {qq : Int32 × pI × pL} (hd : 9 ≤ d) (hW : WT N P) (ha0 : p_tp N a0 15) (hf : f_X12_clash n N I L P a0 x1 x2 = some qq) : MT G mX12_clash d 0 0 [.ref a0, .int x1, .int x2] N I L P (p_R (some (.int qq.1)) N qq.2.1 qq.2.2 P) := by
  refine MT.of rfl (Nat.le_of_ble_eq_true rfl) ?_
  show SW G mX12_clash (p_rm d 0 0) 0 0 0 0 (p_R (some (.int qq.1)) N qq.2.1 qq.2.2 P) 0 [(0, .ref a0), (1, .int x1), (2, .int x2)] [] N I L P
  unfold f_X12_clash at hf
  refine s_iload_n (pc := 0) dX12_clash_0 1 rfl rfl ?_
  refine s_iload_n (pc := 1) dX12_clash_1 2 rfl rfl ?_
  refine s_icmp_eq (pc := 2) (tgt := 34) dX12_clash_2 rfl (fun hc => ?_) (fun hc => ?_)
  · replace hf := p_ps hf hc
    refine s_iconst (pc := 34) dX12_clash_34 (v := nI 0) rfl ?_
    cases hf
    exact s_ireturn (pc := 35) dX12_clash_35 rfl rfl ⟨rfl, rfl, rfl, rfl, rfl⟩
  · replace hf := p_ng hf hc
    refine s_aload_n (pc := 5) dX12_clash_5 0 rfl rfl ?_
    refine s_iload_n (pc := 6) dX12_clash_6 1 rfl rfl ?_
    obtain ⟨q1, h2, hf⟩ := p_bd hf
    refine y_callV1 (pc := 7) dX12_clash_7 (c_X12_seesSender (p_dd hd (by decide)) hW ha0 h2) mk_X12_seesSender mv_X12_seesSender ml_X12_215 rfl rfl (Nat.le_of_ble_eq_true rfl) ha0 rfl (p_d1 hd (by decide)) (Nat.le_of_ble_eq_true rfl) ?_
    refine s_if_eq (pc := 10) (tgt := 34) dX12_clash_10 rfl (fun hc => ?_) (fun hc => ?_)
    · replace hf := p_ps hf hc
      refine s_iconst (pc := 34) dX12_clash_34 (v := nI 0) rfl ?_
      cases hf
      exact s_ireturn (pc := 35) dX12_clash_35 rfl rfl ⟨rfl, rfl, rfl, rfl, rfl⟩
    · replace hf := p_ng hf hc
      refine s_aload_n (pc := 13) dX12_clash_13 0 rfl rfl ?_
      refine s_iload_n (pc := 14) dX12_clash_14 2 rfl rfl ?_
      obtain ⟨q3, h4, hf⟩ := p_bd hf
      refine y_callV1 (pc := 15) dX12_clash_15 (c_X12_seesSender (p_dd hd (by decide)) hW ha0 h4) mk_X12_seesSender mv_X12_seesSender ml_X12_215 rfl rfl (Nat.le_of_ble_eq_true rfl) ha0 rfl (p_d1 hd (by decide)) (Nat.le_of_ble_eq_true rfl) ?_
      refine s_if_eq (pc := 18) (tgt := 34) dX12_clash_18 rfl (fun hc => ?_) (fun hc => ?_)
      · replace hf := p_ps hf hc
        refine s_iconst (pc := 34) dX12_clash_34 (v := nI 0) rfl ?_
        cases hf
        exact s_ireturn (pc := 35) dX12_clash_35 rfl rfl ⟨rfl, rfl, rfl, rfl, rfl⟩
      · replace hf := p_ng hf hc
        refine s_aload_n (pc := 21) dX12_clash_21 0 rfl rfl ?_
        refine s_iload_n (pc := 22) dX12_clash_22 1 rfl rfl ?_
        refine s_iload_n (pc := 23) dX12_clash_23 2 rfl rfl ?_
        obtain ⟨q5, h6, hf⟩ := p_bd hf
        refine y_callV1 (pc := 24) dX12_clash_24 (c_X12_clashes (p_dd hd (by decide)) hW ha0 h6) mk_X12_clashes mv_X12_clashes ml_X12_273 rfl rfl (Nat.le_of_ble_eq_true rfl) ha0 rfl (p_d1 hd (by decide)) (Nat.le_of_ble_eq_true rfl) ?_
        refine s_if_eq (pc := 27) (tgt := 34) dX12_clash_27 rfl (fun hc => ?_) (fun hc => ?_)
        · replace hf := p_ps hf hc
          refine s_iconst (pc := 34) dX12_clash_34 (v := nI 0) rfl ?_
          cases hf
          exact s_ireturn (pc := 35) dX12_clash_35 rfl rfl ⟨rfl, rfl, rfl, rfl, rfl⟩
        · replace hf := p_ng hf hc
          refine s_iconst (pc := 30) dX12_clash_30 (v := nI 1) rfl ?_
          refine s_goto (pc := 31) (tgt := 35) dX12_clash_31 rfl ?_
          cases hf
          exact s_ireturn (pc := 35) dX12_clash_35 rfl rfl ⟨rfl, rfl, rfl, rfl, rfl⟩
def B_X12_isApart_4 (N : pN) (I : pI) (P : pR) (a0 : Nat) (x1 : Int32) (rec0 : (Int32 × Int32) → Option Int32) (s0 : Int32 × Int32) : Option Int32 :=
  (if x1 ≤ s0.2 then
    some s0.1
  else
    (if s0.1 = 0 then
      some s0.1
    else
      Option.bind (P a0 27) fun q3 =>
      p_ck (p_ib N q3 (((nI 6) * x1) + s0.2)) <|
      Option.bind (α := Int32) ((if (I q3 (Int32.toNatClampNeg (((nI 6) * x1) + s0.2))) = 0 then
        some (nI 1)
      else
        Option.bind (P a0 26) fun q9 =>
        p_ck (p_ib N q9 s0.2) <|
        Option.bind (P a0 26) fun q13 =>
        p_ck (p_ib N q13 x1) <|
        (if (I q9 (Int32.toNatClampNeg s0.2)) = (I q13 (Int32.toNatClampNeg x1)) then
          some (nI 0)
        else
          some (nI 1)))) fun t7 =>
      rec0 (t7, s0.2 + nI 1)))
def f_X12_isApart (n : Nat) (N : pN) (I : pI) (P : pR) (a0 : Nat) (x1 : Int32) : Option Int32 :=
  Option.bind (p_it (B_X12_isApart_4 N I P a0 x1) n (nI 1, nI 0)) fun t1 =>
  p_ck (decide (t1 = 0 ∨ t1 = 1)) <|
  some t1
theorem c_X12_isApart {G : pG} {d : Nat} {n : Nat} {N : pN} {I : pI} {L : pL} {P : pR} {a0 : Nat} {x1 : Int32} {qq : Int32} (hd : 0 ≤ d) (hW : WT N P) (ha0 : p_tp N a0 15) (hf : f_X12_isApart n N I P a0 x1 = some qq) : MT G mX12_isApart d 0 0 [.ref a0, .int x1] N I L P (p_R (some (.int qq)) N I L P) := by
  refine MT.of rfl (Nat.le_of_ble_eq_true rfl) ?_
  show SW G mX12_isApart (p_rm d 0 0) 0 0 0 0 (p_R (some (.int qq)) N I L P) 0 [(0, .ref a0), (1, .int x1)] [] N I L P
  unfold f_X12_isApart at hf
  refine s_iconst (pc := 0) dX12_isApart_0 (v := nI 1) rfl ?_
  refine s_istore_n (pc := 1) (lo' := [(2, .int (nI 1)), (0, .ref a0), (1, .int x1)]) dX12_isApart_1 rfl (Nat.le_of_ble_eq_true rfl) rfl ?_
  refine s_iconst (pc := 2) dX12_isApart_2 (v := nI 0) rfl ?_
  refine s_istore_n (pc := 3) (lo' := [(3, .int (nI 0)), (2, .int (nI 1)), (0, .ref a0), (1, .int x1)]) dX12_isApart_3 rfl (Nat.le_of_ble_eq_true rfl) rfl ?_
  obtain ⟨t1, hg, hf⟩ := p_bd hf
  have k2 : SW G mX12_isApart (p_rm d 0 0) 0 0 0 0 (p_R (some (.int qq)) N I L P) 54 [(2, .int t1)] [] N I L P := by
    refine s_iload_n (pc := 54) dX12_isApart_54 0 rfl rfl ?_
    obtain ⟨c32, hf⟩ := p_ckx hf
    cases hf
    exact s_ireturn (pc := 55) dX12_isApart_55 rfl (p_nr (of_decide_eq_true c32)) ⟨rfl, rfl, rfl, rfl, rfl⟩
  replace hf := hg
  have k17 : ∀ (k : Nat) (s0 : Int32 × Int32), p_it (B_X12_isApart_4 N I P a0 x1) k s0 = some t1 → (SW G mX12_isApart (p_rm d 0 0) 0 0 0 0 (p_R (some (.int qq)) N I L P) 4 [(0, .ref a0), (1, .int x1), (2, .int s0.1), (3, .int s0.2)] [] N I L P) := p_it_ind (C := fun (s0 : Int32 × Int32) => SW G mX12_isApart (p_rm d 0 0) 0 0 0 0 (p_R (some (.int qq)) N I L P) 4 [(0, .ref a0), (1, .int x1), (2, .int s0.1), (3, .int s0.2)] [] N I L P) (by
    intro rec0 hrec0 s0 hf
    unfold B_X12_isApart_4 at hf
    refine s_iload_n (pc := 4) dX12_isApart_4 3 rfl rfl ?_
    refine s_iload_n (pc := 5) dX12_isApart_5 1 rfl rfl ?_
    refine s_icmp_ge (pc := 6) (tgt := 54) dX12_isApart_6 rfl (fun hc => ?_) (fun hc => ?_)
    · replace hf := p_ps hf hc
      cases hf
      exact s_lo [2] rfl (k2)
    · replace hf := p_ng hf hc
      refine s_iload_n (pc := 9) dX12_isApart_9 2 rfl rfl ?_
      refine s_if_eq (pc := 10) (tgt := 54) dX12_isApart_10 rfl (fun hc => ?_) (fun hc => ?_)
      · replace hf := p_ps hf hc
        cases hf
        exact s_lo [2] rfl (k2)
      · replace hf := p_ng hf hc
        refine s_aload_n (pc := 13) dX12_isApart_13 0 rfl rfl ?_
        obtain ⟨q18, h19, hf⟩ := p_bd hf
        have t20 : p_tp N q18 1 := WT.get hW ha0 h19
        refine x_getR (pc := 14) dX12_isApart_14 fl_X12_50 rfl ha0 h19 ?_
        refine s_bipush (pc := 17) dX12_isApart_17 (v := nI 6) rfl ?_
        refine s_iload_n (pc := 19) dX12_isApart_19 1 rfl rfl ?_
        refine s_imul (pc := 20) dX12_isApart_20 ?_
        refine s_iload_n (pc := 21) dX12_isApart_21 3 rfl rfl ?_
        refine s_iadd (pc := 22) dX12_isApart_22 ?_
        obtain ⟨c21, hf⟩ := p_ckx hf
        refine x_zald (pc := 23) dX12_isApart_23 t20 c21 ?_
        obtain ⟨t22, hg, hf⟩ := p_bd hf
        have k23 : SW G mX12_isApart (p_rm d 0 0) 0 0 0 0 (p_R (some (.int qq)) N I L P) 47 [(0, .ref a0), (1, .int x1), (3, .int s0.2)] [.int t22] N I L P := by
          refine s_istore_n (pc := 47) (lo' := [(2, .int t22), (0, .ref a0), (1, .int x1), (3, .int s0.2)]) dX12_isApart_47 rfl (Nat.le_of_ble_eq_true rfl) rfl ?_
          refine s_iinc (pc := 48) (lo' := [(3, .int (s0.2 + nI 1)), (2, .int t22), (0, .ref a0), (1, .int x1)]) dX12_isApart_48 3 rfl (v := s0.2 + nI 1) rfl (Nat.le_of_ble_eq_true rfl) rfl ?_
          refine s_goto (pc := 51) (tgt := 4) dX12_isApart_51 rfl ?_
          exact s_lo [2, 3, 1, 0] rfl (hrec0 (t22, s0.2 + nI 1) hf)
        replace hf := hg
        refine s_if_eq (pc := 24) (tgt := 42) dX12_isApart_24 rfl (fun hc => ?_) (fun hc => ?_)
        · replace hf := p_ps hf hc
          refine s_iconst (pc := 42) dX12_isApart_42 (v := nI 1) rfl ?_
          refine s_goto (pc := 43) (tgt := 47) dX12_isApart_43 rfl ?_
          cases hf
          exact s_lo [0, 1, 3] rfl (k23)
        · replace hf := p_ng hf hc
          refine s_aload_n (pc := 27) dX12_isApart_27 0 rfl rfl ?_
          obtain ⟨q24, h25, hf⟩ := p_bd hf
          have t26 : p_tp N q24 0 := WT.get hW ha0 h25
          refine x_getR (pc := 28) dX12_isApart_28 fl_X12_47 rfl ha0 h25 ?_
          refine s_iload_n (pc := 31) dX12_isApart_31 3 rfl rfl ?_
          obtain ⟨c27, hf⟩ := p_ckx hf
          refine x_iald (pc := 32) dX12_isApart_32 t26 c27 ?_
          refine s_aload_n (pc := 33) dX12_isApart_33 0 rfl rfl ?_
          obtain ⟨q28, h29, hf⟩ := p_bd hf
          have t30 : p_tp N q28 0 := WT.get hW ha0 h29
          refine x_getR (pc := 34) dX12_isApart_34 fl_X12_47 rfl ha0 h29 ?_
          refine s_iload_n (pc := 37) dX12_isApart_37 1 rfl rfl ?_
          obtain ⟨c31, hf⟩ := p_ckx hf
          refine x_iald (pc := 38) dX12_isApart_38 t30 c31 ?_
          refine s_icmp_eq (pc := 39) (tgt := 46) dX12_isApart_39 rfl (fun hc => ?_) (fun hc => ?_)
          · replace hf := p_ps hf hc
            refine s_iconst (pc := 46) dX12_isApart_46 (v := nI 0) rfl ?_
            cases hf
            exact s_lo [0, 1, 3] rfl (k23)
          · replace hf := p_ng hf hc
            refine s_iconst (pc := 42) dX12_isApart_42 (v := nI 1) rfl ?_
            refine s_goto (pc := 43) (tgt := 47) dX12_isApart_43 rfl ?_
            cases hf
            exact s_lo [0, 1, 3] rfl (k23))
  exact s_lo [2, 3, 1, 0] rfl (k17 n (nI 1, nI 0) hf)
def B_X12_colours_12 (N : pN) (P : pR) (x2 : Int32) (a0 : Nat) (rec0 : (Int32 × pI) → Option pI) (s0 : Int32 × pI) : Option pI :=
  (if x2 ≤ s0.1 then
    some s0.2
  else
    Option.bind (P a0 26) fun q9 =>
    p_ck (p_ib N q9 s0.1) <|
    p_let (p_u s0.2 q9 (Int32.toNatClampNeg s0.1) (-1)) fun I13 =>
    rec0 (s0.1 + nI 1, I13))
def B_X12_colours_32 (n : Nat) (N : pN) (P : pR) (x2 : Int32) (a0 : Nat) (x1 : Int32) (rec0 : (Int32 × pI) → Option (Int32 × pI)) (s0 : Int32 × pI) : Option (Int32 × pI) :=
  (if s0.1 < 0 then
    some (s0.1, s0.2)
  else
    (if x2 ≤ s0.1 then
      some (s0.1, s0.2)
    else
      Option.bind (f_X12_seesSender N s0.2 P a0 s0.1) fun q24 =>
      (if q24 = 0 then
        Option.bind (P a0 26) fun q45 =>
        p_ck (p_ib N q45 s0.1) <|
        p_ck (p_ib N q45 s0.1) <|
        p_let (p_u s0.2 q45 (Int32.toNatClampNeg s0.1) ((s0.2 q45 (Int32.toNatClampNeg s0.1)) + (nI 1))) fun I50 =>
        Option.bind (P a0 26) fun q52 =>
        p_ck (p_ib N q52 s0.1) <|
        (if (I50 q52 (Int32.toNatClampNeg s0.1)) ≤ 0 then
          rec0 (s0.1 + nI 1, I50)
        else
          Option.bind (P a0 26) fun q56 =>
          p_ck (p_ib N q56 s0.1) <|
          p_let (p_u I50 q56 (Int32.toNatClampNeg s0.1) (-1)) fun I60 =>
          rec0 (s0.1 + (-1), I60))
      else
        Option.bind (P a0 26) fun q26 =>
        p_ck (p_ib N q26 s0.1) <|
        p_ck (p_ib N q26 s0.1) <|
        p_let (p_u s0.2 q26 (Int32.toNatClampNeg s0.1) ((s0.2 q26 (Int32.toNatClampNeg s0.1)) + (nI 1))) fun I31 =>
        Option.bind (P a0 26) fun q33 =>
        p_ck (p_ib N q33 s0.1) <|
        (if (I31 q33 (Int32.toNatClampNeg s0.1)) = x1 then
          Option.bind (P a0 26) fun q39 =>
          p_ck (p_ib N q39 s0.1) <|
          p_let (p_u I31 q39 (Int32.toNatClampNeg s0.1) (-1)) fun I43 =>
          rec0 (s0.1 + (-1), I43)
        else
          Option.bind (f_X12_isApart n N I31 P a0 s0.1) fun q37 =>
          (if q37 = 0 then
            rec0 (s0.1, I31)
          else
            rec0 (s0.1 + nI 1, I31))))))
def f_X12_colours (n : Nat) (N : pN) (I : pI) (P : pR) (a0 : Nat) (x1 : Int32) : Option (Int32 × pI) :=
  Option.bind (P a0 0) fun q1 =>
  p_ck (p_ib N q1 (nI 1)) <|
  p_let (I q1 (Int32.toNatClampNeg (nI 1))) fun v5 =>
  Option.bind (p_it (B_X12_colours_12 N P v5 a0) n (nI 0, I)) fun t7 =>
  Option.bind (p_it (B_X12_colours_32 n N P v5 a0 x1) n (nI 0, t7)) fun t22 =>
  (if t22.1 = v5 then
    some (nI 1, t22.2)
  else
    some (nI 0, t22.2))
theorem c_X12_colours {G : pG} {d : Nat} {n : Nat} {N : pN} {I : pI} {L : pL} {P : pR} {a0 : Nat} {x1 : Int32} {qq : Int32 × pI} (hd : 3 ≤ d) (hW : WT N P) (ha0 : p_tp N a0 15) (hf : f_X12_colours n N I P a0 x1 = some qq) : MT G mX12_colours d 0 0 [.ref a0, .int x1] N I L P (p_R (some (.int qq.1)) N qq.2 L P) := by
  refine MT.of rfl (Nat.le_of_ble_eq_true rfl) ?_
  show SW G mX12_colours (p_rm d 0 0) 0 0 0 0 (p_R (some (.int qq.1)) N qq.2 L P) 0 [(0, .ref a0), (1, .int x1)] [] N I L P
  unfold f_X12_colours at hf
  refine s_aload_n (pc := 0) dX12_colours_0 0 rfl rfl ?_
  obtain ⟨q1, h2, hf⟩ := p_bd hf
  have t3 : p_tp N q1 0 := WT.get hW ha0 h2
  refine x_getR (pc := 1) dX12_colours_1 fl_X12_7 rfl ha0 h2 ?_
  refine s_iconst (pc := 4) dX12_colours_4 (v := nI 1) rfl ?_
  obtain ⟨c4, hf⟩ := p_ckx hf
  refine x_iald (pc := 5) dX12_colours_5 t3 c4 ?_
  refine s_topi (fun v5 e6 => ?_)
  replace hf := p_lx hf e6
  refine s_istore_n (pc := 6) (lo' := [(2, .int v5), (0, .ref a0), (1, .int x1)]) dX12_colours_6 rfl (Nat.le_of_ble_eq_true rfl) rfl ?_
  refine s_iconst (pc := 7) dX12_colours_7 (v := nI 0) rfl ?_
  refine s_istore_n (pc := 8) (lo' := [(3, .int (nI 0)), (2, .int v5), (0, .ref a0), (1, .int x1)]) dX12_colours_8 rfl (Nat.le_of_ble_eq_true rfl) rfl ?_
  refine s_iconst (pc := 9) dX12_colours_9 (v := nI 0) rfl ?_
  refine s_istore (pc := 10) (lo' := [(4, .int (nI 0)), (3, .int (nI 0)), (2, .int v5), (0, .ref a0), (1, .int x1)]) dX12_colours_10 (Nat.le_of_ble_eq_true rfl) rfl ?_
  obtain ⟨t7, hg, hf⟩ := p_bd hf
  have k8 : SW G mX12_colours (p_rm d 0 0) 0 0 0 0 (p_R (some (.int qq.1)) N qq.2 L P) 32 [(3, .int (nI 0)), (2, .int v5), (0, .ref a0), (1, .int x1)] [] N t7 L P := by
    obtain ⟨t22, hg, hf⟩ := p_bd hf
    have k23 : SW G mX12_colours (p_rm d 0 0) 0 0 0 0 (p_R (some (.int qq.1)) N qq.2 L P) 134 [(2, .int v5), (3, .int t22.1)] [] N t22.2 L P := by
      refine s_iload_n (pc := 134) dX12_colours_134 1 rfl rfl ?_
      refine s_iload_n (pc := 135) dX12_colours_135 0 rfl rfl ?_
      refine s_icmp_ne (pc := 136) (tgt := 143) dX12_colours_136 rfl (fun hc => ?_) (fun hc => ?_)
      · replace hf := p_ng hf hc
        refine s_iconst (pc := 143) dX12_colours_143 (v := nI 0) rfl ?_
        cases hf
        exact s_ireturn (pc := 144) dX12_colours_144 rfl rfl ⟨rfl, rfl, rfl, rfl, rfl⟩
      · replace hf := p_ps hf hc
        refine s_iconst (pc := 139) dX12_colours_139 (v := nI 1) rfl ?_
        refine s_goto (pc := 140) (tgt := 144) dX12_colours_140 rfl ?_
        cases hf
        exact s_ireturn (pc := 144) dX12_colours_144 rfl rfl ⟨rfl, rfl, rfl, rfl, rfl⟩
    replace hf := hg
    have k62 : ∀ (k : Nat) (s0 : Int32 × pI), p_it (B_X12_colours_32 n N P v5 a0 x1) k s0 = some t22 → (SW G mX12_colours (p_rm d 0 0) 0 0 0 0 (p_R (some (.int qq.1)) N qq.2 L P) 32 [(2, .int v5), (0, .ref a0), (1, .int x1), (3, .int s0.1)] [] N s0.2 L P) := p_it_ind (C := fun (s0 : Int32 × pI) => SW G mX12_colours (p_rm d 0 0) 0 0 0 0 (p_R (some (.int qq.1)) N qq.2 L P) 32 [(2, .int v5), (0, .ref a0), (1, .int x1), (3, .int s0.1)] [] N s0.2 L P) (by
      intro rec0 hrec0 s0 hf
      unfold B_X12_colours_32 at hf
      refine s_iload_n (pc := 32) dX12_colours_32 3 rfl rfl ?_
      refine s_if_lt (pc := 33) (tgt := 134) dX12_colours_33 rfl (fun hc => ?_) (fun hc => ?_)
      · replace hf := p_ps hf hc
        cases hf
        exact s_lo [0, 3] rfl (k23)
      · replace hf := p_ng hf hc
        refine s_iload_n (pc := 36) dX12_colours_36 3 rfl rfl ?_
        refine s_iload_n (pc := 37) dX12_colours_37 0 rfl rfl ?_
        refine s_icmp_ge (pc := 38) (tgt := 134) dX12_colours_38 rfl (fun hc => ?_) (fun hc => ?_)
        · replace hf := p_ps hf hc
          cases hf
          exact s_lo [0, 3] rfl (k23)
        · replace hf := p_ng hf hc
          refine s_aload_n (pc := 41) dX12_colours_41 1 rfl rfl ?_
          refine s_iload_n (pc := 42) dX12_colours_42 3 rfl rfl ?_
          obtain ⟨q63, h64, hf⟩ := p_bd hf
          refine y_callV1 (pc := 43) dX12_colours_43 (c_X12_seesSender (p_dd hd (by decide)) hW ha0 h64) mk_X12_seesSender mv_X12_seesSender ml_X12_215 rfl rfl (Nat.le_of_ble_eq_true rfl) ha0 rfl (p_d1 hd (by decide)) (Nat.le_of_ble_eq_true rfl) ?_
          refine s_if_ne (pc := 46) (tgt := 87) dX12_colours_46 rfl (fun hc => ?_) (fun hc => ?_)
          · replace hf := p_ng hf hc
            refine s_aload_n (pc := 87) dX12_colours_87 1 rfl rfl ?_
            obtain ⟨q65, h66, hf⟩ := p_bd hf
            have t67 : p_tp N q65 0 := WT.get hW ha0 h66
            refine x_getR (pc := 88) dX12_colours_88 fl_X12_47 rfl ha0 h66 ?_
            refine s_iload_n (pc := 91) dX12_colours_91 3 rfl rfl ?_
            refine s_dup2_11 (pc := 92) dX12_colours_92 rfl rfl ?_
            obtain ⟨c68, hf⟩ := p_ckx hf
            refine x_iald (pc := 93) dX12_colours_93 t67 c68 ?_
            refine s_iconst (pc := 94) dX12_colours_94 (v := nI 1) rfl ?_
            refine s_iadd (pc := 95) dX12_colours_95 ?_
            obtain ⟨c69, hf⟩ := p_ckx hf
            refine x_iast (pc := 96) dX12_colours_96 t67 c69 ?_
            refine s_nmI (fun I70 e71 => ?_)
            replace hf := p_lx hf e71
            refine s_aload_n (pc := 97) dX12_colours_97 1 rfl rfl ?_
            obtain ⟨q72, h73, hf⟩ := p_bd hf
            have t74 : p_tp N q72 0 := WT.get hW ha0 h73
            refine x_getR (pc := 98) dX12_colours_98 fl_X12_47 rfl ha0 h73 ?_
            refine s_iload_n (pc := 101) dX12_colours_101 3 rfl rfl ?_
            obtain ⟨c75, hf⟩ := p_ckx hf
            refine x_iald (pc := 102) dX12_colours_102 t74 c75 ?_
            refine s_iload_n (pc := 103) dX12_colours_103 2 rfl rfl ?_
            refine s_icmp_ne (pc := 104) (tgt := 120) dX12_colours_104 rfl (fun hc => ?_) (fun hc => ?_)
            · replace hf := p_ng hf hc
              refine s_aload_n (pc := 120) dX12_colours_120 1 rfl rfl ?_
              refine s_iload_n (pc := 121) dX12_colours_121 3 rfl rfl ?_
              obtain ⟨q76, h77, hf⟩ := p_bd hf
              refine y_callV1 (pc := 122) dX12_colours_122 (c_X12_isApart (p_dd hd (by decide)) hW ha0 h77) mk_X12_isApart mv_X12_isApart ml_X12_276 rfl rfl (Nat.le_of_ble_eq_true rfl) ha0 rfl (p_d1 hd (by decide)) (Nat.le_of_ble_eq_true rfl) ?_
              refine s_if_eq (pc := 125) (tgt := 32) dX12_colours_125 rfl (fun hc => ?_) (fun hc => ?_)
              · replace hf := p_ps hf hc
                exact s_lo [0, 1, 2, 3] rfl (hrec0 (s0.1, I70) hf)
              · replace hf := p_ng hf hc
                refine s_iinc (pc := 128) (lo' := [(3, .int (s0.1 + nI 1)), (2, .int v5), (0, .ref a0), (1, .int x1)]) dX12_colours_128 3 rfl (v := s0.1 + nI 1) rfl (Nat.le_of_ble_eq_true rfl) rfl ?_
                refine s_goto (pc := 131) (tgt := 32) dX12_colours_131 rfl ?_
                exact s_lo [1, 2, 3, 0] rfl (hrec0 (s0.1 + nI 1, I70) hf)
            · replace hf := p_ps hf hc
              refine s_aload_n (pc := 107) dX12_colours_107 1 rfl rfl ?_
              obtain ⟨q78, h79, hf⟩ := p_bd hf
              have t80 : p_tp N q78 0 := WT.get hW ha0 h79
              refine x_getR (pc := 108) dX12_colours_108 fl_X12_47 rfl ha0 h79 ?_
              refine s_iload_n (pc := 111) dX12_colours_111 3 rfl rfl ?_
              refine s_iconst (pc := 112) dX12_colours_112 (v := (-1)) rfl ?_
              obtain ⟨c81, hf⟩ := p_ckx hf
              refine x_iast (pc := 113) dX12_colours_113 t80 c81 ?_
              refine s_nmI (fun I82 e83 => ?_)
              replace hf := p_lx hf e83
              refine s_iinc (pc := 114) (lo' := [(3, .int (s0.1 + (-1))), (2, .int v5), (0, .ref a0), (1, .int x1)]) dX12_colours_114 3 rfl (v := s0.1 + (-1)) rfl (Nat.le_of_ble_eq_true rfl) rfl ?_
              refine s_goto (pc := 117) (tgt := 32) dX12_colours_117 rfl ?_
              exact s_lo [1, 2, 3, 0] rfl (hrec0 (s0.1 + (-1), I82) hf)
          · replace hf := p_ps hf hc
            refine s_aload_n (pc := 49) dX12_colours_49 1 rfl rfl ?_
            obtain ⟨q84, h85, hf⟩ := p_bd hf
            have t86 : p_tp N q84 0 := WT.get hW ha0 h85
            refine x_getR (pc := 50) dX12_colours_50 fl_X12_47 rfl ha0 h85 ?_
            refine s_iload_n (pc := 53) dX12_colours_53 3 rfl rfl ?_
            refine s_dup2_11 (pc := 54) dX12_colours_54 rfl rfl ?_
            obtain ⟨c87, hf⟩ := p_ckx hf
            refine x_iald (pc := 55) dX12_colours_55 t86 c87 ?_
            refine s_iconst (pc := 56) dX12_colours_56 (v := nI 1) rfl ?_
            refine s_iadd (pc := 57) dX12_colours_57 ?_
            obtain ⟨c88, hf⟩ := p_ckx hf
            refine x_iast (pc := 58) dX12_colours_58 t86 c88 ?_
            refine s_nmI (fun I89 e90 => ?_)
            replace hf := p_lx hf e90
            refine s_aload_n (pc := 59) dX12_colours_59 1 rfl rfl ?_
            obtain ⟨q91, h92, hf⟩ := p_bd hf
            have t93 : p_tp N q91 0 := WT.get hW ha0 h92
            refine x_getR (pc := 60) dX12_colours_60 fl_X12_47 rfl ha0 h92 ?_
            refine s_iload_n (pc := 63) dX12_colours_63 3 rfl rfl ?_
            obtain ⟨c94, hf⟩ := p_ckx hf
            refine x_iald (pc := 64) dX12_colours_64 t93 c94 ?_
            refine s_if_le (pc := 65) (tgt := 81) dX12_colours_65 rfl (fun hc => ?_) (fun hc => ?_)
            · replace hf := p_ps hf hc
              refine s_iinc (pc := 81) (lo' := [(3, .int (s0.1 + nI 1)), (2, .int v5), (0, .ref a0), (1, .int x1)]) dX12_colours_81 3 rfl (v := s0.1 + nI 1) rfl (Nat.le_of_ble_eq_true rfl) rfl ?_
              refine s_goto (pc := 84) (tgt := 32) dX12_colours_84 rfl ?_
              exact s_lo [1, 2, 3, 0] rfl (hrec0 (s0.1 + nI 1, I89) hf)
            · replace hf := p_ng hf hc
              refine s_aload_n (pc := 68) dX12_colours_68 1 rfl rfl ?_
              obtain ⟨q95, h96, hf⟩ := p_bd hf
              have t97 : p_tp N q95 0 := WT.get hW ha0 h96
              refine x_getR (pc := 69) dX12_colours_69 fl_X12_47 rfl ha0 h96 ?_
              refine s_iload_n (pc := 72) dX12_colours_72 3 rfl rfl ?_
              refine s_iconst (pc := 73) dX12_colours_73 (v := (-1)) rfl ?_
              obtain ⟨c98, hf⟩ := p_ckx hf
              refine x_iast (pc := 74) dX12_colours_74 t97 c98 ?_
              refine s_nmI (fun I99 e100 => ?_)
              replace hf := p_lx hf e100
              refine s_iinc (pc := 75) (lo' := [(3, .int (s0.1 + (-1))), (2, .int v5), (0, .ref a0), (1, .int x1)]) dX12_colours_75 3 rfl (v := s0.1 + (-1)) rfl (Nat.le_of_ble_eq_true rfl) rfl ?_
              refine s_goto (pc := 78) (tgt := 32) dX12_colours_78 rfl ?_
              exact s_lo [1, 2, 3, 0] rfl (hrec0 (s0.1 + (-1), I99) hf))
    exact s_lo [1, 2, 3, 0] rfl (k62 n (nI 0, t7) hf)
  replace hf := hg
  have k15 : ∀ (k : Nat) (s0 : Int32 × pI), p_it (B_X12_colours_12 N P v5 a0) k s0 = some t7 → (SW G mX12_colours (p_rm d 0 0) 0 0 0 0 (p_R (some (.int qq.1)) N qq.2 L P) 12 [(3, .int (nI 0)), (2, .int v5), (0, .ref a0), (1, .int x1), (4, .int s0.1)] [] N s0.2 L P) := p_it_ind (C := fun (s0 : Int32 × pI) => SW G mX12_colours (p_rm d 0 0) 0 0 0 0 (p_R (some (.int qq.1)) N qq.2 L P) 12 [(3, .int (nI 0)), (2, .int v5), (0, .ref a0), (1, .int x1), (4, .int s0.1)] [] N s0.2 L P) (by
    intro rec0 hrec0 s0 hf
    unfold B_X12_colours_12 at hf
    refine s_iload (pc := 12) dX12_colours_12 4 rfl ?_
    refine s_iload_n (pc := 14) dX12_colours_14 1 rfl rfl ?_
    refine s_icmp_ge (pc := 15) (tgt := 32) dX12_colours_15 rfl (fun hc => ?_) (fun hc => ?_)
    · replace hf := p_ps hf hc
      cases hf
      exact s_lo [0, 1, 2, 3] rfl (k8)
    · replace hf := p_ng hf hc
      refine s_aload_n (pc := 18) dX12_colours_18 2 rfl rfl ?_
      obtain ⟨q16, h17, hf⟩ := p_bd hf
      have t18 : p_tp N q16 0 := WT.get hW ha0 h17
      refine x_getR (pc := 19) dX12_colours_19 fl_X12_47 rfl ha0 h17 ?_
      refine s_iload (pc := 22) dX12_colours_22 4 rfl ?_
      refine s_iconst (pc := 24) dX12_colours_24 (v := (-1)) rfl ?_
      obtain ⟨c19, hf⟩ := p_ckx hf
      refine x_iast (pc := 25) dX12_colours_25 t18 c19 ?_
      refine s_nmI (fun I20 e21 => ?_)
      replace hf := p_lx hf e21
      refine s_iinc (pc := 26) (lo' := [(4, .int (s0.1 + nI 1)), (3, .int (nI 0)), (2, .int v5), (0, .ref a0), (1, .int x1)]) dX12_colours_26 4 rfl (v := s0.1 + nI 1) rfl (Nat.le_of_ble_eq_true rfl) rfl ?_
      refine s_goto (pc := 29) (tgt := 12) dX12_colours_29 rfl ?_
      exact s_lo [1, 2, 3, 4, 0] rfl (hrec0 (s0.1 + nI 1, I20) hf))
  exact s_lo [1, 2, 3, 4, 0] rfl (k15 n (nI 0, I) hf)
