def B_X12_colouring_32 (n : Nat) (N : pN) (P : pR) (a0 : Nat) (x2 : Int32) (rec1 : (Int32 × pI × pL) → Option (pI × pL)) (s1 : Int32 × pI × pL) : Option (pI × pL) :=
  (if x2 ≤ s1.1 then
    some (s1.2.1, s1.2.2)
  else
    Option.bind (P a0 27) fun q13 =>
    Option.bind (f_X12_seesSender N s1.2.1 P a0 x2) fun q16 =>
    Option.bind (α := Int32 × pI × pL) ((if q16 = 0 then
      some (nI 0, s1.2.1, s1.2.2)
    else
      Option.bind (f_X12_seesSender N s1.2.1 P a0 s1.1) fun q20 =>
      (if q20 = 0 then
        some (nI 0, s1.2.1, s1.2.2)
      else
        Option.bind (f_X12_clashes n N s1.2.1 s1.2.2 P a0 x2 s1.1) fun q22 =>
        (if q22.1 = 0 then
          some (nI 0, q22.2.1, q22.2.2)
        else
          some (nI 1, q22.2.1, q22.2.2))))) fun t18 =>
    p_ck (p_ib N q13 (((nI 6) * x2) + s1.1)) <|
    p_ck (decide (t18.1 = 0 ∨ t18.1 = 1)) <|
    p_let (p_u t18.2.1 q13 (Int32.toNatClampNeg (((nI 6) * x2) + s1.1)) t18.1) fun I26 =>
    rec1 (s1.1 + nI 1, I26, t18.2.2))
def B_X12_colouring_4 (n : Nat) (N : pN) (P : pR) (a0 : Nat) (rec0 : (Int32 × Int32 × pI × pL) → Option (Int32 × pI × pL)) (s0 : Int32 × Int32 × pI × pL) : Option (Int32 × pI × pL) :=
  Option.bind (P a0 0) fun q3 =>
  p_ck (p_ib N q3 (nI 1)) <|
  (if (s0.2.2.1 q3 (Int32.toNatClampNeg (nI 1))) ≤ s0.2.1 then
    some (s0.1, s0.2.2.1, s0.2.2.2)
  else
    Option.bind (f_X12_seesSender N s0.2.2.1 P a0 s0.2.1) fun q7 =>
    p_let (α := Int32) ((if q7 = 0 then
      nI 0
    else
      nI 1)) fun t9 =>
    Option.bind (p_it (B_X12_colouring_32 n N P a0 s0.2.1) n (nI 0, s0.2.2.1, s0.2.2.2)) fun t11 =>
    rec0 (s0.1 + t9, s0.2.1 + nI 1, t11.1, t11.2))
def B_X12_colouring_98 (n : Nat) (N : pN) (P : pR) (a0 : Nat) (rec0 : (Int32 × pI) → Option (Int32 × pI)) (s0 : Int32 × pI) : Option (Int32 × pI) :=
  Option.bind (f_X12_colours n N s0.2 P a0 s0.1) fun q73 =>
  (if q73.1 = 0 then
    rec0 (s0.1 + nI 1, q73.2)
  else
    some (s0.1, q73.2))
def f_X12_colouring (n : Nat) (N : pN) (I : pI) (L : pL) (P : pR) (a0 : Nat) : Option (Int32 × pI × pL) :=
  Option.bind (p_it (B_X12_colouring_4 n N P a0) n (nI 0, nI 0, I, L)) fun t1 =>
  (if t1.1 = 0 then
    some (nI 0, t1.2.1, t1.2.2)
  else
    Option.bind (p_it (B_X12_colouring_98 n N P a0) n (nI 1, t1.2.1)) fun t71 =>
    some (t71.1, t71.2, t1.2.2))
theorem c_X12_colouring {G : pG} {d : Nat} {n : Nat} {N : pN} {I : pI} {L : pL} {P : pR} {a0 : Nat} {qq : Int32 × pI × pL} (hd : 9 ≤ d) (hW : WT N P) (ha0 : p_tp N a0 15) (hf : f_X12_colouring n N I L P a0 = some qq) : MT G mX12_colouring d 0 0 [.ref a0] N I L P (p_R (some (.int qq.1)) N qq.2.1 qq.2.2 P) := by
  refine MT.of rfl (Nat.le_of_ble_eq_true rfl) ?_
  show SW G mX12_colouring (p_rm d 0 0) 0 0 0 0 (p_R (some (.int qq.1)) N qq.2.1 qq.2.2 P) 0 [(0, .ref a0)] [] N I L P
  unfold f_X12_colouring at hf
  refine s_iconst (pc := 0) dX12_colouring_0 (v := nI 0) rfl ?_
  refine s_istore_n (pc := 1) (lo' := [(1, .int (nI 0)), (0, .ref a0)]) dX12_colouring_1 rfl (Nat.le_of_ble_eq_true rfl) rfl ?_
  refine s_iconst (pc := 2) dX12_colouring_2 (v := nI 0) rfl ?_
  refine s_istore_n (pc := 3) (lo' := [(2, .int (nI 0)), (1, .int (nI 0)), (0, .ref a0)]) dX12_colouring_3 rfl (Nat.le_of_ble_eq_true rfl) rfl ?_
  obtain ⟨t1, hg, hf⟩ := p_bd hf
  have k2 : SW G mX12_colouring (p_rm d 0 0) 0 0 0 0 (p_R (some (.int qq.1)) N qq.2.1 qq.2.2 P) 90 [(0, .ref a0), (1, .int t1.1)] [] N t1.2.1 t1.2.2 P := by
    refine s_iload_n (pc := 90) dX12_colouring_90 1 rfl rfl ?_
    refine s_if_ne (pc := 91) (tgt := 96) dX12_colouring_91 rfl (fun hc => ?_) (fun hc => ?_)
    · replace hf := p_ng hf hc
      refine s_iconst (pc := 96) dX12_colouring_96 (v := nI 1) rfl ?_
      refine s_istore_n (pc := 97) (lo' := [(2, .int (nI 1)), (0, .ref a0), (1, .int t1.1)]) dX12_colouring_97 rfl (Nat.le_of_ble_eq_true rfl) rfl ?_
      obtain ⟨t71, hg, hf⟩ := p_bd hf
      have k72 : SW G mX12_colouring (p_rm d 0 0) 0 0 0 0 (p_R (some (.int qq.1)) N qq.2.1 qq.2.2 P) 112 [(2, .int t71.1)] [] N t71.2 t1.2.2 P := by
        refine s_iload_n (pc := 112) dX12_colouring_112 0 rfl rfl ?_
        cases hf
        exact s_ireturn (pc := 113) dX12_colouring_113 rfl rfl ⟨rfl, rfl, rfl, rfl, rfl⟩
      replace hf := hg
      have k75 : ∀ (k : Nat) (s0 : Int32 × pI), p_it (B_X12_colouring_98 n N P a0) k s0 = some t71 → (SW G mX12_colouring (p_rm d 0 0) 0 0 0 0 (p_R (some (.int qq.1)) N qq.2.1 qq.2.2 P) 98 [(0, .ref a0), (2, .int s0.1)] [] N s0.2 t1.2.2 P) := p_it_ind (C := fun (s0 : Int32 × pI) => SW G mX12_colouring (p_rm d 0 0) 0 0 0 0 (p_R (some (.int qq.1)) N qq.2.1 qq.2.2 P) 98 [(0, .ref a0), (2, .int s0.1)] [] N s0.2 t1.2.2 P) (by
        intro rec0 hrec0 s0 hf
        unfold B_X12_colouring_98 at hf
        refine s_aload_n (pc := 98) dX12_colouring_98 0 rfl rfl ?_
        refine s_iload_n (pc := 99) dX12_colouring_99 1 rfl rfl ?_
        obtain ⟨q76, h77, hf⟩ := p_bd hf
        refine y_callV1 (pc := 100) dX12_colouring_100 (c_X12_colours (p_dd hd (by decide)) hW ha0 h77) mk_X12_colours mv_X12_colours ml_X12_279 rfl rfl (Nat.le_of_ble_eq_true rfl) ha0 rfl (p_d1 hd (by decide)) (Nat.le_of_ble_eq_true rfl) ?_
        refine s_if_ne (pc := 103) (tgt := 112) dX12_colouring_103 rfl (fun hc => ?_) (fun hc => ?_)
        · replace hf := p_ng hf hc
          cases hf
          exact s_lo [1] rfl (k72)
        · replace hf := p_ps hf hc
          refine s_iinc (pc := 106) (lo' := [(2, .int (s0.1 + nI 1)), (0, .ref a0)]) dX12_colouring_106 1 rfl (v := s0.1 + nI 1) rfl (Nat.le_of_ble_eq_true rfl) rfl ?_
          refine s_goto (pc := 109) (tgt := 98) dX12_colouring_109 rfl ?_
          exact s_lo [1, 0] rfl (hrec0 (s0.1 + nI 1, q76.2) hf))
      exact s_lo [1, 0] rfl (k75 n (nI 1, t1.2.1) hf)
    · replace hf := p_ps hf hc
      refine s_iconst (pc := 94) dX12_colouring_94 (v := nI 0) rfl ?_
      cases hf
      exact s_ireturn (pc := 95) dX12_colouring_95 rfl rfl ⟨rfl, rfl, rfl, rfl, rfl⟩
  replace hf := hg
  have k44 : ∀ (k : Nat) (s0 : Int32 × Int32 × pI × pL), p_it (B_X12_colouring_4 n N P a0) k s0 = some t1 → (SW G mX12_colouring (p_rm d 0 0) 0 0 0 0 (p_R (some (.int qq.1)) N qq.2.1 qq.2.2 P) 4 [(0, .ref a0), (1, .int s0.1), (2, .int s0.2.1)] [] N s0.2.2.1 s0.2.2.2 P) := p_it_ind (C := fun (s0 : Int32 × Int32 × pI × pL) => SW G mX12_colouring (p_rm d 0 0) 0 0 0 0 (p_R (some (.int qq.1)) N qq.2.1 qq.2.2 P) 4 [(0, .ref a0), (1, .int s0.1), (2, .int s0.2.1)] [] N s0.2.2.1 s0.2.2.2 P) (by
    intro rec0 hrec0 s0 hf
    unfold B_X12_colouring_4 at hf
    refine s_iload_n (pc := 4) dX12_colouring_4 2 rfl rfl ?_
    refine s_aload_n (pc := 5) dX12_colouring_5 0 rfl rfl ?_
    obtain ⟨q45, h46, hf⟩ := p_bd hf
    have t47 : p_tp N q45 0 := WT.get hW ha0 h46
    refine x_getR (pc := 6) dX12_colouring_6 fl_X12_7 rfl ha0 h46 ?_
    refine s_iconst (pc := 9) dX12_colouring_9 (v := nI 1) rfl ?_
    obtain ⟨c48, hf⟩ := p_ckx hf
    refine x_iald (pc := 10) dX12_colouring_10 t47 c48 ?_
    refine s_icmp_ge (pc := 11) (tgt := 90) dX12_colouring_11 rfl (fun hc => ?_) (fun hc => ?_)
    · replace hf := p_ps hf hc
      cases hf
      exact s_lo [0, 1] rfl (k2)
    · replace hf := p_ng hf hc
      refine s_iload_n (pc := 14) dX12_colouring_14 1 rfl rfl ?_
      refine s_aload_n (pc := 15) dX12_colouring_15 0 rfl rfl ?_
      refine s_iload_n (pc := 16) dX12_colouring_16 2 rfl rfl ?_
      obtain ⟨q49, h50, hf⟩ := p_bd hf
      refine y_callV1 (pc := 17) dX12_colouring_17 (c_X12_seesSender (p_dd hd (by decide)) hW ha0 h50) mk_X12_seesSender mv_X12_seesSender ml_X12_215 rfl rfl (Nat.le_of_ble_eq_true rfl) ha0 rfl (p_d1 hd (by decide)) (Nat.le_of_ble_eq_true rfl) ?_
      obtain ⟨t51, hg, hf⟩ := p_lx2 hf
      have k52 : SW G mX12_colouring (p_rm d 0 0) 0 0 0 0 (p_R (some (.int qq.1)) N qq.2.1 qq.2.2 P) 28 [(0, .ref a0), (2, .int s0.2.1)] [.int t51, .int s0.1] N s0.2.2.1 s0.2.2.2 P := by
        refine s_iadd (pc := 28) dX12_colouring_28 ?_
        refine s_istore_n (pc := 29) (lo' := [(1, .int (s0.1 + t51)), (0, .ref a0), (2, .int s0.2.1)]) dX12_colouring_29 rfl (Nat.le_of_ble_eq_true rfl) rfl ?_
        refine s_iconst (pc := 30) dX12_colouring_30 (v := nI 0) rfl ?_
        refine s_istore_n (pc := 31) (lo' := [(3, .int (nI 0)), (1, .int (s0.1 + t51)), (0, .ref a0), (2, .int s0.2.1)]) dX12_colouring_31 rfl (Nat.le_of_ble_eq_true rfl) rfl ?_
        obtain ⟨t53, hg, hf⟩ := p_bd hf
        have k54 : SW G mX12_colouring (p_rm d 0 0) 0 0 0 0 (p_R (some (.int qq.1)) N qq.2.1 qq.2.2 P) 84 [(1, .int (s0.1 + t51)), (0, .ref a0), (2, .int s0.2.1)] [] N t53.1 t53.2 P := by
          refine s_iinc (pc := 84) (lo' := [(2, .int (s0.2.1 + nI 1)), (1, .int (s0.1 + t51)), (0, .ref a0)]) dX12_colouring_84 2 rfl (v := s0.2.1 + nI 1) rfl (Nat.le_of_ble_eq_true rfl) rfl ?_
          refine s_goto (pc := 87) (tgt := 4) dX12_colouring_87 rfl ?_
          exact s_lo [2, 1, 0] rfl (hrec0 (s0.1 + t51, s0.2.1 + nI 1, t53.1, t53.2) hf)
        replace hf := hg
        have k55 : ∀ (k : Nat) (s1 : Int32 × pI × pL), p_it (B_X12_colouring_32 n N P a0 s0.2.1) k s1 = some t53 → (SW G mX12_colouring (p_rm d 0 0) 0 0 0 0 (p_R (some (.int qq.1)) N qq.2.1 qq.2.2 P) 32 [(1, .int (s0.1 + t51)), (0, .ref a0), (2, .int s0.2.1), (3, .int s1.1)] [] N s1.2.1 s1.2.2 P) := p_it_ind (C := fun (s1 : Int32 × pI × pL) => SW G mX12_colouring (p_rm d 0 0) 0 0 0 0 (p_R (some (.int qq.1)) N qq.2.1 qq.2.2 P) 32 [(1, .int (s0.1 + t51)), (0, .ref a0), (2, .int s0.2.1), (3, .int s1.1)] [] N s1.2.1 s1.2.2 P) (by
          intro rec1 hrec1 s1 hf
          unfold B_X12_colouring_32 at hf
          refine s_iload_n (pc := 32) dX12_colouring_32 3 rfl rfl ?_
          refine s_iload_n (pc := 33) dX12_colouring_33 2 rfl rfl ?_
          refine s_icmp_ge (pc := 34) (tgt := 84) dX12_colouring_34 rfl (fun hc => ?_) (fun hc => ?_)
          · replace hf := p_ps hf hc
            cases hf
            exact s_lo [0, 1, 2] rfl (k54)
          · replace hf := p_ng hf hc
            refine s_aload_n (pc := 37) dX12_colouring_37 1 rfl rfl ?_
            obtain ⟨q56, h57, hf⟩ := p_bd hf
            have t58 : p_tp N q56 1 := WT.get hW ha0 h57
            refine x_getR (pc := 38) dX12_colouring_38 fl_X12_50 rfl ha0 h57 ?_
            refine s_bipush (pc := 41) dX12_colouring_41 (v := nI 6) rfl ?_
            refine s_iload_n (pc := 43) dX12_colouring_43 2 rfl rfl ?_
            refine s_imul (pc := 44) dX12_colouring_44 ?_
            refine s_iload_n (pc := 45) dX12_colouring_45 3 rfl rfl ?_
            refine s_iadd (pc := 46) dX12_colouring_46 ?_
            refine s_aload_n (pc := 47) dX12_colouring_47 1 rfl rfl ?_
            refine s_iload_n (pc := 48) dX12_colouring_48 2 rfl rfl ?_
            obtain ⟨q59, h60, hf⟩ := p_bd hf
            refine y_callV1 (pc := 49) dX12_colouring_49 (c_X12_seesSender (p_dd hd (by decide)) hW ha0 h60) mk_X12_seesSender mv_X12_seesSender ml_X12_215 rfl rfl (Nat.le_of_ble_eq_true rfl) ha0 rfl (p_d1 hd (by decide)) (Nat.le_of_ble_eq_true rfl) ?_
            obtain ⟨t61, hg, hf⟩ := p_bd hf
            have k62 : SW G mX12_colouring (p_rm d 0 0) 0 0 0 0 (p_R (some (.int qq.1)) N qq.2.1 qq.2.2 P) 77 [(1, .int (s0.1 + t51)), (0, .ref a0), (2, .int s0.2.1), (3, .int s1.1)] [.int t61.1, .int (((nI 6) * s0.2.1) + s1.1), .ref q56] N t61.2.1 t61.2.2 P := by
              obtain ⟨c67, hf⟩ := p_ckx hf
              obtain ⟨c68, hf⟩ := p_ckx hf
              refine x_zast (pc := 77) dX12_colouring_77 t58 c67 (of_decide_eq_true c68) ?_
              refine s_nmI (fun I69 e70 => ?_)
              replace hf := p_lx hf e70
              refine s_iinc (pc := 78) (lo' := [(3, .int (s1.1 + nI 1)), (1, .int (s0.1 + t51)), (0, .ref a0), (2, .int s0.2.1)]) dX12_colouring_78 3 rfl (v := s1.1 + nI 1) rfl (Nat.le_of_ble_eq_true rfl) rfl ?_
              refine s_goto (pc := 81) (tgt := 32) dX12_colouring_81 rfl ?_
              exact s_lo [1, 2, 3, 0] rfl (hrec1 (s1.1 + nI 1, I69, t61.2.2) hf)
            replace hf := hg
            refine s_if_eq (pc := 52) (tgt := 76) dX12_colouring_52 rfl (fun hc => ?_) (fun hc => ?_)
            · replace hf := p_ps hf hc
              refine s_iconst (pc := 76) dX12_colouring_76 (v := nI 0) rfl ?_
              cases hf
              exact s_lo [0, 1, 2, 3] rfl (k62)
            · replace hf := p_ng hf hc
              refine s_aload_n (pc := 55) dX12_colouring_55 1 rfl rfl ?_
              refine s_iload_n (pc := 56) dX12_colouring_56 3 rfl rfl ?_
              obtain ⟨q63, h64, hf⟩ := p_bd hf
              refine y_callV1 (pc := 57) dX12_colouring_57 (c_X12_seesSender (p_dd hd (by decide)) hW ha0 h64) mk_X12_seesSender mv_X12_seesSender ml_X12_215 rfl rfl (Nat.le_of_ble_eq_true rfl) ha0 rfl (p_d1 hd (by decide)) (Nat.le_of_ble_eq_true rfl) ?_
              refine s_if_eq (pc := 60) (tgt := 76) dX12_colouring_60 rfl (fun hc => ?_) (fun hc => ?_)
              · replace hf := p_ps hf hc
                refine s_iconst (pc := 76) dX12_colouring_76 (v := nI 0) rfl ?_
                cases hf
                exact s_lo [0, 1, 2, 3] rfl (k62)
              · replace hf := p_ng hf hc
                refine s_aload_n (pc := 63) dX12_colouring_63 1 rfl rfl ?_
                refine s_iload_n (pc := 64) dX12_colouring_64 2 rfl rfl ?_
                refine s_iload_n (pc := 65) dX12_colouring_65 3 rfl rfl ?_
                obtain ⟨q65, h66, hf⟩ := p_bd hf
                refine y_callV1 (pc := 66) dX12_colouring_66 (c_X12_clashes (p_dd hd (by decide)) hW ha0 h66) mk_X12_clashes mv_X12_clashes ml_X12_273 rfl rfl (Nat.le_of_ble_eq_true rfl) ha0 rfl (p_d1 hd (by decide)) (Nat.le_of_ble_eq_true rfl) ?_
                refine s_if_eq (pc := 69) (tgt := 76) dX12_colouring_69 rfl (fun hc => ?_) (fun hc => ?_)
                · replace hf := p_ps hf hc
                  refine s_iconst (pc := 76) dX12_colouring_76 (v := nI 0) rfl ?_
                  cases hf
                  exact s_lo [0, 1, 2, 3] rfl (k62)
                · replace hf := p_ng hf hc
                  refine s_iconst (pc := 72) dX12_colouring_72 (v := nI 1) rfl ?_
                  refine s_goto (pc := 73) (tgt := 77) dX12_colouring_73 rfl ?_
                  cases hf
                  exact s_lo [0, 1, 2, 3] rfl (k62))
        exact s_lo [1, 2, 3, 0] rfl (k55 n (nI 0, s0.2.2.1, s0.2.2.2) hf)
      replace hf := hg.symm
      refine s_if_eq (pc := 20) (tgt := 27) dX12_colouring_20 rfl (fun hc => ?_) (fun hc => ?_)
      · replace hf := p_ps hf hc
        refine s_iconst (pc := 27) dX12_colouring_27 (v := nI 0) rfl ?_
        cases hf
        exact s_lo [0, 2] rfl (k52)
      · replace hf := p_ng hf hc
        refine s_iconst (pc := 23) dX12_colouring_23 (v := nI 1) rfl ?_
        refine s_goto (pc := 24) (tgt := 28) dX12_colouring_24 rfl ?_
        cases hf
        exact s_lo [0, 2] rfl (k52))
  exact s_lo [2, 1, 0] rfl (k44 n (nI 0, nI 0, I, L) hf)
def f_X12_colour (n : Nat) (N : pN) (I : pI) (L : pL) (P : pR) (a0 : Nat) (x1 : Int32) : Option (Int32 × pI × pL) :=
  Option.bind (f_X12_seesSender N I P a0 x1) fun q1 =>
  (if q1 = 0 then
    some ((-1), I, L)
  else
    Option.bind (f_X12_colouring n N I L P a0) fun q3 =>
    (if q3.1 = 0 then
      some ((-1), q3.2.1, q3.2.2)
    else
      Option.bind (P a0 26) fun q5 =>
      p_ck (p_ib N q5 x1) <|
      some (q3.2.1 q5 (Int32.toNatClampNeg x1), q3.2.1, q3.2.2)))
theorem c_X12_colour {G : pG} {d : Nat} {n : Nat} {N : pN} {I : pI} {L : pL} {P : pR} {a0 : Nat} {x1 : Int32} {qq : Int32 × pI × pL} (hd : 10 ≤ d) (hW : WT N P) (ha0 : p_tp N a0 15) (hf : f_X12_colour n N I L P a0 x1 = some qq) : MT G mX12_colour d 0 0 [.ref a0, .int x1] N I L P (p_R (some (.int qq.1)) N qq.2.1 qq.2.2 P) := by
  refine MT.of rfl (Nat.le_of_ble_eq_true rfl) ?_
  show SW G mX12_colour (p_rm d 0 0) 0 0 0 0 (p_R (some (.int qq.1)) N qq.2.1 qq.2.2 P) 0 [(0, .ref a0), (1, .int x1)] [] N I L P
  unfold f_X12_colour at hf
  refine s_aload_n (pc := 0) dX12_colour_0 0 rfl rfl ?_
  refine s_iload_n (pc := 1) dX12_colour_1 1 rfl rfl ?_
  obtain ⟨q1, h2, hf⟩ := p_bd hf
  refine y_callV1 (pc := 2) dX12_colour_2 (c_X12_seesSender (p_dd hd (by decide)) hW ha0 h2) mk_X12_seesSender mv_X12_seesSender ml_X12_215 rfl rfl (Nat.le_of_ble_eq_true rfl) ha0 rfl (p_d1 hd (by decide)) (Nat.le_of_ble_eq_true rfl) ?_
  refine s_if_eq (pc := 5) (tgt := 15) dX12_colour_5 rfl (fun hc => ?_) (fun hc => ?_)
  · replace hf := p_ps hf hc
    refine s_iconst (pc := 15) dX12_colour_15 (v := (-1)) rfl ?_
    cases hf
    exact s_ireturn (pc := 16) dX12_colour_16 rfl rfl ⟨rfl, rfl, rfl, rfl, rfl⟩
  · replace hf := p_ng hf hc
    refine s_aload_n (pc := 8) dX12_colour_8 0 rfl rfl ?_
    obtain ⟨q3, h4, hf⟩ := p_bd hf
    refine y_callV1 (pc := 9) dX12_colour_9 (c_X12_colouring (p_dd hd (by decide)) hW ha0 h4) mk_X12_colouring mv_X12_colouring ml_X12_282 rfl rfl (Nat.le_of_ble_eq_true rfl) ha0 rfl (p_d1 hd (by decide)) (Nat.le_of_ble_eq_true rfl) ?_
    refine s_if_ne (pc := 12) (tgt := 17) dX12_colour_12 rfl (fun hc => ?_) (fun hc => ?_)
    · replace hf := p_ng hf hc
      refine s_aload_n (pc := 17) dX12_colour_17 0 rfl rfl ?_
      obtain ⟨q5, h6, hf⟩ := p_bd hf
      have t7 : p_tp N q5 0 := WT.get hW ha0 h6
      refine x_getR (pc := 18) dX12_colour_18 fl_X12_47 rfl ha0 h6 ?_
      refine s_iload_n (pc := 21) dX12_colour_21 1 rfl rfl ?_
      obtain ⟨c8, hf⟩ := p_ckx hf
      refine x_iald (pc := 22) dX12_colour_22 t7 c8 ?_
      cases hf
      exact s_ireturn (pc := 23) dX12_colour_23 rfl rfl ⟨rfl, rfl, rfl, rfl, rfl⟩
    · replace hf := p_ps hf hc
      refine s_iconst (pc := 15) dX12_colour_15 (v := (-1)) rfl ?_
      cases hf
      exact s_ireturn (pc := 16) dX12_colour_16 rfl rfl ⟨rfl, rfl, rfl, rfl, rfl⟩
def J_X12_span_40 (N : pN) (I : pI) (P : pR) (a0 : Nat) (x1 : Int32) (x2 : Int32) (x3 : Int32) : Option (Int32 × pI) :=
  Option.bind (P a0 0) fun q3 =>
  p_ck (p_ib N q3 (((nI 120) + ((nI 8) * x1)) + (nI 6))) <|
  p_let (p_u I q3 (Int32.toNatClampNeg (((nI 120) + ((nI 8) * x1)) + (nI 6))) x2) fun I7 =>
  Option.bind (P a0 0) fun q9 =>
  p_let (α := Int32) ((if x2 = (-1) then
    (-1)
  else
    x3)) fun t12 =>
  p_ck (p_ib N q9 (((nI 120) + ((nI 8) * x1)) + (nI 7))) <|
  p_let (p_u I7 q9 (Int32.toNatClampNeg (((nI 120) + ((nI 8) * x1)) + (nI 7))) t12) fun I15 =>
  some (nI 1, I15)
def f_X12_span (N : pN) (I : pI) (P : pR) (a0 : Nat) (x1 : Int32) (x2 : Int32) (x3 : Int32) : Option (Int32 × pI) :=
  Option.bind (f_X12_isOf N I P a0 x1 (nI 1)) fun q1 =>
  (if q1 = 0 then
    some (nI 0, I)
  else
    (if x2 = (-1) then
      J_X12_span_40 N I P a0 x1 x2 x3
    else
      Option.bind (f_X12_isIn x2 (nI 0) (nI 1000000000)) fun q32 =>
      (if q32 = 0 then
        some (nI 0, I)
      else
        Option.bind (f_X12_isIn x3 x2 (nI 1000000000)) fun q34 =>
        (if q34 = 0 then
          some (nI 0, I)
        else
          J_X12_span_40 N I P a0 x1 x2 x3))))
theorem c_X12_span {G : pG} {d : Nat} {N : pN} {I : pI} {L : pL} {P : pR} {a0 : Nat} {x1 : Int32} {x2 : Int32} {x3 : Int32} {qq : Int32 × pI} (hd : 2 ≤ d) (hW : WT N P) (ha0 : p_tp N a0 15) (hf : f_X12_span N I P a0 x1 x2 x3 = some qq) : MT G mX12_span d 0 0 [.ref a0, .int x1, .int x2, .int x3] N I L P (p_R (some (.int qq.1)) N qq.2 L P) := by
  refine MT.of rfl (Nat.le_of_ble_eq_true rfl) ?_
  show SW G mX12_span (p_rm d 0 0) 0 0 0 0 (p_R (some (.int qq.1)) N qq.2 L P) 0 [(0, .ref a0), (1, .int x1), (2, .int x2), (3, .int x3)] [] N I L P
  unfold f_X12_span at hf
  refine s_aload_n (pc := 0) dX12_span_0 0 rfl rfl ?_
  refine s_iload_n (pc := 1) dX12_span_1 1 rfl rfl ?_
  refine s_iconst (pc := 2) dX12_span_2 (v := nI 1) rfl ?_
  obtain ⟨q1, h2, hf⟩ := p_bd hf
  refine y_callV1 (pc := 3) dX12_span_3 (c_X12_isOf (p_dd hd (by decide)) hW ha0 h2) mk_X12_isOf mv_X12_isOf ml_X12_80 rfl rfl (Nat.le_of_ble_eq_true rfl) ha0 rfl (p_d1 hd (by decide)) (Nat.le_of_ble_eq_true rfl) ?_
  refine s_if_ne (pc := 6) (tgt := 11) dX12_span_6 rfl (fun hc => ?_) (fun hc => ?_)
  · replace hf := p_ng hf hc
    refine s_iload_n (pc := 11) dX12_span_11 2 rfl rfl ?_
    refine s_iconst (pc := 12) dX12_span_12 (v := (-1)) rfl ?_
    have k17 : J_X12_span_40 N I P a0 x1 x2 x3 = some qq → SW G mX12_span (p_rm d 0 0) 0 0 0 0 (p_R (some (.int qq.1)) N qq.2 L P) 40 [(0, .ref a0), (1, .int x1), (2, .int x2), (3, .int x3)] [] N I L P := by
      intro hf
      unfold J_X12_span_40 at hf
      refine s_aload_n (pc := 40) dX12_span_40 0 rfl rfl ?_
      obtain ⟨q18, h19, hf⟩ := p_bd hf
      have t20 : p_tp N q18 0 := WT.get hW ha0 h19
      refine x_getR (pc := 41) dX12_span_41 fl_X12_7 rfl ha0 h19 ?_
      refine s_bipush (pc := 44) dX12_span_44 (v := nI 120) rfl ?_
      refine s_bipush (pc := 46) dX12_span_46 (v := nI 8) rfl ?_
      refine s_iload_n (pc := 48) dX12_span_48 1 rfl rfl ?_
      refine s_imul (pc := 49) dX12_span_49 ?_
      refine s_iadd (pc := 50) dX12_span_50 ?_
      refine s_bipush (pc := 51) dX12_span_51 (v := nI 6) rfl ?_
      refine s_iadd (pc := 53) dX12_span_53 ?_
      refine s_iload_n (pc := 54) dX12_span_54 2 rfl rfl ?_
      obtain ⟨c21, hf⟩ := p_ckx hf
      refine x_iast (pc := 55) dX12_span_55 t20 c21 ?_
      refine s_nmI (fun I22 e23 => ?_)
      replace hf := p_lx hf e23
      refine s_aload_n (pc := 56) dX12_span_56 0 rfl rfl ?_
      obtain ⟨q24, h25, hf⟩ := p_bd hf
      have t26 : p_tp N q24 0 := WT.get hW ha0 h25
      refine x_getR (pc := 57) dX12_span_57 fl_X12_7 rfl ha0 h25 ?_
      refine s_bipush (pc := 60) dX12_span_60 (v := nI 120) rfl ?_
      refine s_bipush (pc := 62) dX12_span_62 (v := nI 8) rfl ?_
      refine s_iload_n (pc := 64) dX12_span_64 1 rfl rfl ?_
      refine s_imul (pc := 65) dX12_span_65 ?_
      refine s_iadd (pc := 66) dX12_span_66 ?_
      refine s_bipush (pc := 67) dX12_span_67 (v := nI 7) rfl ?_
      refine s_iadd (pc := 69) dX12_span_69 ?_
      refine s_iload_n (pc := 70) dX12_span_70 2 rfl rfl ?_
      refine s_iconst (pc := 71) dX12_span_71 (v := (-1)) rfl ?_
      obtain ⟨t27, hg, hf⟩ := p_lx2 hf
      have k28 : SW G mX12_span (p_rm d 0 0) 0 0 0 0 (p_R (some (.int qq.1)) N qq.2 L P) 80 [] [.int t27, .int (((nI 120) + ((nI 8) * x1)) + (nI 7)), .ref q24] N I22 L P := by
        obtain ⟨c29, hf⟩ := p_ckx hf
        refine x_iast (pc := 80) dX12_span_80 t26 c29 ?_
        refine s_nmI (fun I30 e31 => ?_)
        replace hf := p_lx hf e31
        refine s_iconst (pc := 81) dX12_span_81 (v := nI 1) rfl ?_
        cases hf
        exact s_ireturn (pc := 82) dX12_span_82 rfl rfl ⟨rfl, rfl, rfl, rfl, rfl⟩
      replace hf := hg.symm
      refine s_icmp_ne (pc := 72) (tgt := 79) dX12_span_72 rfl (fun hc => ?_) (fun hc => ?_)
      · replace hf := p_ng hf hc
        refine s_iload_n (pc := 79) dX12_span_79 3 rfl rfl ?_
        cases hf
        exact s_lo [] rfl (k28)
      · replace hf := p_ps hf hc
        refine s_iconst (pc := 75) dX12_span_75 (v := (-1)) rfl ?_
        refine s_goto (pc := 76) (tgt := 80) dX12_span_76 rfl ?_
        cases hf
        exact s_lo [] rfl (k28)
    refine s_icmp_eq (pc := 13) (tgt := 40) dX12_span_13 rfl (fun hc => ?_) (fun hc => ?_)
    · replace hf := p_ps hf hc
      exact s_lo [0, 1, 2, 3] rfl (k17 hf)
    · replace hf := p_ng hf hc
      refine s_iload_n (pc := 16) dX12_span_16 2 rfl rfl ?_
      refine s_iconst (pc := 17) dX12_span_17 (v := nI 0) rfl ?_
      refine s_ldcw (pc := 18) (v := nI 1000000000) kc_X12_285 dX12_span_18 ?_
      obtain ⟨q32, h33, hf⟩ := p_bd hf
      refine y_callS1 (pc := 21) dX12_span_21 (c_X12_isIn (p_dd hd (by decide)) hW  h33) mk_X12_isIn mz_X12_isIn ml_X12_68 rfl rfl (Nat.le_of_ble_eq_true rfl) (p_d1 hd (by decide)) (Nat.le_of_ble_eq_true rfl) ?_
      refine s_if_eq (pc := 24) (tgt := 38) dX12_span_24 rfl (fun hc => ?_) (fun hc => ?_)
      · replace hf := p_ps hf hc
        refine s_iconst (pc := 38) dX12_span_38 (v := nI 0) rfl ?_
        cases hf
        exact s_ireturn (pc := 39) dX12_span_39 rfl rfl ⟨rfl, rfl, rfl, rfl, rfl⟩
      · replace hf := p_ng hf hc
        refine s_iload_n (pc := 27) dX12_span_27 3 rfl rfl ?_
        refine s_iload_n (pc := 28) dX12_span_28 2 rfl rfl ?_
        refine s_ldcw (pc := 29) (v := nI 1000000000) kc_X12_285 dX12_span_29 ?_
        obtain ⟨q34, h35, hf⟩ := p_bd hf
        refine y_callS1 (pc := 32) dX12_span_32 (c_X12_isIn (p_dd hd (by decide)) hW  h35) mk_X12_isIn mz_X12_isIn ml_X12_68 rfl rfl (Nat.le_of_ble_eq_true rfl) (p_d1 hd (by decide)) (Nat.le_of_ble_eq_true rfl) ?_
        refine s_if_ne (pc := 35) (tgt := 40) dX12_span_35 rfl (fun hc => ?_) (fun hc => ?_)
        · replace hf := p_ng hf hc
          exact s_lo [0, 1, 2, 3] rfl (k17 hf)
        · replace hf := p_ps hf hc
          refine s_iconst (pc := 38) dX12_span_38 (v := nI 0) rfl ?_
          cases hf
          exact s_ireturn (pc := 39) dX12_span_39 rfl rfl ⟨rfl, rfl, rfl, rfl, rfl⟩
  · replace hf := p_ps hf hc
    refine s_iconst (pc := 9) dX12_span_9 (v := nI 0) rfl ?_
    cases hf
    exact s_ireturn (pc := 10) dX12_span_10 rfl rfl ⟨rfl, rfl, rfl, rfl, rfl⟩
def B_X12_fits_5 (n : Nat) (N : pN) (P : pR) (a0 : Nat) (x1 : Int32) (x2 : Int32) (rec0 : (Int32 × Int32 × pI × pL) → Option (Int32 × pI × pL)) (s0 : Int32 × Int32 × pI × pL) : Option (Int32 × pI × pL) :=
  Option.bind (P a0 0) fun q3 =>
  p_ck (p_ib N q3 (nI 1)) <|
  (if (s0.2.2.1 q3 (Int32.toNatClampNeg (nI 1))) ≤ s0.2.1 then
    some (s0.1, s0.2.2.1, s0.2.2.2)
  else
    (if s0.1 = 0 then
      some (s0.1, s0.2.2.1, s0.2.2.2)
    else
      Option.bind (f_X12_seesSender N s0.2.2.1 P a0 s0.2.1) fun q7 =>
      Option.bind (α := Int32 × pI × pL) ((if q7 = 0 then
        some (nI 1, s0.2.2.1, s0.2.2.2)
      else
        Option.bind (f_X12_senderOf N s0.2.2.1 P a0 s0.2.1 (nI 6)) fun q11 =>
        (if q11 < 0 then
          some (nI 1, s0.2.2.1, s0.2.2.2)
        else
          Option.bind (f_X12_signalOf n N s0.2.2.1 s0.2.2.2 P a0 s0.2.1 x1 x2) fun q13 =>
          Option.bind (f_X12_senderOf N q13.2.1 P a0 s0.2.1 (nI 6)) fun q15 =>
          Option.bind (f_X12_senderOf N q13.2.1 P a0 s0.2.1 (nI 7)) fun q17 =>
          Option.bind (f_X12_isIn q13.1 q15 q17) fun q19 =>
          (if q19 = 0 then
            some (nI 0, q13.2.1, q13.2.2)
          else
            some (nI 1, q13.2.1, q13.2.2))))) fun t9 =>
      rec0 (t9.1, s0.2.1 + nI 1, t9.2.1, t9.2.2)))
def f_X12_fits (n : Nat) (N : pN) (I : pI) (L : pL) (P : pR) (a0 : Nat) (x1 : Int32) (x2 : Int32) : Option (Int32 × pI × pL) :=
  Option.bind (p_it (B_X12_fits_5 n N P a0 x1 x2) n (nI 1, nI 0, I, L)) fun t1 =>
  p_ck (decide (t1.1 = 0 ∨ t1.1 = 1)) <|
  some (t1.1, t1.2.1, t1.2.2)
theorem c_X12_fits {G : pG} {d : Nat} {n : Nat} {N : pN} {I : pI} {L : pL} {P : pR} {a0 : Nat} {x1 : Int32} {x2 : Int32} {qq : Int32 × pI × pL} (hd : 8 ≤ d) (hW : WT N P) (ha0 : p_tp N a0 15) (hf : f_X12_fits n N I L P a0 x1 x2 = some qq) : MT G mX12_fits d 0 0 [.ref a0, .int x1, .int x2] N I L P (p_R (some (.int qq.1)) N qq.2.1 qq.2.2 P) := by
  refine MT.of rfl (Nat.le_of_ble_eq_true rfl) ?_
  show SW G mX12_fits (p_rm d 0 0) 0 0 0 0 (p_R (some (.int qq.1)) N qq.2.1 qq.2.2 P) 0 [(0, .ref a0), (1, .int x1), (2, .int x2)] [] N I L P
  unfold f_X12_fits at hf
  refine s_iconst (pc := 0) dX12_fits_0 (v := nI 1) rfl ?_
  refine s_istore_n (pc := 1) (lo' := [(3, .int (nI 1)), (0, .ref a0), (1, .int x1), (2, .int x2)]) dX12_fits_1 rfl (Nat.le_of_ble_eq_true rfl) rfl ?_
  refine s_iconst (pc := 2) dX12_fits_2 (v := nI 0) rfl ?_
  refine s_istore (pc := 3) (lo' := [(4, .int (nI 0)), (3, .int (nI 1)), (0, .ref a0), (1, .int x1), (2, .int x2)]) dX12_fits_3 (Nat.le_of_ble_eq_true rfl) rfl ?_
  obtain ⟨t1, hg, hf⟩ := p_bd hf
  have k2 : SW G mX12_fits (p_rm d 0 0) 0 0 0 0 (p_R (some (.int qq.1)) N qq.2.1 qq.2.2 P) 82 [(3, .int t1.1)] [] N t1.2.1 t1.2.2 P := by
    refine s_iload_n (pc := 82) dX12_fits_82 0 rfl rfl ?_
    obtain ⟨c40, hf⟩ := p_ckx hf
    cases hf
    exact s_ireturn (pc := 83) dX12_fits_83 rfl (p_nr (of_decide_eq_true c40)) ⟨rfl, rfl, rfl, rfl, rfl⟩
  replace hf := hg
  have k21 : ∀ (k : Nat) (s0 : Int32 × Int32 × pI × pL), p_it (B_X12_fits_5 n N P a0 x1 x2) k s0 = some t1 → (SW G mX12_fits (p_rm d 0 0) 0 0 0 0 (p_R (some (.int qq.1)) N qq.2.1 qq.2.2 P) 5 [(0, .ref a0), (1, .int x1), (2, .int x2), (3, .int s0.1), (4, .int s0.2.1)] [] N s0.2.2.1 s0.2.2.2 P) := p_it_ind (C := fun (s0 : Int32 × Int32 × pI × pL) => SW G mX12_fits (p_rm d 0 0) 0 0 0 0 (p_R (some (.int qq.1)) N qq.2.1 qq.2.2 P) 5 [(0, .ref a0), (1, .int x1), (2, .int x2), (3, .int s0.1), (4, .int s0.2.1)] [] N s0.2.2.1 s0.2.2.2 P) (by
    intro rec0 hrec0 s0 hf
    unfold B_X12_fits_5 at hf
    refine s_iload (pc := 5) dX12_fits_5 4 rfl ?_
    refine s_aload_n (pc := 7) dX12_fits_7 0 rfl rfl ?_
    obtain ⟨q22, h23, hf⟩ := p_bd hf
    have t24 : p_tp N q22 0 := WT.get hW ha0 h23
    refine x_getR (pc := 8) dX12_fits_8 fl_X12_7 rfl ha0 h23 ?_
    refine s_iconst (pc := 11) dX12_fits_11 (v := nI 1) rfl ?_
    obtain ⟨c25, hf⟩ := p_ckx hf
    refine x_iald (pc := 12) dX12_fits_12 t24 c25 ?_
    refine s_icmp_ge (pc := 13) (tgt := 82) dX12_fits_13 rfl (fun hc => ?_) (fun hc => ?_)
    · replace hf := p_ps hf hc
      cases hf
      exact s_lo [3] rfl (k2)
    · replace hf := p_ng hf hc
      refine s_iload_n (pc := 16) dX12_fits_16 3 rfl rfl ?_
      refine s_if_eq (pc := 17) (tgt := 82) dX12_fits_17 rfl (fun hc => ?_) (fun hc => ?_)
      · replace hf := p_ps hf hc
        cases hf
        exact s_lo [3] rfl (k2)
      · replace hf := p_ng hf hc
        refine s_aload_n (pc := 20) dX12_fits_20 0 rfl rfl ?_
        refine s_iload (pc := 21) dX12_fits_21 4 rfl ?_
        obtain ⟨q26, h27, hf⟩ := p_bd hf
        refine y_callV1 (pc := 23) dX12_fits_23 (c_X12_seesSender (p_dd hd (by decide)) hW ha0 h27) mk_X12_seesSender mv_X12_seesSender ml_X12_215 rfl rfl (Nat.le_of_ble_eq_true rfl) ha0 rfl (p_d1 hd (by decide)) (Nat.le_of_ble_eq_true rfl) ?_
        obtain ⟨t28, hg, hf⟩ := p_bd hf
        have k29 : SW G mX12_fits (p_rm d 0 0) 0 0 0 0 (p_R (some (.int qq.1)) N qq.2.1 qq.2.2 P) 75 [(0, .ref a0), (1, .int x1), (2, .int x2), (4, .int s0.2.1)] [.int t28.1] N t28.2.1 t28.2.2 P := by
          refine s_istore_n (pc := 75) (lo' := [(3, .int t28.1), (0, .ref a0), (1, .int x1), (2, .int x2), (4, .int s0.2.1)]) dX12_fits_75 rfl (Nat.le_of_ble_eq_true rfl) rfl ?_
          refine s_iinc (pc := 76) (lo' := [(4, .int (s0.2.1 + nI 1)), (3, .int t28.1), (0, .ref a0), (1, .int x1), (2, .int x2)]) dX12_fits_76 4 rfl (v := s0.2.1 + nI 1) rfl (Nat.le_of_ble_eq_true rfl) rfl ?_
          refine s_goto (pc := 79) (tgt := 5) dX12_fits_79 rfl ?_
          exact s_lo [2, 3, 4, 1, 0] rfl (hrec0 (t28.1, s0.2.1 + nI 1, t28.2.1, t28.2.2) hf)
        replace hf := hg
        refine s_if_eq (pc := 26) (tgt := 70) dX12_fits_26 rfl (fun hc => ?_) (fun hc => ?_)
        · replace hf := p_ps hf hc
          refine s_iconst (pc := 70) dX12_fits_70 (v := nI 1) rfl ?_
          refine s_goto (pc := 71) (tgt := 75) dX12_fits_71 rfl ?_
          cases hf
          exact s_lo [0, 1, 2, 4] rfl (k29)
        · replace hf := p_ng hf hc
          refine s_aload_n (pc := 29) dX12_fits_29 0 rfl rfl ?_
          refine s_iload (pc := 30) dX12_fits_30 4 rfl ?_
          refine s_bipush (pc := 32) dX12_fits_32 (v := nI 6) rfl ?_
          obtain ⟨q30, h31, hf⟩ := p_bd hf
          refine y_callV1 (pc := 34) dX12_fits_34 (c_X12_senderOf (p_dd hd (by decide)) hW ha0 h31) mk_X12_senderOf mv_X12_senderOf ml_X12_83 rfl rfl (Nat.le_of_ble_eq_true rfl) ha0 rfl (p_d1 hd (by decide)) (Nat.le_of_ble_eq_true rfl) ?_
          refine s_if_lt (pc := 37) (tgt := 70) dX12_fits_37 rfl (fun hc => ?_) (fun hc => ?_)
          · replace hf := p_ps hf hc
            refine s_iconst (pc := 70) dX12_fits_70 (v := nI 1) rfl ?_
            refine s_goto (pc := 71) (tgt := 75) dX12_fits_71 rfl ?_
            cases hf
            exact s_lo [0, 1, 2, 4] rfl (k29)
          · replace hf := p_ng hf hc
            refine s_aload_n (pc := 40) dX12_fits_40 0 rfl rfl ?_
            refine s_iload (pc := 41) dX12_fits_41 4 rfl ?_
            refine s_iload_n (pc := 43) dX12_fits_43 1 rfl rfl ?_
            refine s_iload_n (pc := 44) dX12_fits_44 2 rfl rfl ?_
            obtain ⟨q32, h33, hf⟩ := p_bd hf
            refine y_callV1 (pc := 45) dX12_fits_45 (c_X12_signalOf (p_dd hd (by decide)) hW ha0 h33) mk_X12_signalOf mv_X12_signalOf ml_X12_244 rfl rfl (Nat.le_of_ble_eq_true rfl) ha0 rfl (p_d1 hd (by decide)) (Nat.le_of_ble_eq_true rfl) ?_
            refine s_aload_n (pc := 48) dX12_fits_48 0 rfl rfl ?_
            refine s_iload (pc := 49) dX12_fits_49 4 rfl ?_
            refine s_bipush (pc := 51) dX12_fits_51 (v := nI 6) rfl ?_
            obtain ⟨q34, h35, hf⟩ := p_bd hf
            refine y_callV1 (pc := 53) dX12_fits_53 (c_X12_senderOf (p_dd hd (by decide)) hW ha0 h35) mk_X12_senderOf mv_X12_senderOf ml_X12_83 rfl rfl (Nat.le_of_ble_eq_true rfl) ha0 rfl (p_d1 hd (by decide)) (Nat.le_of_ble_eq_true rfl) ?_
            refine s_aload_n (pc := 56) dX12_fits_56 0 rfl rfl ?_
            refine s_iload (pc := 57) dX12_fits_57 4 rfl ?_
            refine s_bipush (pc := 59) dX12_fits_59 (v := nI 7) rfl ?_
            obtain ⟨q36, h37, hf⟩ := p_bd hf
            refine y_callV1 (pc := 61) dX12_fits_61 (c_X12_senderOf (p_dd hd (by decide)) hW ha0 h37) mk_X12_senderOf mv_X12_senderOf ml_X12_83 rfl rfl (Nat.le_of_ble_eq_true rfl) ha0 rfl (p_d1 hd (by decide)) (Nat.le_of_ble_eq_true rfl) ?_
            obtain ⟨q38, h39, hf⟩ := p_bd hf
            refine y_callS1 (pc := 64) dX12_fits_64 (c_X12_isIn (p_dd hd (by decide)) hW  h39) mk_X12_isIn mz_X12_isIn ml_X12_68 rfl rfl (Nat.le_of_ble_eq_true rfl) (p_d1 hd (by decide)) (Nat.le_of_ble_eq_true rfl) ?_
            refine s_if_eq (pc := 67) (tgt := 74) dX12_fits_67 rfl (fun hc => ?_) (fun hc => ?_)
            · replace hf := p_ps hf hc
              refine s_iconst (pc := 74) dX12_fits_74 (v := nI 0) rfl ?_
              cases hf
              exact s_lo [0, 1, 2, 4] rfl (k29)
            · replace hf := p_ng hf hc
              refine s_iconst (pc := 70) dX12_fits_70 (v := nI 1) rfl ?_
              refine s_goto (pc := 71) (tgt := 75) dX12_fits_71 rfl ?_
              cases hf
              exact s_lo [0, 1, 2, 4] rfl (k29))
  exact s_lo [2, 3, 4, 1, 0] rfl (k21 n (nI 1, nI 0, I, L) hf)
def B_X12_places_4 (n : Nat) (N : pN) (P : pR) (a0 : Nat) (rec0 : (Int32 × Int32 × pI × pL) → Option (Int32 × pI × pL)) (s0 : Int32 × Int32 × pI × pL) : Option (Int32 × pI × pL) :=
  (if (nI 441) ≤ s0.2.1 then
    some (s0.1, s0.2.2.1, s0.2.2.2)
  else
    Option.bind (f_X12_fits n N s0.2.2.1 s0.2.2.2 P a0 (s0.2.1 - s0.2.1 / (nI 21) * (nI 21)) (s0.2.1 / (nI 21))) fun q3 =>
    p_let (α := Int32) ((if q3.1 = 0 then
      nI 0
    else
      nI 1)) fun t5 =>
    rec0 (s0.1 + t5, s0.2.1 + nI 1, q3.2.1, q3.2.2))
def f_X12_places (n : Nat) (N : pN) (I : pI) (L : pL) (P : pR) (a0 : Nat) : Option (Int32 × pI × pL) :=
  Option.bind (p_it (B_X12_places_4 n N P a0) n (nI 0, nI 0, I, L)) fun t1 =>
  some (t1.1, t1.2.1, t1.2.2)
theorem c_X12_places {G : pG} {d : Nat} {n : Nat} {N : pN} {I : pI} {L : pL} {P : pR} {a0 : Nat} {qq : Int32 × pI × pL} (hd : 9 ≤ d) (hW : WT N P) (ha0 : p_tp N a0 15) (hf : f_X12_places n N I L P a0 = some qq) : MT G mX12_places d 0 0 [.ref a0] N I L P (p_R (some (.int qq.1)) N qq.2.1 qq.2.2 P) := by
  refine MT.of rfl (Nat.le_of_ble_eq_true rfl) ?_
  show SW G mX12_places (p_rm d 0 0) 0 0 0 0 (p_R (some (.int qq.1)) N qq.2.1 qq.2.2 P) 0 [(0, .ref a0)] [] N I L P
  unfold f_X12_places at hf
  refine s_iconst (pc := 0) dX12_places_0 (v := nI 0) rfl ?_
  refine s_istore_n (pc := 1) (lo' := [(1, .int (nI 0)), (0, .ref a0)]) dX12_places_1 rfl (Nat.le_of_ble_eq_true rfl) rfl ?_
  refine s_iconst (pc := 2) dX12_places_2 (v := nI 0) rfl ?_
  refine s_istore_n (pc := 3) (lo' := [(2, .int (nI 0)), (1, .int (nI 0)), (0, .ref a0)]) dX12_places_3 rfl (Nat.le_of_ble_eq_true rfl) rfl ?_
  obtain ⟨t1, hg, hf⟩ := p_bd hf
  have k2 : SW G mX12_places (p_rm d 0 0) 0 0 0 0 (p_R (some (.int qq.1)) N qq.2.1 qq.2.2 P) 40 [(1, .int t1.1)] [] N t1.2.1 t1.2.2 P := by
    refine s_iload_n (pc := 40) dX12_places_40 0 rfl rfl ?_
    cases hf
    exact s_ireturn (pc := 41) dX12_places_41 rfl rfl ⟨rfl, rfl, rfl, rfl, rfl⟩
  replace hf := hg
  have k7 : ∀ (k : Nat) (s0 : Int32 × Int32 × pI × pL), p_it (B_X12_places_4 n N P a0) k s0 = some t1 → (SW G mX12_places (p_rm d 0 0) 0 0 0 0 (p_R (some (.int qq.1)) N qq.2.1 qq.2.2 P) 4 [(0, .ref a0), (1, .int s0.1), (2, .int s0.2.1)] [] N s0.2.2.1 s0.2.2.2 P) := p_it_ind (C := fun (s0 : Int32 × Int32 × pI × pL) => SW G mX12_places (p_rm d 0 0) 0 0 0 0 (p_R (some (.int qq.1)) N qq.2.1 qq.2.2 P) 4 [(0, .ref a0), (1, .int s0.1), (2, .int s0.2.1)] [] N s0.2.2.1 s0.2.2.2 P) (by
    intro rec0 hrec0 s0 hf
    unfold B_X12_places_4 at hf
    refine s_iload_n (pc := 4) dX12_places_4 2 rfl rfl ?_
    refine s_sipush (pc := 5) dX12_places_5 (v := nI 441) rfl ?_
    refine s_icmp_ge (pc := 8) (tgt := 40) dX12_places_8 rfl (fun hc => ?_) (fun hc => ?_)
    · replace hf := p_ps hf hc
      cases hf
      exact s_lo [1] rfl (k2)
    · replace hf := p_ng hf hc
      refine s_iload_n (pc := 11) dX12_places_11 1 rfl rfl ?_
      refine s_aload_n (pc := 12) dX12_places_12 0 rfl rfl ?_
      refine s_iload_n (pc := 13) dX12_places_13 2 rfl rfl ?_
      refine s_bipush (pc := 14) dX12_places_14 (v := nI 21) rfl ?_
      refine s_irem (pc := 16) dX12_places_16 (by decide) ?_
      refine s_iload_n (pc := 17) dX12_places_17 2 rfl rfl ?_
      refine s_bipush (pc := 18) dX12_places_18 (v := nI 21) rfl ?_
      refine s_idiv (pc := 20) dX12_places_20 (by decide) ?_
      obtain ⟨q8, h9, hf⟩ := p_bd hf
      refine y_callV1 (pc := 21) dX12_places_21 (c_X12_fits (p_dd hd (by decide)) hW ha0 h9) mk_X12_fits mv_X12_fits ml_X12_286 rfl rfl (Nat.le_of_ble_eq_true rfl) ha0 rfl (p_d1 hd (by decide)) (Nat.le_of_ble_eq_true rfl) ?_
      obtain ⟨t10, hg, hf⟩ := p_lx2 hf
      have k11 : SW G mX12_places (p_rm d 0 0) 0 0 0 0 (p_R (some (.int qq.1)) N qq.2.1 qq.2.2 P) 32 [(0, .ref a0), (2, .int s0.2.1)] [.int t10, .int s0.1] N q8.2.1 q8.2.2 P := by
        refine s_iadd (pc := 32) dX12_places_32 ?_
        refine s_istore_n (pc := 33) (lo' := [(1, .int (s0.1 + t10)), (0, .ref a0), (2, .int s0.2.1)]) dX12_places_33 rfl (Nat.le_of_ble_eq_true rfl) rfl ?_
        refine s_iinc (pc := 34) (lo' := [(2, .int (s0.2.1 + nI 1)), (1, .int (s0.1 + t10)), (0, .ref a0)]) dX12_places_34 2 rfl (v := s0.2.1 + nI 1) rfl (Nat.le_of_ble_eq_true rfl) rfl ?_
        refine s_goto (pc := 37) (tgt := 4) dX12_places_37 rfl ?_
        exact s_lo [2, 1, 0] rfl (hrec0 (s0.1 + t10, s0.2.1 + nI 1, q8.2.1, q8.2.2) hf)
      replace hf := hg.symm
      refine s_if_eq (pc := 24) (tgt := 31) dX12_places_24 rfl (fun hc => ?_) (fun hc => ?_)
      · replace hf := p_ps hf hc
        refine s_iconst (pc := 31) dX12_places_31 (v := nI 0) rfl ?_
        cases hf
        exact s_lo [0, 2] rfl (k11)
      · replace hf := p_ng hf hc
        refine s_iconst (pc := 27) dX12_places_27 (v := nI 1) rfl ?_
        refine s_goto (pc := 28) (tgt := 32) dX12_places_28 rfl ?_
        cases hf
        exact s_lo [0, 2] rfl (k11))
  exact s_lo [2, 1, 0] rfl (k7 n (nI 0, nI 0, I, L) hf)
def B_X12_place_4 (n : Nat) (N : pN) (P : pR) (a0 : Nat) (x1 : Int32) (rec0 : (Int32 × Int32 × pI × pL) → Option (Int32 × pI × pL)) (s0 : Int32 × Int32 × pI × pL) : Option (Int32 × pI × pL) :=
  (if (nI 441) ≤ s0.2.1 then
    some ((-1), s0.2.2.1, s0.2.2.2)
  else
    Option.bind (f_X12_fits n N s0.2.2.1 s0.2.2.2 P a0 (s0.2.1 - s0.2.1 / (nI 21) * (nI 21)) (s0.2.1 / (nI 21))) fun q1 =>
    (if q1.1 = 0 then
      rec0 (s0.1, s0.2.1 + nI 1, q1.2.1, q1.2.2)
    else
      (if s0.1 = x1 then
        some (((nI 100) * (s0.2.1 / (nI 21))) + (s0.2.1 - s0.2.1 / (nI 21) * (nI 21)), q1.2.1, q1.2.2)
      else
        rec0 (s0.1 + nI 1, s0.2.1 + nI 1, q1.2.1, q1.2.2))))
def f_X12_place (n : Nat) (N : pN) (I : pI) (L : pL) (P : pR) (a0 : Nat) (x1 : Int32) : Option (Int32 × pI × pL) :=
  p_it (B_X12_place_4 n N P a0 x1) n (nI 0, nI 0, I, L)
theorem c_X12_place {G : pG} {d : Nat} {n : Nat} {N : pN} {I : pI} {L : pL} {P : pR} {a0 : Nat} {x1 : Int32} {qq : Int32 × pI × pL} (hd : 9 ≤ d) (hW : WT N P) (ha0 : p_tp N a0 15) (hf : f_X12_place n N I L P a0 x1 = some qq) : MT G mX12_place d 0 0 [.ref a0, .int x1] N I L P (p_R (some (.int qq.1)) N qq.2.1 qq.2.2 P) := by
  refine MT.of rfl (Nat.le_of_ble_eq_true rfl) ?_
  show SW G mX12_place (p_rm d 0 0) 0 0 0 0 (p_R (some (.int qq.1)) N qq.2.1 qq.2.2 P) 0 [(0, .ref a0), (1, .int x1)] [] N I L P
  unfold f_X12_place at hf
  refine s_iconst (pc := 0) dX12_place_0 (v := nI 0) rfl ?_
  refine s_istore_n (pc := 1) (lo' := [(2, .int (nI 0)), (0, .ref a0), (1, .int x1)]) dX12_place_1 rfl (Nat.le_of_ble_eq_true rfl) rfl ?_
  refine s_iconst (pc := 2) dX12_place_2 (v := nI 0) rfl ?_
  refine s_istore_n (pc := 3) (lo' := [(3, .int (nI 0)), (2, .int (nI 0)), (0, .ref a0), (1, .int x1)]) dX12_place_3 rfl (Nat.le_of_ble_eq_true rfl) rfl ?_
  have k3 : ∀ (k : Nat) (s0 : Int32 × Int32 × pI × pL), p_it (B_X12_place_4 n N P a0 x1) k s0 = some qq → (SW G mX12_place (p_rm d 0 0) 0 0 0 0 (p_R (some (.int qq.1)) N qq.2.1 qq.2.2 P) 4 [(0, .ref a0), (1, .int x1), (2, .int s0.1), (3, .int s0.2.1)] [] N s0.2.2.1 s0.2.2.2 P) := p_it_ind (C := fun (s0 : Int32 × Int32 × pI × pL) => SW G mX12_place (p_rm d 0 0) 0 0 0 0 (p_R (some (.int qq.1)) N qq.2.1 qq.2.2 P) 4 [(0, .ref a0), (1, .int x1), (2, .int s0.1), (3, .int s0.2.1)] [] N s0.2.2.1 s0.2.2.2 P) (by
    intro rec0 hrec0 s0 hf
    unfold B_X12_place_4 at hf
    refine s_iload_n (pc := 4) dX12_place_4 3 rfl rfl ?_
    refine s_sipush (pc := 5) dX12_place_5 (v := nI 441) rfl ?_
    refine s_icmp_ge (pc := 8) (tgt := 56) dX12_place_8 rfl (fun hc => ?_) (fun hc => ?_)
    · replace hf := p_ps hf hc
      refine s_iconst (pc := 56) dX12_place_56 (v := (-1)) rfl ?_
      cases hf
      exact s_ireturn (pc := 57) dX12_place_57 rfl rfl ⟨rfl, rfl, rfl, rfl, rfl⟩
    · replace hf := p_ng hf hc
      refine s_aload_n (pc := 11) dX12_place_11 0 rfl rfl ?_
      refine s_iload_n (pc := 12) dX12_place_12 3 rfl rfl ?_
      refine s_bipush (pc := 13) dX12_place_13 (v := nI 21) rfl ?_
      refine s_irem (pc := 15) dX12_place_15 (by decide) ?_
      refine s_iload_n (pc := 16) dX12_place_16 3 rfl rfl ?_
      refine s_bipush (pc := 17) dX12_place_17 (v := nI 21) rfl ?_
      refine s_idiv (pc := 19) dX12_place_19 (by decide) ?_
      obtain ⟨q4, h5, hf⟩ := p_bd hf
      refine y_callV1 (pc := 20) dX12_place_20 (c_X12_fits (p_dd hd (by decide)) hW ha0 h5) mk_X12_fits mv_X12_fits ml_X12_286 rfl rfl (Nat.le_of_ble_eq_true rfl) ha0 rfl (p_d1 hd (by decide)) (Nat.le_of_ble_eq_true rfl) ?_
      refine s_if_ne (pc := 23) (tgt := 29) dX12_place_23 rfl (fun hc => ?_) (fun hc => ?_)
      · replace hf := p_ng hf hc
        refine s_iload_n (pc := 29) dX12_place_29 2 rfl rfl ?_
        refine s_iload_n (pc := 30) dX12_place_30 1 rfl rfl ?_
        refine s_icmp_ne (pc := 31) (tgt := 47) dX12_place_31 rfl (fun hc => ?_) (fun hc => ?_)
        · replace hf := p_ng hf hc
          refine s_iinc (pc := 47) (lo' := [(2, .int (s0.1 + nI 1)), (0, .ref a0), (1, .int x1), (3, .int s0.2.1)]) dX12_place_47 2 rfl (v := s0.1 + nI 1) rfl (Nat.le_of_ble_eq_true rfl) rfl ?_
          refine s_iinc (pc := 50) (lo' := [(3, .int (s0.2.1 + nI 1)), (2, .int (s0.1 + nI 1)), (0, .ref a0), (1, .int x1)]) dX12_place_50 3 rfl (v := s0.2.1 + nI 1) rfl (Nat.le_of_ble_eq_true rfl) rfl ?_
          refine s_goto (pc := 53) (tgt := 4) dX12_place_53 rfl ?_
          exact s_lo [2, 3, 1, 0] rfl (hrec0 (s0.1 + nI 1, s0.2.1 + nI 1, q4.2.1, q4.2.2) hf)
        · replace hf := p_ps hf hc
          refine s_bipush (pc := 34) dX12_place_34 (v := nI 100) rfl ?_
          refine s_iload_n (pc := 36) dX12_place_36 3 rfl rfl ?_
          refine s_bipush (pc := 37) dX12_place_37 (v := nI 21) rfl ?_
          refine s_idiv (pc := 39) dX12_place_39 (by decide) ?_
          refine s_imul (pc := 40) dX12_place_40 ?_
          refine s_iload_n (pc := 41) dX12_place_41 3 rfl rfl ?_
          refine s_bipush (pc := 42) dX12_place_42 (v := nI 21) rfl ?_
          refine s_irem (pc := 44) dX12_place_44 (by decide) ?_
          refine s_iadd (pc := 45) dX12_place_45 ?_
          cases hf
          exact s_ireturn (pc := 46) dX12_place_46 rfl rfl ⟨rfl, rfl, rfl, rfl, rfl⟩
      · replace hf := p_ps hf hc
        refine s_goto (pc := 26) (tgt := 50) dX12_place_26 rfl ?_
        refine s_iinc (pc := 50) (lo' := [(3, .int (s0.2.1 + nI 1)), (0, .ref a0), (1, .int x1), (2, .int s0.1)]) dX12_place_50 3 rfl (v := s0.2.1 + nI 1) rfl (Nat.le_of_ble_eq_true rfl) rfl ?_
        refine s_goto (pc := 53) (tgt := 4) dX12_place_53 rfl ?_
        exact s_lo [1, 2, 3, 0] rfl (hrec0 (s0.1, s0.2.1 + nI 1, q4.2.1, q4.2.2) hf))
  exact s_lo [2, 3, 1, 0] rfl (k3 n (nI 0, nI 0, I, L) hf)
def J_X12_echoes_29 (x5 : Int32) (x2 : Int32) (x4 : Int32) : Option Int32 :=
  (if ((x5 * x5) + (x2 * x2)) = x4 then
    some (nI 1)
  else
    some (nI 0))
def J_X12_echoes_19 (x5 : Int32) (x0 : Int32) (x1 : Int32) (x2 : Int32) (x3 : Int32) (x4 : Int32) : Option Int32 :=
  (if x0 ≤ x3 then
    some (nI 0)
  else
    (if x1 ≤ x3 then
      some (nI 0)
    else
      J_X12_echoes_29 x5 x2 x4))
def f_X12_echoes (x0 : Int32) (x1 : Int32) (x2 : Int32) (x3 : Int32) (x4 : Int32) : Option Int32 :=
  (if x3 ≤ x0 then
    J_X12_echoes_19 ((((nI 2) * x3) - x0) - x1) x0 x1 x2 x3 x4
  else
    (if x1 < x3 then
      J_X12_echoes_29 ((((nI 2) * x3) - x0) - x1) x2 x4
    else
      J_X12_echoes_19 ((((nI 2) * x3) - x0) - x1) x0 x1 x2 x3 x4))
theorem c_X12_echoes {G : pG} {d : Nat} {N : pN} {I : pI} {L : pL} {P : pR} {x0 : Int32} {x1 : Int32} {x2 : Int32} {x3 : Int32} {x4 : Int32} {qq : Int32} (hd : 0 ≤ d) (hW : WT N P) (hf : f_X12_echoes x0 x1 x2 x3 x4 = some qq) : MT G mX12_echoes d 0 0 [.int x0, .int x1, .int x2, .int x3, .int x4] N I L P (p_R (some (.int qq)) N I L P) := by
  refine MT.of rfl (Nat.le_of_ble_eq_true rfl) ?_
  show SW G mX12_echoes (p_rm d 0 0) 0 0 0 0 (p_R (some (.int qq)) N I L P) 0 [(0, .int x0), (1, .int x1), (2, .int x2), (3, .int x3), (4, .int x4)] [] N I L P
  unfold f_X12_echoes at hf
  refine s_iconst (pc := 0) dX12_echoes_0 (v := nI 2) rfl ?_
  refine s_iload_n (pc := 1) dX12_echoes_1 3 rfl rfl ?_
  refine s_imul (pc := 2) dX12_echoes_2 ?_
  refine s_iload_n (pc := 3) dX12_echoes_3 0 rfl rfl ?_
  refine s_isub (pc := 4) dX12_echoes_4 ?_
  refine s_iload_n (pc := 5) dX12_echoes_5 1 rfl rfl ?_
  refine s_isub (pc := 6) dX12_echoes_6 ?_
  refine s_istore (pc := 7) (lo' := [(5, .int ((((nI 2) * x3) - x0) - x1)), (0, .int x0), (1, .int x1), (2, .int x2), (3, .int x3), (4, .int x4)]) dX12_echoes_7 (Nat.le_of_ble_eq_true rfl) rfl ?_
  refine s_iload_n (pc := 9) dX12_echoes_9 1 rfl rfl ?_
  refine s_iload_n (pc := 10) dX12_echoes_10 4 rfl rfl ?_
  have k1 : J_X12_echoes_29 ((((nI 2) * x3) - x0) - x1) x2 x4 = some qq → SW G mX12_echoes (p_rm d 0 0) 0 0 0 0 (p_R (some (.int qq)) N I L P) 29 [(5, .int ((((nI 2) * x3) - x0) - x1)), (2, .int x2), (4, .int x4)] [] N I L P := by
    intro hf
    unfold J_X12_echoes_29 at hf
    refine s_iload (pc := 29) dX12_echoes_29 0 rfl ?_
    refine s_iload (pc := 31) dX12_echoes_31 0 rfl ?_
    refine s_imul (pc := 33) dX12_echoes_33 ?_
    refine s_iload_n (pc := 34) dX12_echoes_34 1 rfl rfl ?_
    refine s_iload_n (pc := 35) dX12_echoes_35 1 rfl rfl ?_
    refine s_imul (pc := 36) dX12_echoes_36 ?_
    refine s_iadd (pc := 37) dX12_echoes_37 ?_
    refine s_iload (pc := 38) dX12_echoes_38 2 rfl ?_
    refine s_icmp_ne (pc := 40) (tgt := 47) dX12_echoes_40 rfl (fun hc => ?_) (fun hc => ?_)
    · replace hf := p_ng hf hc
      refine s_iconst (pc := 47) dX12_echoes_47 (v := nI 0) rfl ?_
      cases hf
      exact s_ireturn (pc := 48) dX12_echoes_48 rfl rfl ⟨rfl, rfl, rfl, rfl, rfl⟩
    · replace hf := p_ps hf hc
      refine s_iconst (pc := 43) dX12_echoes_43 (v := nI 1) rfl ?_
      refine s_goto (pc := 44) (tgt := 48) dX12_echoes_44 rfl ?_
      cases hf
      exact s_ireturn (pc := 48) dX12_echoes_48 rfl rfl ⟨rfl, rfl, rfl, rfl, rfl⟩
  have k2 : J_X12_echoes_19 ((((nI 2) * x3) - x0) - x1) x0 x1 x2 x3 x4 = some qq → SW G mX12_echoes (p_rm d 0 0) 0 0 0 0 (p_R (some (.int qq)) N I L P) 19 [(5, .int ((((nI 2) * x3) - x0) - x1)), (0, .int x0), (1, .int x1), (2, .int x2), (3, .int x3), (4, .int x4)] [] N I L P := by
    intro hf
    unfold J_X12_echoes_19 at hf
    refine s_iload_n (pc := 19) dX12_echoes_19 1 rfl rfl ?_
    refine s_iload_n (pc := 20) dX12_echoes_20 4 rfl rfl ?_
    refine s_icmp_le (pc := 21) (tgt := 47) dX12_echoes_21 rfl (fun hc => ?_) (fun hc => ?_)
    · replace hf := p_ps hf hc
      refine s_iconst (pc := 47) dX12_echoes_47 (v := nI 0) rfl ?_
      cases hf
      exact s_ireturn (pc := 48) dX12_echoes_48 rfl rfl ⟨rfl, rfl, rfl, rfl, rfl⟩
    · replace hf := p_ng hf hc
      refine s_iload_n (pc := 24) dX12_echoes_24 2 rfl rfl ?_
      refine s_iload_n (pc := 25) dX12_echoes_25 4 rfl rfl ?_
      refine s_icmp_le (pc := 26) (tgt := 47) dX12_echoes_26 rfl (fun hc => ?_) (fun hc => ?_)
      · replace hf := p_ps hf hc
        refine s_iconst (pc := 47) dX12_echoes_47 (v := nI 0) rfl ?_
        cases hf
        exact s_ireturn (pc := 48) dX12_echoes_48 rfl rfl ⟨rfl, rfl, rfl, rfl, rfl⟩
      · replace hf := p_ng hf hc
        exact s_lo [0, 3, 5] rfl (k1 hf)
  refine s_icmp_ge (pc := 11) (tgt := 19) dX12_echoes_11 rfl (fun hc => ?_) (fun hc => ?_)
  · replace hf := p_ps hf hc
    exact s_lo [0, 1, 2, 3, 4, 5] rfl (k2 hf)
  · replace hf := p_ng hf hc
    refine s_iload_n (pc := 14) dX12_echoes_14 2 rfl rfl ?_
    refine s_iload_n (pc := 15) dX12_echoes_15 4 rfl rfl ?_
    refine s_icmp_lt (pc := 16) (tgt := 29) dX12_echoes_16 rfl (fun hc => ?_) (fun hc => ?_)
    · replace hf := p_ps hf hc
      exact s_lo [0, 3, 5] rfl (k1 hf)
    · replace hf := p_ng hf hc
      exact s_lo [0, 1, 2, 3, 4, 5] rfl (k2 hf)
def B_X12_echo_40 (x7 : Int32) (x6 : Int32) (x2 : Int32) (x3 : Int32) (x4 : Int32) (x5 : Int32) (rec0 : (Int32 × Int32) → Option Int32) (s0 : Int32 × Int32) : Option Int32 :=
  (if (nI 42) ≤ s0.2 then
    some (-1)
  else
    Option.bind (α := Int32) ((if (nI 21) ≤ s0.2 then
      Option.bind (f_X12_echoes x7 x3 (x6 - x2) (s0.2 - (nI 21)) x4) fun q11 =>
      some q11
    else
      Option.bind (f_X12_echoes x6 x2 (x7 - x3) s0.2 x4) fun q13 =>
      some q13)) fun t9 =>
    (if t9 = 0 then
      rec0 (s0.1, s0.2 + nI 1)
    else
      (if s0.1 = x5 then
        (if (nI 21) ≤ s0.2 then
          some ((nI 79) + s0.2)
        else
          some s0.2)
      else
        rec0 (s0.1 + nI 1, s0.2 + nI 1))))
def f_X12_echo (n : Nat) (N : pN) (I : pI) (P : pR) (a0 : Nat) (x1 : Int32) (x2 : Int32) (x3 : Int32) (x4 : Int32) (x5 : Int32) : Option Int32 :=
  Option.bind (f_X12_seesSender N I P a0 x1) fun q1 =>
  (if q1 = 0 then
    some (-1)
  else
    Option.bind (f_X12_isPoint x2 x3) fun q3 =>
    (if q3 = 0 then
      some (-1)
    else
      Option.bind (f_X12_senderOf N I P a0 x1 (nI 0)) fun q5 =>
      Option.bind (f_X12_senderOf N I P a0 x1 (nI 1)) fun q7 =>
      p_it (B_X12_echo_40 q7 q5 x2 x3 x4 x5) n (nI 0, nI 0)))
theorem c_X12_echo {G : pG} {d : Nat} {n : Nat} {N : pN} {I : pI} {L : pL} {P : pR} {a0 : Nat} {x1 : Int32} {x2 : Int32} {x3 : Int32} {x4 : Int32} {x5 : Int32} {qq : Int32} (hd : 3 ≤ d) (hW : WT N P) (ha0 : p_tp N a0 15) (hf : f_X12_echo n N I P a0 x1 x2 x3 x4 x5 = some qq) : MT G mX12_echo d 0 0 [.ref a0, .int x1, .int x2, .int x3, .int x4, .int x5] N I L P (p_R (some (.int qq)) N I L P) := by
  refine MT.of rfl (Nat.le_of_ble_eq_true rfl) ?_
  show SW G mX12_echo (p_rm d 0 0) 0 0 0 0 (p_R (some (.int qq)) N I L P) 0 [(0, .ref a0), (1, .int x1), (2, .int x2), (3, .int x3), (4, .int x4), (5, .int x5)] [] N I L P
  unfold f_X12_echo at hf
  refine s_aload_n (pc := 0) dX12_echo_0 0 rfl rfl ?_
  refine s_iload_n (pc := 1) dX12_echo_1 1 rfl rfl ?_
  obtain ⟨q1, h2, hf⟩ := p_bd hf
  refine y_callV1 (pc := 2) dX12_echo_2 (c_X12_seesSender (p_dd hd (by decide)) hW ha0 h2) mk_X12_seesSender mv_X12_seesSender ml_X12_215 rfl rfl (Nat.le_of_ble_eq_true rfl) ha0 rfl (p_d1 hd (by decide)) (Nat.le_of_ble_eq_true rfl) ?_
  refine s_if_eq (pc := 5) (tgt := 16) dX12_echo_5 rfl (fun hc => ?_) (fun hc => ?_)
  · replace hf := p_ps hf hc
    refine s_iconst (pc := 16) dX12_echo_16 (v := (-1)) rfl ?_
    cases hf
    exact s_ireturn (pc := 17) dX12_echo_17 rfl rfl ⟨rfl, rfl, rfl, rfl, rfl⟩
  · replace hf := p_ng hf hc
    refine s_iload_n (pc := 8) dX12_echo_8 2 rfl rfl ?_
    refine s_iload_n (pc := 9) dX12_echo_9 3 rfl rfl ?_
    obtain ⟨q3, h4, hf⟩ := p_bd hf
    refine y_callS1 (pc := 10) dX12_echo_10 (c_X12_isPoint (p_dd hd (by decide)) hW  h4) mk_X12_isPoint mz_X12_isPoint ml_X12_218 rfl rfl (Nat.le_of_ble_eq_true rfl) (p_d1 hd (by decide)) (Nat.le_of_ble_eq_true rfl) ?_
    refine s_if_ne (pc := 13) (tgt := 18) dX12_echo_13 rfl (fun hc => ?_) (fun hc => ?_)
    · replace hf := p_ng hf hc
      refine s_aload_n (pc := 18) dX12_echo_18 0 rfl rfl ?_
      refine s_iload_n (pc := 19) dX12_echo_19 1 rfl rfl ?_
      refine s_iconst (pc := 20) dX12_echo_20 (v := nI 0) rfl ?_
      obtain ⟨q5, h6, hf⟩ := p_bd hf
      refine y_callV1 (pc := 21) dX12_echo_21 (c_X12_senderOf (p_dd hd (by decide)) hW ha0 h6) mk_X12_senderOf mv_X12_senderOf ml_X12_83 rfl rfl (Nat.le_of_ble_eq_true rfl) ha0 rfl (p_d1 hd (by decide)) (Nat.le_of_ble_eq_true rfl) ?_
      refine s_istore (pc := 24) (lo' := [(6, .int q5), (0, .ref a0), (1, .int x1), (2, .int x2), (3, .int x3), (4, .int x4), (5, .int x5)]) dX12_echo_24 (Nat.le_of_ble_eq_true rfl) rfl ?_
      refine s_aload_n (pc := 26) dX12_echo_26 1 rfl rfl ?_
      refine s_iload_n (pc := 27) dX12_echo_27 2 rfl rfl ?_
      refine s_iconst (pc := 28) dX12_echo_28 (v := nI 1) rfl ?_
      obtain ⟨q7, h8, hf⟩ := p_bd hf
      refine y_callV1 (pc := 29) dX12_echo_29 (c_X12_senderOf (p_dd hd (by decide)) hW ha0 h8) mk_X12_senderOf mv_X12_senderOf ml_X12_83 rfl rfl (Nat.le_of_ble_eq_true rfl) ha0 rfl (p_d1 hd (by decide)) (Nat.le_of_ble_eq_true rfl) ?_
      refine s_istore (pc := 32) (lo' := [(7, .int q7), (6, .int q5), (0, .ref a0), (1, .int x1), (2, .int x2), (3, .int x3), (4, .int x4), (5, .int x5)]) dX12_echo_32 (Nat.le_of_ble_eq_true rfl) rfl ?_
      refine s_iconst (pc := 34) dX12_echo_34 (v := nI 0) rfl ?_
      refine s_istore (pc := 35) (lo' := [(8, .int (nI 0)), (7, .int q7), (6, .int q5), (0, .ref a0), (1, .int x1), (2, .int x2), (3, .int x3), (4, .int x4), (5, .int x5)]) dX12_echo_35 (Nat.le_of_ble_eq_true rfl) rfl ?_
      refine s_iconst (pc := 37) dX12_echo_37 (v := nI 0) rfl ?_
      refine s_istore (pc := 38) (lo' := [(9, .int (nI 0)), (8, .int (nI 0)), (7, .int q7), (6, .int q5), (0, .ref a0), (1, .int x1), (2, .int x2), (3, .int x3), (4, .int x4), (5, .int x5)]) dX12_echo_38 (Nat.le_of_ble_eq_true rfl) rfl ?_
      have k15 : ∀ (k : Nat) (s0 : Int32 × Int32), p_it (B_X12_echo_40 q7 q5 x2 x3 x4 x5) k s0 = some qq → (SW G mX12_echo (p_rm d 0 0) 0 0 0 0 (p_R (some (.int qq)) N I L P) 40 [(7, .int q7), (6, .int q5), (2, .int x2), (3, .int x3), (4, .int x4), (5, .int x5), (8, .int s0.1), (9, .int s0.2)] [] N I L P) := p_it_ind (C := fun (s0 : Int32 × Int32) => SW G mX12_echo (p_rm d 0 0) 0 0 0 0 (p_R (some (.int qq)) N I L P) 40 [(7, .int q7), (6, .int q5), (2, .int x2), (3, .int x3), (4, .int x4), (5, .int x5), (8, .int s0.1), (9, .int s0.2)] [] N I L P) (by
        intro rec0 hrec0 s0 hf
        unfold B_X12_echo_40 at hf
        refine s_iload (pc := 40) dX12_echo_40 7 rfl ?_
        refine s_bipush (pc := 42) dX12_echo_42 (v := nI 42) rfl ?_
        refine s_icmp_ge (pc := 44) (tgt := 132) dX12_echo_44 rfl (fun hc => ?_) (fun hc => ?_)
        · replace hf := p_ps hf hc
          refine s_iconst (pc := 132) dX12_echo_132 (v := (-1)) rfl ?_
          cases hf
          exact s_ireturn (pc := 133) dX12_echo_133 rfl rfl ⟨rfl, rfl, rfl, rfl, rfl⟩
        · replace hf := p_ng hf hc
          refine s_iload (pc := 47) dX12_echo_47 7 rfl ?_
          refine s_bipush (pc := 49) dX12_echo_49 (v := nI 21) rfl ?_
          obtain ⟨t16, hg, hf⟩ := p_bd hf
          have k17 : SW G mX12_echo (p_rm d 0 0) 0 0 0 0 (p_R (some (.int qq)) N I L P) 88 [(7, .int q7), (6, .int q5), (2, .int x2), (3, .int x3), (4, .int x4), (5, .int x5), (8, .int s0.1), (9, .int s0.2)] [.int t16] N I L P := by
            refine s_istore (pc := 88) (lo' := [(10, .int t16), (7, .int q7), (6, .int q5), (2, .int x2), (3, .int x3), (4, .int x4), (5, .int x5), (8, .int s0.1), (9, .int s0.2)]) dX12_echo_88 (Nat.le_of_ble_eq_true rfl) rfl ?_
            refine s_iload (pc := 90) dX12_echo_90 0 rfl ?_
            refine s_if_ne (pc := 92) (tgt := 98) dX12_echo_92 rfl (fun hc => ?_) (fun hc => ?_)
            · replace hf := p_ng hf hc
              refine s_iload (pc := 98) dX12_echo_98 7 rfl ?_
              refine s_iload (pc := 100) dX12_echo_100 6 rfl ?_
              refine s_icmp_ne (pc := 102) (tgt := 123) dX12_echo_102 rfl (fun hc => ?_) (fun hc => ?_)
              · replace hf := p_ng hf hc
                refine s_iinc (pc := 123) (lo' := [(8, .int (s0.1 + nI 1)), (10, .int t16), (7, .int q7), (6, .int q5), (2, .int x2), (3, .int x3), (4, .int x4), (5, .int x5), (9, .int s0.2)]) dX12_echo_123 7 rfl (v := s0.1 + nI 1) rfl (Nat.le_of_ble_eq_true rfl) rfl ?_
                refine s_iinc (pc := 126) (lo' := [(9, .int (s0.2 + nI 1)), (8, .int (s0.1 + nI 1)), (10, .int t16), (7, .int q7), (6, .int q5), (2, .int x2), (3, .int x3), (4, .int x4), (5, .int x5)]) dX12_echo_126 8 rfl (v := s0.2 + nI 1) rfl (Nat.le_of_ble_eq_true rfl) rfl ?_
                refine s_goto (pc := 129) (tgt := 40) dX12_echo_129 rfl ?_
                exact s_lo [3, 4, 5, 6, 7, 8, 1, 0] rfl (hrec0 (s0.1 + nI 1, s0.2 + nI 1) hf)
              · replace hf := p_ps hf hc
                refine s_iload (pc := 105) dX12_echo_105 8 rfl ?_
                refine s_bipush (pc := 107) dX12_echo_107 (v := nI 21) rfl ?_
                refine s_icmp_ge (pc := 109) (tgt := 117) dX12_echo_109 rfl (fun hc => ?_) (fun hc => ?_)
                · replace hf := p_ps hf hc
                  refine s_bipush (pc := 117) dX12_echo_117 (v := nI 79) rfl ?_
                  refine s_iload (pc := 119) dX12_echo_119 8 rfl ?_
                  refine s_iadd (pc := 121) dX12_echo_121 ?_
                  cases hf
                  exact s_ireturn (pc := 122) dX12_echo_122 rfl rfl ⟨rfl, rfl, rfl, rfl, rfl⟩
                · replace hf := p_ng hf hc
                  refine s_iload (pc := 112) dX12_echo_112 8 rfl ?_
                  refine s_goto (pc := 114) (tgt := 122) dX12_echo_114 rfl ?_
                  cases hf
                  exact s_ireturn (pc := 122) dX12_echo_122 rfl rfl ⟨rfl, rfl, rfl, rfl, rfl⟩
            · replace hf := p_ps hf hc
              refine s_goto (pc := 95) (tgt := 126) dX12_echo_95 rfl ?_
              refine s_iinc (pc := 126) (lo' := [(9, .int (s0.2 + nI 1)), (10, .int t16), (7, .int q7), (6, .int q5), (2, .int x2), (3, .int x3), (4, .int x4), (5, .int x5), (8, .int s0.1)]) dX12_echo_126 8 rfl (v := s0.2 + nI 1) rfl (Nat.le_of_ble_eq_true rfl) rfl ?_
              refine s_goto (pc := 129) (tgt := 40) dX12_echo_129 rfl ?_
              exact s_lo [2, 3, 4, 5, 6, 7, 8, 0] rfl (hrec0 (s0.1, s0.2 + nI 1) hf)
          replace hf := hg
          refine s_icmp_ge (pc := 51) (tgt := 71) dX12_echo_51 rfl (fun hc => ?_) (fun hc => ?_)
          · replace hf := p_ps hf hc
            refine s_iload (pc := 71) dX12_echo_71 0 rfl ?_
            refine s_iload_n (pc := 73) dX12_echo_73 3 rfl rfl ?_
            refine s_iload (pc := 74) dX12_echo_74 1 rfl ?_
            refine s_iload_n (pc := 76) dX12_echo_76 2 rfl rfl ?_
            refine s_isub (pc := 77) dX12_echo_77 ?_
            refine s_iload (pc := 78) dX12_echo_78 7 rfl ?_
            refine s_bipush (pc := 80) dX12_echo_80 (v := nI 21) rfl ?_
            refine s_isub (pc := 82) dX12_echo_82 ?_
            refine s_iload (pc := 83) dX12_echo_83 4 rfl ?_
            obtain ⟨q18, h19, hf⟩ := p_bd hf
            refine y_callS1 (pc := 85) dX12_echo_85 (c_X12_echoes (p_dd hd (by decide)) hW  h19) mk_X12_echoes mz_X12_echoes ml_X12_289 rfl rfl (Nat.le_of_ble_eq_true rfl) (p_d1 hd (by decide)) (Nat.le_of_ble_eq_true rfl) ?_
            cases hf
            exact s_lo [0, 1, 2, 3, 4, 5, 6, 7] rfl (k17)
          · replace hf := p_ng hf hc
            refine s_iload (pc := 54) dX12_echo_54 1 rfl ?_
            refine s_iload_n (pc := 56) dX12_echo_56 2 rfl rfl ?_
            refine s_iload (pc := 57) dX12_echo_57 0 rfl ?_
            refine s_iload_n (pc := 59) dX12_echo_59 3 rfl rfl ?_
            refine s_isub (pc := 60) dX12_echo_60 ?_
            refine s_iload (pc := 61) dX12_echo_61 7 rfl ?_
            refine s_iload (pc := 63) dX12_echo_63 4 rfl ?_
            obtain ⟨q20, h21, hf⟩ := p_bd hf
            refine y_callS1 (pc := 65) dX12_echo_65 (c_X12_echoes (p_dd hd (by decide)) hW  h21) mk_X12_echoes mz_X12_echoes ml_X12_289 rfl rfl (Nat.le_of_ble_eq_true rfl) (p_d1 hd (by decide)) (Nat.le_of_ble_eq_true rfl) ?_
            refine s_goto (pc := 68) (tgt := 88) dX12_echo_68 rfl ?_
            cases hf
            exact s_lo [0, 1, 2, 3, 4, 5, 6, 7] rfl (k17))
      exact s_lo [2, 3, 6, 7, 8, 9, 1, 0] rfl (k15 n (nI 0, nI 0) hf)
    · replace hf := p_ps hf hc
      refine s_iconst (pc := 16) dX12_echo_16 (v := (-1)) rfl ?_
      cases hf
      exact s_ireturn (pc := 17) dX12_echo_17 rfl rfl ⟨rfl, rfl, rfl, rfl, rfl⟩
def B_X12_feed_21 (N : pN) (P : pR) (a0 : Nat) (x1 : Int32) (x2 : Int32) (x3 : Int32) (x4 : Int32) (x5 : Int32) (rec0 : (Int32 × pI) → Option pI) (s0 : Int32 × pI) : Option pI :=
  (if (nI 20) ≤ s0.1 then
    some s0.2
  else
    p_let (α := Int32) ((if (nI 4) ≤ s0.1 then
      (if (nI 8) ≤ s0.1 then
        (if (nI 12) ≤ s0.1 then
          (if (nI 16) ≤ s0.1 then
            x5
          else
            x4)
        else
          x3)
      else
        x2)
    else
      x1)) fun t7 =>
    Option.bind (P a0 0) fun q9 =>
    Option.bind (P a0 0) fun q12 =>
    p_ck (p_ib N q12 (nI 8)) <|
    p_ck (p_ib N q9 ((nI 660) + (s0.2 q12 (Int32.toNatClampNeg (nI 8))))) <|
    p_let (p_u s0.2 q9 (Int32.toNatClampNeg ((nI 660) + (s0.2 q12 (Int32.toNatClampNeg (nI 8))))) ((t7 >>> (((nI 24) - ((nI 8) * (s0.1 - s0.1 / (nI 4) * (nI 4)))) &&& 31)) &&& (nI 255))) fun I17 =>
    Option.bind (P a0 0) fun q19 =>
    p_ck (p_ib N q19 (nI 8)) <|
    p_ck (p_ib N q19 (nI 8)) <|
    p_let (p_u I17 q19 (Int32.toNatClampNeg (nI 8)) ((I17 q19 (Int32.toNatClampNeg (nI 8))) + (nI 1))) fun I24 =>
    rec0 (s0.1 + nI 1, I24))
def f_X12_feed (n : Nat) (N : pN) (I : pI) (P : pR) (a0 : Nat) (x1 : Int32) (x2 : Int32) (x3 : Int32) (x4 : Int32) (x5 : Int32) : Option (Int32 × pI) :=
  Option.bind (P a0 0) fun q1 =>
  p_ck (p_ib N q1 (nI 8)) <|
  (if ((I q1 (Int32.toNatClampNeg (nI 8))) + (nI 20)) ≤ (nI 500) then
    Option.bind (p_it (B_X12_feed_21 N P a0 x1 x2 x3 x4 x5) n (nI 0, I)) fun t5 =>
    Option.bind (P a0 0) fun q46 =>
    p_ck (p_ib N q46 (nI 8)) <|
    some (t5 q46 (Int32.toNatClampNeg (nI 8)), t5)
  else
    some ((-1), I))
theorem c_X12_feed {G : pG} {d : Nat} {n : Nat} {N : pN} {I : pI} {L : pL} {P : pR} {a0 : Nat} {x1 : Int32} {x2 : Int32} {x3 : Int32} {x4 : Int32} {x5 : Int32} {qq : Int32 × pI} (hd : 0 ≤ d) (hW : WT N P) (ha0 : p_tp N a0 15) (hf : f_X12_feed n N I P a0 x1 x2 x3 x4 x5 = some qq) : MT G mX12_feed d 0 0 [.ref a0, .int x1, .int x2, .int x3, .int x4, .int x5] N I L P (p_R (some (.int qq.1)) N qq.2 L P) := by
  refine MT.of rfl (Nat.le_of_ble_eq_true rfl) ?_
  show SW G mX12_feed (p_rm d 0 0) 0 0 0 0 (p_R (some (.int qq.1)) N qq.2 L P) 0 [(0, .ref a0), (1, .int x1), (2, .int x2), (3, .int x3), (4, .int x4), (5, .int x5)] [] N I L P
  unfold f_X12_feed at hf
  refine s_aload_n (pc := 0) dX12_feed_0 0 rfl rfl ?_
  obtain ⟨q1, h2, hf⟩ := p_bd hf
  have t3 : p_tp N q1 0 := WT.get hW ha0 h2
  refine x_getR (pc := 1) dX12_feed_1 fl_X12_7 rfl ha0 h2 ?_
  refine s_bipush (pc := 4) dX12_feed_4 (v := nI 8) rfl ?_
  obtain ⟨c4, hf⟩ := p_ckx hf
  refine x_iald (pc := 6) dX12_feed_6 t3 c4 ?_
  refine s_bipush (pc := 7) dX12_feed_7 (v := nI 20) rfl ?_
  refine s_iadd (pc := 9) dX12_feed_9 ?_
  refine s_sipush (pc := 10) dX12_feed_10 (v := nI 500) rfl ?_
  refine s_icmp_le (pc := 13) (tgt := 18) dX12_feed_13 rfl (fun hc => ?_) (fun hc => ?_)
  · replace hf := p_ps hf hc
    refine s_iconst (pc := 18) dX12_feed_18 (v := nI 0) rfl ?_
    refine s_istore (pc := 19) (lo' := [(6, .int (nI 0)), (0, .ref a0), (1, .int x1), (2, .int x2), (3, .int x3), (4, .int x4), (5, .int x5)]) dX12_feed_19 (Nat.le_of_ble_eq_true rfl) rfl ?_
    obtain ⟨t5, hg, hf⟩ := p_bd hf
    have k6 : SW G mX12_feed (p_rm d 0 0) 0 0 0 0 (p_R (some (.int qq.1)) N qq.2 L P) 126 [(0, .ref a0)] [] N t5 L P := by
      refine s_aload_n (pc := 126) dX12_feed_126 0 rfl rfl ?_
      obtain ⟨q46, h47, hf⟩ := p_bd hf
      have t48 : p_tp N q46 0 := WT.get hW ha0 h47
      refine x_getR (pc := 127) dX12_feed_127 fl_X12_7 rfl ha0 h47 ?_
      refine s_bipush (pc := 130) dX12_feed_130 (v := nI 8) rfl ?_
      obtain ⟨c49, hf⟩ := p_ckx hf
      refine x_iald (pc := 132) dX12_feed_132 t48 c49 ?_
      cases hf
      exact s_ireturn (pc := 133) dX12_feed_133 rfl rfl ⟨rfl, rfl, rfl, rfl, rfl⟩
    replace hf := hg
    have k26 : ∀ (k : Nat) (s0 : Int32 × pI), p_it (B_X12_feed_21 N P a0 x1 x2 x3 x4 x5) k s0 = some t5 → (SW G mX12_feed (p_rm d 0 0) 0 0 0 0 (p_R (some (.int qq.1)) N qq.2 L P) 21 [(0, .ref a0), (1, .int x1), (2, .int x2), (3, .int x3), (4, .int x4), (5, .int x5), (6, .int s0.1)] [] N s0.2 L P) := p_it_ind (C := fun (s0 : Int32 × pI) => SW G mX12_feed (p_rm d 0 0) 0 0 0 0 (p_R (some (.int qq.1)) N qq.2 L P) 21 [(0, .ref a0), (1, .int x1), (2, .int x2), (3, .int x3), (4, .int x4), (5, .int x5), (6, .int s0.1)] [] N s0.2 L P) (by
      intro rec0 hrec0 s0 hf
      unfold B_X12_feed_21 at hf
      refine s_iload (pc := 21) dX12_feed_21 6 rfl ?_
      refine s_bipush (pc := 23) dX12_feed_23 (v := nI 20) rfl ?_
      refine s_icmp_ge (pc := 25) (tgt := 126) dX12_feed_25 rfl (fun hc => ?_) (fun hc => ?_)
      · replace hf := p_ps hf hc
        cases hf
        exact s_lo [0] rfl (k6)
      · replace hf := p_ng hf hc
        refine s_iload (pc := 28) dX12_feed_28 6 rfl ?_
        refine s_iconst (pc := 30) dX12_feed_30 (v := nI 4) rfl ?_
        obtain ⟨t27, hg, hf⟩ := p_lx2 hf
        have k28 : SW G mX12_feed (p_rm d 0 0) 0 0 0 0 (p_R (some (.int qq.1)) N qq.2 L P) 74 [(0, .ref a0), (1, .int x1), (2, .int x2), (3, .int x3), (4, .int x4), (5, .int x5), (6, .int s0.1)] [.int t27] N s0.2 L P := by
          refine s_istore (pc := 74) (lo' := [(7, .int t27), (0, .ref a0), (1, .int x1), (2, .int x2), (3, .int x3), (4, .int x4), (5, .int x5), (6, .int s0.1)]) dX12_feed_74 (Nat.le_of_ble_eq_true rfl) rfl ?_
          refine s_aload_n (pc := 76) dX12_feed_76 1 rfl rfl ?_
          obtain ⟨q29, h30, hf⟩ := p_bd hf
          have t31 : p_tp N q29 0 := WT.get hW ha0 h30
          refine x_getR (pc := 77) dX12_feed_77 fl_X12_7 rfl ha0 h30 ?_
          refine s_sipush (pc := 80) dX12_feed_80 (v := nI 660) rfl ?_
          refine s_aload_n (pc := 83) dX12_feed_83 1 rfl rfl ?_
          obtain ⟨q32, h33, hf⟩ := p_bd hf
          have t34 : p_tp N q32 0 := WT.get hW ha0 h33
          refine x_getR (pc := 84) dX12_feed_84 fl_X12_7 rfl ha0 h33 ?_
          refine s_bipush (pc := 87) dX12_feed_87 (v := nI 8) rfl ?_
          obtain ⟨c35, hf⟩ := p_ckx hf
          refine x_iald (pc := 89) dX12_feed_89 t34 c35 ?_
          refine s_iadd (pc := 90) dX12_feed_90 ?_
          refine s_iload (pc := 91) dX12_feed_91 0 rfl ?_
          refine s_bipush (pc := 93) dX12_feed_93 (v := nI 24) rfl ?_
          refine s_bipush (pc := 95) dX12_feed_95 (v := nI 8) rfl ?_
          refine s_iload (pc := 97) dX12_feed_97 7 rfl ?_
          refine s_iconst (pc := 99) dX12_feed_99 (v := nI 4) rfl ?_
          refine s_irem (pc := 100) dX12_feed_100 (by decide) ?_
          refine s_imul (pc := 101) dX12_feed_101 ?_
          refine s_isub (pc := 102) dX12_feed_102 ?_
          refine s_ishr (pc := 103) dX12_feed_103 ?_
          refine s_sipush (pc := 104) dX12_feed_104 (v := nI 255) rfl ?_
          refine s_iand (pc := 107) dX12_feed_107 ?_
          obtain ⟨c36, hf⟩ := p_ckx hf
          refine x_iast (pc := 108) dX12_feed_108 t31 c36 ?_
          refine s_nmI (fun I37 e38 => ?_)
          replace hf := p_lx hf e38
          refine s_aload_n (pc := 109) dX12_feed_109 1 rfl rfl ?_
          obtain ⟨q39, h40, hf⟩ := p_bd hf
          have t41 : p_tp N q39 0 := WT.get hW ha0 h40
          refine x_getR (pc := 110) dX12_feed_110 fl_X12_7 rfl ha0 h40 ?_
          refine s_bipush (pc := 113) dX12_feed_113 (v := nI 8) rfl ?_
          refine s_dup2_11 (pc := 115) dX12_feed_115 rfl rfl ?_
          obtain ⟨c42, hf⟩ := p_ckx hf
          refine x_iald (pc := 116) dX12_feed_116 t41 c42 ?_
          refine s_iconst (pc := 117) dX12_feed_117 (v := nI 1) rfl ?_
          refine s_iadd (pc := 118) dX12_feed_118 ?_
          obtain ⟨c43, hf⟩ := p_ckx hf
          refine x_iast (pc := 119) dX12_feed_119 t41 c43 ?_
          refine s_nmI (fun I44 e45 => ?_)
          replace hf := p_lx hf e45
          refine s_iinc (pc := 120) (lo' := [(6, .int (s0.1 + nI 1)), (7, .int t27), (0, .ref a0), (1, .int x1), (2, .int x2), (3, .int x3), (4, .int x4), (5, .int x5)]) dX12_feed_120 7 rfl (v := s0.1 + nI 1) rfl (Nat.le_of_ble_eq_true rfl) rfl ?_
          refine s_goto (pc := 123) (tgt := 21) dX12_feed_123 rfl ?_
          exact s_lo [2, 3, 4, 5, 6, 7, 0] rfl (hrec0 (s0.1 + nI 1, I44) hf)
        replace hf := hg.symm
        refine s_icmp_ge (pc := 31) (tgt := 38) dX12_feed_31 rfl (fun hc => ?_) (fun hc => ?_)
        · replace hf := p_ps hf hc
          refine s_iload (pc := 38) dX12_feed_38 6 rfl ?_
          refine s_bipush (pc := 40) dX12_feed_40 (v := nI 8) rfl ?_
          refine s_icmp_ge (pc := 42) (tgt := 49) dX12_feed_42 rfl (fun hc => ?_) (fun hc => ?_)
          · replace hf := p_ps hf hc
            refine s_iload (pc := 49) dX12_feed_49 6 rfl ?_
            refine s_bipush (pc := 51) dX12_feed_51 (v := nI 12) rfl ?_
            refine s_icmp_ge (pc := 53) (tgt := 60) dX12_feed_53 rfl (fun hc => ?_) (fun hc => ?_)
            · replace hf := p_ps hf hc
              refine s_iload (pc := 60) dX12_feed_60 6 rfl ?_
              refine s_bipush (pc := 62) dX12_feed_62 (v := nI 16) rfl ?_
              refine s_icmp_ge (pc := 64) (tgt := 72) dX12_feed_64 rfl (fun hc => ?_) (fun hc => ?_)
              · replace hf := p_ps hf hc
                refine s_iload (pc := 72) dX12_feed_72 5 rfl ?_
                cases hf
                exact s_lo [0, 1, 2, 3, 4, 5, 6] rfl (k28)
              · replace hf := p_ng hf hc
                refine s_iload (pc := 67) dX12_feed_67 4 rfl ?_
                refine s_goto (pc := 69) (tgt := 74) dX12_feed_69 rfl ?_
                cases hf
                exact s_lo [0, 1, 2, 3, 4, 5, 6] rfl (k28)
            · replace hf := p_ng hf hc
              refine s_iload_n (pc := 56) dX12_feed_56 3 rfl rfl ?_
              refine s_goto (pc := 57) (tgt := 74) dX12_feed_57 rfl ?_
              cases hf
              exact s_lo [0, 1, 2, 3, 4, 5, 6] rfl (k28)
          · replace hf := p_ng hf hc
            refine s_iload_n (pc := 45) dX12_feed_45 2 rfl rfl ?_
            refine s_goto (pc := 46) (tgt := 74) dX12_feed_46 rfl ?_
            cases hf
            exact s_lo [0, 1, 2, 3, 4, 5, 6] rfl (k28)
        · replace hf := p_ng hf hc
          refine s_iload_n (pc := 34) dX12_feed_34 1 rfl rfl ?_
          refine s_goto (pc := 35) (tgt := 74) dX12_feed_35 rfl ?_
          cases hf
          exact s_lo [0, 1, 2, 3, 4, 5, 6] rfl (k28))
    exact s_lo [1, 2, 3, 4, 5, 6, 0] rfl (k26 n (nI 0, I) hf)
  · replace hf := p_ng hf hc
    refine s_iconst (pc := 16) dX12_feed_16 (v := (-1)) rfl ?_
    cases hf
    exact s_ireturn (pc := 17) dX12_feed_17 rfl rfl ⟨rfl, rfl, rfl, rfl, rfl⟩
def f_X12_end (N : pN) (I : pI) (P : pR) (a0 : Nat) (x1 : Int32) : Option (Int32 × pI) :=
  (if x1 < 0 then
    some ((-1), I)
  else
    Option.bind (P a0 0) fun q1 =>
    p_ck (p_ib N q1 (nI 8)) <|
    (if x1 ≤ (I q1 (Int32.toNatClampNeg (nI 8))) then
      Option.bind (P a0 0) fun q5 =>
      p_ck (p_ib N q5 (nI 8)) <|
      p_let (p_u I q5 (Int32.toNatClampNeg (nI 8)) x1) fun I9 =>
      some (x1, I9)
    else
      some ((-1), I)))
theorem c_X12_end {G : pG} {d : Nat} {N : pN} {I : pI} {L : pL} {P : pR} {a0 : Nat} {x1 : Int32} {qq : Int32 × pI} (hd : 0 ≤ d) (hW : WT N P) (ha0 : p_tp N a0 15) (hf : f_X12_end N I P a0 x1 = some qq) : MT G mX12_end d 0 0 [.ref a0, .int x1] N I L P (p_R (some (.int qq.1)) N qq.2 L P) := by
  refine MT.of rfl (Nat.le_of_ble_eq_true rfl) ?_
  show SW G mX12_end (p_rm d 0 0) 0 0 0 0 (p_R (some (.int qq.1)) N qq.2 L P) 0 [(0, .ref a0), (1, .int x1)] [] N I L P
  unfold f_X12_end at hf
  refine s_iload_n (pc := 0) dX12_end_0 1 rfl rfl ?_
  refine s_if_lt (pc := 1) (tgt := 15) dX12_end_1 rfl (fun hc => ?_) (fun hc => ?_)
  · replace hf := p_ps hf hc
    refine s_iconst (pc := 15) dX12_end_15 (v := (-1)) rfl ?_
    cases hf
    exact s_ireturn (pc := 16) dX12_end_16 rfl rfl ⟨rfl, rfl, rfl, rfl, rfl⟩
  · replace hf := p_ng hf hc
    refine s_iload_n (pc := 4) dX12_end_4 1 rfl rfl ?_
    refine s_aload_n (pc := 5) dX12_end_5 0 rfl rfl ?_
    obtain ⟨q1, h2, hf⟩ := p_bd hf
    have t3 : p_tp N q1 0 := WT.get hW ha0 h2
    refine x_getR (pc := 6) dX12_end_6 fl_X12_7 rfl ha0 h2 ?_
    refine s_bipush (pc := 9) dX12_end_9 (v := nI 8) rfl ?_
    obtain ⟨c4, hf⟩ := p_ckx hf
    refine x_iald (pc := 11) dX12_end_11 t3 c4 ?_
    refine s_icmp_le (pc := 12) (tgt := 17) dX12_end_12 rfl (fun hc => ?_) (fun hc => ?_)
    · replace hf := p_ps hf hc
      refine s_aload_n (pc := 17) dX12_end_17 0 rfl rfl ?_
      obtain ⟨q5, h6, hf⟩ := p_bd hf
      have t7 : p_tp N q5 0 := WT.get hW ha0 h6
      refine x_getR (pc := 18) dX12_end_18 fl_X12_7 rfl ha0 h6 ?_
      refine s_bipush (pc := 21) dX12_end_21 (v := nI 8) rfl ?_
      refine s_iload_n (pc := 23) dX12_end_23 1 rfl rfl ?_
      obtain ⟨c8, hf⟩ := p_ckx hf
      refine x_iast (pc := 24) dX12_end_24 t7 c8 ?_
      refine s_nmI (fun I9 e10 => ?_)
      replace hf := p_lx hf e10
      refine s_iload_n (pc := 25) dX12_end_25 1 rfl rfl ?_
      cases hf
      exact s_ireturn (pc := 26) dX12_end_26 rfl rfl ⟨rfl, rfl, rfl, rfl, rfl⟩
    · replace hf := p_ng hf hc
      refine s_iconst (pc := 15) dX12_end_15 (v := (-1)) rfl ?_
      cases hf
      exact s_ireturn (pc := 16) dX12_end_16 rfl rfl ⟨rfl, rfl, rfl, rfl, rfl⟩
def f_X12_byteAt (N : pN) (I : pI) (P : pR) (a0 : Nat) (x1 : Int32) : Option Int32 :=
  (if (I a0 28) ≤ x1 then
    some (-1)
  else
    Option.bind (P a0 0) fun q1 =>
    p_ck (p_ib N q1 ((nI 660) + x1)) <|
    some (I q1 (Int32.toNatClampNeg ((nI 660) + x1))))
theorem c_X12_byteAt {G : pG} {d : Nat} {N : pN} {I : pI} {L : pL} {P : pR} {a0 : Nat} {x1 : Int32} {qq : Int32} (hd : 0 ≤ d) (hW : WT N P) (ha0 : p_tp N a0 15) (hf : f_X12_byteAt N I P a0 x1 = some qq) : MT G mX12_byteAt d 0 0 [.ref a0, .int x1] N I L P (p_R (some (.int qq)) N I L P) := by
  refine MT.of rfl (Nat.le_of_ble_eq_true rfl) ?_
  show SW G mX12_byteAt (p_rm d 0 0) 0 0 0 0 (p_R (some (.int qq)) N I L P) 0 [(0, .ref a0), (1, .int x1)] [] N I L P
  unfold f_X12_byteAt at hf
  refine s_iload_n (pc := 0) dX12_byteAt_0 1 rfl rfl ?_
  refine s_aload_n (pc := 1) dX12_byteAt_1 0 rfl rfl ?_
  refine x_getI (pc := 2) dX12_byteAt_2 fl_X12_293 rfl ha0 ?_
  refine s_icmp_ge (pc := 5) (tgt := 21) dX12_byteAt_5 rfl (fun hc => ?_) (fun hc => ?_)
  · replace hf := p_ps hf hc
    refine s_iconst (pc := 21) dX12_byteAt_21 (v := (-1)) rfl ?_
    cases hf
    exact s_ireturn (pc := 22) dX12_byteAt_22 rfl rfl ⟨rfl, rfl, rfl, rfl, rfl⟩
  · replace hf := p_ng hf hc
    refine s_aload_n (pc := 8) dX12_byteAt_8 0 rfl rfl ?_
    obtain ⟨q1, h2, hf⟩ := p_bd hf
    have t3 : p_tp N q1 0 := WT.get hW ha0 h2
    refine x_getR (pc := 9) dX12_byteAt_9 fl_X12_7 rfl ha0 h2 ?_
    refine s_sipush (pc := 12) dX12_byteAt_12 (v := nI 660) rfl ?_
    refine s_iload_n (pc := 15) dX12_byteAt_15 1 rfl rfl ?_
    refine s_iadd (pc := 16) dX12_byteAt_16 ?_
    obtain ⟨c4, hf⟩ := p_ckx hf
    refine x_iald (pc := 17) dX12_byteAt_17 t3 c4 ?_
    refine s_goto (pc := 18) (tgt := 22) dX12_byteAt_18 rfl ?_
    cases hf
    exact s_ireturn (pc := 22) dX12_byteAt_22 rfl rfl ⟨rfl, rfl, rfl, rfl, rfl⟩
def f_X12_isLetter (x0 : Int32) : Option Int32 :=
  (if x0 < (nI 97) then
    some (nI 0)
  else
    (if (nI 122) < x0 then
      some (nI 0)
    else
      some (nI 1)))
theorem c_X12_isLetter {G : pG} {d : Nat} {N : pN} {I : pI} {L : pL} {P : pR} {x0 : Int32} {qq : Int32} (hd : 0 ≤ d) (hW : WT N P) (hf : f_X12_isLetter x0 = some qq) : MT G mX12_isLetter d 0 0 [.int x0] N I L P (p_R (some (.int qq)) N I L P) := by
  refine MT.of rfl (Nat.le_of_ble_eq_true rfl) ?_
  show SW G mX12_isLetter (p_rm d 0 0) 0 0 0 0 (p_R (some (.int qq)) N I L P) 0 [(0, .int x0)] [] N I L P
  unfold f_X12_isLetter at hf
  refine s_iload_n (pc := 0) dX12_isLetter_0 0 rfl rfl ?_
  refine s_bipush (pc := 1) dX12_isLetter_1 (v := nI 97) rfl ?_
  refine s_icmp_lt (pc := 3) (tgt := 16) dX12_isLetter_3 rfl (fun hc => ?_) (fun hc => ?_)
  · replace hf := p_ps hf hc
    refine s_iconst (pc := 16) dX12_isLetter_16 (v := nI 0) rfl ?_
    cases hf
    exact s_ireturn (pc := 17) dX12_isLetter_17 rfl rfl ⟨rfl, rfl, rfl, rfl, rfl⟩
  · replace hf := p_ng hf hc
    refine s_iload_n (pc := 6) dX12_isLetter_6 0 rfl rfl ?_
    refine s_bipush (pc := 7) dX12_isLetter_7 (v := nI 122) rfl ?_
    refine s_icmp_gt (pc := 9) (tgt := 16) dX12_isLetter_9 rfl (fun hc => ?_) (fun hc => ?_)
    · replace hf := p_ps hf hc
      refine s_iconst (pc := 16) dX12_isLetter_16 (v := nI 0) rfl ?_
      cases hf
      exact s_ireturn (pc := 17) dX12_isLetter_17 rfl rfl ⟨rfl, rfl, rfl, rfl, rfl⟩
    · replace hf := p_ng hf hc
      refine s_iconst (pc := 12) dX12_isLetter_12 (v := nI 1) rfl ?_
      refine s_goto (pc := 13) (tgt := 17) dX12_isLetter_13 rfl ?_
      cases hf
      exact s_ireturn (pc := 17) dX12_isLetter_17 rfl rfl ⟨rfl, rfl, rfl, rfl, rfl⟩
def f_X12_isDigit (x0 : Int32) : Option Int32 :=
  (if x0 < (nI 48) then
    some (nI 0)
  else
    (if (nI 57) < x0 then
      some (nI 0)
    else
      some (nI 1)))
theorem c_X12_isDigit {G : pG} {d : Nat} {N : pN} {I : pI} {L : pL} {P : pR} {x0 : Int32} {qq : Int32} (hd : 0 ≤ d) (hW : WT N P) (hf : f_X12_isDigit x0 = some qq) : MT G mX12_isDigit d 0 0 [.int x0] N I L P (p_R (some (.int qq)) N I L P) := by
  refine MT.of rfl (Nat.le_of_ble_eq_true rfl) ?_
  show SW G mX12_isDigit (p_rm d 0 0) 0 0 0 0 (p_R (some (.int qq)) N I L P) 0 [(0, .int x0)] [] N I L P
  unfold f_X12_isDigit at hf
  refine s_iload_n (pc := 0) dX12_isDigit_0 0 rfl rfl ?_
  refine s_bipush (pc := 1) dX12_isDigit_1 (v := nI 48) rfl ?_
  refine s_icmp_lt (pc := 3) (tgt := 16) dX12_isDigit_3 rfl (fun hc => ?_) (fun hc => ?_)
  · replace hf := p_ps hf hc
    refine s_iconst (pc := 16) dX12_isDigit_16 (v := nI 0) rfl ?_
    cases hf
    exact s_ireturn (pc := 17) dX12_isDigit_17 rfl rfl ⟨rfl, rfl, rfl, rfl, rfl⟩
  · replace hf := p_ng hf hc
    refine s_iload_n (pc := 6) dX12_isDigit_6 0 rfl rfl ?_
    refine s_bipush (pc := 7) dX12_isDigit_7 (v := nI 57) rfl ?_
    refine s_icmp_gt (pc := 9) (tgt := 16) dX12_isDigit_9 rfl (fun hc => ?_) (fun hc => ?_)
    · replace hf := p_ps hf hc
      refine s_iconst (pc := 16) dX12_isDigit_16 (v := nI 0) rfl ?_
      cases hf
      exact s_ireturn (pc := 17) dX12_isDigit_17 rfl rfl ⟨rfl, rfl, rfl, rfl, rfl⟩
    · replace hf := p_ng hf hc
      refine s_iconst (pc := 12) dX12_isDigit_12 (v := nI 1) rfl ?_
      refine s_goto (pc := 13) (tgt := 17) dX12_isDigit_13 rfl ?_
      cases hf
      exact s_ireturn (pc := 17) dX12_isDigit_17 rfl rfl ⟨rfl, rfl, rfl, rfl, rfl⟩
def f_X12_three (x0 : Int32) (x1 : Int32) (x2 : Int32) : Option Int64 :=
  some ((((((32 * (Int32.toInt64 (x0 - (nI 96)))) + (Int32.toInt64 x1)) - 96) * 32) + (Int32.toInt64 x2)) - 96)
theorem c_X12_three {G : pG} {d : Nat} {N : pN} {I : pI} {L : pL} {P : pR} {x0 : Int32} {x1 : Int32} {x2 : Int32} {qq : Int64} (hd : 0 ≤ d) (hW : WT N P) (hf : f_X12_three x0 x1 x2 = some qq) : MT G mX12_three d 0 0 [.int x0, .int x1, .int x2] N I L P (p_R (some (.long qq)) N I L P) := by
  refine MT.of rfl (Nat.le_of_ble_eq_true rfl) ?_
  show SW G mX12_three (p_rm d 0 0) 0 0 0 0 (p_R (some (.long qq)) N I L P) 0 [(0, .int x0), (1, .int x1), (2, .int x2)] [] N I L P
  unfold f_X12_three at hf
  refine s_ldc2 (pc := 0) kl_X12_296 dX12_three_0 ?_
  refine s_iload_n (pc := 3) dX12_three_3 0 rfl rfl ?_
  refine s_bipush (pc := 4) dX12_three_4 (v := nI 96) rfl ?_
  refine s_isub (pc := 6) dX12_three_6 ?_
  refine s_i2l (pc := 7) dX12_three_7 ?_
  refine s_lmul (pc := 8) dX12_three_8 ?_
  refine s_iload_n (pc := 9) dX12_three_9 1 rfl rfl ?_
  refine s_i2l (pc := 10) dX12_three_10 ?_
  refine s_ladd (pc := 11) dX12_three_11 ?_
  refine s_ldc2 (pc := 12) kl_X12_298 dX12_three_12 ?_
  refine s_lsub (pc := 15) dX12_three_15 ?_
  refine s_ldc2 (pc := 16) kl_X12_296 dX12_three_16 ?_
  refine s_lmul (pc := 19) dX12_three_19 ?_
  refine s_iload_n (pc := 20) dX12_three_20 2 rfl rfl ?_
  refine s_i2l (pc := 21) dX12_three_21 ?_
  refine s_ladd (pc := 22) dX12_three_22 ?_
  refine s_ldc2 (pc := 23) kl_X12_298 dX12_three_23 ?_
  refine s_lsub (pc := 26) dX12_three_26 ?_
  cases hf
  exact s_lreturn (pc := 27) dX12_three_27 rfl ⟨rfl, rfl, rfl, rfl, rfl⟩
def f_X12_four (x0 : Int32) (x1 : Int32) (x2 : Int32) (x3 : Int32) : Option Int64 :=
  Option.bind (f_X12_three x0 x1 x2) fun q1 =>
  some (((q1 * 32) + (Int32.toInt64 x3)) - 96)
theorem c_X12_four {G : pG} {d : Nat} {N : pN} {I : pI} {L : pL} {P : pR} {x0 : Int32} {x1 : Int32} {x2 : Int32} {x3 : Int32} {qq : Int64} (hd : 1 ≤ d) (hW : WT N P) (hf : f_X12_four x0 x1 x2 x3 = some qq) : MT G mX12_four d 0 0 [.int x0, .int x1, .int x2, .int x3] N I L P (p_R (some (.long qq)) N I L P) := by
  refine MT.of rfl (Nat.le_of_ble_eq_true rfl) ?_
  show SW G mX12_four (p_rm d 0 0) 0 0 0 0 (p_R (some (.long qq)) N I L P) 0 [(0, .int x0), (1, .int x1), (2, .int x2), (3, .int x3)] [] N I L P
  unfold f_X12_four at hf
  refine s_iload_n (pc := 0) dX12_four_0 0 rfl rfl ?_
  refine s_iload_n (pc := 1) dX12_four_1 1 rfl rfl ?_
  refine s_iload_n (pc := 2) dX12_four_2 2 rfl rfl ?_
  obtain ⟨q1, h2, hf⟩ := p_bd hf
  refine y_callS1 (pc := 3) dX12_four_3 (c_X12_three (p_dd hd (by decide)) hW  h2) mk_X12_three mz_X12_three ml_X12_300 rfl rfl (Nat.le_of_ble_eq_true rfl) (p_d1 hd (by decide)) (Nat.le_of_ble_eq_true rfl) ?_
  refine s_ldc2 (pc := 6) kl_X12_296 dX12_four_6 ?_
  refine s_lmul (pc := 9) dX12_four_9 ?_
  refine s_iload_n (pc := 10) dX12_four_10 3 rfl rfl ?_
  refine s_i2l (pc := 11) dX12_four_11 ?_
  refine s_ladd (pc := 12) dX12_four_12 ?_
  refine s_ldc2 (pc := 13) kl_X12_298 dX12_four_13 ?_
  refine s_lsub (pc := 16) dX12_four_16 ?_
  cases hf
  exact s_lreturn (pc := 17) dX12_four_17 rfl ⟨rfl, rfl, rfl, rfl, rfl⟩
def f_X12_wordOf (x0 : Int64) : Option Int32 :=
  Option.bind (f_X12_four (nI 119) (nI 97) (nI 108) (nI 108)) fun q1 =>
  (if x0 = q1 then
    some (nI 1)
  else
    Option.bind (f_X12_three (nI 115) (nI 101) (nI 110)) fun q3 =>
    Option.bind (f_X12_three (nI 100) (nI 101) (nI 114)) fun q5 =>
    (if x0 = ((q3 * 32768) + q5) then
      some (nI 2)
    else
      Option.bind (f_X12_four (nI 110) (nI 101) (nI 101) (nI 100)) fun q7 =>
      (if x0 = q7 then
        some (nI 3)
      else
        Option.bind (f_X12_four (nI 115) (nI 105) (nI 116) (nI 101)) fun q9 =>
        (if x0 = q9 then
          some (nI 4)
        else
          Option.bind (f_X12_four (nI 97) (nI 108) (nI 111) (nI 110)) fun q11 =>
          (if x0 = (((q11 * 32) + 101) - 96) then
            some (nI 10)
          else
            Option.bind (f_X12_three (nI 99) (nI 111) (nI 108)) fun q13 =>
            Option.bind (f_X12_three (nI 111) (nI 117) (nI 114)) fun q15 =>
            (if x0 = ((q13 * 32768) + q15) then
              some (nI 11)
            else
              Option.bind (f_X12_four (nI 112) (nI 111) (nI 119) (nI 101)) fun q17 =>
              (if x0 = (((q17 * 32) + 114) - 96) then
                some (nI 12)
              else
                (if x0 = 24 then
                  some (nI 13)
                else
                  (if x0 = 25 then
                    some (nI 14)
                  else
                    Option.bind (f_X12_four (nI 104) (nI 111) (nI 117) (nI 114)) fun q19 =>
                    (if x0 = q19 then
                      some (nI 15)
                    else
                      Option.bind (f_X12_four (nI 104) (nI 101) (nI 97) (nI 114)) fun q21 =>
                      (if x0 = (((q21 * 32) + 100) - 96) then
                        some (nI 16)
                      else
                        Option.bind (f_X12_three (nI 98) (nI 97) (nI 114)) fun q23 =>
                        (if x0 = q23 then
                          some (nI 20)
                        else
                          Option.bind (f_X12_three (nI 109) (nI 97) (nI 121)) fun q25 =>
                          (if x0 = q25 then
                            some (nI 21)
                          else
                            (if x0 = 294 then
                              some (nI 30)
                            else
                              Option.bind (f_X12_three (nI 97) (nI 110) (nI 100)) fun q27 =>
                              (if x0 = q27 then
                                some (nI 31)
                              else
                                Option.bind (f_X12_three (nI 110) (nI 111) (nI 116)) fun q29 =>
                                (if x0 = q29 then
                                  some (nI 32)
                                else
                                  some (nI 99)))))))))))))))))
theorem c_X12_wordOf {G : pG} {d : Nat} {N : pN} {I : pI} {L : pL} {P : pR} {x0 : Int64} {qq : Int32} (hd : 2 ≤ d) (hW : WT N P) (hf : f_X12_wordOf x0 = some qq) : MT G mX12_wordOf d 0 0 [.long x0] N I L P (p_R (some (.int qq)) N I L P) := by
  refine MT.of rfl (Nat.le_of_ble_eq_true rfl) ?_
  show SW G mX12_wordOf (p_rm d 0 0) 0 0 0 0 (p_R (some (.int qq)) N I L P) 0 [(0, .long x0)] [] N I L P
  unfold f_X12_wordOf at hf
  refine s_lload_n (pc := 0) dX12_wordOf_0 0 rfl rfl ?_
  refine s_bipush (pc := 1) dX12_wordOf_1 (v := nI 119) rfl ?_
  refine s_bipush (pc := 3) dX12_wordOf_3 (v := nI 97) rfl ?_
  refine s_bipush (pc := 5) dX12_wordOf_5 (v := nI 108) rfl ?_
  refine s_bipush (pc := 7) dX12_wordOf_7 (v := nI 108) rfl ?_
  obtain ⟨q1, h2, hf⟩ := p_bd hf
  refine y_callS1 (pc := 9) dX12_wordOf_9 (c_X12_four (p_dd hd (by decide)) hW  h2) mk_X12_four mz_X12_four ml_X12_304 rfl rfl (Nat.le_of_ble_eq_true rfl) (p_d1 hd (by decide)) (Nat.le_of_ble_eq_true rfl) ?_
  refine x_lcmp_ne (pc := 12) (tgt := 18) dX12_wordOf_12 dX12_wordOf_13 rfl (fun hc => ?_) (fun hc => ?_)
  · replace hf := p_ng hf hc
    refine s_lload_n (pc := 18) dX12_wordOf_18 0 rfl rfl ?_
    refine s_bipush (pc := 19) dX12_wordOf_19 (v := nI 115) rfl ?_
    refine s_bipush (pc := 21) dX12_wordOf_21 (v := nI 101) rfl ?_
    refine s_bipush (pc := 23) dX12_wordOf_23 (v := nI 110) rfl ?_
    obtain ⟨q3, h4, hf⟩ := p_bd hf
    refine y_callS1 (pc := 25) dX12_wordOf_25 (c_X12_three (p_dd hd (by decide)) hW  h4) mk_X12_three mz_X12_three ml_X12_300 rfl rfl (Nat.le_of_ble_eq_true rfl) (p_d1 hd (by decide)) (Nat.le_of_ble_eq_true rfl) ?_
    refine s_ldc2 (pc := 28) kl_X12_308 dX12_wordOf_28 ?_
    refine s_lmul (pc := 31) dX12_wordOf_31 ?_
    refine s_bipush (pc := 32) dX12_wordOf_32 (v := nI 100) rfl ?_
    refine s_bipush (pc := 34) dX12_wordOf_34 (v := nI 101) rfl ?_
    refine s_bipush (pc := 36) dX12_wordOf_36 (v := nI 114) rfl ?_
    obtain ⟨q5, h6, hf⟩ := p_bd hf
    refine y_callS1 (pc := 38) dX12_wordOf_38 (c_X12_three (p_dd hd (by decide)) hW  h6) mk_X12_three mz_X12_three ml_X12_300 rfl rfl (Nat.le_of_ble_eq_true rfl) (p_d1 hd (by decide)) (Nat.le_of_ble_eq_true rfl) ?_
    refine s_ladd (pc := 41) dX12_wordOf_41 ?_
    refine x_lcmp_ne (pc := 42) (tgt := 48) dX12_wordOf_42 dX12_wordOf_43 rfl (fun hc => ?_) (fun hc => ?_)
    · replace hf := p_ng hf hc
      refine s_lload_n (pc := 48) dX12_wordOf_48 0 rfl rfl ?_
      refine s_bipush (pc := 49) dX12_wordOf_49 (v := nI 110) rfl ?_
      refine s_bipush (pc := 51) dX12_wordOf_51 (v := nI 101) rfl ?_
      refine s_bipush (pc := 53) dX12_wordOf_53 (v := nI 101) rfl ?_
      refine s_bipush (pc := 55) dX12_wordOf_55 (v := nI 100) rfl ?_
      obtain ⟨q7, h8, hf⟩ := p_bd hf
      refine y_callS1 (pc := 57) dX12_wordOf_57 (c_X12_four (p_dd hd (by decide)) hW  h8) mk_X12_four mz_X12_four ml_X12_304 rfl rfl (Nat.le_of_ble_eq_true rfl) (p_d1 hd (by decide)) (Nat.le_of_ble_eq_true rfl) ?_
      refine x_lcmp_ne (pc := 60) (tgt := 66) dX12_wordOf_60 dX12_wordOf_61 rfl (fun hc => ?_) (fun hc => ?_)
      · replace hf := p_ng hf hc
        refine s_lload_n (pc := 66) dX12_wordOf_66 0 rfl rfl ?_
        refine s_bipush (pc := 67) dX12_wordOf_67 (v := nI 115) rfl ?_
        refine s_bipush (pc := 69) dX12_wordOf_69 (v := nI 105) rfl ?_
        refine s_bipush (pc := 71) dX12_wordOf_71 (v := nI 116) rfl ?_
        refine s_bipush (pc := 73) dX12_wordOf_73 (v := nI 101) rfl ?_
        obtain ⟨q9, h10, hf⟩ := p_bd hf
        refine y_callS1 (pc := 75) dX12_wordOf_75 (c_X12_four (p_dd hd (by decide)) hW  h10) mk_X12_four mz_X12_four ml_X12_304 rfl rfl (Nat.le_of_ble_eq_true rfl) (p_d1 hd (by decide)) (Nat.le_of_ble_eq_true rfl) ?_
        refine x_lcmp_ne (pc := 78) (tgt := 84) dX12_wordOf_78 dX12_wordOf_79 rfl (fun hc => ?_) (fun hc => ?_)
        · replace hf := p_ng hf hc
          refine s_lload_n (pc := 84) dX12_wordOf_84 0 rfl rfl ?_
          refine s_bipush (pc := 85) dX12_wordOf_85 (v := nI 97) rfl ?_
          refine s_bipush (pc := 87) dX12_wordOf_87 (v := nI 108) rfl ?_
          refine s_bipush (pc := 89) dX12_wordOf_89 (v := nI 111) rfl ?_
          refine s_bipush (pc := 91) dX12_wordOf_91 (v := nI 110) rfl ?_
          obtain ⟨q11, h12, hf⟩ := p_bd hf
          refine y_callS1 (pc := 93) dX12_wordOf_93 (c_X12_four (p_dd hd (by decide)) hW  h12) mk_X12_four mz_X12_four ml_X12_304 rfl rfl (Nat.le_of_ble_eq_true rfl) (p_d1 hd (by decide)) (Nat.le_of_ble_eq_true rfl) ?_
          refine s_ldc2 (pc := 96) kl_X12_296 dX12_wordOf_96 ?_
          refine s_lmul (pc := 99) dX12_wordOf_99 ?_
          refine s_ldc2 (pc := 100) kl_X12_310 dX12_wordOf_100 ?_
          refine s_ladd (pc := 103) dX12_wordOf_103 ?_
          refine s_ldc2 (pc := 104) kl_X12_298 dX12_wordOf_104 ?_
          refine s_lsub (pc := 107) dX12_wordOf_107 ?_
          refine x_lcmp_ne (pc := 108) (tgt := 115) dX12_wordOf_108 dX12_wordOf_109 rfl (fun hc => ?_) (fun hc => ?_)
          · replace hf := p_ng hf hc
            refine s_lload_n (pc := 115) dX12_wordOf_115 0 rfl rfl ?_
            refine s_bipush (pc := 116) dX12_wordOf_116 (v := nI 99) rfl ?_
            refine s_bipush (pc := 118) dX12_wordOf_118 (v := nI 111) rfl ?_
            refine s_bipush (pc := 120) dX12_wordOf_120 (v := nI 108) rfl ?_
            obtain ⟨q13, h14, hf⟩ := p_bd hf
            refine y_callS1 (pc := 122) dX12_wordOf_122 (c_X12_three (p_dd hd (by decide)) hW  h14) mk_X12_three mz_X12_three ml_X12_300 rfl rfl (Nat.le_of_ble_eq_true rfl) (p_d1 hd (by decide)) (Nat.le_of_ble_eq_true rfl) ?_
            refine s_ldc2 (pc := 125) kl_X12_308 dX12_wordOf_125 ?_
            refine s_lmul (pc := 128) dX12_wordOf_128 ?_
            refine s_bipush (pc := 129) dX12_wordOf_129 (v := nI 111) rfl ?_
            refine s_bipush (pc := 131) dX12_wordOf_131 (v := nI 117) rfl ?_
            refine s_bipush (pc := 133) dX12_wordOf_133 (v := nI 114) rfl ?_
            obtain ⟨q15, h16, hf⟩ := p_bd hf
            refine y_callS1 (pc := 135) dX12_wordOf_135 (c_X12_three (p_dd hd (by decide)) hW  h16) mk_X12_three mz_X12_three ml_X12_300 rfl rfl (Nat.le_of_ble_eq_true rfl) (p_d1 hd (by decide)) (Nat.le_of_ble_eq_true rfl) ?_
            refine s_ladd (pc := 138) dX12_wordOf_138 ?_
            refine x_lcmp_ne (pc := 139) (tgt := 146) dX12_wordOf_139 dX12_wordOf_140 rfl (fun hc => ?_) (fun hc => ?_)
            · replace hf := p_ng hf hc
              refine s_lload_n (pc := 146) dX12_wordOf_146 0 rfl rfl ?_
              refine s_bipush (pc := 147) dX12_wordOf_147 (v := nI 112) rfl ?_
              refine s_bipush (pc := 149) dX12_wordOf_149 (v := nI 111) rfl ?_
              refine s_bipush (pc := 151) dX12_wordOf_151 (v := nI 119) rfl ?_
              refine s_bipush (pc := 153) dX12_wordOf_153 (v := nI 101) rfl ?_
              obtain ⟨q17, h18, hf⟩ := p_bd hf
              refine y_callS1 (pc := 155) dX12_wordOf_155 (c_X12_four (p_dd hd (by decide)) hW  h18) mk_X12_four mz_X12_four ml_X12_304 rfl rfl (Nat.le_of_ble_eq_true rfl) (p_d1 hd (by decide)) (Nat.le_of_ble_eq_true rfl) ?_
              refine s_ldc2 (pc := 158) kl_X12_296 dX12_wordOf_158 ?_
              refine s_lmul (pc := 161) dX12_wordOf_161 ?_
              refine s_ldc2 (pc := 162) kl_X12_312 dX12_wordOf_162 ?_
              refine s_ladd (pc := 165) dX12_wordOf_165 ?_
              refine s_ldc2 (pc := 166) kl_X12_298 dX12_wordOf_166 ?_
              refine s_lsub (pc := 169) dX12_wordOf_169 ?_
              refine x_lcmp_ne (pc := 170) (tgt := 177) dX12_wordOf_170 dX12_wordOf_171 rfl (fun hc => ?_) (fun hc => ?_)
              · replace hf := p_ng hf hc
                refine s_lload_n (pc := 177) dX12_wordOf_177 0 rfl rfl ?_
                refine s_ldc2 (pc := 178) kl_X12_314 dX12_wordOf_178 ?_
                refine x_lcmp_ne (pc := 181) (tgt := 188) dX12_wordOf_181 dX12_wordOf_182 rfl (fun hc => ?_) (fun hc => ?_)
                · replace hf := p_ng hf hc
                  refine s_lload_n (pc := 188) dX12_wordOf_188 0 rfl rfl ?_
                  refine s_ldc2 (pc := 189) kl_X12_316 dX12_wordOf_189 ?_
                  refine x_lcmp_ne (pc := 192) (tgt := 199) dX12_wordOf_192 dX12_wordOf_193 rfl (fun hc => ?_) (fun hc => ?_)
                  · replace hf := p_ng hf hc
                    refine s_lload_n (pc := 199) dX12_wordOf_199 0 rfl rfl ?_
                    refine s_bipush (pc := 200) dX12_wordOf_200 (v := nI 104) rfl ?_
                    refine s_bipush (pc := 202) dX12_wordOf_202 (v := nI 111) rfl ?_
                    refine s_bipush (pc := 204) dX12_wordOf_204 (v := nI 117) rfl ?_
                    refine s_bipush (pc := 206) dX12_wordOf_206 (v := nI 114) rfl ?_
                    obtain ⟨q19, h20, hf⟩ := p_bd hf
                    refine y_callS1 (pc := 208) dX12_wordOf_208 (c_X12_four (p_dd hd (by decide)) hW  h20) mk_X12_four mz_X12_four ml_X12_304 rfl rfl (Nat.le_of_ble_eq_true rfl) (p_d1 hd (by decide)) (Nat.le_of_ble_eq_true rfl) ?_
                    refine x_lcmp_ne (pc := 211) (tgt := 218) dX12_wordOf_211 dX12_wordOf_212 rfl (fun hc => ?_) (fun hc => ?_)
                    · replace hf := p_ng hf hc
                      refine s_lload_n (pc := 218) dX12_wordOf_218 0 rfl rfl ?_
                      refine s_bipush (pc := 219) dX12_wordOf_219 (v := nI 104) rfl ?_
                      refine s_bipush (pc := 221) dX12_wordOf_221 (v := nI 101) rfl ?_
                      refine s_bipush (pc := 223) dX12_wordOf_223 (v := nI 97) rfl ?_
                      refine s_bipush (pc := 225) dX12_wordOf_225 (v := nI 114) rfl ?_
                      obtain ⟨q21, h22, hf⟩ := p_bd hf
                      refine y_callS1 (pc := 227) dX12_wordOf_227 (c_X12_four (p_dd hd (by decide)) hW  h22) mk_X12_four mz_X12_four ml_X12_304 rfl rfl (Nat.le_of_ble_eq_true rfl) (p_d1 hd (by decide)) (Nat.le_of_ble_eq_true rfl) ?_
                      refine s_ldc2 (pc := 230) kl_X12_296 dX12_wordOf_230 ?_
                      refine s_lmul (pc := 233) dX12_wordOf_233 ?_
                      refine s_ldc2 (pc := 234) kl_X12_111 dX12_wordOf_234 ?_
                      refine s_ladd (pc := 237) dX12_wordOf_237 ?_
                      refine s_ldc2 (pc := 238) kl_X12_298 dX12_wordOf_238 ?_
                      refine s_lsub (pc := 241) dX12_wordOf_241 ?_
                      refine x_lcmp_ne (pc := 242) (tgt := 249) dX12_wordOf_242 dX12_wordOf_243 rfl (fun hc => ?_) (fun hc => ?_)
                      · replace hf := p_ng hf hc
                        refine s_lload_n (pc := 249) dX12_wordOf_249 0 rfl rfl ?_
                        refine s_bipush (pc := 250) dX12_wordOf_250 (v := nI 98) rfl ?_
                        refine s_bipush (pc := 252) dX12_wordOf_252 (v := nI 97) rfl ?_
                        refine s_bipush (pc := 254) dX12_wordOf_254 (v := nI 114) rfl ?_
                        obtain ⟨q23, h24, hf⟩ := p_bd hf
                        refine y_callS1 (pc := 256) dX12_wordOf_256 (c_X12_three (p_dd hd (by decide)) hW  h24) mk_X12_three mz_X12_three ml_X12_300 rfl rfl (Nat.le_of_ble_eq_true rfl) (p_d1 hd (by decide)) (Nat.le_of_ble_eq_true rfl) ?_
                        refine x_lcmp_ne (pc := 259) (tgt := 266) dX12_wordOf_259 dX12_wordOf_260 rfl (fun hc => ?_) (fun hc => ?_)
                        · replace hf := p_ng hf hc
                          refine s_lload_n (pc := 266) dX12_wordOf_266 0 rfl rfl ?_
                          refine s_bipush (pc := 267) dX12_wordOf_267 (v := nI 109) rfl ?_
                          refine s_bipush (pc := 269) dX12_wordOf_269 (v := nI 97) rfl ?_
                          refine s_bipush (pc := 271) dX12_wordOf_271 (v := nI 121) rfl ?_
                          obtain ⟨q25, h26, hf⟩ := p_bd hf
                          refine y_callS1 (pc := 273) dX12_wordOf_273 (c_X12_three (p_dd hd (by decide)) hW  h26) mk_X12_three mz_X12_three ml_X12_300 rfl rfl (Nat.le_of_ble_eq_true rfl) (p_d1 hd (by decide)) (Nat.le_of_ble_eq_true rfl) ?_
                          refine x_lcmp_ne (pc := 276) (tgt := 283) dX12_wordOf_276 dX12_wordOf_277 rfl (fun hc => ?_) (fun hc => ?_)
                          · replace hf := p_ng hf hc
                            refine s_lload_n (pc := 283) dX12_wordOf_283 0 rfl rfl ?_
                            refine s_ldc2 (pc := 284) kl_X12_318 dX12_wordOf_284 ?_
                            refine x_lcmp_ne (pc := 287) (tgt := 294) dX12_wordOf_287 dX12_wordOf_288 rfl (fun hc => ?_) (fun hc => ?_)
                            · replace hf := p_ng hf hc
                              refine s_lload_n (pc := 294) dX12_wordOf_294 0 rfl rfl ?_
                              refine s_bipush (pc := 295) dX12_wordOf_295 (v := nI 97) rfl ?_
                              refine s_bipush (pc := 297) dX12_wordOf_297 (v := nI 110) rfl ?_
                              refine s_bipush (pc := 299) dX12_wordOf_299 (v := nI 100) rfl ?_
                              obtain ⟨q27, h28, hf⟩ := p_bd hf
                              refine y_callS1 (pc := 301) dX12_wordOf_301 (c_X12_three (p_dd hd (by decide)) hW  h28) mk_X12_three mz_X12_three ml_X12_300 rfl rfl (Nat.le_of_ble_eq_true rfl) (p_d1 hd (by decide)) (Nat.le_of_ble_eq_true rfl) ?_
                              refine x_lcmp_ne (pc := 304) (tgt := 311) dX12_wordOf_304 dX12_wordOf_305 rfl (fun hc => ?_) (fun hc => ?_)
                              · replace hf := p_ng hf hc
                                refine s_lload_n (pc := 311) dX12_wordOf_311 0 rfl rfl ?_
                                refine s_bipush (pc := 312) dX12_wordOf_312 (v := nI 110) rfl ?_
                                refine s_bipush (pc := 314) dX12_wordOf_314 (v := nI 111) rfl ?_
                                refine s_bipush (pc := 316) dX12_wordOf_316 (v := nI 116) rfl ?_
                                obtain ⟨q29, h30, hf⟩ := p_bd hf
                                refine y_callS1 (pc := 318) dX12_wordOf_318 (c_X12_three (p_dd hd (by decide)) hW  h30) mk_X12_three mz_X12_three ml_X12_300 rfl rfl (Nat.le_of_ble_eq_true rfl) (p_d1 hd (by decide)) (Nat.le_of_ble_eq_true rfl) ?_
                                refine x_lcmp_ne (pc := 321) (tgt := 328) dX12_wordOf_321 dX12_wordOf_322 rfl (fun hc => ?_) (fun hc => ?_)
                                · replace hf := p_ng hf hc
                                  refine s_bipush (pc := 328) dX12_wordOf_328 (v := nI 99) rfl ?_
                                  cases hf
                                  exact s_ireturn (pc := 330) dX12_wordOf_330 rfl rfl ⟨rfl, rfl, rfl, rfl, rfl⟩
                                · replace hf := p_ps hf hc
                                  refine s_bipush (pc := 325) dX12_wordOf_325 (v := nI 32) rfl ?_
                                  cases hf
                                  exact s_ireturn (pc := 327) dX12_wordOf_327 rfl rfl ⟨rfl, rfl, rfl, rfl, rfl⟩
                              · replace hf := p_ps hf hc
                                refine s_bipush (pc := 308) dX12_wordOf_308 (v := nI 31) rfl ?_
                                cases hf
                                exact s_ireturn (pc := 310) dX12_wordOf_310 rfl rfl ⟨rfl, rfl, rfl, rfl, rfl⟩
                            · replace hf := p_ps hf hc
                              refine s_bipush (pc := 291) dX12_wordOf_291 (v := nI 30) rfl ?_
                              cases hf
                              exact s_ireturn (pc := 293) dX12_wordOf_293 rfl rfl ⟨rfl, rfl, rfl, rfl, rfl⟩
                          · replace hf := p_ps hf hc
                            refine s_bipush (pc := 280) dX12_wordOf_280 (v := nI 21) rfl ?_
                            cases hf
                            exact s_ireturn (pc := 282) dX12_wordOf_282 rfl rfl ⟨rfl, rfl, rfl, rfl, rfl⟩
                        · replace hf := p_ps hf hc
                          refine s_bipush (pc := 263) dX12_wordOf_263 (v := nI 20) rfl ?_
                          cases hf
                          exact s_ireturn (pc := 265) dX12_wordOf_265 rfl rfl ⟨rfl, rfl, rfl, rfl, rfl⟩
                      · replace hf := p_ps hf hc
                        refine s_bipush (pc := 246) dX12_wordOf_246 (v := nI 16) rfl ?_
                        cases hf
                        exact s_ireturn (pc := 248) dX12_wordOf_248 rfl rfl ⟨rfl, rfl, rfl, rfl, rfl⟩
                    · replace hf := p_ps hf hc
                      refine s_bipush (pc := 215) dX12_wordOf_215 (v := nI 15) rfl ?_
                      cases hf
                      exact s_ireturn (pc := 217) dX12_wordOf_217 rfl rfl ⟨rfl, rfl, rfl, rfl, rfl⟩
                  · replace hf := p_ps hf hc
                    refine s_bipush (pc := 196) dX12_wordOf_196 (v := nI 14) rfl ?_
                    cases hf
                    exact s_ireturn (pc := 198) dX12_wordOf_198 rfl rfl ⟨rfl, rfl, rfl, rfl, rfl⟩
                · replace hf := p_ps hf hc
                  refine s_bipush (pc := 185) dX12_wordOf_185 (v := nI 13) rfl ?_
                  cases hf
                  exact s_ireturn (pc := 187) dX12_wordOf_187 rfl rfl ⟨rfl, rfl, rfl, rfl, rfl⟩
              · replace hf := p_ps hf hc
                refine s_bipush (pc := 174) dX12_wordOf_174 (v := nI 12) rfl ?_
                cases hf
                exact s_ireturn (pc := 176) dX12_wordOf_176 rfl rfl ⟨rfl, rfl, rfl, rfl, rfl⟩
            · replace hf := p_ps hf hc
              refine s_bipush (pc := 143) dX12_wordOf_143 (v := nI 11) rfl ?_
              cases hf
              exact s_ireturn (pc := 145) dX12_wordOf_145 rfl rfl ⟨rfl, rfl, rfl, rfl, rfl⟩
          · replace hf := p_ps hf hc
            refine s_bipush (pc := 112) dX12_wordOf_112 (v := nI 10) rfl ?_
            cases hf
            exact s_ireturn (pc := 114) dX12_wordOf_114 rfl rfl ⟨rfl, rfl, rfl, rfl, rfl⟩
        · replace hf := p_ps hf hc
          refine s_iconst (pc := 82) dX12_wordOf_82 (v := nI 4) rfl ?_
          cases hf
          exact s_ireturn (pc := 83) dX12_wordOf_83 rfl rfl ⟨rfl, rfl, rfl, rfl, rfl⟩
      · replace hf := p_ps hf hc
        refine s_iconst (pc := 64) dX12_wordOf_64 (v := nI 3) rfl ?_
        cases hf
        exact s_ireturn (pc := 65) dX12_wordOf_65 rfl rfl ⟨rfl, rfl, rfl, rfl, rfl⟩
    · replace hf := p_ps hf hc
      refine s_iconst (pc := 46) dX12_wordOf_46 (v := nI 2) rfl ?_
      cases hf
      exact s_ireturn (pc := 47) dX12_wordOf_47 rfl rfl ⟨rfl, rfl, rfl, rfl, rfl⟩
  · replace hf := p_ps hf hc
    refine s_iconst (pc := 16) dX12_wordOf_16 (v := nI 1) rfl ?_
    cases hf
    exact s_ireturn (pc := 17) dX12_wordOf_17 rfl rfl ⟨rfl, rfl, rfl, rfl, rfl⟩
