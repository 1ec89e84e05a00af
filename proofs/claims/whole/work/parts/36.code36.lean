def B_X12_lineOf_2 (n : Nat) (N : pN) (P : pR) (a0 : Nat) (x1 : Int32) (x2 : Int32) (rec0 : (Int32 × pI × pL) → Option (Int32 × pI × pL)) (s0 : Int32 × pI × pL) : Option (Int32 × pI × pL) :=
  Option.bind (P a0 0) fun q1 =>
  p_ck (p_ib N q1 6) <|
  (if (s0.2.1 q1 (Int32.toNatClampNeg 6)) ≤ s0.1 then
    some ((-1), s0.2.1, s0.2.2)
  else
    Option.bind (f_X12_holds n N s0.2.1 s0.2.2 P a0 (340 + (20 * s0.1)) x1 x2) fun q5 =>
    (if q5.1 = 0 then
      rec0 (s0.1 + 1, q5.2.1, q5.2.2)
    else
      some (s0.1, q5.2.1, q5.2.2)))
def f_X12_lineOf (n : Nat) (N : pN) (I : pI) (L : pL) (P : pR) (a0 : Nat) (x1 : Int32) (x2 : Int32) : Option (Int32 × pI × pL) :=
  p_it (B_X12_lineOf_2 n N P a0 x1 x2) n (0, I, L)
theorem c_X12_lineOf {G : pG} {d : Nat} {n : Nat} {N : pN} {I : pI} {L : pL} {P : pR} {a0 : Nat} {x1 : Int32} {x2 : Int32} {qq : Int32 × pI × pL} (hd : 11 ≤ d) (hW : WT N P) (ha0 : p_tp N a0 15) (hf : f_X12_lineOf n N I L P a0 x1 x2 = some qq) : MT G mX12_lineOf d 0 0 [.ref a0, .int x1, .int x2] N I L P (p_R (some (.int qq.1)) N qq.2.1 qq.2.2 P) := by
  refine MT.of rfl (Nat.le_of_ble_eq_true rfl) ?_
  show SW G mX12_lineOf (p_rm d 0 0) 0 0 0 0 (p_R (some (.int qq.1)) N qq.2.1 qq.2.2 P) 0 [(0, .ref a0), (1, .int x1), (2, .int x2)] [] N I L P
  unfold f_X12_lineOf at hf
  refine s_iconst (pc := 0) dX12_lineOf_0 (v := 0) rfl ?_
  refine s_istore_n (pc := 1) (lo' := [(3, .int 0), (0, .ref a0), (1, .int x1), (2, .int x2)]) dX12_lineOf_1 rfl (Nat.le_of_ble_eq_true rfl) rfl ?_
  have k7 : ∀ (k : Nat) (s0 : Int32 × pI × pL), p_it (B_X12_lineOf_2 n N P a0 x1 x2) k s0 = some qq → (SW G mX12_lineOf (p_rm d 0 0) 0 0 0 0 (p_R (some (.int qq.1)) N qq.2.1 qq.2.2 P) 2 [(0, .ref a0), (1, .int x1), (2, .int x2), (3, .int s0.1)] [] N s0.2.1 s0.2.2 P) := p_it_ind (C := fun (s0 : Int32 × pI × pL) => SW G mX12_lineOf (p_rm d 0 0) 0 0 0 0 (p_R (some (.int qq.1)) N qq.2.1 qq.2.2 P) 2 [(0, .ref a0), (1, .int x1), (2, .int x2), (3, .int s0.1)] [] N s0.2.1 s0.2.2 P) (by
    intro rec0 hrec0 s0 hf
    unfold B_X12_lineOf_2 at hf
    refine s_iload_n (pc := 2) dX12_lineOf_2 3 rfl rfl ?_
    refine s_aload_n (pc := 3) dX12_lineOf_3 0 rfl rfl ?_
    obtain ⟨q8, h9, hf⟩ := p_bd hf
    have t10 : p_tp N q8 0 := WT.get hW ha0 h9
    refine x_getR (pc := 4) dX12_lineOf_4 fl_X12_7 rfl ha0 h9 ?_
    refine s_bipush (pc := 7) dX12_lineOf_7 (v := 6) rfl ?_
    obtain ⟨c11, hf⟩ := p_ckx hf
    refine x_iald (pc := 9) dX12_lineOf_9 t10 c11 ?_
    refine s_icmp_ge (pc := 10) (tgt := 38) dX12_lineOf_10 rfl (fun hc => ?_) (fun hc => ?_)
    · replace hf := p_ps hf hc
      refine s_iconst (pc := 38) dX12_lineOf_38 (v := -1) rfl ?_
      cases hf
      exact s_ireturn (pc := 39) dX12_lineOf_39 rfl rfl ⟨rfl, rfl, rfl, rfl, rfl⟩
    · replace hf := p_ng hf hc
      refine s_aload_n (pc := 13) dX12_lineOf_13 0 rfl rfl ?_
      refine s_sipush (pc := 14) dX12_lineOf_14 (v := 340) rfl ?_
      refine s_bipush (pc := 17) dX12_lineOf_17 (v := 20) rfl ?_
      refine s_iload_n (pc := 19) dX12_lineOf_19 3 rfl rfl ?_
      refine s_imul (pc := 20) dX12_lineOf_20 ?_
      refine s_iadd (pc := 21) dX12_lineOf_21 ?_
      refine s_iload_n (pc := 22) dX12_lineOf_22 1 rfl rfl ?_
      refine s_iload_n (pc := 23) dX12_lineOf_23 2 rfl rfl ?_
      obtain ⟨q12, h13, hf⟩ := p_bd hf
      refine y_callV1 (pc := 24) dX12_lineOf_24 (c_X12_holds (p_dd hd (by decide)) hW ha0 h13) mk_X12_holds mv_X12_holds ml_X12_414 rfl rfl (Nat.le_of_ble_eq_true rfl) ha0 rfl (p_d1 hd (by decide)) (Nat.le_of_ble_eq_true rfl) ?_
      refine s_if_eq (pc := 27) (tgt := 32) dX12_lineOf_27 rfl (fun hc => ?_) (fun hc => ?_)
      · replace hf := p_ps hf hc
        refine s_iinc (pc := 32) (lo' := [(3, .int (s0.1 + 1)), (0, .ref a0), (1, .int x1), (2, .int x2)]) dX12_lineOf_32 3 rfl (v := s0.1 + 1) rfl (Nat.le_of_ble_eq_true rfl) rfl ?_
        refine s_goto (pc := 35) (tgt := 2) dX12_lineOf_35 rfl ?_
        exact s_lo [1, 2, 3, 0] rfl (hrec0 (s0.1 + 1, q12.2.1, q12.2.2) hf)
      · replace hf := p_ng hf hc
        refine s_iload_n (pc := 30) dX12_lineOf_30 3 rfl rfl ?_
        cases hf
        exact s_ireturn (pc := 31) dX12_lineOf_31 rfl rfl ⟨rfl, rfl, rfl, rfl, rfl⟩)
  exact s_lo [1, 2, 3, 0] rfl (k7 n (0, I, L) hf)
def f_X12_why (n : Nat) (N : pN) (I : pI) (L : pL) (P : pR) (a0 : Nat) (x1 : Int32) (x2 : Int32) : Option (Int32 × pI × pL) :=
  Option.bind (f_X12_seesSender N I P a0 x1) fun q1 =>
  (if q1 = 0 then
    some ((-1), I, L)
  else
    Option.bind (f_X12_isIn x2 0 23) fun q3 =>
    (if q3 = 0 then
      some ((-1), I, L)
    else
      Option.bind (f_X12_lineOf n N I L P a0 x1 x2) fun q5 =>
      some (q5.1, q5.2.1, q5.2.2)))
theorem c_X12_why {G : pG} {d : Nat} {n : Nat} {N : pN} {I : pI} {L : pL} {P : pR} {a0 : Nat} {x1 : Int32} {x2 : Int32} {qq : Int32 × pI × pL} (hd : 12 ≤ d) (hW : WT N P) (ha0 : p_tp N a0 15) (hf : f_X12_why n N I L P a0 x1 x2 = some qq) : MT G mX12_why d 0 0 [.ref a0, .int x1, .int x2] N I L P (p_R (some (.int qq.1)) N qq.2.1 qq.2.2 P) := by
  refine MT.of rfl (Nat.le_of_ble_eq_true rfl) ?_
  show SW G mX12_why (p_rm d 0 0) 0 0 0 0 (p_R (some (.int qq.1)) N qq.2.1 qq.2.2 P) 0 [(0, .ref a0), (1, .int x1), (2, .int x2)] [] N I L P
  unfold f_X12_why at hf
  refine s_aload_n (pc := 0) dX12_why_0 0 rfl rfl ?_
  refine s_iload_n (pc := 1) dX12_why_1 1 rfl rfl ?_
  obtain ⟨q1, h2, hf⟩ := p_bd hf
  refine y_callV1 (pc := 2) dX12_why_2 (c_X12_seesSender (p_dd hd (by decide)) hW ha0 h2) mk_X12_seesSender mv_X12_seesSender ml_X12_215 rfl rfl (Nat.le_of_ble_eq_true rfl) ha0 rfl (p_d1 hd (by decide)) (Nat.le_of_ble_eq_true rfl) ?_
  refine s_if_eq (pc := 5) (tgt := 27) dX12_why_5 rfl (fun hc => ?_) (fun hc => ?_)
  · replace hf := p_ps hf hc
    refine s_iconst (pc := 27) dX12_why_27 (v := -1) rfl ?_
    cases hf
    exact s_ireturn (pc := 28) dX12_why_28 rfl rfl ⟨rfl, rfl, rfl, rfl, rfl⟩
  · replace hf := p_ng hf hc
    refine s_iload_n (pc := 8) dX12_why_8 2 rfl rfl ?_
    refine s_iconst (pc := 9) dX12_why_9 (v := 0) rfl ?_
    refine s_bipush (pc := 10) dX12_why_10 (v := 23) rfl ?_
    obtain ⟨q3, h4, hf⟩ := p_bd hf
    refine y_callS1 (pc := 12) dX12_why_12 (c_X12_isIn (p_dd hd (by decide)) hW  h4) mk_X12_isIn mz_X12_isIn ml_X12_68 rfl rfl (Nat.le_of_ble_eq_true rfl) (p_d1 hd (by decide)) (Nat.le_of_ble_eq_true rfl) ?_
    refine s_if_eq (pc := 15) (tgt := 27) dX12_why_15 rfl (fun hc => ?_) (fun hc => ?_)
    · replace hf := p_ps hf hc
      refine s_iconst (pc := 27) dX12_why_27 (v := -1) rfl ?_
      cases hf
      exact s_ireturn (pc := 28) dX12_why_28 rfl rfl ⟨rfl, rfl, rfl, rfl, rfl⟩
    · replace hf := p_ng hf hc
      refine s_aload_n (pc := 18) dX12_why_18 0 rfl rfl ?_
      refine s_iload_n (pc := 19) dX12_why_19 1 rfl rfl ?_
      refine s_iload_n (pc := 20) dX12_why_20 2 rfl rfl ?_
      obtain ⟨q5, h6, hf⟩ := p_bd hf
      refine y_callV1 (pc := 21) dX12_why_21 (c_X12_lineOf (p_dd hd (by decide)) hW ha0 h6) mk_X12_lineOf mv_X12_lineOf ml_X12_417 rfl rfl (Nat.le_of_ble_eq_true rfl) ha0 rfl (p_d1 hd (by decide)) (Nat.le_of_ble_eq_true rfl) ?_
      refine s_goto (pc := 24) (tgt := 28) dX12_why_24 rfl ?_
      cases hf
      exact s_ireturn (pc := 28) dX12_why_28 rfl rfl ⟨rfl, rfl, rfl, rfl, rfl⟩
def B_X12_breach_19 (n : Nat) (N : pN) (P : pR) (rec0 : (Int32 × pI × pL) → Option (Int32 × pI × pL)) (a0 : Nat) (x1 : Int32) (x2 : Int32) (rec1 : (Int32 × pI × pL) → Option (Int32 × pI × pL)) (s1 : Int32 × pI × pL) : Option (Int32 × pI × pL) :=
  Option.bind (P a0 0) fun q3 =>
  p_ck (p_ib N q3 1) <|
  (if (s1.2.1 q3 (Int32.toNatClampNeg 1)) ≤ s1.1 then
    rec0 (x2 + 1, s1.2.1, s1.2.2)
  else
    Option.bind (f_X12_seesSender N s1.2.1 P a0 s1.1) fun q7 =>
    (if q7 = 0 then
      rec1 (s1.1 + 1, s1.2.1, s1.2.2)
    else
      Option.bind (f_X12_lineOf n N s1.2.1 s1.2.2 P a0 s1.1 x2) fun q9 =>
      (if q9.1 < 0 then
        rec1 (s1.1 + 1, q9.2.1, q9.2.2)
      else
        Option.bind (P a0 0) fun q11 =>
        p_ck (p_ib N q11 ((340 + (20 * q9.1)) + 17)) <|
        (if (q9.2.1 q11 (Int32.toNatClampNeg ((340 + (20 * q9.1)) + 17))) = 20 then
          (if x1 = 0 then
            some (x2, q9.2.1, q9.2.2)
          else
            some (s1.1, q9.2.1, q9.2.2))
        else
          rec1 (s1.1 + 1, q9.2.1, q9.2.2)))))
def B_X12_breach_2 (n : Nat) (N : pN) (P : pR) (a0 : Nat) (x1 : Int32) (rec0 : (Int32 × pI × pL) → Option (Int32 × pI × pL)) (s0 : Int32 × pI × pL) : Option (Int32 × pI × pL) :=
  (if 24 ≤ s0.1 then
    some ((-1), s0.2.1, s0.2.2)
  else
    Option.bind (f_X12_isIn x1 0 1) fun q1 =>
    (if q1 = 0 then
      some ((-1), s0.2.1, s0.2.2)
    else
      p_it (B_X12_breach_19 n N P rec0 a0 x1 s0.1) n (0, s0.2.1, s0.2.2)))
def f_X12_breach (n : Nat) (N : pN) (I : pI) (L : pL) (P : pR) (a0 : Nat) (x1 : Int32) : Option (Int32 × pI × pL) :=
  p_it (B_X12_breach_2 n N P a0 x1) n (0, I, L)
theorem c_X12_breach {G : pG} {d : Nat} {n : Nat} {N : pN} {I : pI} {L : pL} {P : pR} {a0 : Nat} {x1 : Int32} {qq : Int32 × pI × pL} (hd : 12 ≤ d) (hW : WT N P) (ha0 : p_tp N a0 15) (hf : f_X12_breach n N I L P a0 x1 = some qq) : MT G mX12_breach d 0 0 [.ref a0, .int x1] N I L P (p_R (some (.int qq.1)) N qq.2.1 qq.2.2 P) := by
  refine MT.of rfl (Nat.le_of_ble_eq_true rfl) ?_
  show SW G mX12_breach (p_rm d 0 0) 0 0 0 0 (p_R (some (.int qq.1)) N qq.2.1 qq.2.2 P) 0 [(0, .ref a0), (1, .int x1)] [] N I L P
  unfold f_X12_breach at hf
  refine s_iconst (pc := 0) dX12_breach_0 (v := 0) rfl ?_
  refine s_istore_n (pc := 1) (lo' := [(2, .int 0), (0, .ref a0), (1, .int x1)]) dX12_breach_1 rfl (Nat.le_of_ble_eq_true rfl) rfl ?_
  have k28 : ∀ (k : Nat) (s0 : Int32 × pI × pL), p_it (B_X12_breach_2 n N P a0 x1) k s0 = some qq → (SW G mX12_breach (p_rm d 0 0) 0 0 0 0 (p_R (some (.int qq.1)) N qq.2.1 qq.2.2 P) 2 [(0, .ref a0), (1, .int x1), (2, .int s0.1)] [] N s0.2.1 s0.2.2 P) := p_it_ind (C := fun (s0 : Int32 × pI × pL) => SW G mX12_breach (p_rm d 0 0) 0 0 0 0 (p_R (some (.int qq.1)) N qq.2.1 qq.2.2 P) 2 [(0, .ref a0), (1, .int x1), (2, .int s0.1)] [] N s0.2.1 s0.2.2 P) (by
    intro rec0 hrec0 s0 hf
    unfold B_X12_breach_2 at hf
    refine s_iload_n (pc := 2) dX12_breach_2 2 rfl rfl ?_
    refine s_bipush (pc := 3) dX12_breach_3 (v := 24) rfl ?_
    refine s_icmp_ge (pc := 5) (tgt := 97) dX12_breach_5 rfl (fun hc => ?_) (fun hc => ?_)
    · replace hf := p_ps hf hc
      refine s_iconst (pc := 97) dX12_breach_97 (v := -1) rfl ?_
      cases hf
      exact s_ireturn (pc := 98) dX12_breach_98 rfl rfl ⟨rfl, rfl, rfl, rfl, rfl⟩
    · replace hf := p_ng hf hc
      refine s_iload_n (pc := 8) dX12_breach_8 1 rfl rfl ?_
      refine s_iconst (pc := 9) dX12_breach_9 (v := 0) rfl ?_
      refine s_iconst (pc := 10) dX12_breach_10 (v := 1) rfl ?_
      obtain ⟨q29, h30, hf⟩ := p_bd hf
      refine y_callS1 (pc := 11) dX12_breach_11 (c_X12_isIn (p_dd hd (by decide)) hW  h30) mk_X12_isIn mz_X12_isIn ml_X12_68 rfl rfl (Nat.le_of_ble_eq_true rfl) (p_d1 hd (by decide)) (Nat.le_of_ble_eq_true rfl) ?_
      refine s_if_eq (pc := 14) (tgt := 97) dX12_breach_14 rfl (fun hc => ?_) (fun hc => ?_)
      · replace hf := p_ps hf hc
        refine s_iconst (pc := 97) dX12_breach_97 (v := -1) rfl ?_
        cases hf
        exact s_ireturn (pc := 98) dX12_breach_98 rfl rfl ⟨rfl, rfl, rfl, rfl, rfl⟩
      · replace hf := p_ng hf hc
        refine s_iconst (pc := 17) dX12_breach_17 (v := 0) rfl ?_
        refine s_istore_n (pc := 18) (lo' := [(3, .int 0), (0, .ref a0), (1, .int x1), (2, .int s0.1)]) dX12_breach_18 rfl (Nat.le_of_ble_eq_true rfl) rfl ?_
        have k31 : ∀ (k : Nat) (s1 : Int32 × pI × pL), p_it (B_X12_breach_19 n N P rec0 a0 x1 s0.1) k s1 = some qq → (SW G mX12_breach (p_rm d 0 0) 0 0 0 0 (p_R (some (.int qq.1)) N qq.2.1 qq.2.2 P) 19 [(0, .ref a0), (1, .int x1), (2, .int s0.1), (3, .int s1.1)] [] N s1.2.1 s1.2.2 P) := p_it_ind (C := fun (s1 : Int32 × pI × pL) => SW G mX12_breach (p_rm d 0 0) 0 0 0 0 (p_R (some (.int qq.1)) N qq.2.1 qq.2.2 P) 19 [(0, .ref a0), (1, .int x1), (2, .int s0.1), (3, .int s1.1)] [] N s1.2.1 s1.2.2 P) (by
          intro rec1 hrec1 s1 hf
          unfold B_X12_breach_19 at hf
          refine s_iload_n (pc := 19) dX12_breach_19 3 rfl rfl ?_
          refine s_aload_n (pc := 20) dX12_breach_20 0 rfl rfl ?_
          obtain ⟨q32, h33, hf⟩ := p_bd hf
          have t34 : p_tp N q32 0 := WT.get hW ha0 h33
          refine x_getR (pc := 21) dX12_breach_21 fl_X12_7 rfl ha0 h33 ?_
          refine s_iconst (pc := 24) dX12_breach_24 (v := 1) rfl ?_
          obtain ⟨c35, hf⟩ := p_ckx hf
          refine x_iald (pc := 25) dX12_breach_25 t34 c35 ?_
          refine s_icmp_ge (pc := 26) (tgt := 91) dX12_breach_26 rfl (fun hc => ?_) (fun hc => ?_)
          · replace hf := p_ps hf hc
            refine s_iinc (pc := 91) (lo' := [(2, .int (s0.1 + 1)), (0, .ref a0), (1, .int x1), (3, .int s1.1)]) dX12_breach_91 2 rfl (v := s0.1 + 1) rfl (Nat.le_of_ble_eq_true rfl) rfl ?_
            refine s_goto (pc := 94) (tgt := 2) dX12_breach_94 rfl ?_
            exact s_lo [1, 2, 0] rfl (hrec0 (s0.1 + 1, s1.2.1, s1.2.2) hf)
          · replace hf := p_ng hf hc
            refine s_aload_n (pc := 29) dX12_breach_29 0 rfl rfl ?_
            refine s_iload_n (pc := 30) dX12_breach_30 3 rfl rfl ?_
            obtain ⟨q36, h37, hf⟩ := p_bd hf
            refine y_callV1 (pc := 31) dX12_breach_31 (c_X12_seesSender (p_dd hd (by decide)) hW ha0 h37) mk_X12_seesSender mv_X12_seesSender ml_X12_215 rfl rfl (Nat.le_of_ble_eq_true rfl) ha0 rfl (p_d1 hd (by decide)) (Nat.le_of_ble_eq_true rfl) ?_
            refine s_if_ne (pc := 34) (tgt := 40) dX12_breach_34 rfl (fun hc => ?_) (fun hc => ?_)
            · replace hf := p_ng hf hc
              refine s_aload_n (pc := 40) dX12_breach_40 0 rfl rfl ?_
              refine s_iload_n (pc := 41) dX12_breach_41 3 rfl rfl ?_
              refine s_iload_n (pc := 42) dX12_breach_42 2 rfl rfl ?_
              obtain ⟨q38, h39, hf⟩ := p_bd hf
              refine y_callV1 (pc := 43) dX12_breach_43 (c_X12_lineOf (p_dd hd (by decide)) hW ha0 h39) mk_X12_lineOf mv_X12_lineOf ml_X12_417 rfl rfl (Nat.le_of_ble_eq_true rfl) ha0 rfl (p_d1 hd (by decide)) (Nat.le_of_ble_eq_true rfl) ?_
              refine s_istore (pc := 46) (lo' := [(4, .int q38.1), (0, .ref a0), (1, .int x1), (2, .int s0.1), (3, .int s1.1)]) dX12_breach_46 (Nat.le_of_ble_eq_true rfl) rfl ?_
              refine s_iload (pc := 48) dX12_breach_48 0 rfl ?_
              refine s_if_lt (pc := 50) (tgt := 85) dX12_breach_50 rfl (fun hc => ?_) (fun hc => ?_)
              · replace hf := p_ps hf hc
                refine s_iinc (pc := 85) (lo' := [(3, .int (s1.1 + 1)), (4, .int q38.1), (0, .ref a0), (1, .int x1), (2, .int s0.1)]) dX12_breach_85 4 rfl (v := s1.1 + 1) rfl (Nat.le_of_ble_eq_true rfl) rfl ?_
                refine s_goto (pc := 88) (tgt := 19) dX12_breach_88 rfl ?_
                exact s_lo [2, 3, 4, 0] rfl (hrec1 (s1.1 + 1, q38.2.1, q38.2.2) hf)
              · replace hf := p_ng hf hc
                refine s_aload_n (pc := 53) dX12_breach_53 1 rfl rfl ?_
                obtain ⟨q40, h41, hf⟩ := p_bd hf
                have t42 : p_tp N q40 0 := WT.get hW ha0 h41
                refine x_getR (pc := 54) dX12_breach_54 fl_X12_7 rfl ha0 h41 ?_
                refine s_sipush (pc := 57) dX12_breach_57 (v := 340) rfl ?_
                refine s_bipush (pc := 60) dX12_breach_60 (v := 20) rfl ?_
                refine s_iload (pc := 62) dX12_breach_62 0 rfl ?_
                refine s_imul (pc := 64) dX12_breach_64 ?_
                refine s_iadd (pc := 65) dX12_breach_65 ?_
                refine s_bipush (pc := 66) dX12_breach_66 (v := 17) rfl ?_
                refine s_iadd (pc := 68) dX12_breach_68 ?_
                obtain ⟨c43, hf⟩ := p_ckx hf
                refine x_iald (pc := 69) dX12_breach_69 t42 c43 ?_
                refine s_bipush (pc := 70) dX12_breach_70 (v := 20) rfl ?_
                refine s_icmp_ne (pc := 72) (tgt := 85) dX12_breach_72 rfl (fun hc => ?_) (fun hc => ?_)
                · replace hf := p_ng hf hc
                  refine s_iinc (pc := 85) (lo' := [(3, .int (s1.1 + 1)), (4, .int q38.1), (0, .ref a0), (1, .int x1), (2, .int s0.1)]) dX12_breach_85 4 rfl (v := s1.1 + 1) rfl (Nat.le_of_ble_eq_true rfl) rfl ?_
                  refine s_goto (pc := 88) (tgt := 19) dX12_breach_88 rfl ?_
                  exact s_lo [2, 3, 4, 0] rfl (hrec1 (s1.1 + 1, q38.2.1, q38.2.2) hf)
                · replace hf := p_ps hf hc
                  refine s_iload_n (pc := 75) dX12_breach_75 2 rfl rfl ?_
                  refine s_if_ne (pc := 76) (tgt := 83) dX12_breach_76 rfl (fun hc => ?_) (fun hc => ?_)
                  · replace hf := p_ng hf hc
                    refine s_iload_n (pc := 83) dX12_breach_83 4 rfl rfl ?_
                    cases hf
                    exact s_ireturn (pc := 84) dX12_breach_84 rfl rfl ⟨rfl, rfl, rfl, rfl, rfl⟩
                  · replace hf := p_ps hf hc
                    refine s_iload_n (pc := 79) dX12_breach_79 3 rfl rfl ?_
                    refine s_goto (pc := 80) (tgt := 84) dX12_breach_80 rfl ?_
                    cases hf
                    exact s_ireturn (pc := 84) dX12_breach_84 rfl rfl ⟨rfl, rfl, rfl, rfl, rfl⟩
            · replace hf := p_ps hf hc
              refine s_goto (pc := 37) (tgt := 85) dX12_breach_37 rfl ?_
              refine s_iinc (pc := 85) (lo' := [(3, .int (s1.1 + 1)), (0, .ref a0), (1, .int x1), (2, .int s0.1)]) dX12_breach_85 3 rfl (v := s1.1 + 1) rfl (Nat.le_of_ble_eq_true rfl) rfl ?_
              refine s_goto (pc := 88) (tgt := 19) dX12_breach_88 rfl ?_
              exact s_lo [1, 2, 3, 0] rfl (hrec1 (s1.1 + 1, s1.2.1, s1.2.2) hf))
        exact s_lo [1, 2, 3, 0] rfl (k31 n (0, s0.2.1, s0.2.2) hf))
  exact s_lo [1, 2, 0] rfl (k28 n (0, I, L) hf)
def f_X12_day (n : Nat) (N : pN) (I : pI) (P : pR) (a0 : Nat) (x1 : Int32) : Option (Int32 × pI) :=
  Option.bind (P a0 0) fun q1 =>
  p_ck (p_ib N q1 4) <|
  Option.bind (f_X12_isIn x1 (I q1 (Int32.toNatClampNeg 4)) 999) fun q5 =>
  (if q5 = 0 then
    some (0, I)
  else
    Option.bind (P a0 0) fun q7 =>
    p_ck (p_ib N q7 4) <|
    p_let (p_u I q7 (Int32.toNatClampNeg 4) x1) fun I11 =>
    Option.bind (f_X12_forgets n N I11 P a0) fun q13 =>
    some (1, q13))
theorem c_X12_day {G : pG} {d : Nat} {n : Nat} {N : pN} {I : pI} {L : pL} {P : pR} {a0 : Nat} {x1 : Int32} {qq : Int32 × pI} (hd : 1 ≤ d) (hW : WT N P) (ha0 : p_tp N a0 15) (hf : f_X12_day n N I P a0 x1 = some qq) : MT G mX12_day d 0 0 [.ref a0, .int x1] N I L P (p_R (some (.int qq.1)) N qq.2 L P) := by
  refine MT.of rfl (Nat.le_of_ble_eq_true rfl) ?_
  show SW G mX12_day (p_rm d 0 0) 0 0 0 0 (p_R (some (.int qq.1)) N qq.2 L P) 0 [(0, .ref a0), (1, .int x1)] [] N I L P
  unfold f_X12_day at hf
  refine s_iload_n (pc := 0) dX12_day_0 1 rfl rfl ?_
  refine s_aload_n (pc := 1) dX12_day_1 0 rfl rfl ?_
  obtain ⟨q1, h2, hf⟩ := p_bd hf
  have t3 : p_tp N q1 0 := WT.get hW ha0 h2
  refine x_getR (pc := 2) dX12_day_2 fl_X12_7 rfl ha0 h2 ?_
  refine s_iconst (pc := 5) dX12_day_5 (v := 4) rfl ?_
  obtain ⟨c4, hf⟩ := p_ckx hf
  refine x_iald (pc := 6) dX12_day_6 t3 c4 ?_
  refine s_sipush (pc := 7) dX12_day_7 (v := 999) rfl ?_
  obtain ⟨q5, h6, hf⟩ := p_bd hf
  refine y_callS1 (pc := 10) dX12_day_10 (c_X12_isIn (p_dd hd (by decide)) hW  h6) mk_X12_isIn mz_X12_isIn ml_X12_68 rfl rfl (Nat.le_of_ble_eq_true rfl) (p_d1 hd (by decide)) (Nat.le_of_ble_eq_true rfl) ?_
  refine s_if_ne (pc := 13) (tgt := 18) dX12_day_13 rfl (fun hc => ?_) (fun hc => ?_)
  · replace hf := p_ng hf hc
    refine s_aload_n (pc := 18) dX12_day_18 0 rfl rfl ?_
    obtain ⟨q7, h8, hf⟩ := p_bd hf
    have t9 : p_tp N q7 0 := WT.get hW ha0 h8
    refine x_getR (pc := 19) dX12_day_19 fl_X12_7 rfl ha0 h8 ?_
    refine s_iconst (pc := 22) dX12_day_22 (v := 4) rfl ?_
    refine s_iload_n (pc := 23) dX12_day_23 1 rfl rfl ?_
    obtain ⟨c10, hf⟩ := p_ckx hf
    refine x_iast (pc := 24) dX12_day_24 t9 c10 ?_
    refine s_nmI (fun I11 e12 => ?_)
    replace hf := p_lx hf e12
    refine s_aload_n (pc := 25) dX12_day_25 0 rfl rfl ?_
    obtain ⟨q13, h14, hf⟩ := p_bd hf
    refine y_callV0 (pc := 26) dX12_day_26 (c_X12_forgets (p_dd hd (by decide)) hW ha0 h14) mk_X12_forgets mv_X12_forgets ml_X12_65 rfl rfl (Nat.le_of_ble_eq_true rfl) ha0 rfl (p_d1 hd (by decide)) (Nat.le_of_ble_eq_true rfl) ?_
    refine s_iconst (pc := 29) dX12_day_29 (v := 1) rfl ?_
    cases hf
    exact s_ireturn (pc := 30) dX12_day_30 rfl rfl ⟨rfl, rfl, rfl, rfl, rfl⟩
  · replace hf := p_ps hf hc
    refine s_iconst (pc := 16) dX12_day_16 (v := 0) rfl ?_
    cases hf
    exact s_ireturn (pc := 17) dX12_day_17 rfl rfl ⟨rfl, rfl, rfl, rfl, rfl⟩
def f_X12_view (n : Nat) (N : pN) (I : pI) (P : pR) (a0 : Nat) (x1 : Int32) : Option (Int32 × pI) :=
  (if x1 = (-1) then
    Option.bind (P a0 0) fun q1 =>
    p_ck (p_ib N q1 5) <|
    p_let (p_u I q1 (Int32.toNatClampNeg 5) x1) fun I5 =>
    Option.bind (f_X12_forgets n N I5 P a0) fun q7 =>
    some (1, q7)
  else
    Option.bind (P a0 0) fun q9 =>
    p_ck (p_ib N q9 4) <|
    Option.bind (f_X12_isIn x1 0 (I q9 (Int32.toNatClampNeg 4))) fun q13 =>
    (if q13 = 0 then
      some (0, I)
    else
      Option.bind (P a0 0) fun q15 =>
      p_ck (p_ib N q15 5) <|
      p_let (p_u I q15 (Int32.toNatClampNeg 5) x1) fun I19 =>
      Option.bind (f_X12_forgets n N I19 P a0) fun q21 =>
      some (1, q21)))
theorem c_X12_view {G : pG} {d : Nat} {n : Nat} {N : pN} {I : pI} {L : pL} {P : pR} {a0 : Nat} {x1 : Int32} {qq : Int32 × pI} (hd : 1 ≤ d) (hW : WT N P) (ha0 : p_tp N a0 15) (hf : f_X12_view n N I P a0 x1 = some qq) : MT G mX12_view d 0 0 [.ref a0, .int x1] N I L P (p_R (some (.int qq.1)) N qq.2 L P) := by
  refine MT.of rfl (Nat.le_of_ble_eq_true rfl) ?_
  show SW G mX12_view (p_rm d 0 0) 0 0 0 0 (p_R (some (.int qq.1)) N qq.2 L P) 0 [(0, .ref a0), (1, .int x1)] [] N I L P
  unfold f_X12_view at hf
  refine s_iload_n (pc := 0) dX12_view_0 1 rfl rfl ?_
  refine s_iconst (pc := 1) dX12_view_1 (v := -1) rfl ?_
  refine s_icmp_eq (pc := 2) (tgt := 21) dX12_view_2 rfl (fun hc => ?_) (fun hc => ?_)
  · replace hf := p_ps hf hc
    refine s_aload_n (pc := 21) dX12_view_21 0 rfl rfl ?_
    obtain ⟨q1, h2, hf⟩ := p_bd hf
    have t3 : p_tp N q1 0 := WT.get hW ha0 h2
    refine x_getR (pc := 22) dX12_view_22 fl_X12_7 rfl ha0 h2 ?_
    refine s_iconst (pc := 25) dX12_view_25 (v := 5) rfl ?_
    refine s_iload_n (pc := 26) dX12_view_26 1 rfl rfl ?_
    obtain ⟨c4, hf⟩ := p_ckx hf
    refine x_iast (pc := 27) dX12_view_27 t3 c4 ?_
    refine s_nmI (fun I5 e6 => ?_)
    replace hf := p_lx hf e6
    refine s_aload_n (pc := 28) dX12_view_28 0 rfl rfl ?_
    obtain ⟨q7, h8, hf⟩ := p_bd hf
    refine y_callV0 (pc := 29) dX12_view_29 (c_X12_forgets (p_dd hd (by decide)) hW ha0 h8) mk_X12_forgets mv_X12_forgets ml_X12_65 rfl rfl (Nat.le_of_ble_eq_true rfl) ha0 rfl (p_d1 hd (by decide)) (Nat.le_of_ble_eq_true rfl) ?_
    refine s_iconst (pc := 32) dX12_view_32 (v := 1) rfl ?_
    cases hf
    exact s_ireturn (pc := 33) dX12_view_33 rfl rfl ⟨rfl, rfl, rfl, rfl, rfl⟩
  · replace hf := p_ng hf hc
    refine s_iload_n (pc := 5) dX12_view_5 1 rfl rfl ?_
    refine s_iconst (pc := 6) dX12_view_6 (v := 0) rfl ?_
    refine s_aload_n (pc := 7) dX12_view_7 0 rfl rfl ?_
    obtain ⟨q9, h10, hf⟩ := p_bd hf
    have t11 : p_tp N q9 0 := WT.get hW ha0 h10
    refine x_getR (pc := 8) dX12_view_8 fl_X12_7 rfl ha0 h10 ?_
    refine s_iconst (pc := 11) dX12_view_11 (v := 4) rfl ?_
    obtain ⟨c12, hf⟩ := p_ckx hf
    refine x_iald (pc := 12) dX12_view_12 t11 c12 ?_
    obtain ⟨q13, h14, hf⟩ := p_bd hf
    refine y_callS1 (pc := 13) dX12_view_13 (c_X12_isIn (p_dd hd (by decide)) hW  h14) mk_X12_isIn mz_X12_isIn ml_X12_68 rfl rfl (Nat.le_of_ble_eq_true rfl) (p_d1 hd (by decide)) (Nat.le_of_ble_eq_true rfl) ?_
    refine s_if_ne (pc := 16) (tgt := 21) dX12_view_16 rfl (fun hc => ?_) (fun hc => ?_)
    · replace hf := p_ng hf hc
      refine s_aload_n (pc := 21) dX12_view_21 0 rfl rfl ?_
      obtain ⟨q15, h16, hf⟩ := p_bd hf
      have t17 : p_tp N q15 0 := WT.get hW ha0 h16
      refine x_getR (pc := 22) dX12_view_22 fl_X12_7 rfl ha0 h16 ?_
      refine s_iconst (pc := 25) dX12_view_25 (v := 5) rfl ?_
      refine s_iload_n (pc := 26) dX12_view_26 1 rfl rfl ?_
      obtain ⟨c18, hf⟩ := p_ckx hf
      refine x_iast (pc := 27) dX12_view_27 t17 c18 ?_
      refine s_nmI (fun I19 e20 => ?_)
      replace hf := p_lx hf e20
      refine s_aload_n (pc := 28) dX12_view_28 0 rfl rfl ?_
      obtain ⟨q21, h22, hf⟩ := p_bd hf
      refine y_callV0 (pc := 29) dX12_view_29 (c_X12_forgets (p_dd hd (by decide)) hW ha0 h22) mk_X12_forgets mv_X12_forgets ml_X12_65 rfl rfl (Nat.le_of_ble_eq_true rfl) ha0 rfl (p_d1 hd (by decide)) (Nat.le_of_ble_eq_true rfl) ?_
      refine s_iconst (pc := 32) dX12_view_32 (v := 1) rfl ?_
      cases hf
      exact s_ireturn (pc := 33) dX12_view_33 rfl rfl ⟨rfl, rfl, rfl, rfl, rfl⟩
    · replace hf := p_ps hf hc
      refine s_iconst (pc := 19) dX12_view_19 (v := 0) rfl ?_
      cases hf
      exact s_ireturn (pc := 20) dX12_view_20 rfl rfl ⟨rfl, rfl, rfl, rfl, rfl⟩
def f_X12_pull (n : Nat) (N : pN) (I : pI) (P : pR) (a0 : Nat) (x1 : Int32) (x2 : Int32) : Option (Int32 × pI) :=
  p_let (α := Int32) ((if x1 = 0 then
    1
  else
    0)) fun t1 =>
  Option.bind (f_X12_isOf N I P a0 x2 t1) fun q3 =>
  (if q3 = 0 then
    some (0, I)
  else
    p_let (α := Int32) ((if x1 = 0 then
      (120 + (8 * x2)) + 5
    else
      (30 + (7 * x2)) + 6)) fun t5 =>
    Option.bind (P a0 0) fun q7 =>
    p_ck (p_ib N q7 t5) <|
    (if (I q7 (Int32.toNatClampNeg t5)) < 0 then
      Option.bind (P a0 0) fun q11 =>
      Option.bind (P a0 0) fun q14 =>
      p_ck (p_ib N q14 4) <|
      p_ck (p_ib N q11 t5) <|
      p_let (p_u I q11 (Int32.toNatClampNeg t5) (I q14 (Int32.toNatClampNeg 4))) fun I19 =>
      Option.bind (f_X12_forgets n N I19 P a0) fun q21 =>
      some (1, q21)
    else
      some (0, I)))
theorem c_X12_pull {G : pG} {d : Nat} {n : Nat} {N : pN} {I : pI} {L : pL} {P : pR} {a0 : Nat} {x1 : Int32} {x2 : Int32} {qq : Int32 × pI} (hd : 2 ≤ d) (hW : WT N P) (ha0 : p_tp N a0 15) (hf : f_X12_pull n N I P a0 x1 x2 = some qq) : MT G mX12_pull d 0 0 [.ref a0, .int x1, .int x2] N I L P (p_R (some (.int qq.1)) N qq.2 L P) := by
  refine MT.of rfl (Nat.le_of_ble_eq_true rfl) ?_
  show SW G mX12_pull (p_rm d 0 0) 0 0 0 0 (p_R (some (.int qq.1)) N qq.2 L P) 0 [(0, .ref a0), (1, .int x1), (2, .int x2)] [] N I L P
  unfold f_X12_pull at hf
  refine s_aload_n (pc := 0) dX12_pull_0 0 rfl rfl ?_
  refine s_iload_n (pc := 1) dX12_pull_1 2 rfl rfl ?_
  refine s_iload_n (pc := 2) dX12_pull_2 1 rfl rfl ?_
  obtain ⟨t1, hg, hf⟩ := p_lx2 hf
  have k2 : SW G mX12_pull (p_rm d 0 0) 0 0 0 0 (p_R (some (.int qq.1)) N qq.2 L P) 11 [(0, .ref a0), (1, .int x1), (2, .int x2)] [.int t1, .int x2, .ref a0] N I L P := by
    obtain ⟨q3, h4, hf⟩ := p_bd hf
    refine y_callV1 (pc := 11) dX12_pull_11 (c_X12_isOf (p_dd hd (by decide)) hW ha0 h4) mk_X12_isOf mv_X12_isOf ml_X12_80 rfl rfl (Nat.le_of_ble_eq_true rfl) ha0 rfl (p_d1 hd (by decide)) (Nat.le_of_ble_eq_true rfl) ?_
    refine s_if_ne (pc := 14) (tgt := 19) dX12_pull_14 rfl (fun hc => ?_) (fun hc => ?_)
    · replace hf := p_ng hf hc
      refine s_iload_n (pc := 19) dX12_pull_19 1 rfl rfl ?_
      obtain ⟨t5, hg, hf⟩ := p_lx2 hf
      have k6 : SW G mX12_pull (p_rm d 0 0) 0 0 0 0 (p_R (some (.int qq.1)) N qq.2 L P) 45 [(0, .ref a0)] [.int t5] N I L P := by
        refine s_istore_n (pc := 45) (lo' := [(3, .int t5), (0, .ref a0)]) dX12_pull_45 rfl (Nat.le_of_ble_eq_true rfl) rfl ?_
        refine s_aload_n (pc := 46) dX12_pull_46 1 rfl rfl ?_
        obtain ⟨q7, h8, hf⟩ := p_bd hf
        have t9 : p_tp N q7 0 := WT.get hW ha0 h8
        refine x_getR (pc := 47) dX12_pull_47 fl_X12_7 rfl ha0 h8 ?_
        refine s_iload_n (pc := 50) dX12_pull_50 0 rfl rfl ?_
        obtain ⟨c10, hf⟩ := p_ckx hf
        refine x_iald (pc := 51) dX12_pull_51 t9 c10 ?_
        refine s_if_lt (pc := 52) (tgt := 57) dX12_pull_52 rfl (fun hc => ?_) (fun hc => ?_)
        · replace hf := p_ps hf hc
          refine s_aload_n (pc := 57) dX12_pull_57 1 rfl rfl ?_
          obtain ⟨q11, h12, hf⟩ := p_bd hf
          have t13 : p_tp N q11 0 := WT.get hW ha0 h12
          refine x_getR (pc := 58) dX12_pull_58 fl_X12_7 rfl ha0 h12 ?_
          refine s_iload_n (pc := 61) dX12_pull_61 0 rfl rfl ?_
          refine s_aload_n (pc := 62) dX12_pull_62 1 rfl rfl ?_
          obtain ⟨q14, h15, hf⟩ := p_bd hf
          have t16 : p_tp N q14 0 := WT.get hW ha0 h15
          refine x_getR (pc := 63) dX12_pull_63 fl_X12_7 rfl ha0 h15 ?_
          refine s_iconst (pc := 66) dX12_pull_66 (v := 4) rfl ?_
          obtain ⟨c17, hf⟩ := p_ckx hf
          refine x_iald (pc := 67) dX12_pull_67 t16 c17 ?_
          obtain ⟨c18, hf⟩ := p_ckx hf
          refine x_iast (pc := 68) dX12_pull_68 t13 c18 ?_
          refine s_nmI (fun I19 e20 => ?_)
          replace hf := p_lx hf e20
          refine s_aload_n (pc := 69) dX12_pull_69 1 rfl rfl ?_
          obtain ⟨q21, h22, hf⟩ := p_bd hf
          refine y_callV0 (pc := 70) dX12_pull_70 (c_X12_forgets (p_dd hd (by decide)) hW ha0 h22) mk_X12_forgets mv_X12_forgets ml_X12_65 rfl rfl (Nat.le_of_ble_eq_true rfl) ha0 rfl (p_d1 hd (by decide)) (Nat.le_of_ble_eq_true rfl) ?_
          refine s_iconst (pc := 73) dX12_pull_73 (v := 1) rfl ?_
          cases hf
          exact s_ireturn (pc := 74) dX12_pull_74 rfl rfl ⟨rfl, rfl, rfl, rfl, rfl⟩
        · replace hf := p_ng hf hc
          refine s_iconst (pc := 55) dX12_pull_55 (v := 0) rfl ?_
          cases hf
          exact s_ireturn (pc := 56) dX12_pull_56 rfl rfl ⟨rfl, rfl, rfl, rfl, rfl⟩
      replace hf := hg.symm
      refine s_if_eq (pc := 20) (tgt := 36) dX12_pull_20 rfl (fun hc => ?_) (fun hc => ?_)
      · replace hf := p_ps hf hc
        refine s_bipush (pc := 36) dX12_pull_36 (v := 120) rfl ?_
        refine s_bipush (pc := 38) dX12_pull_38 (v := 8) rfl ?_
        refine s_iload_n (pc := 40) dX12_pull_40 2 rfl rfl ?_
        refine s_imul (pc := 41) dX12_pull_41 ?_
        refine s_iadd (pc := 42) dX12_pull_42 ?_
        refine s_iconst (pc := 43) dX12_pull_43 (v := 5) rfl ?_
        refine s_iadd (pc := 44) dX12_pull_44 ?_
        cases hf
        exact s_lo [0] rfl (k6)
      · replace hf := p_ng hf hc
        refine s_bipush (pc := 23) dX12_pull_23 (v := 30) rfl ?_
        refine s_bipush (pc := 25) dX12_pull_25 (v := 7) rfl ?_
        refine s_iload_n (pc := 27) dX12_pull_27 2 rfl rfl ?_
        refine s_imul (pc := 28) dX12_pull_28 ?_
        refine s_iadd (pc := 29) dX12_pull_29 ?_
        refine s_bipush (pc := 30) dX12_pull_30 (v := 6) rfl ?_
        refine s_iadd (pc := 32) dX12_pull_32 ?_
        refine s_goto (pc := 33) (tgt := 45) dX12_pull_33 rfl ?_
        cases hf
        exact s_lo [0] rfl (k6)
    · replace hf := p_ps hf hc
      refine s_iconst (pc := 17) dX12_pull_17 (v := 0) rfl ?_
      cases hf
      exact s_ireturn (pc := 18) dX12_pull_18 rfl rfl ⟨rfl, rfl, rfl, rfl, rfl⟩
  replace hf := hg.symm
  refine s_if_eq (pc := 3) (tgt := 10) dX12_pull_3 rfl (fun hc => ?_) (fun hc => ?_)
  · replace hf := p_ps hf hc
    refine s_iconst (pc := 10) dX12_pull_10 (v := 1) rfl ?_
    cases hf
    exact s_lo [0, 1, 2] rfl (k2)
  · replace hf := p_ng hf hc
    refine s_iconst (pc := 6) dX12_pull_6 (v := 0) rfl ?_
    refine s_goto (pc := 7) (tgt := 11) dX12_pull_7 rfl ?_
    cases hf
    exact s_lo [0, 1, 2] rfl (k2)
def f_X12_stuff (n : Nat) (N : pN) (I : pI) (P : pR) (a0 : Nat) (x1 : Int32) (x2 : Int32) (x3 : Int32) : Option (Int32 × pI) :=
  Option.bind (f_X12_isIn x1 0 4) fun q1 =>
  (if q1 = 0 then
    some (0, I)
  else
    Option.bind (f_X12_isIn x2 0 100) fun q3 =>
    (if q3 = 0 then
      some (0, I)
    else
      Option.bind (f_X12_isIn x3 0 100) fun q5 =>
      (if q5 = 0 then
        some (0, I)
      else
        Option.bind (P a0 0) fun q7 =>
        p_ck (p_ib N q7 (18 + x1)) <|
        p_let (p_u I q7 (Int32.toNatClampNeg (18 + x1)) x2) fun I11 =>
        Option.bind (P a0 0) fun q13 =>
        p_ck (p_ib N q13 (23 + x1)) <|
        p_let (p_u I11 q13 (Int32.toNatClampNeg (23 + x1)) x3) fun I17 =>
        Option.bind (f_X12_forgets n N I17 P a0) fun q19 =>
        some (1, q19))))
theorem c_X12_stuff {G : pG} {d : Nat} {n : Nat} {N : pN} {I : pI} {L : pL} {P : pR} {a0 : Nat} {x1 : Int32} {x2 : Int32} {x3 : Int32} {qq : Int32 × pI} (hd : 1 ≤ d) (hW : WT N P) (ha0 : p_tp N a0 15) (hf : f_X12_stuff n N I P a0 x1 x2 x3 = some qq) : MT G mX12_stuff d 0 0 [.ref a0, .int x1, .int x2, .int x3] N I L P (p_R (some (.int qq.1)) N qq.2 L P) := by
  refine MT.of rfl (Nat.le_of_ble_eq_true rfl) ?_
  show SW G mX12_stuff (p_rm d 0 0) 0 0 0 0 (p_R (some (.int qq.1)) N qq.2 L P) 0 [(0, .ref a0), (1, .int x1), (2, .int x2), (3, .int x3)] [] N I L P
  unfold f_X12_stuff at hf
  refine s_iload_n (pc := 0) dX12_stuff_0 1 rfl rfl ?_
  refine s_iconst (pc := 1) dX12_stuff_1 (v := 0) rfl ?_
  refine s_iconst (pc := 2) dX12_stuff_2 (v := 4) rfl ?_
  obtain ⟨q1, h2, hf⟩ := p_bd hf
  refine y_callS1 (pc := 3) dX12_stuff_3 (c_X12_isIn (p_dd hd (by decide)) hW  h2) mk_X12_isIn mz_X12_isIn ml_X12_68 rfl rfl (Nat.le_of_ble_eq_true rfl) (p_d1 hd (by decide)) (Nat.le_of_ble_eq_true rfl) ?_
  refine s_if_eq (pc := 6) (tgt := 29) dX12_stuff_6 rfl (fun hc => ?_) (fun hc => ?_)
  · replace hf := p_ps hf hc
    refine s_iconst (pc := 29) dX12_stuff_29 (v := 0) rfl ?_
    cases hf
    exact s_ireturn (pc := 30) dX12_stuff_30 rfl rfl ⟨rfl, rfl, rfl, rfl, rfl⟩
  · replace hf := p_ng hf hc
    refine s_iload_n (pc := 9) dX12_stuff_9 2 rfl rfl ?_
    refine s_iconst (pc := 10) dX12_stuff_10 (v := 0) rfl ?_
    refine s_bipush (pc := 11) dX12_stuff_11 (v := 100) rfl ?_
    obtain ⟨q3, h4, hf⟩ := p_bd hf
    refine y_callS1 (pc := 13) dX12_stuff_13 (c_X12_isIn (p_dd hd (by decide)) hW  h4) mk_X12_isIn mz_X12_isIn ml_X12_68 rfl rfl (Nat.le_of_ble_eq_true rfl) (p_d1 hd (by decide)) (Nat.le_of_ble_eq_true rfl) ?_
    refine s_if_eq (pc := 16) (tgt := 29) dX12_stuff_16 rfl (fun hc => ?_) (fun hc => ?_)
    · replace hf := p_ps hf hc
      refine s_iconst (pc := 29) dX12_stuff_29 (v := 0) rfl ?_
      cases hf
      exact s_ireturn (pc := 30) dX12_stuff_30 rfl rfl ⟨rfl, rfl, rfl, rfl, rfl⟩
    · replace hf := p_ng hf hc
      refine s_iload_n (pc := 19) dX12_stuff_19 3 rfl rfl ?_
      refine s_iconst (pc := 20) dX12_stuff_20 (v := 0) rfl ?_
      refine s_bipush (pc := 21) dX12_stuff_21 (v := 100) rfl ?_
      obtain ⟨q5, h6, hf⟩ := p_bd hf
      refine y_callS1 (pc := 23) dX12_stuff_23 (c_X12_isIn (p_dd hd (by decide)) hW  h6) mk_X12_isIn mz_X12_isIn ml_X12_68 rfl rfl (Nat.le_of_ble_eq_true rfl) (p_d1 hd (by decide)) (Nat.le_of_ble_eq_true rfl) ?_
      refine s_if_ne (pc := 26) (tgt := 31) dX12_stuff_26 rfl (fun hc => ?_) (fun hc => ?_)
      · replace hf := p_ng hf hc
        refine s_aload_n (pc := 31) dX12_stuff_31 0 rfl rfl ?_
        obtain ⟨q7, h8, hf⟩ := p_bd hf
        have t9 : p_tp N q7 0 := WT.get hW ha0 h8
        refine x_getR (pc := 32) dX12_stuff_32 fl_X12_7 rfl ha0 h8 ?_
        refine s_bipush (pc := 35) dX12_stuff_35 (v := 18) rfl ?_
        refine s_iload_n (pc := 37) dX12_stuff_37 1 rfl rfl ?_
        refine s_iadd (pc := 38) dX12_stuff_38 ?_
        refine s_iload_n (pc := 39) dX12_stuff_39 2 rfl rfl ?_
        obtain ⟨c10, hf⟩ := p_ckx hf
        refine x_iast (pc := 40) dX12_stuff_40 t9 c10 ?_
        refine s_nmI (fun I11 e12 => ?_)
        replace hf := p_lx hf e12
        refine s_aload_n (pc := 41) dX12_stuff_41 0 rfl rfl ?_
        obtain ⟨q13, h14, hf⟩ := p_bd hf
        have t15 : p_tp N q13 0 := WT.get hW ha0 h14
        refine x_getR (pc := 42) dX12_stuff_42 fl_X12_7 rfl ha0 h14 ?_
        refine s_bipush (pc := 45) dX12_stuff_45 (v := 23) rfl ?_
        refine s_iload_n (pc := 47) dX12_stuff_47 1 rfl rfl ?_
        refine s_iadd (pc := 48) dX12_stuff_48 ?_
        refine s_iload_n (pc := 49) dX12_stuff_49 3 rfl rfl ?_
        obtain ⟨c16, hf⟩ := p_ckx hf
        refine x_iast (pc := 50) dX12_stuff_50 t15 c16 ?_
        refine s_nmI (fun I17 e18 => ?_)
        replace hf := p_lx hf e18
        refine s_aload_n (pc := 51) dX12_stuff_51 0 rfl rfl ?_
        obtain ⟨q19, h20, hf⟩ := p_bd hf
        refine y_callV0 (pc := 52) dX12_stuff_52 (c_X12_forgets (p_dd hd (by decide)) hW ha0 h20) mk_X12_forgets mv_X12_forgets ml_X12_65 rfl rfl (Nat.le_of_ble_eq_true rfl) ha0 rfl (p_d1 hd (by decide)) (Nat.le_of_ble_eq_true rfl) ?_
        refine s_iconst (pc := 55) dX12_stuff_55 (v := 1) rfl ?_
        cases hf
        exact s_ireturn (pc := 56) dX12_stuff_56 rfl rfl ⟨rfl, rfl, rfl, rfl, rfl⟩
      · replace hf := p_ps hf hc
        refine s_iconst (pc := 29) dX12_stuff_29 (v := 0) rfl ?_
        cases hf
        exact s_ireturn (pc := 30) dX12_stuff_30 rfl rfl ⟨rfl, rfl, rfl, rfl, rfl⟩
def f_X12_leastOf (x0 : Int32) : Option Int32 :=
  (if x0 = 4 then
    some 1
  else
    (if x0 = 6 then
      some 1
    else
      some 0))
theorem c_X12_leastOf {G : pG} {d : Nat} {N : pN} {I : pI} {L : pL} {P : pR} {x0 : Int32} {qq : Int32} (hd : 0 ≤ d) (hW : WT N P) (hf : f_X12_leastOf x0 = some qq) : MT G mX12_leastOf d 0 0 [.int x0] N I L P (p_R (some (.int qq)) N I L P) := by
  refine MT.of rfl (Nat.le_of_ble_eq_true rfl) ?_
  show SW G mX12_leastOf (p_rm d 0 0) 0 0 0 0 (p_R (some (.int qq)) N I L P) 0 [(0, .int x0)] [] N I L P
  unfold f_X12_leastOf at hf
  refine s_iload_n (pc := 0) dX12_leastOf_0 0 rfl rfl ?_
  refine s_iconst (pc := 1) dX12_leastOf_1 (v := 4) rfl ?_
  refine s_icmp_eq (pc := 2) (tgt := 11) dX12_leastOf_2 rfl (fun hc => ?_) (fun hc => ?_)
  · replace hf := p_ps hf hc
    refine s_iconst (pc := 11) dX12_leastOf_11 (v := 1) rfl ?_
    refine s_goto (pc := 12) (tgt := 16) dX12_leastOf_12 rfl ?_
    cases hf
    exact s_ireturn (pc := 16) dX12_leastOf_16 rfl rfl ⟨rfl, rfl, rfl, rfl, rfl⟩
  · replace hf := p_ng hf hc
    refine s_iload_n (pc := 5) dX12_leastOf_5 0 rfl rfl ?_
    refine s_bipush (pc := 6) dX12_leastOf_6 (v := 6) rfl ?_
    refine s_icmp_ne (pc := 8) (tgt := 15) dX12_leastOf_8 rfl (fun hc => ?_) (fun hc => ?_)
    · replace hf := p_ng hf hc
      refine s_iconst (pc := 15) dX12_leastOf_15 (v := 0) rfl ?_
      cases hf
      exact s_ireturn (pc := 16) dX12_leastOf_16 rfl rfl ⟨rfl, rfl, rfl, rfl, rfl⟩
    · replace hf := p_ps hf hc
      refine s_iconst (pc := 11) dX12_leastOf_11 (v := 1) rfl ?_
      refine s_goto (pc := 12) (tgt := 16) dX12_leastOf_12 rfl ?_
      cases hf
      exact s_ireturn (pc := 16) dX12_leastOf_16 rfl rfl ⟨rfl, rfl, rfl, rfl, rfl⟩
def f_X12_mostFor (x0 : Int32) : Option Int32 :=
  (if x0 = 0 then
    some 2
  else
    (if x0 = 1 then
      some 100
    else
      (if x0 = 2 then
        some 9999
      else
        (if x0 = 3 then
          some 9999
        else
          (if x0 = 4 then
            some 9999
          else
            (if x0 = 5 then
              some 999
            else
              (if x0 = 6 then
                some 9
              else
                some 9999)))))))
theorem c_X12_mostFor {G : pG} {d : Nat} {N : pN} {I : pI} {L : pL} {P : pR} {x0 : Int32} {qq : Int32} (hd : 0 ≤ d) (hW : WT N P) (hf : f_X12_mostFor x0 = some qq) : MT G mX12_mostFor d 0 0 [.int x0] N I L P (p_R (some (.int qq)) N I L P) := by
  refine MT.of rfl (Nat.le_of_ble_eq_true rfl) ?_
  show SW G mX12_mostFor (p_rm d 0 0) 0 0 0 0 (p_R (some (.int qq)) N I L P) 0 [(0, .int x0)] [] N I L P
  unfold f_X12_mostFor at hf
  refine s_iload_n (pc := 0) dX12_mostFor_0 0 rfl rfl ?_
  by_cases hc0 : x0 = 0
  · replace hf := p_ps hf hc0
    refine s_tableIn (pc := 1) (tgt := 44) (off := 43) dX12_mostFor_1 (by rw [hc0]; decide) (by rw [hc0]; decide) (by rw [hc0]; rfl) rfl ?_
    refine s_iconst (pc := 44) dX12_mostFor_44 (v := 2) rfl ?_
    cases hf
    exact s_ireturn (pc := 45) dX12_mostFor_45 rfl rfl ⟨rfl, rfl, rfl, rfl, rfl⟩
  · replace hf := p_ng hf hc0
    by_cases hc1 : x0 = 1
    · replace hf := p_ps hf hc1
      refine s_tableIn (pc := 1) (tgt := 46) (off := 45) dX12_mostFor_1 (by rw [hc1]; decide) (by rw [hc1]; decide) (by rw [hc1]; rfl) rfl ?_
      refine s_bipush (pc := 46) dX12_mostFor_46 (v := 100) rfl ?_
      cases hf
      exact s_ireturn (pc := 48) dX12_mostFor_48 rfl rfl ⟨rfl, rfl, rfl, rfl, rfl⟩
    · replace hf := p_ng hf hc1
      by_cases hc2 : x0 = 2
      · replace hf := p_ps hf hc2
        refine s_tableIn (pc := 1) (tgt := 56) (off := 55) dX12_mostFor_1 (by rw [hc2]; decide) (by rw [hc2]; decide) (by rw [hc2]; rfl) rfl ?_
        refine s_sipush (pc := 56) dX12_mostFor_56 (v := 9999) rfl ?_
        cases hf
        exact s_ireturn (pc := 59) dX12_mostFor_59 rfl rfl ⟨rfl, rfl, rfl, rfl, rfl⟩
      · replace hf := p_ng hf hc2
        by_cases hc3 : x0 = 3
        · replace hf := p_ps hf hc3
          refine s_tableIn (pc := 1) (tgt := 56) (off := 55) dX12_mostFor_1 (by rw [hc3]; decide) (by rw [hc3]; decide) (by rw [hc3]; rfl) rfl ?_
          refine s_sipush (pc := 56) dX12_mostFor_56 (v := 9999) rfl ?_
          cases hf
          exact s_ireturn (pc := 59) dX12_mostFor_59 rfl rfl ⟨rfl, rfl, rfl, rfl, rfl⟩
        · replace hf := p_ng hf hc3
          by_cases hc4 : x0 = 4
          · replace hf := p_ps hf hc4
            refine s_tableIn (pc := 1) (tgt := 56) (off := 55) dX12_mostFor_1 (by rw [hc4]; decide) (by rw [hc4]; decide) (by rw [hc4]; rfl) rfl ?_
            refine s_sipush (pc := 56) dX12_mostFor_56 (v := 9999) rfl ?_
            cases hf
            exact s_ireturn (pc := 59) dX12_mostFor_59 rfl rfl ⟨rfl, rfl, rfl, rfl, rfl⟩
          · replace hf := p_ng hf hc4
            by_cases hc5 : x0 = 5
            · replace hf := p_ps hf hc5
              refine s_tableIn (pc := 1) (tgt := 49) (off := 48) dX12_mostFor_1 (by rw [hc5]; decide) (by rw [hc5]; decide) (by rw [hc5]; rfl) rfl ?_
              refine s_sipush (pc := 49) dX12_mostFor_49 (v := 999) rfl ?_
              cases hf
              exact s_ireturn (pc := 52) dX12_mostFor_52 rfl rfl ⟨rfl, rfl, rfl, rfl, rfl⟩
            · replace hf := p_ng hf hc5
              by_cases hc6 : x0 = 6
              · replace hf := p_ps hf hc6
                refine s_tableIn (pc := 1) (tgt := 53) (off := 52) dX12_mostFor_1 (by rw [hc6]; decide) (by rw [hc6]; decide) (by rw [hc6]; rfl) rfl ?_
                refine s_bipush (pc := 53) dX12_mostFor_53 (v := 9) rfl ?_
                cases hf
                exact s_ireturn (pc := 55) dX12_mostFor_55 rfl rfl ⟨rfl, rfl, rfl, rfl, rfl⟩
              · replace hf := p_ng hf hc6
                have hout : x0.toInt < 0 ∨ 6 < x0.toInt := p_out (fun i h1 h2 => by
                  have hh : i = 0 ∨ i = 1 ∨ i = 2 ∨ i = 3 ∨ i = 4 ∨ i = 5 ∨ i = 6 := by omega
                  rcases hh with rfl | rfl | rfl | rfl | rfl | rfl | rfl
                  · exact p_ne hc0 rfl
                  · exact p_ne hc1 rfl
                  · exact p_ne hc2 rfl
                  · exact p_ne hc3 rfl
                  · exact p_ne hc4 rfl
                  · exact p_ne hc5 rfl
                  · exact p_ne hc6 rfl)
                refine s_tableOut (pc := 1) (tgt := 56) dX12_mostFor_1 hout rfl ?_
                refine s_sipush (pc := 56) dX12_mostFor_56 (v := 9999) rfl ?_
                cases hf
                exact s_ireturn (pc := 59) dX12_mostFor_59 rfl rfl ⟨rfl, rfl, rfl, rfl, rfl⟩
def f_X12_set (n : Nat) (N : pN) (I : pI) (P : pR) (a0 : Nat) (x1 : Int32) (x2 : Int32) : Option (Int32 × pI) :=
  Option.bind (f_X12_isIn x1 0 6) fun q1 =>
  (if q1 = 0 then
    some (0, I)
  else
    Option.bind (f_X12_leastOf x1) fun q3 =>
    Option.bind (f_X12_mostFor x1) fun q5 =>
    Option.bind (f_X12_isIn x2 q3 q5) fun q7 =>
    (if q7 = 0 then
      some (0, I)
    else
      Option.bind (P a0 0) fun q9 =>
      p_ck (p_ib N q9 (11 + x1)) <|
      p_let (p_u I q9 (Int32.toNatClampNeg (11 + x1)) x2) fun I13 =>
      (if 2 ≤ x1 then
        some (1, I13)
      else
        Option.bind (f_X12_forgets n N I13 P a0) fun q15 =>
        some (1, q15))))
theorem c_X12_set {G : pG} {d : Nat} {n : Nat} {N : pN} {I : pI} {L : pL} {P : pR} {a0 : Nat} {x1 : Int32} {x2 : Int32} {qq : Int32 × pI} (hd : 1 ≤ d) (hW : WT N P) (ha0 : p_tp N a0 15) (hf : f_X12_set n N I P a0 x1 x2 = some qq) : MT G mX12_set d 0 0 [.ref a0, .int x1, .int x2] N I L P (p_R (some (.int qq.1)) N qq.2 L P) := by
  refine MT.of rfl (Nat.le_of_ble_eq_true rfl) ?_
  show SW G mX12_set (p_rm d 0 0) 0 0 0 0 (p_R (some (.int qq.1)) N qq.2 L P) 0 [(0, .ref a0), (1, .int x1), (2, .int x2)] [] N I L P
  unfold f_X12_set at hf
  refine s_iload_n (pc := 0) dX12_set_0 1 rfl rfl ?_
  refine s_iconst (pc := 1) dX12_set_1 (v := 0) rfl ?_
  refine s_bipush (pc := 2) dX12_set_2 (v := 6) rfl ?_
  obtain ⟨q1, h2, hf⟩ := p_bd hf
  refine y_callS1 (pc := 4) dX12_set_4 (c_X12_isIn (p_dd hd (by decide)) hW  h2) mk_X12_isIn mz_X12_isIn ml_X12_68 rfl rfl (Nat.le_of_ble_eq_true rfl) (p_d1 hd (by decide)) (Nat.le_of_ble_eq_true rfl) ?_
  refine s_if_eq (pc := 7) (tgt := 25) dX12_set_7 rfl (fun hc => ?_) (fun hc => ?_)
  · replace hf := p_ps hf hc
    refine s_iconst (pc := 25) dX12_set_25 (v := 0) rfl ?_
    cases hf
    exact s_ireturn (pc := 26) dX12_set_26 rfl rfl ⟨rfl, rfl, rfl, rfl, rfl⟩
  · replace hf := p_ng hf hc
    refine s_iload_n (pc := 10) dX12_set_10 2 rfl rfl ?_
    refine s_iload_n (pc := 11) dX12_set_11 1 rfl rfl ?_
    obtain ⟨q3, h4, hf⟩ := p_bd hf
    refine y_callS1 (pc := 12) dX12_set_12 (c_X12_leastOf (p_dd hd (by decide)) hW  h4) mk_X12_leastOf mz_X12_leastOf ml_X12_420 rfl rfl (Nat.le_of_ble_eq_true rfl) (p_d1 hd (by decide)) (Nat.le_of_ble_eq_true rfl) ?_
    refine s_iload_n (pc := 15) dX12_set_15 1 rfl rfl ?_
    obtain ⟨q5, h6, hf⟩ := p_bd hf
    refine y_callS1 (pc := 16) dX12_set_16 (c_X12_mostFor (p_dd hd (by decide)) hW  h6) mk_X12_mostFor mz_X12_mostFor ml_X12_423 rfl rfl (Nat.le_of_ble_eq_true rfl) (p_d1 hd (by decide)) (Nat.le_of_ble_eq_true rfl) ?_
    obtain ⟨q7, h8, hf⟩ := p_bd hf
    refine y_callS1 (pc := 19) dX12_set_19 (c_X12_isIn (p_dd hd (by decide)) hW  h8) mk_X12_isIn mz_X12_isIn ml_X12_68 rfl rfl (Nat.le_of_ble_eq_true rfl) (p_d1 hd (by decide)) (Nat.le_of_ble_eq_true rfl) ?_
    refine s_if_ne (pc := 22) (tgt := 27) dX12_set_22 rfl (fun hc => ?_) (fun hc => ?_)
    · replace hf := p_ng hf hc
      refine s_aload_n (pc := 27) dX12_set_27 0 rfl rfl ?_
      obtain ⟨q9, h10, hf⟩ := p_bd hf
      have t11 : p_tp N q9 0 := WT.get hW ha0 h10
      refine x_getR (pc := 28) dX12_set_28 fl_X12_7 rfl ha0 h10 ?_
      refine s_bipush (pc := 31) dX12_set_31 (v := 11) rfl ?_
      refine s_iload_n (pc := 33) dX12_set_33 1 rfl rfl ?_
      refine s_iadd (pc := 34) dX12_set_34 ?_
      refine s_iload_n (pc := 35) dX12_set_35 2 rfl rfl ?_
      obtain ⟨c12, hf⟩ := p_ckx hf
      refine x_iast (pc := 36) dX12_set_36 t11 c12 ?_
      refine s_nmI (fun I13 e14 => ?_)
      replace hf := p_lx hf e14
      refine s_iload_n (pc := 37) dX12_set_37 1 rfl rfl ?_
      refine s_iconst (pc := 38) dX12_set_38 (v := 2) rfl ?_
      refine s_icmp_ge (pc := 39) (tgt := 46) dX12_set_39 rfl (fun hc => ?_) (fun hc => ?_)
      · replace hf := p_ps hf hc
        refine s_iconst (pc := 46) dX12_set_46 (v := 1) rfl ?_
        cases hf
        exact s_ireturn (pc := 47) dX12_set_47 rfl rfl ⟨rfl, rfl, rfl, rfl, rfl⟩
      · replace hf := p_ng hf hc
        refine s_aload_n (pc := 42) dX12_set_42 0 rfl rfl ?_
        obtain ⟨q15, h16, hf⟩ := p_bd hf
        refine y_callV0 (pc := 43) dX12_set_43 (c_X12_forgets (p_dd hd (by decide)) hW ha0 h16) mk_X12_forgets mv_X12_forgets ml_X12_65 rfl rfl (Nat.le_of_ble_eq_true rfl) ha0 rfl (p_d1 hd (by decide)) (Nat.le_of_ble_eq_true rfl) ?_
        refine s_iconst (pc := 46) dX12_set_46 (v := 1) rfl ?_
        cases hf
        exact s_ireturn (pc := 47) dX12_set_47 rfl rfl ⟨rfl, rfl, rfl, rfl, rfl⟩
    · replace hf := p_ps hf hc
      refine s_iconst (pc := 25) dX12_set_25 (v := 0) rfl ?_
      cases hf
      exact s_ireturn (pc := 26) dX12_set_26 rfl rfl ⟨rfl, rfl, rfl, rfl, rfl⟩
def f_X12_wall (N : pN) (I : pI) (P : pR) (a0 : Nat) (x1 : Int32) (x2 : Int32) : Option Int32 :=
  Option.bind (f_X12_isOf N I P a0 x1 0) fun q1 =>
  (if q1 = 0 then
    some (-2)
  else
    Option.bind (f_X12_isIn x2 0 6) fun q3 =>
    (if q3 = 0 then
      some (-2)
    else
      Option.bind (f_X12_wallOf N I P a0 x1 x2) fun q5 =>
      some q5))
theorem c_X12_wall {G : pG} {d : Nat} {N : pN} {I : pI} {L : pL} {P : pR} {a0 : Nat} {x1 : Int32} {x2 : Int32} {qq : Int32} (hd : 2 ≤ d) (hW : WT N P) (ha0 : p_tp N a0 15) (hf : f_X12_wall N I P a0 x1 x2 = some qq) : MT G mX12_wall d 0 0 [.ref a0, .int x1, .int x2] N I L P (p_R (some (.int qq)) N I L P) := by
  refine MT.of rfl (Nat.le_of_ble_eq_true rfl) ?_
  show SW G mX12_wall (p_rm d 0 0) 0 0 0 0 (p_R (some (.int qq)) N I L P) 0 [(0, .ref a0), (1, .int x1), (2, .int x2)] [] N I L P
  unfold f_X12_wall at hf
  refine s_aload_n (pc := 0) dX12_wall_0 0 rfl rfl ?_
  refine s_iload_n (pc := 1) dX12_wall_1 1 rfl rfl ?_
  refine s_iconst (pc := 2) dX12_wall_2 (v := 0) rfl ?_
  obtain ⟨q1, h2, hf⟩ := p_bd hf
  refine y_callV1 (pc := 3) dX12_wall_3 (c_X12_isOf (p_dd hd (by decide)) hW ha0 h2) mk_X12_isOf mv_X12_isOf ml_X12_80 rfl rfl (Nat.le_of_ble_eq_true rfl) ha0 rfl (p_d1 hd (by decide)) (Nat.le_of_ble_eq_true rfl) ?_
  refine s_if_eq (pc := 6) (tgt := 28) dX12_wall_6 rfl (fun hc => ?_) (fun hc => ?_)
  · replace hf := p_ps hf hc
    refine s_bipush (pc := 28) dX12_wall_28 (v := -2) rfl ?_
    cases hf
    exact s_ireturn (pc := 30) dX12_wall_30 rfl rfl ⟨rfl, rfl, rfl, rfl, rfl⟩
  · replace hf := p_ng hf hc
    refine s_iload_n (pc := 9) dX12_wall_9 2 rfl rfl ?_
    refine s_iconst (pc := 10) dX12_wall_10 (v := 0) rfl ?_
    refine s_bipush (pc := 11) dX12_wall_11 (v := 6) rfl ?_
    obtain ⟨q3, h4, hf⟩ := p_bd hf
    refine y_callS1 (pc := 13) dX12_wall_13 (c_X12_isIn (p_dd hd (by decide)) hW  h4) mk_X12_isIn mz_X12_isIn ml_X12_68 rfl rfl (Nat.le_of_ble_eq_true rfl) (p_d1 hd (by decide)) (Nat.le_of_ble_eq_true rfl) ?_
    refine s_if_eq (pc := 16) (tgt := 28) dX12_wall_16 rfl (fun hc => ?_) (fun hc => ?_)
    · replace hf := p_ps hf hc
      refine s_bipush (pc := 28) dX12_wall_28 (v := -2) rfl ?_
      cases hf
      exact s_ireturn (pc := 30) dX12_wall_30 rfl rfl ⟨rfl, rfl, rfl, rfl, rfl⟩
    · replace hf := p_ng hf hc
      refine s_aload_n (pc := 19) dX12_wall_19 0 rfl rfl ?_
      refine s_iload_n (pc := 20) dX12_wall_20 1 rfl rfl ?_
      refine s_iload_n (pc := 21) dX12_wall_21 2 rfl rfl ?_
      obtain ⟨q5, h6, hf⟩ := p_bd hf
      refine y_callV1 (pc := 22) dX12_wall_22 (c_X12_wallOf (p_dd hd (by decide)) hW ha0 h6) mk_X12_wallOf mv_X12_wallOf ml_X12_72 rfl rfl (Nat.le_of_ble_eq_true rfl) ha0 rfl (p_d1 hd (by decide)) (Nat.le_of_ble_eq_true rfl) ?_
      refine s_goto (pc := 25) (tgt := 30) dX12_wall_25 rfl ?_
      cases hf
      exact s_ireturn (pc := 30) dX12_wall_30 rfl rfl ⟨rfl, rfl, rfl, rfl, rfl⟩
def f_X12_sender (N : pN) (I : pI) (P : pR) (a0 : Nat) (x1 : Int32) (x2 : Int32) : Option Int32 :=
  Option.bind (f_X12_isOf N I P a0 x1 1) fun q1 =>
  (if q1 = 0 then
    some (-2)
  else
    Option.bind (f_X12_isIn x2 0 5) fun q3 =>
    (if q3 = 0 then
      some (-2)
    else
      Option.bind (f_X12_senderOf N I P a0 x1 x2) fun q5 =>
      some q5))
theorem c_X12_sender {G : pG} {d : Nat} {N : pN} {I : pI} {L : pL} {P : pR} {a0 : Nat} {x1 : Int32} {x2 : Int32} {qq : Int32} (hd : 2 ≤ d) (hW : WT N P) (ha0 : p_tp N a0 15) (hf : f_X12_sender N I P a0 x1 x2 = some qq) : MT G mX12_sender d 0 0 [.ref a0, .int x1, .int x2] N I L P (p_R (some (.int qq)) N I L P) := by
  refine MT.of rfl (Nat.le_of_ble_eq_true rfl) ?_
  show SW G mX12_sender (p_rm d 0 0) 0 0 0 0 (p_R (some (.int qq)) N I L P) 0 [(0, .ref a0), (1, .int x1), (2, .int x2)] [] N I L P
  unfold f_X12_sender at hf
  refine s_aload_n (pc := 0) dX12_sender_0 0 rfl rfl ?_
  refine s_iload_n (pc := 1) dX12_sender_1 1 rfl rfl ?_
  refine s_iconst (pc := 2) dX12_sender_2 (v := 1) rfl ?_
  obtain ⟨q1, h2, hf⟩ := p_bd hf
  refine y_callV1 (pc := 3) dX12_sender_3 (c_X12_isOf (p_dd hd (by decide)) hW ha0 h2) mk_X12_isOf mv_X12_isOf ml_X12_80 rfl rfl (Nat.le_of_ble_eq_true rfl) ha0 rfl (p_d1 hd (by decide)) (Nat.le_of_ble_eq_true rfl) ?_
  refine s_if_eq (pc := 6) (tgt := 27) dX12_sender_6 rfl (fun hc => ?_) (fun hc => ?_)
  · replace hf := p_ps hf hc
    refine s_bipush (pc := 27) dX12_sender_27 (v := -2) rfl ?_
    cases hf
    exact s_ireturn (pc := 29) dX12_sender_29 rfl rfl ⟨rfl, rfl, rfl, rfl, rfl⟩
  · replace hf := p_ng hf hc
    refine s_iload_n (pc := 9) dX12_sender_9 2 rfl rfl ?_
    refine s_iconst (pc := 10) dX12_sender_10 (v := 0) rfl ?_
    refine s_iconst (pc := 11) dX12_sender_11 (v := 5) rfl ?_
    obtain ⟨q3, h4, hf⟩ := p_bd hf
    refine y_callS1 (pc := 12) dX12_sender_12 (c_X12_isIn (p_dd hd (by decide)) hW  h4) mk_X12_isIn mz_X12_isIn ml_X12_68 rfl rfl (Nat.le_of_ble_eq_true rfl) (p_d1 hd (by decide)) (Nat.le_of_ble_eq_true rfl) ?_
    refine s_if_eq (pc := 15) (tgt := 27) dX12_sender_15 rfl (fun hc => ?_) (fun hc => ?_)
    · replace hf := p_ps hf hc
      refine s_bipush (pc := 27) dX12_sender_27 (v := -2) rfl ?_
      cases hf
      exact s_ireturn (pc := 29) dX12_sender_29 rfl rfl ⟨rfl, rfl, rfl, rfl, rfl⟩
    · replace hf := p_ng hf hc
      refine s_aload_n (pc := 18) dX12_sender_18 0 rfl rfl ?_
      refine s_iload_n (pc := 19) dX12_sender_19 1 rfl rfl ?_
      refine s_iload_n (pc := 20) dX12_sender_20 2 rfl rfl ?_
      obtain ⟨q5, h6, hf⟩ := p_bd hf
      refine y_callV1 (pc := 21) dX12_sender_21 (c_X12_senderOf (p_dd hd (by decide)) hW ha0 h6) mk_X12_senderOf mv_X12_senderOf ml_X12_83 rfl rfl (Nat.le_of_ble_eq_true rfl) ha0 rfl (p_d1 hd (by decide)) (Nat.le_of_ble_eq_true rfl) ?_
      refine s_goto (pc := 24) (tgt := 29) dX12_sender_24 rfl ?_
      cases hf
      exact s_ireturn (pc := 29) dX12_sender_29 rfl rfl ⟨rfl, rfl, rfl, rfl, rfl⟩
def B_X12_count_7 (N : pN) (I : pI) (P : pR) (a0 : Nat) (rec0 : (Int32 × Int32) → Option Int32) (s0 : Int32 × Int32) : Option Int32 :=
  Option.bind (P a0 0) fun q3 =>
  p_ck (p_ib N q3 0) <|
  (if (I q3 (Int32.toNatClampNeg 0)) ≤ s0.2 then
    some s0.1
  else
    Option.bind (f_X12_seesWall N I P a0 s0.2) fun q7 =>
    p_let (α := Int32) ((if q7 = 0 then
      0
    else
      1)) fun t9 =>
    rec0 (s0.1 + t9, s0.2 + 1))
def B_X12_count_44 (N : pN) (I : pI) (P : pR) (a0 : Nat) (rec0 : (Int32 × Int32) → Option Int32) (s0 : Int32 × Int32) : Option Int32 :=
  Option.bind (P a0 0) fun q22 =>
  p_ck (p_ib N q22 1) <|
  (if (I q22 (Int32.toNatClampNeg 1)) ≤ s0.2 then
    some s0.1
  else
    Option.bind (f_X12_seesSender N I P a0 s0.2) fun q26 =>
    p_let (α := Int32) ((if q26 = 0 then
      0
    else
      1)) fun t28 =>
    rec0 (s0.1 + t28, s0.2 + 1))
def f_X12_count (n : Nat) (N : pN) (I : pI) (L : pL) (P : pR) (a0 : Nat) (x1 : Int32) : Option (Int32 × pI × pL) :=
  Option.bind (p_it (B_X12_count_7 N I P a0) n (0, 0)) fun t1 =>
  Option.bind (p_it (B_X12_count_44 N I P a0) n (0, 0)) fun t20 =>
  (if x1 = 0 then
    some (t1, I, L)
  else
    (if x1 = 1 then
      some (t20, I, L)
    else
      (if x1 = 2 then
        Option.bind (P a0 0) fun q65 =>
        p_ck (p_ib N q65 0) <|
        some (I q65 (Int32.toNatClampNeg 0), I, L)
      else
        (if x1 = 3 then
          Option.bind (P a0 0) fun q61 =>
          p_ck (p_ib N q61 1) <|
          some (I q61 (Int32.toNatClampNeg 1), I, L)
        else
          (if x1 = 4 then
            Option.bind (P a0 0) fun q57 =>
            p_ck (p_ib N q57 2) <|
            some (I q57 (Int32.toNatClampNeg 2), I, L)
          else
            (if x1 = 5 then
              Option.bind (P a0 0) fun q53 =>
              p_ck (p_ib N q53 3) <|
              some (I q53 (Int32.toNatClampNeg 3), I, L)
            else
              (if x1 = 6 then
                Option.bind (P a0 0) fun q49 =>
                p_ck (p_ib N q49 4) <|
                some (I q49 (Int32.toNatClampNeg 4), I, L)
              else
                (if x1 = 7 then
                  Option.bind (P a0 0) fun q45 =>
                  p_ck (p_ib N q45 5) <|
                  some (I q45 (Int32.toNatClampNeg 5), I, L)
                else
                  (if x1 = 8 then
                    Option.bind (P a0 0) fun q41 =>
                    p_ck (p_ib N q41 6) <|
                    some (I q41 (Int32.toNatClampNeg 6), I, L)
                  else
                    (if x1 = 9 then
                      Option.bind (f_X12_colouring n N I L P a0) fun q39 =>
                      some (q39.1, q39.2.1, q39.2.2)
                    else
                      some ((-2), I, L)))))))))))
theorem c_X12_count {G : pG} {d : Nat} {n : Nat} {N : pN} {I : pI} {L : pL} {P : pR} {a0 : Nat} {x1 : Int32} {qq : Int32 × pI × pL} (hd : 10 ≤ d) (hW : WT N P) (ha0 : p_tp N a0 15) (hf : f_X12_count n N I L P a0 x1 = some qq) : MT G mX12_count d 0 0 [.ref a0, .int x1] N I L P (p_R (some (.int qq.1)) N qq.2.1 qq.2.2 P) := by
  refine MT.of rfl (Nat.le_of_ble_eq_true rfl) ?_
  show SW G mX12_count (p_rm d 0 0) 0 0 0 0 (p_R (some (.int qq.1)) N qq.2.1 qq.2.2 P) 0 [(0, .ref a0), (1, .int x1)] [] N I L P
  unfold f_X12_count at hf
  refine s_iconst (pc := 0) dX12_count_0 (v := 0) rfl ?_
  refine s_istore_n (pc := 1) (lo' := [(2, .int 0), (0, .ref a0), (1, .int x1)]) dX12_count_1 rfl (Nat.le_of_ble_eq_true rfl) rfl ?_
  refine s_iconst (pc := 2) dX12_count_2 (v := 0) rfl ?_
  refine s_istore_n (pc := 3) (lo' := [(3, .int 0), (2, .int 0), (0, .ref a0), (1, .int x1)]) dX12_count_3 rfl (Nat.le_of_ble_eq_true rfl) rfl ?_
  refine s_iconst (pc := 4) dX12_count_4 (v := 0) rfl ?_
  refine s_istore (pc := 5) (lo' := [(4, .int 0), (3, .int 0), (2, .int 0), (0, .ref a0), (1, .int x1)]) dX12_count_5 (Nat.le_of_ble_eq_true rfl) rfl ?_
  obtain ⟨t1, hg, hf⟩ := p_bd hf
  have k2 : SW G mX12_count (p_rm d 0 0) 0 0 0 0 (p_R (some (.int qq.1)) N qq.2.1 qq.2.2 P) 41 [(3, .int 0), (0, .ref a0), (1, .int x1), (2, .int t1)] [] N I L P := by
    refine s_iconst (pc := 41) dX12_count_41 (v := 0) rfl ?_
    refine s_istore (pc := 42) (lo' := [(4, .int 0), (3, .int 0), (0, .ref a0), (1, .int x1), (2, .int t1)]) dX12_count_42 (Nat.le_of_ble_eq_true rfl) rfl ?_
    obtain ⟨t20, hg, hf⟩ := p_bd hf
    have k21 : SW G mX12_count (p_rm d 0 0) 0 0 0 0 (p_R (some (.int qq.1)) N qq.2.1 qq.2.2 P) 78 [(0, .ref a0), (1, .int x1), (2, .int t1), (3, .int t20)] [] N I L P := by
      refine s_iload_n (pc := 78) dX12_count_78 1 rfl rfl ?_
      by_cases hc0 : x1 = 0
      · replace hf := p_ps hf hc0
        refine s_tableIn (pc := 79) (tgt := 132) (off := 53) dX12_count_79 (by rw [hc0]; decide) (by rw [hc0]; decide) (by rw [hc0]; rfl) rfl ?_
        refine s_iload_n (pc := 132) dX12_count_132 2 rfl rfl ?_
        cases hf
        exact s_ireturn (pc := 133) dX12_count_133 rfl rfl ⟨rfl, rfl, rfl, rfl, rfl⟩
      · replace hf := p_ng hf hc0
        by_cases hc1 : x1 = 1
        · replace hf := p_ps hf hc1
          refine s_tableIn (pc := 79) (tgt := 134) (off := 55) dX12_count_79 (by rw [hc1]; decide) (by rw [hc1]; decide) (by rw [hc1]; rfl) rfl ?_
          refine s_iload_n (pc := 134) dX12_count_134 3 rfl rfl ?_
          cases hf
          exact s_ireturn (pc := 135) dX12_count_135 rfl rfl ⟨rfl, rfl, rfl, rfl, rfl⟩
        · replace hf := p_ng hf hc1
          by_cases hc2 : x1 = 2
          · replace hf := p_ps hf hc2
            refine s_tableIn (pc := 79) (tgt := 136) (off := 57) dX12_count_79 (by rw [hc2]; decide) (by rw [hc2]; decide) (by rw [hc2]; rfl) rfl ?_
            refine s_aload_n (pc := 136) dX12_count_136 0 rfl rfl ?_
            obtain ⟨q65, h66, hf⟩ := p_bd hf
            have t67 : p_tp N q65 0 := WT.get hW ha0 h66
            refine x_getR (pc := 137) dX12_count_137 fl_X12_7 rfl ha0 h66 ?_
            refine s_iconst (pc := 140) dX12_count_140 (v := 0) rfl ?_
            obtain ⟨c68, hf⟩ := p_ckx hf
            refine x_iald (pc := 141) dX12_count_141 t67 c68 ?_
            cases hf
            exact s_ireturn (pc := 142) dX12_count_142 rfl rfl ⟨rfl, rfl, rfl, rfl, rfl⟩
          · replace hf := p_ng hf hc2
            by_cases hc3 : x1 = 3
            · replace hf := p_ps hf hc3
              refine s_tableIn (pc := 79) (tgt := 143) (off := 64) dX12_count_79 (by rw [hc3]; decide) (by rw [hc3]; decide) (by rw [hc3]; rfl) rfl ?_
              refine s_aload_n (pc := 143) dX12_count_143 0 rfl rfl ?_
              obtain ⟨q61, h62, hf⟩ := p_bd hf
              have t63 : p_tp N q61 0 := WT.get hW ha0 h62
              refine x_getR (pc := 144) dX12_count_144 fl_X12_7 rfl ha0 h62 ?_
              refine s_iconst (pc := 147) dX12_count_147 (v := 1) rfl ?_
              obtain ⟨c64, hf⟩ := p_ckx hf
              refine x_iald (pc := 148) dX12_count_148 t63 c64 ?_
              cases hf
              exact s_ireturn (pc := 149) dX12_count_149 rfl rfl ⟨rfl, rfl, rfl, rfl, rfl⟩
            · replace hf := p_ng hf hc3
              by_cases hc4 : x1 = 4
              · replace hf := p_ps hf hc4
                refine s_tableIn (pc := 79) (tgt := 150) (off := 71) dX12_count_79 (by rw [hc4]; decide) (by rw [hc4]; decide) (by rw [hc4]; rfl) rfl ?_
                refine s_aload_n (pc := 150) dX12_count_150 0 rfl rfl ?_
                obtain ⟨q57, h58, hf⟩ := p_bd hf
                have t59 : p_tp N q57 0 := WT.get hW ha0 h58
                refine x_getR (pc := 151) dX12_count_151 fl_X12_7 rfl ha0 h58 ?_
                refine s_iconst (pc := 154) dX12_count_154 (v := 2) rfl ?_
                obtain ⟨c60, hf⟩ := p_ckx hf
                refine x_iald (pc := 155) dX12_count_155 t59 c60 ?_
                cases hf
                exact s_ireturn (pc := 156) dX12_count_156 rfl rfl ⟨rfl, rfl, rfl, rfl, rfl⟩
              · replace hf := p_ng hf hc4
                by_cases hc5 : x1 = 5
                · replace hf := p_ps hf hc5
                  refine s_tableIn (pc := 79) (tgt := 157) (off := 78) dX12_count_79 (by rw [hc5]; decide) (by rw [hc5]; decide) (by rw [hc5]; rfl) rfl ?_
                  refine s_aload_n (pc := 157) dX12_count_157 0 rfl rfl ?_
                  obtain ⟨q53, h54, hf⟩ := p_bd hf
                  have t55 : p_tp N q53 0 := WT.get hW ha0 h54
                  refine x_getR (pc := 158) dX12_count_158 fl_X12_7 rfl ha0 h54 ?_
                  refine s_iconst (pc := 161) dX12_count_161 (v := 3) rfl ?_
                  obtain ⟨c56, hf⟩ := p_ckx hf
                  refine x_iald (pc := 162) dX12_count_162 t55 c56 ?_
                  cases hf
                  exact s_ireturn (pc := 163) dX12_count_163 rfl rfl ⟨rfl, rfl, rfl, rfl, rfl⟩
                · replace hf := p_ng hf hc5
                  by_cases hc6 : x1 = 6
                  · replace hf := p_ps hf hc6
                    refine s_tableIn (pc := 79) (tgt := 164) (off := 85) dX12_count_79 (by rw [hc6]; decide) (by rw [hc6]; decide) (by rw [hc6]; rfl) rfl ?_
                    refine s_aload_n (pc := 164) dX12_count_164 0 rfl rfl ?_
                    obtain ⟨q49, h50, hf⟩ := p_bd hf
                    have t51 : p_tp N q49 0 := WT.get hW ha0 h50
                    refine x_getR (pc := 165) dX12_count_165 fl_X12_7 rfl ha0 h50 ?_
                    refine s_iconst (pc := 168) dX12_count_168 (v := 4) rfl ?_
                    obtain ⟨c52, hf⟩ := p_ckx hf
                    refine x_iald (pc := 169) dX12_count_169 t51 c52 ?_
                    cases hf
                    exact s_ireturn (pc := 170) dX12_count_170 rfl rfl ⟨rfl, rfl, rfl, rfl, rfl⟩
                  · replace hf := p_ng hf hc6
                    by_cases hc7 : x1 = 7
                    · replace hf := p_ps hf hc7
                      refine s_tableIn (pc := 79) (tgt := 171) (off := 92) dX12_count_79 (by rw [hc7]; decide) (by rw [hc7]; decide) (by rw [hc7]; rfl) rfl ?_
                      refine s_aload_n (pc := 171) dX12_count_171 0 rfl rfl ?_
                      obtain ⟨q45, h46, hf⟩ := p_bd hf
                      have t47 : p_tp N q45 0 := WT.get hW ha0 h46
                      refine x_getR (pc := 172) dX12_count_172 fl_X12_7 rfl ha0 h46 ?_
                      refine s_iconst (pc := 175) dX12_count_175 (v := 5) rfl ?_
                      obtain ⟨c48, hf⟩ := p_ckx hf
                      refine x_iald (pc := 176) dX12_count_176 t47 c48 ?_
                      cases hf
                      exact s_ireturn (pc := 177) dX12_count_177 rfl rfl ⟨rfl, rfl, rfl, rfl, rfl⟩
                    · replace hf := p_ng hf hc7
                      by_cases hc8 : x1 = 8
                      · replace hf := p_ps hf hc8
                        refine s_tableIn (pc := 79) (tgt := 178) (off := 99) dX12_count_79 (by rw [hc8]; decide) (by rw [hc8]; decide) (by rw [hc8]; rfl) rfl ?_
                        refine s_aload_n (pc := 178) dX12_count_178 0 rfl rfl ?_
                        obtain ⟨q41, h42, hf⟩ := p_bd hf
                        have t43 : p_tp N q41 0 := WT.get hW ha0 h42
                        refine x_getR (pc := 179) dX12_count_179 fl_X12_7 rfl ha0 h42 ?_
                        refine s_bipush (pc := 182) dX12_count_182 (v := 6) rfl ?_
                        obtain ⟨c44, hf⟩ := p_ckx hf
                        refine x_iald (pc := 184) dX12_count_184 t43 c44 ?_
                        cases hf
                        exact s_ireturn (pc := 185) dX12_count_185 rfl rfl ⟨rfl, rfl, rfl, rfl, rfl⟩
                      · replace hf := p_ng hf hc8
                        by_cases hc9 : x1 = 9
                        · replace hf := p_ps hf hc9
                          refine s_tableIn (pc := 79) (tgt := 186) (off := 107) dX12_count_79 (by rw [hc9]; decide) (by rw [hc9]; decide) (by rw [hc9]; rfl) rfl ?_
                          refine s_aload_n (pc := 186) dX12_count_186 0 rfl rfl ?_
                          obtain ⟨q39, h40, hf⟩ := p_bd hf
                          refine y_callV1 (pc := 187) dX12_count_187 (c_X12_colouring (p_dd hd (by decide)) hW ha0 h40) mk_X12_colouring mv_X12_colouring ml_X12_282 rfl rfl (Nat.le_of_ble_eq_true rfl) ha0 rfl (p_d1 hd (by decide)) (Nat.le_of_ble_eq_true rfl) ?_
                          cases hf
                          exact s_ireturn (pc := 190) dX12_count_190 rfl rfl ⟨rfl, rfl, rfl, rfl, rfl⟩
                        · replace hf := p_ng hf hc9
                          have hout : x1.toInt < 0 ∨ 9 < x1.toInt := p_out (fun i h1 h2 => by
                            have hh : i = 0 ∨ i = 1 ∨ i = 2 ∨ i = 3 ∨ i = 4 ∨ i = 5 ∨ i = 6 ∨ i = 7 ∨ i = 8 ∨ i = 9 := by omega
                            rcases hh with rfl | rfl | rfl | rfl | rfl | rfl | rfl | rfl | rfl | rfl
                            · exact p_ne hc0 rfl
                            · exact p_ne hc1 rfl
                            · exact p_ne hc2 rfl
                            · exact p_ne hc3 rfl
                            · exact p_ne hc4 rfl
                            · exact p_ne hc5 rfl
                            · exact p_ne hc6 rfl
                            · exact p_ne hc7 rfl
                            · exact p_ne hc8 rfl
                            · exact p_ne hc9 rfl)
                          refine s_tableOut (pc := 79) (tgt := 191) dX12_count_79 hout rfl ?_
                          refine s_bipush (pc := 191) dX12_count_191 (v := -2) rfl ?_
                          cases hf
                          exact s_ireturn (pc := 193) dX12_count_193 rfl rfl ⟨rfl, rfl, rfl, rfl, rfl⟩
    replace hf := hg
    have k30 : ∀ (k : Nat) (s0 : Int32 × Int32), p_it (B_X12_count_44 N I P a0) k s0 = some t20 → (SW G mX12_count (p_rm d 0 0) 0 0 0 0 (p_R (some (.int qq.1)) N qq.2.1 qq.2.2 P) 44 [(0, .ref a0), (1, .int x1), (2, .int t1), (3, .int s0.1), (4, .int s0.2)] [] N I L P) := p_it_ind (C := fun (s0 : Int32 × Int32) => SW G mX12_count (p_rm d 0 0) 0 0 0 0 (p_R (some (.int qq.1)) N qq.2.1 qq.2.2 P) 44 [(0, .ref a0), (1, .int x1), (2, .int t1), (3, .int s0.1), (4, .int s0.2)] [] N I L P) (by
      intro rec0 hrec0 s0 hf
      unfold B_X12_count_44 at hf
      refine s_iload (pc := 44) dX12_count_44 4 rfl ?_
      refine s_aload_n (pc := 46) dX12_count_46 0 rfl rfl ?_
      obtain ⟨q31, h32, hf⟩ := p_bd hf
      have t33 : p_tp N q31 0 := WT.get hW ha0 h32
      refine x_getR (pc := 47) dX12_count_47 fl_X12_7 rfl ha0 h32 ?_
      refine s_iconst (pc := 50) dX12_count_50 (v := 1) rfl ?_
      obtain ⟨c34, hf⟩ := p_ckx hf
      refine x_iald (pc := 51) dX12_count_51 t33 c34 ?_
      refine s_icmp_ge (pc := 52) (tgt := 78) dX12_count_52 rfl (fun hc => ?_) (fun hc => ?_)
      · replace hf := p_ps hf hc
        cases hf
        exact s_lo [0, 1, 2, 3] rfl (k21)
      · replace hf := p_ng hf hc
        refine s_iload_n (pc := 55) dX12_count_55 3 rfl rfl ?_
        refine s_aload_n (pc := 56) dX12_count_56 0 rfl rfl ?_
        refine s_iload (pc := 57) dX12_count_57 4 rfl ?_
        obtain ⟨q35, h36, hf⟩ := p_bd hf
        refine y_callV1 (pc := 59) dX12_count_59 (c_X12_seesSender (p_dd hd (by decide)) hW ha0 h36) mk_X12_seesSender mv_X12_seesSender ml_X12_215 rfl rfl (Nat.le_of_ble_eq_true rfl) ha0 rfl (p_d1 hd (by decide)) (Nat.le_of_ble_eq_true rfl) ?_
        obtain ⟨t37, hg, hf⟩ := p_lx2 hf
        have k38 : SW G mX12_count (p_rm d 0 0) 0 0 0 0 (p_R (some (.int qq.1)) N qq.2.1 qq.2.2 P) 70 [(0, .ref a0), (1, .int x1), (2, .int t1), (4, .int s0.2)] [.int t37, .int s0.1] N I L P := by
          refine s_iadd (pc := 70) dX12_count_70 ?_
          refine s_istore_n (pc := 71) (lo' := [(3, .int (s0.1 + t37)), (0, .ref a0), (1, .int x1), (2, .int t1), (4, .int s0.2)]) dX12_count_71 rfl (Nat.le_of_ble_eq_true rfl) rfl ?_
          refine s_iinc (pc := 72) (lo' := [(4, .int (s0.2 + 1)), (3, .int (s0.1 + t37)), (0, .ref a0), (1, .int x1), (2, .int t1)]) dX12_count_72 4 rfl (v := s0.2 + 1) rfl (Nat.le_of_ble_eq_true rfl) rfl ?_
          refine s_goto (pc := 75) (tgt := 44) dX12_count_75 rfl ?_
          exact s_lo [2, 3, 4, 1, 0] rfl (hrec0 (s0.1 + t37, s0.2 + 1) hf)
        replace hf := hg.symm
        refine s_if_eq (pc := 62) (tgt := 69) dX12_count_62 rfl (fun hc => ?_) (fun hc => ?_)
        · replace hf := p_ps hf hc
          refine s_iconst (pc := 69) dX12_count_69 (v := 0) rfl ?_
          cases hf
          exact s_lo [0, 1, 2, 4] rfl (k38)
        · replace hf := p_ng hf hc
          refine s_iconst (pc := 65) dX12_count_65 (v := 1) rfl ?_
          refine s_goto (pc := 66) (tgt := 70) dX12_count_66 rfl ?_
          cases hf
          exact s_lo [0, 1, 2, 4] rfl (k38))
    exact s_lo [2, 3, 4, 1, 0] rfl (k30 n (0, 0) hf)
  replace hf := hg
  have k11 : ∀ (k : Nat) (s0 : Int32 × Int32), p_it (B_X12_count_7 N I P a0) k s0 = some t1 → (SW G mX12_count (p_rm d 0 0) 0 0 0 0 (p_R (some (.int qq.1)) N qq.2.1 qq.2.2 P) 7 [(3, .int 0), (0, .ref a0), (1, .int x1), (2, .int s0.1), (4, .int s0.2)] [] N I L P) := p_it_ind (C := fun (s0 : Int32 × Int32) => SW G mX12_count (p_rm d 0 0) 0 0 0 0 (p_R (some (.int qq.1)) N qq.2.1 qq.2.2 P) 7 [(3, .int 0), (0, .ref a0), (1, .int x1), (2, .int s0.1), (4, .int s0.2)] [] N I L P) (by
    intro rec0 hrec0 s0 hf
    unfold B_X12_count_7 at hf
    refine s_iload (pc := 7) dX12_count_7 4 rfl ?_
    refine s_aload_n (pc := 9) dX12_count_9 1 rfl rfl ?_
    obtain ⟨q12, h13, hf⟩ := p_bd hf
    have t14 : p_tp N q12 0 := WT.get hW ha0 h13
    refine x_getR (pc := 10) dX12_count_10 fl_X12_7 rfl ha0 h13 ?_
    refine s_iconst (pc := 13) dX12_count_13 (v := 0) rfl ?_
    obtain ⟨c15, hf⟩ := p_ckx hf
    refine x_iald (pc := 14) dX12_count_14 t14 c15 ?_
    refine s_icmp_ge (pc := 15) (tgt := 41) dX12_count_15 rfl (fun hc => ?_) (fun hc => ?_)
    · replace hf := p_ps hf hc
      cases hf
      exact s_lo [0, 1, 2, 3] rfl (k2)
    · replace hf := p_ng hf hc
      refine s_iload_n (pc := 18) dX12_count_18 3 rfl rfl ?_
      refine s_aload_n (pc := 19) dX12_count_19 1 rfl rfl ?_
      refine s_iload (pc := 20) dX12_count_20 4 rfl ?_
      obtain ⟨q16, h17, hf⟩ := p_bd hf
      refine y_callV1 (pc := 22) dX12_count_22 (c_X12_seesWall (p_dd hd (by decide)) hW ha0 h17) mk_X12_seesWall mv_X12_seesWall ml_X12_113 rfl rfl (Nat.le_of_ble_eq_true rfl) ha0 rfl (p_d1 hd (by decide)) (Nat.le_of_ble_eq_true rfl) ?_
      obtain ⟨t18, hg, hf⟩ := p_lx2 hf
      have k19 : SW G mX12_count (p_rm d 0 0) 0 0 0 0 (p_R (some (.int qq.1)) N qq.2.1 qq.2.2 P) 33 [(3, .int 0), (0, .ref a0), (1, .int x1), (4, .int s0.2)] [.int t18, .int s0.1] N I L P := by
        refine s_iadd (pc := 33) dX12_count_33 ?_
        refine s_istore_n (pc := 34) (lo' := [(2, .int (s0.1 + t18)), (3, .int 0), (0, .ref a0), (1, .int x1), (4, .int s0.2)]) dX12_count_34 rfl (Nat.le_of_ble_eq_true rfl) rfl ?_
        refine s_iinc (pc := 35) (lo' := [(4, .int (s0.2 + 1)), (2, .int (s0.1 + t18)), (3, .int 0), (0, .ref a0), (1, .int x1)]) dX12_count_35 4 rfl (v := s0.2 + 1) rfl (Nat.le_of_ble_eq_true rfl) rfl ?_
        refine s_goto (pc := 38) (tgt := 7) dX12_count_38 rfl ?_
        exact s_lo [2, 3, 4, 1, 0] rfl (hrec0 (s0.1 + t18, s0.2 + 1) hf)
      replace hf := hg.symm
      refine s_if_eq (pc := 25) (tgt := 32) dX12_count_25 rfl (fun hc => ?_) (fun hc => ?_)
      · replace hf := p_ps hf hc
        refine s_iconst (pc := 32) dX12_count_32 (v := 0) rfl ?_
        cases hf
        exact s_lo [0, 1, 2, 4] rfl (k19)
      · replace hf := p_ng hf hc
        refine s_iconst (pc := 28) dX12_count_28 (v := 1) rfl ?_
        refine s_goto (pc := 29) (tgt := 33) dX12_count_29 rfl ?_
        cases hf
        exact s_lo [0, 1, 2, 4] rfl (k19))
  exact s_lo [1, 3, 4, 2, 0] rfl (k11 n (0, 0) hf)
def B_X12_image_20 (N : pN) (P : pR) (a0 : Nat) (x1 : Int32) (rec0 : (Int32 × pI) → Option pI) (s0 : Int32 × pI) : Option pI :=
  (if 1160 ≤ s0.1 then
    some s0.2
  else
    Option.bind (P a0 0) fun q11 =>
    Option.bind (P a0 0) fun q14 =>
    p_ck (p_ib N q14 s0.1) <|
    p_ck (p_ib N q11 ((1160 * (x1 + 1)) + s0.1)) <|
    p_let (p_u s0.2 q11 (Int32.toNatClampNeg ((1160 * (x1 + 1)) + s0.1)) (s0.2 q14 (Int32.toNatClampNeg s0.1))) fun I19 =>
    rec0 (s0.1 + 1, I19))
def f_X12_image (n : Nat) (N : pN) (I : pI) (P : pR) (a0 : Nat) (x1 : Int32) : Option (Int32 × pI) :=
  Option.bind (f_X12_isIn x1 0 2) fun q1 =>
  (if q1 = 0 then
    some (0, I)
  else
    Option.bind (P a0 1) fun q3 =>
    p_ck (p_ib N q3 x1) <|
    p_let (p_u I q3 (Int32.toNatClampNeg x1) 1) fun I7 =>
    Option.bind (p_it (B_X12_image_20 N P a0 x1) n (0, I7)) fun t9 =>
    some (1, t9))
theorem c_X12_image {G : pG} {d : Nat} {n : Nat} {N : pN} {I : pI} {L : pL} {P : pR} {a0 : Nat} {x1 : Int32} {qq : Int32 × pI} (hd : 1 ≤ d) (hW : WT N P) (ha0 : p_tp N a0 15) (hf : f_X12_image n N I P a0 x1 = some qq) : MT G mX12_image d 0 0 [.ref a0, .int x1] N I L P (p_R (some (.int qq.1)) N qq.2 L P) := by
  refine MT.of rfl (Nat.le_of_ble_eq_true rfl) ?_
  show SW G mX12_image (p_rm d 0 0) 0 0 0 0 (p_R (some (.int qq.1)) N qq.2 L P) 0 [(0, .ref a0), (1, .int x1)] [] N I L P
  unfold f_X12_image at hf
  refine s_iload_n (pc := 0) dX12_image_0 1 rfl rfl ?_
  refine s_iconst (pc := 1) dX12_image_1 (v := 0) rfl ?_
  refine s_iconst (pc := 2) dX12_image_2 (v := 2) rfl ?_
  obtain ⟨q1, h2, hf⟩ := p_bd hf
  refine y_callS1 (pc := 3) dX12_image_3 (c_X12_isIn (p_dd hd (by decide)) hW  h2) mk_X12_isIn mz_X12_isIn ml_X12_68 rfl rfl (Nat.le_of_ble_eq_true rfl) (p_d1 hd (by decide)) (Nat.le_of_ble_eq_true rfl) ?_
  refine s_if_ne (pc := 6) (tgt := 11) dX12_image_6 rfl (fun hc => ?_) (fun hc => ?_)
  · replace hf := p_ng hf hc
    refine s_aload_n (pc := 11) dX12_image_11 0 rfl rfl ?_
    obtain ⟨q3, h4, hf⟩ := p_bd hf
    have t5 : p_tp N q3 1 := WT.get hW ha0 h4
    refine x_getR (pc := 12) dX12_image_12 fl_X12_13 rfl ha0 h4 ?_
    refine s_iload_n (pc := 15) dX12_image_15 1 rfl rfl ?_
    refine s_iconst (pc := 16) dX12_image_16 (v := 1) rfl ?_
    obtain ⟨c6, hf⟩ := p_ckx hf
    refine x_zast (pc := 17) dX12_image_17 t5 c6 (by decide) ?_
    refine s_nmI (fun I7 e8 => ?_)
    replace hf := p_lx hf e8
    refine s_iconst (pc := 18) dX12_image_18 (v := 0) rfl ?_
    refine s_istore_n (pc := 19) (lo' := [(2, .int 0), (0, .ref a0), (1, .int x1)]) dX12_image_19 rfl (Nat.le_of_ble_eq_true rfl) rfl ?_
    obtain ⟨t9, hg, hf⟩ := p_bd hf
    have k10 : SW G mX12_image (p_rm d 0 0) 0 0 0 0 (p_R (some (.int qq.1)) N qq.2 L P) 53 [] [] N t9 L P := by
      refine s_iconst (pc := 53) dX12_image_53 (v := 1) rfl ?_
      cases hf
      exact s_ireturn (pc := 54) dX12_image_54 rfl rfl ⟨rfl, rfl, rfl, rfl, rfl⟩
    replace hf := hg
    have k21 : ∀ (k : Nat) (s0 : Int32 × pI), p_it (B_X12_image_20 N P a0 x1) k s0 = some t9 → (SW G mX12_image (p_rm d 0 0) 0 0 0 0 (p_R (some (.int qq.1)) N qq.2 L P) 20 [(0, .ref a0), (1, .int x1), (2, .int s0.1)] [] N s0.2 L P) := p_it_ind (C := fun (s0 : Int32 × pI) => SW G mX12_image (p_rm d 0 0) 0 0 0 0 (p_R (some (.int qq.1)) N qq.2 L P) 20 [(0, .ref a0), (1, .int x1), (2, .int s0.1)] [] N s0.2 L P) (by
      intro rec0 hrec0 s0 hf
      unfold B_X12_image_20 at hf
      refine s_iload_n (pc := 20) dX12_image_20 2 rfl rfl ?_
      refine s_sipush (pc := 21) dX12_image_21 (v := 1160) rfl ?_
      refine s_icmp_ge (pc := 24) (tgt := 53) dX12_image_24 rfl (fun hc => ?_) (fun hc => ?_)
      · replace hf := p_ps hf hc
        cases hf
        exact s_lo [] rfl (k10)
      · replace hf := p_ng hf hc
        refine s_aload_n (pc := 27) dX12_image_27 0 rfl rfl ?_
        obtain ⟨q22, h23, hf⟩ := p_bd hf
        have t24 : p_tp N q22 0 := WT.get hW ha0 h23
        refine x_getR (pc := 28) dX12_image_28 fl_X12_7 rfl ha0 h23 ?_
        refine s_sipush (pc := 31) dX12_image_31 (v := 1160) rfl ?_
        refine s_iload_n (pc := 34) dX12_image_34 1 rfl rfl ?_
        refine s_iconst (pc := 35) dX12_image_35 (v := 1) rfl ?_
        refine s_iadd (pc := 36) dX12_image_36 ?_
        refine s_imul (pc := 37) dX12_image_37 ?_
        refine s_iload_n (pc := 38) dX12_image_38 2 rfl rfl ?_
        refine s_iadd (pc := 39) dX12_image_39 ?_
        refine s_aload_n (pc := 40) dX12_image_40 0 rfl rfl ?_
        obtain ⟨q25, h26, hf⟩ := p_bd hf
        have t27 : p_tp N q25 0 := WT.get hW ha0 h26
        refine x_getR (pc := 41) dX12_image_41 fl_X12_7 rfl ha0 h26 ?_
        refine s_iload_n (pc := 44) dX12_image_44 2 rfl rfl ?_
        obtain ⟨c28, hf⟩ := p_ckx hf
        refine x_iald (pc := 45) dX12_image_45 t27 c28 ?_
        obtain ⟨c29, hf⟩ := p_ckx hf
        refine x_iast (pc := 46) dX12_image_46 t24 c29 ?_
        refine s_nmI (fun I30 e31 => ?_)
        replace hf := p_lx hf e31
        refine s_iinc (pc := 47) (lo' := [(2, .int (s0.1 + 1)), (0, .ref a0), (1, .int x1)]) dX12_image_47 2 rfl (v := s0.1 + 1) rfl (Nat.le_of_ble_eq_true rfl) rfl ?_
        refine s_goto (pc := 50) (tgt := 20) dX12_image_50 rfl ?_
        exact s_lo [1, 2, 0] rfl (hrec0 (s0.1 + 1, I30) hf))
    exact s_lo [1, 2, 0] rfl (k21 n (0, I7) hf)
  · replace hf := p_ps hf hc
    refine s_iconst (pc := 9) dX12_image_9 (v := 0) rfl ?_
    cases hf
    exact s_ireturn (pc := 10) dX12_image_10 rfl rfl ⟨rfl, rfl, rfl, rfl, rfl⟩
def B_X12_again_22 (N : pN) (P : pR) (a0 : Nat) (x1 : Int32) (rec0 : (Int32 × pI) → Option pI) (s0 : Int32 × pI) : Option pI :=
  (if 1160 ≤ s0.1 then
    some s0.2
  else
    Option.bind (P a0 0) fun q9 =>
    Option.bind (P a0 0) fun q12 =>
    p_ck (p_ib N q12 ((1160 * (x1 + 1)) + s0.1)) <|
    p_ck (p_ib N q9 s0.1) <|
    p_let (p_u s0.2 q9 (Int32.toNatClampNeg s0.1) (s0.2 q12 (Int32.toNatClampNeg ((1160 * (x1 + 1)) + s0.1)))) fun I17 =>
    rec0 (s0.1 + 1, I17))
def f_X12_again (n : Nat) (N : pN) (I : pI) (P : pR) (a0 : Nat) (x1 : Int32) : Option (Int32 × pI) :=
  Option.bind (f_X12_isIn x1 0 2) fun q1 =>
  (if q1 = 0 then
    some (0, I)
  else
    Option.bind (P a0 1) fun q3 =>
    p_ck (p_ib N q3 x1) <|
    (if (I q3 (Int32.toNatClampNeg x1)) = 0 then
      some (0, I)
    else
      Option.bind (p_it (B_X12_again_22 N P a0 x1) n (0, I)) fun t7 =>
      Option.bind (f_X12_forgets n N t7 P a0) fun q30 =>
      some (1, q30)))
theorem c_X12_again {G : pG} {d : Nat} {n : Nat} {N : pN} {I : pI} {L : pL} {P : pR} {a0 : Nat} {x1 : Int32} {qq : Int32 × pI} (hd : 1 ≤ d) (hW : WT N P) (ha0 : p_tp N a0 15) (hf : f_X12_again n N I P a0 x1 = some qq) : MT G mX12_again d 0 0 [.ref a0, .int x1] N I L P (p_R (some (.int qq.1)) N qq.2 L P) := by
  refine MT.of rfl (Nat.le_of_ble_eq_true rfl) ?_
  show SW G mX12_again (p_rm d 0 0) 0 0 0 0 (p_R (some (.int qq.1)) N qq.2 L P) 0 [(0, .ref a0), (1, .int x1)] [] N I L P
  unfold f_X12_again at hf
  refine s_iload_n (pc := 0) dX12_again_0 1 rfl rfl ?_
  refine s_iconst (pc := 1) dX12_again_1 (v := 0) rfl ?_
  refine s_iconst (pc := 2) dX12_again_2 (v := 2) rfl ?_
  obtain ⟨q1, h2, hf⟩ := p_bd hf
  refine y_callS1 (pc := 3) dX12_again_3 (c_X12_isIn (p_dd hd (by decide)) hW  h2) mk_X12_isIn mz_X12_isIn ml_X12_68 rfl rfl (Nat.le_of_ble_eq_true rfl) (p_d1 hd (by decide)) (Nat.le_of_ble_eq_true rfl) ?_
  refine s_if_eq (pc := 6) (tgt := 18) dX12_again_6 rfl (fun hc => ?_) (fun hc => ?_)
  · replace hf := p_ps hf hc
    refine s_iconst (pc := 18) dX12_again_18 (v := 0) rfl ?_
    cases hf
    exact s_ireturn (pc := 19) dX12_again_19 rfl rfl ⟨rfl, rfl, rfl, rfl, rfl⟩
  · replace hf := p_ng hf hc
    refine s_aload_n (pc := 9) dX12_again_9 0 rfl rfl ?_
    obtain ⟨q3, h4, hf⟩ := p_bd hf
    have t5 : p_tp N q3 1 := WT.get hW ha0 h4
    refine x_getR (pc := 10) dX12_again_10 fl_X12_13 rfl ha0 h4 ?_
    refine s_iload_n (pc := 13) dX12_again_13 1 rfl rfl ?_
    obtain ⟨c6, hf⟩ := p_ckx hf
    refine x_zald (pc := 14) dX12_again_14 t5 c6 ?_
    refine s_if_ne (pc := 15) (tgt := 20) dX12_again_15 rfl (fun hc => ?_) (fun hc => ?_)
    · replace hf := p_ng hf hc
      refine s_iconst (pc := 20) dX12_again_20 (v := 0) rfl ?_
      refine s_istore_n (pc := 21) (lo' := [(2, .int 0), (0, .ref a0), (1, .int x1)]) dX12_again_21 rfl (Nat.le_of_ble_eq_true rfl) rfl ?_
      obtain ⟨t7, hg, hf⟩ := p_bd hf
      have k8 : SW G mX12_again (p_rm d 0 0) 0 0 0 0 (p_R (some (.int qq.1)) N qq.2 L P) 55 [(0, .ref a0)] [] N t7 L P := by
        refine s_aload_n (pc := 55) dX12_again_55 0 rfl rfl ?_
        obtain ⟨q30, h31, hf⟩ := p_bd hf
        refine y_callV0 (pc := 56) dX12_again_56 (c_X12_forgets (p_dd hd (by decide)) hW ha0 h31) mk_X12_forgets mv_X12_forgets ml_X12_65 rfl rfl (Nat.le_of_ble_eq_true rfl) ha0 rfl (p_d1 hd (by decide)) (Nat.le_of_ble_eq_true rfl) ?_
        refine s_iconst (pc := 59) dX12_again_59 (v := 1) rfl ?_
        cases hf
        exact s_ireturn (pc := 60) dX12_again_60 rfl rfl ⟨rfl, rfl, rfl, rfl, rfl⟩
      replace hf := hg
      have k19 : ∀ (k : Nat) (s0 : Int32 × pI), p_it (B_X12_again_22 N P a0 x1) k s0 = some t7 → (SW G mX12_again (p_rm d 0 0) 0 0 0 0 (p_R (some (.int qq.1)) N qq.2 L P) 22 [(0, .ref a0), (1, .int x1), (2, .int s0.1)] [] N s0.2 L P) := p_it_ind (C := fun (s0 : Int32 × pI) => SW G mX12_again (p_rm d 0 0) 0 0 0 0 (p_R (some (.int qq.1)) N qq.2 L P) 22 [(0, .ref a0), (1, .int x1), (2, .int s0.1)] [] N s0.2 L P) (by
        intro rec0 hrec0 s0 hf
        unfold B_X12_again_22 at hf
        refine s_iload_n (pc := 22) dX12_again_22 2 rfl rfl ?_
        refine s_sipush (pc := 23) dX12_again_23 (v := 1160) rfl ?_
        refine s_icmp_ge (pc := 26) (tgt := 55) dX12_again_26 rfl (fun hc => ?_) (fun hc => ?_)
        · replace hf := p_ps hf hc
          cases hf
          exact s_lo [0] rfl (k8)
        · replace hf := p_ng hf hc
          refine s_aload_n (pc := 29) dX12_again_29 0 rfl rfl ?_
          obtain ⟨q20, h21, hf⟩ := p_bd hf
          have t22 : p_tp N q20 0 := WT.get hW ha0 h21
          refine x_getR (pc := 30) dX12_again_30 fl_X12_7 rfl ha0 h21 ?_
          refine s_iload_n (pc := 33) dX12_again_33 2 rfl rfl ?_
          refine s_aload_n (pc := 34) dX12_again_34 0 rfl rfl ?_
          obtain ⟨q23, h24, hf⟩ := p_bd hf
          have t25 : p_tp N q23 0 := WT.get hW ha0 h24
          refine x_getR (pc := 35) dX12_again_35 fl_X12_7 rfl ha0 h24 ?_
          refine s_sipush (pc := 38) dX12_again_38 (v := 1160) rfl ?_
          refine s_iload_n (pc := 41) dX12_again_41 1 rfl rfl ?_
          refine s_iconst (pc := 42) dX12_again_42 (v := 1) rfl ?_
          refine s_iadd (pc := 43) dX12_again_43 ?_
          refine s_imul (pc := 44) dX12_again_44 ?_
          refine s_iload_n (pc := 45) dX12_again_45 2 rfl rfl ?_
          refine s_iadd (pc := 46) dX12_again_46 ?_
          obtain ⟨c26, hf⟩ := p_ckx hf
          refine x_iald (pc := 47) dX12_again_47 t25 c26 ?_
          obtain ⟨c27, hf⟩ := p_ckx hf
          refine x_iast (pc := 48) dX12_again_48 t22 c27 ?_
          refine s_nmI (fun I28 e29 => ?_)
          replace hf := p_lx hf e29
          refine s_iinc (pc := 49) (lo' := [(2, .int (s0.1 + 1)), (0, .ref a0), (1, .int x1)]) dX12_again_49 2 rfl (v := s0.1 + 1) rfl (Nat.le_of_ble_eq_true rfl) rfl ?_
          refine s_goto (pc := 52) (tgt := 22) dX12_again_52 rfl ?_
          exact s_lo [1, 2, 0] rfl (hrec0 (s0.1 + 1, I28) hf))
      exact s_lo [1, 2, 0] rfl (k19 n (0, I) hf)
    · replace hf := p_ps hf hc
      refine s_iconst (pc := 18) dX12_again_18 (v := 0) rfl ?_
      cases hf
      exact s_ireturn (pc := 19) dX12_again_19 rfl rfl ⟨rfl, rfl, rfl, rfl, rfl⟩
