def f_X8_init (N : pN) (I : pI) (L : pL) (P : pR) (a0 : Nat) (x1 : Int32) (x2 : Int32) : Option (pN × pI × pL × pR) :=
  p_let (p_u I a0 0 (if nI 0 < x1 then x1 else nI 0)) fun I1 =>
  p_let (p_u I1 a0 1 (if nI 0 < x2 then x2 else nI 0)) fun I3 =>
  p_ck (p_sz ((I3 a0 0) * (I3 a0 1)) 1100) <|
  p_ck (decide (N.1 < 1000000)) <|
  p_let (p_nw N I3 L P (0, Int32.toNatClampNeg ((I3 a0 0) * (I3 a0 1)))) fun w5 =>
  p_let (p_u w5.2.2.2 a0 2 (some N.1)) fun P14 =>
  some (w5.1, w5.2.1, w5.2.2.1, P14)
theorem c_X8_init {G : pG} {d : Nat} {N : pN} {I : pI} {L : pL} {P : pR} {a0 : Nat} {x1 : Int32} {x2 : Int32} {qq : pN × pI × pL × pR} (hd : 1 ≤ d) (hW : WT N P) (ha0 : p_tp N a0 11) (hf : f_X8_init N I L P a0 x1 x2 = some qq) : MT G mX8_init d 1 1100 [.ref a0, .int x1, .int x2] N I L P (p_R none qq.1 qq.2.1 qq.2.2.1 qq.2.2.2) := by
  refine MT.of rfl (Nat.le_of_ble_eq_true rfl) ?_
  show SW G mX8_init (p_rm d 1 1100) 1 1100 0 0 (p_R none qq.1 qq.2.1 qq.2.2.1 qq.2.2.2) 0 [(0, .ref a0), (1, .int x1), (2, .int x2)] [] N I L P
  unfold f_X8_init at hf
  refine s_aload_n (pc := 0) dX8_init_0 0 rfl rfl ?_
  refine z_obj (pc := 1) dX8_init_1 ml_X8_3 (p_d1 hd (by decide)) (Nat.le_of_ble_eq_true rfl) ?_
  refine s_aload_n (pc := 4) dX8_init_4 0 rfl rfl ?_
  refine s_iconst (pc := 5) dX8_init_5 (v := nI 0) rfl ?_
  refine s_iload_n (pc := 6) dX8_init_6 1 rfl rfl ?_
  refine z_max (pc := 7) dX8_init_7 ml_X8_9 (p_d1 hd (by decide)) (Nat.le_of_ble_eq_true rfl) (by decide) (by decide) ?_
  refine x_putI (pc := 10) dX8_init_10 fl_X8_15 (Or.inr ⟨rfl, rfl⟩) rfl ha0 ?_
  refine s_nmI (fun I1 e2 => ?_)
  replace hf := p_lx hf e2
  refine s_aload_n (pc := 13) dX8_init_13 0 rfl rfl ?_
  refine s_iconst (pc := 14) dX8_init_14 (v := nI 0) rfl ?_
  refine s_iload_n (pc := 15) dX8_init_15 2 rfl rfl ?_
  refine z_max (pc := 16) dX8_init_16 ml_X8_9 (p_d1 hd (by decide)) (Nat.le_of_ble_eq_true rfl) (by decide) (by decide) ?_
  refine x_putI (pc := 19) dX8_init_19 fl_X8_21 (Or.inr ⟨rfl, rfl⟩) rfl ha0 ?_
  refine s_nmI (fun I3 e4 => ?_)
  replace hf := p_lx hf e4
  refine s_aload_n (pc := 22) dX8_init_22 0 rfl rfl ?_
  refine s_aload_n (pc := 23) dX8_init_23 0 rfl rfl ?_
  refine x_getI (pc := 24) dX8_init_24 fl_X8_15 rfl ha0 ?_
  refine s_aload_n (pc := 27) dX8_init_27 0 rfl rfl ?_
  refine x_getI (pc := 28) dX8_init_28 fl_X8_21 rfl ha0 ?_
  refine s_imul (pc := 31) dX8_init_31 ?_
  obtain ⟨c8, hf⟩ := p_ckx hf
  obtain ⟨c7, hf⟩ := p_ckx hf
  refine a_newI (pc := 32) (z := (I3 a0 0) * (I3 a0 1)) (cap := 1100) dX8_init_32 c8 (by decide) (by decide) (by decide) c7 (fun w5 e6 => ?_)
  replace hf := p_lx hf e6
  have t9 : p_tp w5.1 a0 11 := (p_nwx e6) _ _ ha0
  have t10 : p_tp w5.1 N.1 0 := p_nws e6
  have w11 : WT w5.1 w5.2.2.2 := p_nww e6 hW
  have x12 : p_ext N w5.1 := p_ext.tr p_ext.rf (p_nwx e6)
  refine x_putR (pc := 34) dX8_init_34 fl_X8_24 (Or.inr ⟨rfl, rfl⟩) rfl t9 ?_
  refine s_nmP (fun P14 e15 => ?_)
  replace hf := p_lx hf e15
  have w13 : WT w5.1 P14 := by rw [e15]; exact WT.put w11 t9 (fun q hq => by cases hq; exact t10)
  cases hf
  refine s_widen (c2 := 1) (s2 := 1100) (by decide) (by decide) ?_
  exact s_return (pc := 37) dX8_init_37 rfl ⟨rfl, rfl, rfl, rfl, rfl⟩
theorem g_X8_init {N : pN} {I : pI} {L : pL} {P : pR} {a0 : Nat} {x1 : Int32} {x2 : Int32} {qq : pN × pI × pL × pR} (hW : WT N P) (ha0 : p_tp N a0 11) (hf : f_X8_init N I L P a0 x1 x2 = some qq) : WT qq.1 qq.2.2.2 ∧ p_ext N qq.1 := by
  unfold f_X8_init at hf
  obtain ⟨I1, e2, hf⟩ := p_lx2 hf
  obtain ⟨I3, e4, hf⟩ := p_lx2 hf
  obtain ⟨c8, hf⟩ := p_ckx hf
  obtain ⟨c7, hf⟩ := p_ckx hf
  obtain ⟨w5, e6, hf⟩ := p_lx2 hf
  have t9 : p_tp w5.1 a0 11 := (p_nwx e6) _ _ ha0
  have t10 : p_tp w5.1 N.1 0 := p_nws e6
  have w11 : WT w5.1 w5.2.2.2 := p_nww e6 hW
  have x12 : p_ext N w5.1 := p_ext.tr p_ext.rf (p_nwx e6)
  obtain ⟨P14, e15, hf⟩ := p_lx2 hf
  have w13 : WT w5.1 P14 := by rw [e15]; exact WT.put w11 t9 (fun q hq => by cases hq; exact t10)
  cases hf
  exact ⟨w13, x12⟩
def f_X6_init (N : pN) (I : pI) (L : pL) (P : pR) (a0 : Nat) : Option (pN × pI × pL × pR) :=
  p_let (p_u L a0 0 0) fun L1 =>
  p_let (p_u L1 a0 1 0) fun L3 =>
  p_let (p_u L3 a0 2 1) fun L5 =>
  some (N, I, L5, P)
theorem c_X6_init {G : pG} {d : Nat} {N : pN} {I : pI} {L : pL} {P : pR} {a0 : Nat} {qq : pN × pI × pL × pR} (hd : 1 ≤ d) (hW : WT N P) (ha0 : p_tp N a0 9) (hf : f_X6_init N I L P a0 = some qq) : MT G mX6_init d 0 0 [.ref a0] N I L P (p_R none qq.1 qq.2.1 qq.2.2.1 qq.2.2.2) := by
  refine MT.of rfl (Nat.le_of_ble_eq_true rfl) ?_
  show SW G mX6_init (p_rm d 0 0) 0 0 0 0 (p_R none qq.1 qq.2.1 qq.2.2.1 qq.2.2.2) 0 [(0, .ref a0)] [] N I L P
  unfold f_X6_init at hf
  refine s_aload_n (pc := 0) dX6_init_0 0 rfl rfl ?_
  refine z_obj (pc := 1) dX6_init_1 ml_X6_1 (p_d1 hd (by decide)) (Nat.le_of_ble_eq_true rfl) ?_
  refine s_aload_n (pc := 4) dX6_init_4 0 rfl rfl ?_
  refine s_lconst (pc := 5) dX6_init_5 (v := 0) rfl ?_
  refine x_putL (pc := 6) dX6_init_6 fl_X6_7 (Or.inl rfl) rfl ha0 ?_
  refine s_nmL (fun L1 e2 => ?_)
  replace hf := p_lx hf e2
  refine s_aload_n (pc := 9) dX6_init_9 0 rfl rfl ?_
  refine s_lconst (pc := 10) dX6_init_10 (v := 0) rfl ?_
  refine x_putL (pc := 11) dX6_init_11 fl_X6_13 (Or.inl rfl) rfl ha0 ?_
  refine s_nmL (fun L3 e4 => ?_)
  replace hf := p_lx hf e4
  refine s_aload_n (pc := 14) dX6_init_14 0 rfl rfl ?_
  refine s_lconst (pc := 15) dX6_init_15 (v := 1) rfl ?_
  refine x_putL (pc := 16) dX6_init_16 fl_X6_16 (Or.inl rfl) rfl ha0 ?_
  refine s_nmL (fun L5 e6 => ?_)
  replace hf := p_lx hf e6
  cases hf
  refine s_widen (c2 := 0) (s2 := 0) (by decide) (by decide) ?_
  exact s_return (pc := 19) dX6_init_19 rfl ⟨rfl, rfl, rfl, rfl, rfl⟩
theorem g_X6_init {N : pN} {I : pI} {L : pL} {P : pR} {a0 : Nat} {qq : pN × pI × pL × pR} (hW : WT N P) (ha0 : p_tp N a0 9) (hf : f_X6_init N I L P a0 = some qq) : WT qq.1 qq.2.2.2 ∧ p_ext N qq.1 := by
  unfold f_X6_init at hf
  obtain ⟨L1, e2, hf⟩ := p_lx2 hf
  obtain ⟨L3, e4, hf⟩ := p_lx2 hf
  obtain ⟨L5, e6, hf⟩ := p_lx2 hf
  cases hf
  exact ⟨hW, p_ext.rf⟩
def f_X0_init (N : pN) (I : pI) (L : pL) (P : pR) (a0 : Nat) (x1 : Int32) (r2 : Option Nat) : Option (pN × pI × pL × pR) :=
  p_let (p_u I a0 2 (nI 0)) fun I1 =>
  p_let (p_u I1 a0 3 (nI 0)) fun I3 =>
  p_let (p_u I3 a0 4 (nI 0)) fun I5 =>
  p_let (p_u I5 a0 5 (nI 0)) fun I7 =>
  p_let (p_u I7 a0 6 (nI 0)) fun I9 =>
  p_let (p_u I9 a0 7 (nI 0)) fun I11 =>
  p_let (p_u I11 a0 8 (nI 0)) fun I13 =>
  p_let (p_u I13 a0 0 x1) fun I15 =>
  p_let (p_u P a0 1 r2) fun P18 =>
  some (N, I15, L, P18)
theorem c_X0_init {G : pG} {d : Nat} {N : pN} {I : pI} {L : pL} {P : pR} {a0 : Nat} {x1 : Int32} {r2 : Option Nat} {qq : pN × pI × pL × pR} (hd : 1 ≤ d) (hW : WT N P) (ha0 : p_tp N a0 3) (hr2 : ∀ q, r2 = some q → p_tp N q 3) (hf : f_X0_init N I L P a0 x1 r2 = some qq) : MT G mX0_init d 0 0 [.ref a0, .int x1, va_rf r2] N I L P (p_R none qq.1 qq.2.1 qq.2.2.1 qq.2.2.2) := by
  refine MT.of rfl (by cases r2 <;> exact Nat.le_of_ble_eq_true rfl) ?_
  show SW G mX0_init (p_rm d 0 0) 0 0 0 0 (p_R none qq.1 qq.2.1 qq.2.2.1 qq.2.2.2) 0 [(0, .ref a0), (1, .int x1), (2, va_rf r2)] [] N I L P
  unfold f_X0_init at hf
  refine s_aload_n (pc := 0) dX0_init_0 0 rfl rfl ?_
  refine z_obj (pc := 1) dX0_init_1 ml_X0_1 (p_d1 hd (by decide)) (Nat.le_of_ble_eq_true rfl) ?_
  refine s_aload_n (pc := 4) dX0_init_4 0 rfl rfl ?_
  refine s_iconst (pc := 5) dX0_init_5 (v := nI 0) rfl ?_
  refine x_putZ (pc := 6) dX0_init_6 fl_X0_7 (Or.inl rfl) rfl (by decide) ha0 ?_
  refine s_nmI (fun I1 e2 => ?_)
  replace hf := p_lx hf e2
  refine s_aload_n (pc := 9) dX0_init_9 0 rfl rfl ?_
  refine s_iconst (pc := 10) dX0_init_10 (v := nI 0) rfl ?_
  refine x_putZ (pc := 11) dX0_init_11 fl_X0_13 (Or.inl rfl) rfl (by decide) ha0 ?_
  refine s_nmI (fun I3 e4 => ?_)
  replace hf := p_lx hf e4
  refine s_aload_n (pc := 14) dX0_init_14 0 rfl rfl ?_
  refine s_iconst (pc := 15) dX0_init_15 (v := nI 0) rfl ?_
  refine x_putI (pc := 16) dX0_init_16 fl_X0_16 (Or.inl rfl) rfl ha0 ?_
  refine s_nmI (fun I5 e6 => ?_)
  replace hf := p_lx hf e6
  refine s_aload_n (pc := 19) dX0_init_19 0 rfl rfl ?_
  refine s_iconst (pc := 20) dX0_init_20 (v := nI 0) rfl ?_
  refine x_putI (pc := 21) dX0_init_21 fl_X0_20 (Or.inl rfl) rfl ha0 ?_
  refine s_nmI (fun I7 e8 => ?_)
  replace hf := p_lx hf e8
  refine s_aload_n (pc := 24) dX0_init_24 0 rfl rfl ?_
  refine s_iconst (pc := 25) dX0_init_25 (v := nI 0) rfl ?_
  refine x_putI (pc := 26) dX0_init_26 fl_X0_23 (Or.inl rfl) rfl ha0 ?_
  refine s_nmI (fun I9 e10 => ?_)
  replace hf := p_lx hf e10
  refine s_aload_n (pc := 29) dX0_init_29 0 rfl rfl ?_
  refine s_iconst (pc := 30) dX0_init_30 (v := nI 0) rfl ?_
  refine x_putI (pc := 31) dX0_init_31 fl_X0_26 (Or.inl rfl) rfl ha0 ?_
  refine s_nmI (fun I11 e12 => ?_)
  replace hf := p_lx hf e12
  refine s_aload_n (pc := 34) dX0_init_34 0 rfl rfl ?_
  refine s_iconst (pc := 35) dX0_init_35 (v := nI 0) rfl ?_
  refine x_putI (pc := 36) dX0_init_36 fl_X0_29 (Or.inl rfl) rfl ha0 ?_
  refine s_nmI (fun I13 e14 => ?_)
  replace hf := p_lx hf e14
  refine s_aload_n (pc := 39) dX0_init_39 0 rfl rfl ?_
  refine s_iload_n (pc := 40) dX0_init_40 1 rfl rfl ?_
  refine x_putI (pc := 41) dX0_init_41 fl_X0_32 (Or.inr ⟨rfl, rfl⟩) rfl ha0 ?_
  refine s_nmI (fun I15 e16 => ?_)
  replace hf := p_lx hf e16
  refine s_aload_n (pc := 44) dX0_init_44 0 rfl rfl ?_
  refine x_aloadQ_n (pc := 45) dX0_init_45 2 rfl rfl ?_
  refine x_putQ (pc := 46) dX0_init_46 fl_X0_35 (Or.inr ⟨rfl, rfl⟩) rfl ha0 ?_
  refine s_nmP (fun P18 e19 => ?_)
  replace hf := p_lx hf e19
  have w17 : WT N P18 := by rw [e19]; exact WT.put hW ha0 hr2
  cases hf
  refine s_widen (c2 := 0) (s2 := 0) (by decide) (by decide) ?_
  exact s_return (pc := 49) dX0_init_49 rfl ⟨rfl, rfl, rfl, rfl, rfl⟩
theorem g_X0_init {N : pN} {I : pI} {L : pL} {P : pR} {a0 : Nat} {x1 : Int32} {r2 : Option Nat} {qq : pN × pI × pL × pR} (hW : WT N P) (ha0 : p_tp N a0 3) (hr2 : ∀ q, r2 = some q → p_tp N q 3) (hf : f_X0_init N I L P a0 x1 r2 = some qq) : WT qq.1 qq.2.2.2 ∧ p_ext N qq.1 := by
  unfold f_X0_init at hf
  obtain ⟨I1, e2, hf⟩ := p_lx2 hf
  obtain ⟨I3, e4, hf⟩ := p_lx2 hf
  obtain ⟨I5, e6, hf⟩ := p_lx2 hf
  obtain ⟨I7, e8, hf⟩ := p_lx2 hf
  obtain ⟨I9, e10, hf⟩ := p_lx2 hf
  obtain ⟨I11, e12, hf⟩ := p_lx2 hf
  obtain ⟨I13, e14, hf⟩ := p_lx2 hf
  obtain ⟨I15, e16, hf⟩ := p_lx2 hf
  obtain ⟨P18, e19, hf⟩ := p_lx2 hf
  have w17 : WT N P18 := by rw [e19]; exact WT.put hW ha0 hr2
  cases hf
  exact ⟨w17, p_ext.rf⟩
def f_X7_init (N : pN) (I : pI) (L : pL) (P : pR) (a0 : Nat) : Option (pN × pI × pL × pR) :=
  p_ck (decide (N.1 < 1000000)) <|
  p_let (p_nw N I L P (11, 0)) fun w1 =>
  Option.bind (f_X8_init w1.1 w1.2.1 w1.2.2.1 w1.2.2.2 N.1 (nI 500) (nI 1)) fun q8 =>
  p_let (p_u q8.2.2.2 a0 0 (some N.1)) fun P16 =>
  p_ck (decide (q8.1.1 < 1000000)) <|
  p_let (p_nw q8.1 q8.2.1 q8.2.2.1 P16 (11, 0)) fun w18 =>
  Option.bind (f_X8_init w18.1 w18.2.1 w18.2.2.1 w18.2.2.2 q8.1.1 (nI 12) (nI 7)) fun q25 =>
  p_let (p_u q25.2.2.2 a0 1 (some q8.1.1)) fun P33 =>
  p_ck (decide (q25.1.1 < 1000000)) <|
  p_let (p_nw q25.1 q25.2.1 q25.2.2.1 P33 (11, 0)) fun w35 =>
  Option.bind (f_X8_init w35.1 w35.2.1 w35.2.2.1 w35.2.2.2 q25.1.1 (nI 6) (nI 8)) fun q42 =>
  p_let (p_u q42.2.2.2 a0 2 (some q25.1.1)) fun P50 =>
  p_ck (decide (q42.1.1 < 1000000)) <|
  p_let (p_nw q42.1 q42.2.1 q42.2.2.1 P50 (11, 0)) fun w52 =>
  Option.bind (f_X8_init w52.1 w52.2.1 w52.2.2.1 w52.2.2.2 q42.1.1 (nI 8) (nI 4)) fun q59 =>
  p_let (p_u q59.2.2.2 a0 3 (some q42.1.1)) fun P67 =>
  p_ck (decide (q59.1.1 < 1000000)) <|
  p_let (p_nw q59.1 q59.2.1 q59.2.2.1 P67 (11, 0)) fun w69 =>
  Option.bind (f_X8_init w69.1 w69.2.1 w69.2.2.1 w69.2.2.2 q59.1.1 (nI 8) (nI 2)) fun q76 =>
  p_let (p_u q76.2.2.2 a0 4 (some q59.1.1)) fun P84 =>
  p_ck (decide (q76.1.1 < 1000000)) <|
  p_let (p_nw q76.1 q76.2.1 q76.2.2.1 P84 (11, 0)) fun w86 =>
  Option.bind (f_X8_init w86.1 w86.2.1 w86.2.2.1 w86.2.2.2 q76.1.1 (nI 5) (nI 2)) fun q93 =>
  p_let (p_u q93.2.2.2 a0 5 (some q76.1.1)) fun P101 =>
  p_ck (decide (q93.1.1 < 1000000)) <|
  p_let (p_nw q93.1 q93.2.1 q93.2.2.1 P101 (11, 0)) fun w103 =>
  Option.bind (f_X8_init w103.1 w103.2.1 w103.2.2.1 w103.2.2.2 q93.1.1 (nI 7) (nI 1)) fun q110 =>
  p_let (p_u q110.2.2.2 a0 6 (some q93.1.1)) fun P118 =>
  p_ck (decide (q110.1.1 < 1000000)) <|
  p_let (p_nw q110.1 q110.2.1 q110.2.2.1 P118 (11, 0)) fun w120 =>
  Option.bind (f_X8_init w120.1 w120.2.1 w120.2.2.1 w120.2.2.2 q110.1.1 (nI 16) (nI 18)) fun q127 =>
  p_let (p_u q127.2.2.2 a0 7 (some q110.1.1)) fun P135 =>
  p_ck (decide (q127.1.1 < 1000000)) <|
  p_let (p_nw q127.1 q127.2.1 q127.2.2.1 P135 (11, 0)) fun w137 =>
  Option.bind (f_X8_init w137.1 w137.2.1 w137.2.2.1 w137.2.2.2 q127.1.1 (nI 60) (nI 2)) fun q144 =>
  p_let (p_u q144.2.2.2 a0 8 (some q127.1.1)) fun P152 =>
  p_let (p_u q144.2.1 a0 9 (nI 0)) fun I154 =>
  p_let (p_u I154 a0 10 (-1)) fun I156 =>
  p_let (p_u I156 a0 11 (nI 0)) fun I158 =>
  p_let (p_u I158 a0 12 (-1)) fun I160 =>
  Option.bind (P152 a0 5) fun q162 =>
  Option.bind (f_X8_add I160 q162) fun q165 =>
  Option.bind (P152 a0 5) fun q167 =>
  Option.bind (f_X8_put q144.1 q165.2 P152 q167 (nI 0) (nI 0) (nI 50)) fun q170 =>
  Option.bind (P152 a0 5) fun q172 =>
  Option.bind (f_X8_put q144.1 q170 P152 q172 (nI 0) (nI 1) (nI 0)) fun q175 =>
  Option.bind (P152 a0 5) fun q177 =>
  Option.bind (f_X8_add q175 q177) fun q180 =>
  Option.bind (P152 a0 5) fun q182 =>
  Option.bind (f_X8_put q144.1 q180.2 P152 q182 (nI 1) (nI 0) (nI 50)) fun q185 =>
  Option.bind (P152 a0 5) fun q187 =>
  Option.bind (f_X8_put q144.1 q185 P152 q187 (nI 1) (nI 1) (nI 0)) fun q190 =>
  Option.bind (P152 a0 5) fun q192 =>
  Option.bind (f_X8_add q190 q192) fun q195 =>
  Option.bind (P152 a0 5) fun q197 =>
  Option.bind (f_X8_put q144.1 q195.2 P152 q197 (nI 2) (nI 0) (nI 50)) fun q200 =>
  Option.bind (P152 a0 5) fun q202 =>
  Option.bind (f_X8_put q144.1 q200 P152 q202 (nI 2) (nI 1) (nI 0)) fun q205 =>
  Option.bind (P152 a0 5) fun q207 =>
  Option.bind (f_X8_add q205 q207) fun q210 =>
  Option.bind (P152 a0 5) fun q212 =>
  Option.bind (f_X8_put q144.1 q210.2 P152 q212 (nI 3) (nI 0) (nI 50)) fun q215 =>
  Option.bind (P152 a0 5) fun q217 =>
  Option.bind (f_X8_put q144.1 q215 P152 q217 (nI 3) (nI 1) (nI 0)) fun q220 =>
  Option.bind (P152 a0 5) fun q222 =>
  Option.bind (f_X8_add q220 q222) fun q225 =>
  Option.bind (P152 a0 5) fun q227 =>
  Option.bind (f_X8_put q144.1 q225.2 P152 q227 (nI 4) (nI 0) (nI 50)) fun q230 =>
  Option.bind (P152 a0 5) fun q232 =>
  Option.bind (f_X8_put q144.1 q230 P152 q232 (nI 4) (nI 1) (nI 0)) fun q235 =>
  Option.bind (P152 a0 6) fun q237 =>
  Option.bind (f_X8_add q235 q237) fun q240 =>
  Option.bind (P152 a0 6) fun q242 =>
  p_ck (p_rb 0 (nI 0)) <|
  Option.bind (f_X8_put q144.1 q240.2 P152 q242 (nI 0) (nI 0) ((p_row 0).getD (Int32.toNatClampNeg (nI 0)) 0)) fun q246 =>
  Option.bind (P152 a0 6) fun q248 =>
  Option.bind (f_X8_add q246 q248) fun q251 =>
  Option.bind (P152 a0 6) fun q253 =>
  p_ck (p_rb 0 (nI 1)) <|
  Option.bind (f_X8_put q144.1 q251.2 P152 q253 (nI 1) (nI 0) ((p_row 0).getD (Int32.toNatClampNeg (nI 1)) 0)) fun q257 =>
  Option.bind (P152 a0 6) fun q259 =>
  Option.bind (f_X8_add q257 q259) fun q262 =>
  Option.bind (P152 a0 6) fun q264 =>
  p_ck (p_rb 0 (nI 2)) <|
  Option.bind (f_X8_put q144.1 q262.2 P152 q264 (nI 2) (nI 0) ((p_row 0).getD (Int32.toNatClampNeg (nI 2)) 0)) fun q268 =>
  Option.bind (P152 a0 6) fun q270 =>
  Option.bind (f_X8_add q268 q270) fun q273 =>
  Option.bind (P152 a0 6) fun q275 =>
  p_ck (p_rb 0 (nI 3)) <|
  Option.bind (f_X8_put q144.1 q273.2 P152 q275 (nI 3) (nI 0) ((p_row 0).getD (Int32.toNatClampNeg (nI 3)) 0)) fun q279 =>
  Option.bind (P152 a0 6) fun q281 =>
  Option.bind (f_X8_add q279 q281) fun q284 =>
  Option.bind (P152 a0 6) fun q286 =>
  p_ck (p_rb 0 (nI 4)) <|
  Option.bind (f_X8_put q144.1 q284.2 P152 q286 (nI 4) (nI 0) ((p_row 0).getD (Int32.toNatClampNeg (nI 4)) 0)) fun q290 =>
  Option.bind (P152 a0 6) fun q292 =>
  Option.bind (f_X8_add q290 q292) fun q295 =>
  Option.bind (P152 a0 6) fun q297 =>
  p_ck (p_rb 0 (nI 5)) <|
  Option.bind (f_X8_put q144.1 q295.2 P152 q297 (nI 5) (nI 0) ((p_row 0).getD (Int32.toNatClampNeg (nI 5)) 0)) fun q301 =>
  Option.bind (P152 a0 6) fun q303 =>
  Option.bind (f_X8_add q301 q303) fun q306 =>
  Option.bind (P152 a0 6) fun q308 =>
  p_ck (p_rb 0 (nI 6)) <|
  Option.bind (f_X8_put q144.1 q306.2 P152 q308 (nI 6) (nI 0) ((p_row 0).getD (Int32.toNatClampNeg (nI 6)) 0)) fun q312 =>
  some (q144.1, q312, q144.2.2.1, P152)
theorem c_X7_init {G : pG} {d : Nat} {N : pN} {I : pI} {L : pL} {P : pR} {a0 : Nat} {qq : pN × pI × pL × pR} (hd : 2 ≤ d) (hW : WT N P) (ha0 : p_tp N a0 10) (hf : f_X7_init N I L P a0 = some qq) : MT G mX7_init d 18 9936 [.ref a0] N I L P (p_R none qq.1 qq.2.1 qq.2.2.1 qq.2.2.2) := by
  refine MT.of rfl (Nat.le_of_ble_eq_true rfl) ?_
  show SW G mX7_init (p_rm d 18 9936) 18 9936 0 0 (p_R none qq.1 qq.2.1 qq.2.2.1 qq.2.2.2) 0 [(0, .ref a0)] [] N I L P
  unfold f_X7_init at hf
  refine s_aload_n (pc := 0) dX7_init_0 0 rfl rfl ?_
  refine z_obj (pc := 1) dX7_init_1 ml_X7_3 (p_d1 hd (by decide)) (Nat.le_of_ble_eq_true rfl) ?_
  refine s_aload_n (pc := 4) dX7_init_4 0 rfl rfl ?_
  obtain ⟨c3, hf⟩ := p_ckx hf
  refine a_new (pc := 5) (ci := 8) dX7_init_5 rfl kk_X7_9 (by decide) (by decide) c3 (fun w1 e2 => ?_)
  replace hf := p_lx hf e2
  have t4 : p_tp w1.1 a0 10 := (p_nwx e2) _ _ ha0
  have t5 : p_tp w1.1 N.1 11 := p_nws e2
  have w6 : WT w1.1 w1.2.2.2 := p_nww e2 hW
  have x7 : p_ext N w1.1 := p_ext.tr p_ext.rf (p_nwx e2)
  refine s_dup (pc := 8) dX7_init_8 rfl ?_
  refine s_sipush (pc := 9) dX7_init_9 (v := nI 500) rfl ?_
  refine s_iconst (pc := 12) dX7_init_12 (v := nI 1) rfl ?_
  obtain ⟨q8, h9, hf⟩ := p_bd hf
  have g10 := g_X8_init w6 t5 h9
  have t11 : p_tp q8.1 a0 10 := g10.2 _ _ t4
  have t12 : p_tp q8.1 N.1 11 := g10.2 _ _ t5
  have w13 : WT q8.1 q8.2.2.2 := g10.1
  have x14 : p_ext N q8.1 := p_ext.tr x7 g10.2
  refine z_callI (pc := 13) dX7_init_13 (c_X8_init (p_dd hd (by decide)) w6 t5 h9) mk_X8_init mi_X8_init rfl rfl ml_X7_11 rfl rfl (Nat.le_of_ble_eq_true rfl) t5 (p_d1 hd (by decide)) (Nat.le_of_ble_eq_true rfl) (by decide) (by decide) ?_
  refine x_putR (pc := 16) dX7_init_16 fl_X7_14 (Or.inr ⟨rfl, rfl⟩) rfl t11 ?_
  refine s_nmP (fun P16 e17 => ?_)
  replace hf := p_lx hf e17
  have w15 : WT q8.1 P16 := by rw [e17]; exact WT.put w13 t11 (fun q hq => by cases hq; exact t12)
  refine s_aload_n (pc := 19) dX7_init_19 0 rfl rfl ?_
  obtain ⟨c20, hf⟩ := p_ckx hf
  refine a_new (pc := 20) (ci := 8) dX7_init_20 rfl kk_X7_9 (by decide) (by decide) c20 (fun w18 e19 => ?_)
  replace hf := p_lx hf e19
  have t21 : p_tp w18.1 a0 10 := (p_nwx e19) _ _ t11
  have t22 : p_tp w18.1 q8.1.1 11 := p_nws e19
  have w23 : WT w18.1 w18.2.2.2 := p_nww e19 w15
  have x24 : p_ext N w18.1 := p_ext.tr x14 (p_nwx e19)
  refine s_dup (pc := 23) dX7_init_23 rfl ?_
  refine s_bipush (pc := 24) dX7_init_24 (v := nI 12) rfl ?_
  refine s_bipush (pc := 26) dX7_init_26 (v := nI 7) rfl ?_
  obtain ⟨q25, h26, hf⟩ := p_bd hf
  have g27 := g_X8_init w23 t22 h26
  have t28 : p_tp q25.1 a0 10 := g27.2 _ _ t21
  have t29 : p_tp q25.1 q8.1.1 11 := g27.2 _ _ t22
  have w30 : WT q25.1 q25.2.2.2 := g27.1
  have x31 : p_ext N q25.1 := p_ext.tr x24 g27.2
  refine z_callI (pc := 28) dX7_init_28 (c_X8_init (p_dd hd (by decide)) w23 t22 h26) mk_X8_init mi_X8_init rfl rfl ml_X7_11 rfl rfl (Nat.le_of_ble_eq_true rfl) t22 (p_d1 hd (by decide)) (Nat.le_of_ble_eq_true rfl) (by decide) (by decide) ?_
  refine x_putR (pc := 31) dX7_init_31 fl_X7_20 (Or.inr ⟨rfl, rfl⟩) rfl t28 ?_
  refine s_nmP (fun P33 e34 => ?_)
  replace hf := p_lx hf e34
  have w32 : WT q25.1 P33 := by rw [e34]; exact WT.put w30 t28 (fun q hq => by cases hq; exact t29)
  refine s_aload_n (pc := 34) dX7_init_34 0 rfl rfl ?_
  obtain ⟨c37, hf⟩ := p_ckx hf
  refine a_new (pc := 35) (ci := 8) dX7_init_35 rfl kk_X7_9 (by decide) (by decide) c37 (fun w35 e36 => ?_)
  replace hf := p_lx hf e36
  have t38 : p_tp w35.1 a0 10 := (p_nwx e36) _ _ t28
  have t39 : p_tp w35.1 q25.1.1 11 := p_nws e36
  have w40 : WT w35.1 w35.2.2.2 := p_nww e36 w32
  have x41 : p_ext N w35.1 := p_ext.tr x31 (p_nwx e36)
  refine s_dup (pc := 38) dX7_init_38 rfl ?_
  refine s_bipush (pc := 39) dX7_init_39 (v := nI 6) rfl ?_
  refine s_bipush (pc := 41) dX7_init_41 (v := nI 8) rfl ?_
  obtain ⟨q42, h43, hf⟩ := p_bd hf
  have g44 := g_X8_init w40 t39 h43
  have t45 : p_tp q42.1 a0 10 := g44.2 _ _ t38
  have t46 : p_tp q42.1 q25.1.1 11 := g44.2 _ _ t39
  have w47 : WT q42.1 q42.2.2.2 := g44.1
  have x48 : p_ext N q42.1 := p_ext.tr x41 g44.2
  refine z_callI (pc := 43) dX7_init_43 (c_X8_init (p_dd hd (by decide)) w40 t39 h43) mk_X8_init mi_X8_init rfl rfl ml_X7_11 rfl rfl (Nat.le_of_ble_eq_true rfl) t39 (p_d1 hd (by decide)) (Nat.le_of_ble_eq_true rfl) (by decide) (by decide) ?_
  refine x_putR (pc := 46) dX7_init_46 fl_X7_23 (Or.inr ⟨rfl, rfl⟩) rfl t45 ?_
  refine s_nmP (fun P50 e51 => ?_)
  replace hf := p_lx hf e51
  have w49 : WT q42.1 P50 := by rw [e51]; exact WT.put w47 t45 (fun q hq => by cases hq; exact t46)
  refine s_aload_n (pc := 49) dX7_init_49 0 rfl rfl ?_
  obtain ⟨c54, hf⟩ := p_ckx hf
  refine a_new (pc := 50) (ci := 8) dX7_init_50 rfl kk_X7_9 (by decide) (by decide) c54 (fun w52 e53 => ?_)
  replace hf := p_lx hf e53
  have t55 : p_tp w52.1 a0 10 := (p_nwx e53) _ _ t45
  have t56 : p_tp w52.1 q42.1.1 11 := p_nws e53
  have w57 : WT w52.1 w52.2.2.2 := p_nww e53 w49
  have x58 : p_ext N w52.1 := p_ext.tr x48 (p_nwx e53)
  refine s_dup (pc := 53) dX7_init_53 rfl ?_
  refine s_bipush (pc := 54) dX7_init_54 (v := nI 8) rfl ?_
  refine s_iconst (pc := 56) dX7_init_56 (v := nI 4) rfl ?_
  obtain ⟨q59, h60, hf⟩ := p_bd hf
  have g61 := g_X8_init w57 t56 h60
  have t62 : p_tp q59.1 a0 10 := g61.2 _ _ t55
  have t63 : p_tp q59.1 q42.1.1 11 := g61.2 _ _ t56
  have w64 : WT q59.1 q59.2.2.2 := g61.1
  have x65 : p_ext N q59.1 := p_ext.tr x58 g61.2
  refine z_callI (pc := 57) dX7_init_57 (c_X8_init (p_dd hd (by decide)) w57 t56 h60) mk_X8_init mi_X8_init rfl rfl ml_X7_11 rfl rfl (Nat.le_of_ble_eq_true rfl) t56 (p_d1 hd (by decide)) (Nat.le_of_ble_eq_true rfl) (by decide) (by decide) ?_
  refine x_putR (pc := 60) dX7_init_60 fl_X7_26 (Or.inr ⟨rfl, rfl⟩) rfl t62 ?_
  refine s_nmP (fun P67 e68 => ?_)
  replace hf := p_lx hf e68
  have w66 : WT q59.1 P67 := by rw [e68]; exact WT.put w64 t62 (fun q hq => by cases hq; exact t63)
  refine s_aload_n (pc := 63) dX7_init_63 0 rfl rfl ?_
  obtain ⟨c71, hf⟩ := p_ckx hf
  refine a_new (pc := 64) (ci := 8) dX7_init_64 rfl kk_X7_9 (by decide) (by decide) c71 (fun w69 e70 => ?_)
  replace hf := p_lx hf e70
  have t72 : p_tp w69.1 a0 10 := (p_nwx e70) _ _ t62
  have t73 : p_tp w69.1 q59.1.1 11 := p_nws e70
  have w74 : WT w69.1 w69.2.2.2 := p_nww e70 w66
  have x75 : p_ext N w69.1 := p_ext.tr x65 (p_nwx e70)
  refine s_dup (pc := 67) dX7_init_67 rfl ?_
  refine s_bipush (pc := 68) dX7_init_68 (v := nI 8) rfl ?_
  refine s_iconst (pc := 70) dX7_init_70 (v := nI 2) rfl ?_
  obtain ⟨q76, h77, hf⟩ := p_bd hf
  have g78 := g_X8_init w74 t73 h77
  have t79 : p_tp q76.1 a0 10 := g78.2 _ _ t72
  have t80 : p_tp q76.1 q59.1.1 11 := g78.2 _ _ t73
  have w81 : WT q76.1 q76.2.2.2 := g78.1
  have x82 : p_ext N q76.1 := p_ext.tr x75 g78.2
  refine z_callI (pc := 71) dX7_init_71 (c_X8_init (p_dd hd (by decide)) w74 t73 h77) mk_X8_init mi_X8_init rfl rfl ml_X7_11 rfl rfl (Nat.le_of_ble_eq_true rfl) t73 (p_d1 hd (by decide)) (Nat.le_of_ble_eq_true rfl) (by decide) (by decide) ?_
  refine x_putR (pc := 74) dX7_init_74 fl_X7_29 (Or.inr ⟨rfl, rfl⟩) rfl t79 ?_
  refine s_nmP (fun P84 e85 => ?_)
  replace hf := p_lx hf e85
  have w83 : WT q76.1 P84 := by rw [e85]; exact WT.put w81 t79 (fun q hq => by cases hq; exact t80)
  refine s_aload_n (pc := 77) dX7_init_77 0 rfl rfl ?_
  obtain ⟨c88, hf⟩ := p_ckx hf
  refine a_new (pc := 78) (ci := 8) dX7_init_78 rfl kk_X7_9 (by decide) (by decide) c88 (fun w86 e87 => ?_)
  replace hf := p_lx hf e87
  have t89 : p_tp w86.1 a0 10 := (p_nwx e87) _ _ t79
  have t90 : p_tp w86.1 q76.1.1 11 := p_nws e87
  have w91 : WT w86.1 w86.2.2.2 := p_nww e87 w83
  have x92 : p_ext N w86.1 := p_ext.tr x82 (p_nwx e87)
  refine s_dup (pc := 81) dX7_init_81 rfl ?_
  refine s_iconst (pc := 82) dX7_init_82 (v := nI 5) rfl ?_
  refine s_iconst (pc := 83) dX7_init_83 (v := nI 2) rfl ?_
  obtain ⟨q93, h94, hf⟩ := p_bd hf
  have g95 := g_X8_init w91 t90 h94
  have t96 : p_tp q93.1 a0 10 := g95.2 _ _ t89
  have t97 : p_tp q93.1 q76.1.1 11 := g95.2 _ _ t90
  have w98 : WT q93.1 q93.2.2.2 := g95.1
  have x99 : p_ext N q93.1 := p_ext.tr x92 g95.2
  refine z_callI (pc := 84) dX7_init_84 (c_X8_init (p_dd hd (by decide)) w91 t90 h94) mk_X8_init mi_X8_init rfl rfl ml_X7_11 rfl rfl (Nat.le_of_ble_eq_true rfl) t90 (p_d1 hd (by decide)) (Nat.le_of_ble_eq_true rfl) (by decide) (by decide) ?_
  refine x_putR (pc := 87) dX7_init_87 fl_X7_32 (Or.inr ⟨rfl, rfl⟩) rfl t96 ?_
  refine s_nmP (fun P101 e102 => ?_)
  replace hf := p_lx hf e102
  have w100 : WT q93.1 P101 := by rw [e102]; exact WT.put w98 t96 (fun q hq => by cases hq; exact t97)
  refine s_aload_n (pc := 90) dX7_init_90 0 rfl rfl ?_
  obtain ⟨c105, hf⟩ := p_ckx hf
  refine a_new (pc := 91) (ci := 8) dX7_init_91 rfl kk_X7_9 (by decide) (by decide) c105 (fun w103 e104 => ?_)
  replace hf := p_lx hf e104
  have t106 : p_tp w103.1 a0 10 := (p_nwx e104) _ _ t96
  have t107 : p_tp w103.1 q93.1.1 11 := p_nws e104
  have w108 : WT w103.1 w103.2.2.2 := p_nww e104 w100
  have x109 : p_ext N w103.1 := p_ext.tr x99 (p_nwx e104)
  refine s_dup (pc := 94) dX7_init_94 rfl ?_
  refine s_getsN (pc := 95) rfl dX7_init_95 ?_
  refine y_tlen (pc := 98) (j := 0) (v := nI 7) dX7_init_98 rfl rfl ?_
  refine s_iconst (pc := 99) dX7_init_99 (v := nI 1) rfl ?_
  obtain ⟨q110, h111, hf⟩ := p_bd hf
  have g112 := g_X8_init w108 t107 h111
  have t113 : p_tp q110.1 a0 10 := g112.2 _ _ t106
  have t114 : p_tp q110.1 q93.1.1 11 := g112.2 _ _ t107
  have w115 : WT q110.1 q110.2.2.2 := g112.1
  have x116 : p_ext N q110.1 := p_ext.tr x109 g112.2
  refine z_callI (pc := 100) dX7_init_100 (c_X8_init (p_dd hd (by decide)) w108 t107 h111) mk_X8_init mi_X8_init rfl rfl ml_X7_11 rfl rfl (Nat.le_of_ble_eq_true rfl) t107 (p_d1 hd (by decide)) (Nat.le_of_ble_eq_true rfl) (by decide) (by decide) ?_
  refine x_putR (pc := 103) dX7_init_103 fl_X7_39 (Or.inr ⟨rfl, rfl⟩) rfl t113 ?_
  refine s_nmP (fun P118 e119 => ?_)
  replace hf := p_lx hf e119
  have w117 : WT q110.1 P118 := by rw [e119]; exact WT.put w115 t113 (fun q hq => by cases hq; exact t114)
  refine s_aload_n (pc := 106) dX7_init_106 0 rfl rfl ?_
  obtain ⟨c122, hf⟩ := p_ckx hf
  refine a_new (pc := 107) (ci := 8) dX7_init_107 rfl kk_X7_9 (by decide) (by decide) c122 (fun w120 e121 => ?_)
  replace hf := p_lx hf e121
  have t123 : p_tp w120.1 a0 10 := (p_nwx e121) _ _ t113
  have t124 : p_tp w120.1 q110.1.1 11 := p_nws e121
  have w125 : WT w120.1 w120.2.2.2 := p_nww e121 w117
  have x126 : p_ext N w120.1 := p_ext.tr x116 (p_nwx e121)
  refine s_dup (pc := 110) dX7_init_110 rfl ?_
  refine s_bipush (pc := 111) dX7_init_111 (v := nI 16) rfl ?_
  refine s_bipush (pc := 113) dX7_init_113 (v := nI 18) rfl ?_
  obtain ⟨q127, h128, hf⟩ := p_bd hf
  have g129 := g_X8_init w125 t124 h128
  have t130 : p_tp q127.1 a0 10 := g129.2 _ _ t123
  have t131 : p_tp q127.1 q110.1.1 11 := g129.2 _ _ t124
  have w132 : WT q127.1 q127.2.2.2 := g129.1
  have x133 : p_ext N q127.1 := p_ext.tr x126 g129.2
  refine z_callI (pc := 115) dX7_init_115 (c_X8_init (p_dd hd (by decide)) w125 t124 h128) mk_X8_init mi_X8_init rfl rfl ml_X7_11 rfl rfl (Nat.le_of_ble_eq_true rfl) t124 (p_d1 hd (by decide)) (Nat.le_of_ble_eq_true rfl) (by decide) (by decide) ?_
  refine x_putR (pc := 118) dX7_init_118 fl_X7_44 (Or.inr ⟨rfl, rfl⟩) rfl t130 ?_
  refine s_nmP (fun P135 e136 => ?_)
  replace hf := p_lx hf e136
  have w134 : WT q127.1 P135 := by rw [e136]; exact WT.put w132 t130 (fun q hq => by cases hq; exact t131)
  refine s_aload_n (pc := 121) dX7_init_121 0 rfl rfl ?_
  obtain ⟨c139, hf⟩ := p_ckx hf
  refine a_new (pc := 122) (ci := 8) dX7_init_122 rfl kk_X7_9 (by decide) (by decide) c139 (fun w137 e138 => ?_)
  replace hf := p_lx hf e138
  have t140 : p_tp w137.1 a0 10 := (p_nwx e138) _ _ t130
  have t141 : p_tp w137.1 q127.1.1 11 := p_nws e138
  have w142 : WT w137.1 w137.2.2.2 := p_nww e138 w134
  have x143 : p_ext N w137.1 := p_ext.tr x133 (p_nwx e138)
  refine s_dup (pc := 125) dX7_init_125 rfl ?_
  refine s_bipush (pc := 126) dX7_init_126 (v := nI 60) rfl ?_
  refine s_iconst (pc := 128) dX7_init_128 (v := nI 2) rfl ?_
  obtain ⟨q144, h145, hf⟩ := p_bd hf
  have g146 := g_X8_init w142 t141 h145
  have t147 : p_tp q144.1 a0 10 := g146.2 _ _ t140
  have t148 : p_tp q144.1 q127.1.1 11 := g146.2 _ _ t141
  have w149 : WT q144.1 q144.2.2.2 := g146.1
  have x150 : p_ext N q144.1 := p_ext.tr x143 g146.2
  refine z_callI (pc := 129) dX7_init_129 (c_X8_init (p_dd hd (by decide)) w142 t141 h145) mk_X8_init mi_X8_init rfl rfl ml_X7_11 rfl rfl (Nat.le_of_ble_eq_true rfl) t141 (p_d1 hd (by decide)) (Nat.le_of_ble_eq_true rfl) (by decide) (by decide) ?_
  refine x_putR (pc := 132) dX7_init_132 fl_X7_47 (Or.inr ⟨rfl, rfl⟩) rfl t147 ?_
  refine s_nmP (fun P152 e153 => ?_)
  replace hf := p_lx hf e153
  have w151 : WT q144.1 P152 := by rw [e153]; exact WT.put w149 t147 (fun q hq => by cases hq; exact t148)
  refine s_aload_n (pc := 135) dX7_init_135 0 rfl rfl ?_
  refine s_iconst (pc := 136) dX7_init_136 (v := nI 0) rfl ?_
  refine x_putI (pc := 137) dX7_init_137 fl_X7_50 (Or.inl rfl) rfl t147 ?_
  refine s_nmI (fun I154 e155 => ?_)
  replace hf := p_lx hf e155
  refine s_aload_n (pc := 140) dX7_init_140 0 rfl rfl ?_
  refine s_iconst (pc := 141) dX7_init_141 (v := (-1)) rfl ?_
  refine x_putI (pc := 142) dX7_init_142 fl_X7_54 (Or.inl rfl) rfl t147 ?_
  refine s_nmI (fun I156 e157 => ?_)
  replace hf := p_lx hf e157
  refine s_aload_n (pc := 145) dX7_init_145 0 rfl rfl ?_
  refine s_iconst (pc := 146) dX7_init_146 (v := nI 0) rfl ?_
  refine x_putI (pc := 147) dX7_init_147 fl_X7_57 (Or.inl rfl) rfl t147 ?_
  refine s_nmI (fun I158 e159 => ?_)
  replace hf := p_lx hf e159
  refine s_aload_n (pc := 150) dX7_init_150 0 rfl rfl ?_
  refine s_iconst (pc := 151) dX7_init_151 (v := (-1)) rfl ?_
  refine x_putI (pc := 152) dX7_init_152 fl_X7_60 (Or.inl rfl) rfl t147 ?_
  refine s_nmI (fun I160 e161 => ?_)
  replace hf := p_lx hf e161
  refine s_iconst (pc := 155) dX7_init_155 (v := nI 0) rfl ?_
  refine s_istore_n (pc := 156) (lo' := [(1, .int (nI 0)), (0, .ref a0)]) dX7_init_156 rfl (Nat.le_of_ble_eq_true rfl) rfl ?_
  refine s_iload_n (pc := 157) dX7_init_157 0 rfl rfl ?_
  refine s_iconst (pc := 158) dX7_init_158 (v := nI 5) rfl ?_
  refine s_icmp_ge (pc := 159) (tgt := 197) dX7_init_159 rfl (fun hc => absurd hc (by decide)) (fun _ => ?_)
  refine s_aload_n (pc := 162) dX7_init_162 1 rfl rfl ?_
  obtain ⟨q162, h163, hf⟩ := p_bd hf
  have t164 : p_tp q144.1 q162 11 := WT.get w151 t147 h163
  refine x_getR (pc := 163) dX7_init_163 fl_X7_32 rfl t147 h163 ?_
  obtain ⟨q165, h166, hf⟩ := p_bd hf
  refine z_callV1 (pc := 166) dX7_init_166 (c_X8_add (p_dd hd (by decide)) w151 t164 h166) mk_X8_add mv_X8_add ml_X7_63 rfl rfl (Nat.le_of_ble_eq_true rfl) t164 rfl (p_d1 hd (by decide)) (Nat.le_of_ble_eq_true rfl) (by decide) (by decide) ?_
  refine s_pop (pc := 169) dX7_init_169 rfl ?_
  refine s_aload_n (pc := 170) dX7_init_170 1 rfl rfl ?_
  obtain ⟨q167, h168, hf⟩ := p_bd hf
  have t169 : p_tp q144.1 q167 11 := WT.get w151 t147 h168
  refine x_getR (pc := 171) dX7_init_171 fl_X7_32 rfl t147 h168 ?_
  refine s_iload_n (pc := 174) dX7_init_174 0 rfl rfl ?_
  refine s_iconst (pc := 175) dX7_init_175 (v := nI 0) rfl ?_
  refine s_bipush (pc := 176) dX7_init_176 (v := nI 50) rfl ?_
  obtain ⟨q170, h171, hf⟩ := p_bd hf
  refine z_callV0 (pc := 178) dX7_init_178 (c_X8_put (p_dd hd (by decide)) w151 t169 h171) mk_X8_put mv_X8_put ml_X7_67 rfl rfl (Nat.le_of_ble_eq_true rfl) t169 rfl (p_d1 hd (by decide)) (Nat.le_of_ble_eq_true rfl) (by decide) (by decide) ?_
  refine s_aload_n (pc := 181) dX7_init_181 1 rfl rfl ?_
  obtain ⟨q172, h173, hf⟩ := p_bd hf
  have t174 : p_tp q144.1 q172 11 := WT.get w151 t147 h173
  refine x_getR (pc := 182) dX7_init_182 fl_X7_32 rfl t147 h173 ?_
  refine s_iload_n (pc := 185) dX7_init_185 0 rfl rfl ?_
  refine s_iconst (pc := 186) dX7_init_186 (v := nI 1) rfl ?_
  refine s_iconst (pc := 187) dX7_init_187 (v := nI 0) rfl ?_
  obtain ⟨q175, h176, hf⟩ := p_bd hf
  refine z_callV0 (pc := 188) dX7_init_188 (c_X8_put (p_dd hd (by decide)) w151 t174 h176) mk_X8_put mv_X8_put ml_X7_67 rfl rfl (Nat.le_of_ble_eq_true rfl) t174 rfl (p_d1 hd (by decide)) (Nat.le_of_ble_eq_true rfl) (by decide) (by decide) ?_
  refine s_iinc (pc := 191) (lo' := [(1, .int (nI 1)), (0, .ref a0)]) dX7_init_191 0 rfl (v := nI 1) rfl (Nat.le_of_ble_eq_true rfl) rfl ?_
  refine s_goto (pc := 194) (tgt := 157) dX7_init_194 rfl ?_
  refine s_iload_n (pc := 157) dX7_init_157 0 rfl rfl ?_
  refine s_iconst (pc := 158) dX7_init_158 (v := nI 5) rfl ?_
  refine s_icmp_ge (pc := 159) (tgt := 197) dX7_init_159 rfl (fun hc => absurd hc (by decide)) (fun _ => ?_)
  refine s_aload_n (pc := 162) dX7_init_162 1 rfl rfl ?_
  obtain ⟨q177, h178, hf⟩ := p_bd hf
  have t179 : p_tp q144.1 q177 11 := WT.get w151 t147 h178
  refine x_getR (pc := 163) dX7_init_163 fl_X7_32 rfl t147 h178 ?_
  obtain ⟨q180, h181, hf⟩ := p_bd hf
  refine z_callV1 (pc := 166) dX7_init_166 (c_X8_add (p_dd hd (by decide)) w151 t179 h181) mk_X8_add mv_X8_add ml_X7_63 rfl rfl (Nat.le_of_ble_eq_true rfl) t179 rfl (p_d1 hd (by decide)) (Nat.le_of_ble_eq_true rfl) (by decide) (by decide) ?_
  refine s_pop (pc := 169) dX7_init_169 rfl ?_
  refine s_aload_n (pc := 170) dX7_init_170 1 rfl rfl ?_
  obtain ⟨q182, h183, hf⟩ := p_bd hf
  have t184 : p_tp q144.1 q182 11 := WT.get w151 t147 h183
  refine x_getR (pc := 171) dX7_init_171 fl_X7_32 rfl t147 h183 ?_
  refine s_iload_n (pc := 174) dX7_init_174 0 rfl rfl ?_
  refine s_iconst (pc := 175) dX7_init_175 (v := nI 0) rfl ?_
  refine s_bipush (pc := 176) dX7_init_176 (v := nI 50) rfl ?_
  obtain ⟨q185, h186, hf⟩ := p_bd hf
  refine z_callV0 (pc := 178) dX7_init_178 (c_X8_put (p_dd hd (by decide)) w151 t184 h186) mk_X8_put mv_X8_put ml_X7_67 rfl rfl (Nat.le_of_ble_eq_true rfl) t184 rfl (p_d1 hd (by decide)) (Nat.le_of_ble_eq_true rfl) (by decide) (by decide) ?_
  refine s_aload_n (pc := 181) dX7_init_181 1 rfl rfl ?_
  obtain ⟨q187, h188, hf⟩ := p_bd hf
  have t189 : p_tp q144.1 q187 11 := WT.get w151 t147 h188
  refine x_getR (pc := 182) dX7_init_182 fl_X7_32 rfl t147 h188 ?_
  refine s_iload_n (pc := 185) dX7_init_185 0 rfl rfl ?_
  refine s_iconst (pc := 186) dX7_init_186 (v := nI 1) rfl ?_
  refine s_iconst (pc := 187) dX7_init_187 (v := nI 0) rfl ?_
  obtain ⟨q190, h191, hf⟩ := p_bd hf
  refine z_callV0 (pc := 188) dX7_init_188 (c_X8_put (p_dd hd (by decide)) w151 t189 h191) mk_X8_put mv_X8_put ml_X7_67 rfl rfl (Nat.le_of_ble_eq_true rfl) t189 rfl (p_d1 hd (by decide)) (Nat.le_of_ble_eq_true rfl) (by decide) (by decide) ?_
  refine s_iinc (pc := 191) (lo' := [(1, .int (nI 2)), (0, .ref a0)]) dX7_init_191 0 rfl (v := nI 2) rfl (Nat.le_of_ble_eq_true rfl) rfl ?_
  refine s_goto (pc := 194) (tgt := 157) dX7_init_194 rfl ?_
  refine s_iload_n (pc := 157) dX7_init_157 0 rfl rfl ?_
  refine s_iconst (pc := 158) dX7_init_158 (v := nI 5) rfl ?_
  refine s_icmp_ge (pc := 159) (tgt := 197) dX7_init_159 rfl (fun hc => absurd hc (by decide)) (fun _ => ?_)
  refine s_aload_n (pc := 162) dX7_init_162 1 rfl rfl ?_
  obtain ⟨q192, h193, hf⟩ := p_bd hf
  have t194 : p_tp q144.1 q192 11 := WT.get w151 t147 h193
  refine x_getR (pc := 163) dX7_init_163 fl_X7_32 rfl t147 h193 ?_
  obtain ⟨q195, h196, hf⟩ := p_bd hf
  refine z_callV1 (pc := 166) dX7_init_166 (c_X8_add (p_dd hd (by decide)) w151 t194 h196) mk_X8_add mv_X8_add ml_X7_63 rfl rfl (Nat.le_of_ble_eq_true rfl) t194 rfl (p_d1 hd (by decide)) (Nat.le_of_ble_eq_true rfl) (by decide) (by decide) ?_
  refine s_pop (pc := 169) dX7_init_169 rfl ?_
  refine s_aload_n (pc := 170) dX7_init_170 1 rfl rfl ?_
  obtain ⟨q197, h198, hf⟩ := p_bd hf
  have t199 : p_tp q144.1 q197 11 := WT.get w151 t147 h198
  refine x_getR (pc := 171) dX7_init_171 fl_X7_32 rfl t147 h198 ?_
  refine s_iload_n (pc := 174) dX7_init_174 0 rfl rfl ?_
  refine s_iconst (pc := 175) dX7_init_175 (v := nI 0) rfl ?_
  refine s_bipush (pc := 176) dX7_init_176 (v := nI 50) rfl ?_
  obtain ⟨q200, h201, hf⟩ := p_bd hf
  refine z_callV0 (pc := 178) dX7_init_178 (c_X8_put (p_dd hd (by decide)) w151 t199 h201) mk_X8_put mv_X8_put ml_X7_67 rfl rfl (Nat.le_of_ble_eq_true rfl) t199 rfl (p_d1 hd (by decide)) (Nat.le_of_ble_eq_true rfl) (by decide) (by decide) ?_
  refine s_aload_n (pc := 181) dX7_init_181 1 rfl rfl ?_
  obtain ⟨q202, h203, hf⟩ := p_bd hf
  have t204 : p_tp q144.1 q202 11 := WT.get w151 t147 h203
  refine x_getR (pc := 182) dX7_init_182 fl_X7_32 rfl t147 h203 ?_
  refine s_iload_n (pc := 185) dX7_init_185 0 rfl rfl ?_
  refine s_iconst (pc := 186) dX7_init_186 (v := nI 1) rfl ?_
  refine s_iconst (pc := 187) dX7_init_187 (v := nI 0) rfl ?_
  obtain ⟨q205, h206, hf⟩ := p_bd hf
  refine z_callV0 (pc := 188) dX7_init_188 (c_X8_put (p_dd hd (by decide)) w151 t204 h206) mk_X8_put mv_X8_put ml_X7_67 rfl rfl (Nat.le_of_ble_eq_true rfl) t204 rfl (p_d1 hd (by decide)) (Nat.le_of_ble_eq_true rfl) (by decide) (by decide) ?_
  refine s_iinc (pc := 191) (lo' := [(1, .int (nI 3)), (0, .ref a0)]) dX7_init_191 0 rfl (v := nI 3) rfl (Nat.le_of_ble_eq_true rfl) rfl ?_
  refine s_goto (pc := 194) (tgt := 157) dX7_init_194 rfl ?_
  refine s_iload_n (pc := 157) dX7_init_157 0 rfl rfl ?_
  refine s_iconst (pc := 158) dX7_init_158 (v := nI 5) rfl ?_
  refine s_icmp_ge (pc := 159) (tgt := 197) dX7_init_159 rfl (fun hc => absurd hc (by decide)) (fun _ => ?_)
  refine s_aload_n (pc := 162) dX7_init_162 1 rfl rfl ?_
  obtain ⟨q207, h208, hf⟩ := p_bd hf
  have t209 : p_tp q144.1 q207 11 := WT.get w151 t147 h208
  refine x_getR (pc := 163) dX7_init_163 fl_X7_32 rfl t147 h208 ?_
  obtain ⟨q210, h211, hf⟩ := p_bd hf
  refine z_callV1 (pc := 166) dX7_init_166 (c_X8_add (p_dd hd (by decide)) w151 t209 h211) mk_X8_add mv_X8_add ml_X7_63 rfl rfl (Nat.le_of_ble_eq_true rfl) t209 rfl (p_d1 hd (by decide)) (Nat.le_of_ble_eq_true rfl) (by decide) (by decide) ?_
  refine s_pop (pc := 169) dX7_init_169 rfl ?_
  refine s_aload_n (pc := 170) dX7_init_170 1 rfl rfl ?_
  obtain ⟨q212, h213, hf⟩ := p_bd hf
  have t214 : p_tp q144.1 q212 11 := WT.get w151 t147 h213
  refine x_getR (pc := 171) dX7_init_171 fl_X7_32 rfl t147 h213 ?_
  refine s_iload_n (pc := 174) dX7_init_174 0 rfl rfl ?_
  refine s_iconst (pc := 175) dX7_init_175 (v := nI 0) rfl ?_
  refine s_bipush (pc := 176) dX7_init_176 (v := nI 50) rfl ?_
  obtain ⟨q215, h216, hf⟩ := p_bd hf
  refine z_callV0 (pc := 178) dX7_init_178 (c_X8_put (p_dd hd (by decide)) w151 t214 h216) mk_X8_put mv_X8_put ml_X7_67 rfl rfl (Nat.le_of_ble_eq_true rfl) t214 rfl (p_d1 hd (by decide)) (Nat.le_of_ble_eq_true rfl) (by decide) (by decide) ?_
  refine s_aload_n (pc := 181) dX7_init_181 1 rfl rfl ?_
  obtain ⟨q217, h218, hf⟩ := p_bd hf
  have t219 : p_tp q144.1 q217 11 := WT.get w151 t147 h218
  refine x_getR (pc := 182) dX7_init_182 fl_X7_32 rfl t147 h218 ?_
  refine s_iload_n (pc := 185) dX7_init_185 0 rfl rfl ?_
  refine s_iconst (pc := 186) dX7_init_186 (v := nI 1) rfl ?_
  refine s_iconst (pc := 187) dX7_init_187 (v := nI 0) rfl ?_
  obtain ⟨q220, h221, hf⟩ := p_bd hf
  refine z_callV0 (pc := 188) dX7_init_188 (c_X8_put (p_dd hd (by decide)) w151 t219 h221) mk_X8_put mv_X8_put ml_X7_67 rfl rfl (Nat.le_of_ble_eq_true rfl) t219 rfl (p_d1 hd (by decide)) (Nat.le_of_ble_eq_true rfl) (by decide) (by decide) ?_
  refine s_iinc (pc := 191) (lo' := [(1, .int (nI 4)), (0, .ref a0)]) dX7_init_191 0 rfl (v := nI 4) rfl (Nat.le_of_ble_eq_true rfl) rfl ?_
  refine s_goto (pc := 194) (tgt := 157) dX7_init_194 rfl ?_
  refine s_iload_n (pc := 157) dX7_init_157 0 rfl rfl ?_
  refine s_iconst (pc := 158) dX7_init_158 (v := nI 5) rfl ?_
  refine s_icmp_ge (pc := 159) (tgt := 197) dX7_init_159 rfl (fun hc => absurd hc (by decide)) (fun _ => ?_)
  refine s_aload_n (pc := 162) dX7_init_162 1 rfl rfl ?_
  obtain ⟨q222, h223, hf⟩ := p_bd hf
  have t224 : p_tp q144.1 q222 11 := WT.get w151 t147 h223
  refine x_getR (pc := 163) dX7_init_163 fl_X7_32 rfl t147 h223 ?_
  obtain ⟨q225, h226, hf⟩ := p_bd hf
  refine z_callV1 (pc := 166) dX7_init_166 (c_X8_add (p_dd hd (by decide)) w151 t224 h226) mk_X8_add mv_X8_add ml_X7_63 rfl rfl (Nat.le_of_ble_eq_true rfl) t224 rfl (p_d1 hd (by decide)) (Nat.le_of_ble_eq_true rfl) (by decide) (by decide) ?_
  refine s_pop (pc := 169) dX7_init_169 rfl ?_
  refine s_aload_n (pc := 170) dX7_init_170 1 rfl rfl ?_
  obtain ⟨q227, h228, hf⟩ := p_bd hf
  have t229 : p_tp q144.1 q227 11 := WT.get w151 t147 h228
  refine x_getR (pc := 171) dX7_init_171 fl_X7_32 rfl t147 h228 ?_
  refine s_iload_n (pc := 174) dX7_init_174 0 rfl rfl ?_
  refine s_iconst (pc := 175) dX7_init_175 (v := nI 0) rfl ?_
  refine s_bipush (pc := 176) dX7_init_176 (v := nI 50) rfl ?_
  obtain ⟨q230, h231, hf⟩ := p_bd hf
  refine z_callV0 (pc := 178) dX7_init_178 (c_X8_put (p_dd hd (by decide)) w151 t229 h231) mk_X8_put mv_X8_put ml_X7_67 rfl rfl (Nat.le_of_ble_eq_true rfl) t229 rfl (p_d1 hd (by decide)) (Nat.le_of_ble_eq_true rfl) (by decide) (by decide) ?_
  refine s_aload_n (pc := 181) dX7_init_181 1 rfl rfl ?_
  obtain ⟨q232, h233, hf⟩ := p_bd hf
  have t234 : p_tp q144.1 q232 11 := WT.get w151 t147 h233
  refine x_getR (pc := 182) dX7_init_182 fl_X7_32 rfl t147 h233 ?_
  refine s_iload_n (pc := 185) dX7_init_185 0 rfl rfl ?_
  refine s_iconst (pc := 186) dX7_init_186 (v := nI 1) rfl ?_
  refine s_iconst (pc := 187) dX7_init_187 (v := nI 0) rfl ?_
  obtain ⟨q235, h236, hf⟩ := p_bd hf
  refine z_callV0 (pc := 188) dX7_init_188 (c_X8_put (p_dd hd (by decide)) w151 t234 h236) mk_X8_put mv_X8_put ml_X7_67 rfl rfl (Nat.le_of_ble_eq_true rfl) t234 rfl (p_d1 hd (by decide)) (Nat.le_of_ble_eq_true rfl) (by decide) (by decide) ?_
  refine s_iinc (pc := 191) (lo' := [(1, .int (nI 5)), (0, .ref a0)]) dX7_init_191 0 rfl (v := nI 5) rfl (Nat.le_of_ble_eq_true rfl) rfl ?_
  refine s_goto (pc := 194) (tgt := 157) dX7_init_194 rfl ?_
  refine s_iload_n (pc := 157) dX7_init_157 0 rfl rfl ?_
  refine s_iconst (pc := 158) dX7_init_158 (v := nI 5) rfl ?_
  refine s_icmp_ge (pc := 159) (tgt := 197) dX7_init_159 rfl (fun _ => ?_) (fun hc => absurd (by decide) hc)
  refine s_iconst (pc := 197) dX7_init_197 (v := nI 0) rfl ?_
  refine s_istore_n (pc := 198) (lo' := [(1, .int (nI 0)), (0, .ref a0)]) dX7_init_198 rfl (Nat.le_of_ble_eq_true rfl) rfl ?_
  refine s_iload_n (pc := 199) dX7_init_199 0 rfl rfl ?_
  refine s_getsN (pc := 200) rfl dX7_init_200 ?_
  refine y_tlen (pc := 203) (j := 0) (v := nI 7) dX7_init_203 rfl rfl ?_
  refine s_icmp_ge (pc := 204) (tgt := 235) dX7_init_204 rfl (fun hc => absurd hc (by decide)) (fun _ => ?_)
  refine s_aload_n (pc := 207) dX7_init_207 1 rfl rfl ?_
  obtain ⟨q237, h238, hf⟩ := p_bd hf
  have t239 : p_tp q144.1 q237 11 := WT.get w151 t147 h238
  refine x_getR (pc := 208) dX7_init_208 fl_X7_39 rfl t147 h238 ?_
  obtain ⟨q240, h241, hf⟩ := p_bd hf
  refine z_callV1 (pc := 211) dX7_init_211 (c_X8_add (p_dd hd (by decide)) w151 t239 h241) mk_X8_add mv_X8_add ml_X7_63 rfl rfl (Nat.le_of_ble_eq_true rfl) t239 rfl (p_d1 hd (by decide)) (Nat.le_of_ble_eq_true rfl) (by decide) (by decide) ?_
  refine s_pop (pc := 214) dX7_init_214 rfl ?_
  refine s_aload_n (pc := 215) dX7_init_215 1 rfl rfl ?_
  obtain ⟨q242, h243, hf⟩ := p_bd hf
  have t244 : p_tp q144.1 q242 11 := WT.get w151 t147 h243
  refine x_getR (pc := 216) dX7_init_216 fl_X7_39 rfl t147 h243 ?_
  refine s_iload_n (pc := 219) dX7_init_219 0 rfl rfl ?_
  refine s_iconst (pc := 220) dX7_init_220 (v := nI 0) rfl ?_
  refine s_getsN (pc := 221) rfl dX7_init_221 ?_
  refine s_iload_n (pc := 224) dX7_init_224 0 rfl rfl ?_
  obtain ⟨c245, hf⟩ := p_ckx hf
  refine y_tld (pc := 225) (j := 0) dX7_init_225 rfl rfl c245 ?_
  obtain ⟨q246, h247, hf⟩ := p_bd hf
  refine z_callV0 (pc := 226) dX7_init_226 (c_X8_put (p_dd hd (by decide)) w151 t244 h247) mk_X8_put mv_X8_put ml_X7_67 rfl rfl (Nat.le_of_ble_eq_true rfl) t244 rfl (p_d1 hd (by decide)) (Nat.le_of_ble_eq_true rfl) (by decide) (by decide) ?_
  refine s_iinc (pc := 229) (lo' := [(1, .int (nI 1)), (0, .ref a0)]) dX7_init_229 0 rfl (v := nI 1) rfl (Nat.le_of_ble_eq_true rfl) rfl ?_
  refine s_goto (pc := 232) (tgt := 199) dX7_init_232 rfl ?_
  refine s_iload_n (pc := 199) dX7_init_199 0 rfl rfl ?_
  refine s_getsN (pc := 200) rfl dX7_init_200 ?_
  refine y_tlen (pc := 203) (j := 0) (v := nI 7) dX7_init_203 rfl rfl ?_
  refine s_icmp_ge (pc := 204) (tgt := 235) dX7_init_204 rfl (fun hc => absurd hc (by decide)) (fun _ => ?_)
  refine s_aload_n (pc := 207) dX7_init_207 1 rfl rfl ?_
  obtain ⟨q248, h249, hf⟩ := p_bd hf
  have t250 : p_tp q144.1 q248 11 := WT.get w151 t147 h249
  refine x_getR (pc := 208) dX7_init_208 fl_X7_39 rfl t147 h249 ?_
  obtain ⟨q251, h252, hf⟩ := p_bd hf
  refine z_callV1 (pc := 211) dX7_init_211 (c_X8_add (p_dd hd (by decide)) w151 t250 h252) mk_X8_add mv_X8_add ml_X7_63 rfl rfl (Nat.le_of_ble_eq_true rfl) t250 rfl (p_d1 hd (by decide)) (Nat.le_of_ble_eq_true rfl) (by decide) (by decide) ?_
  refine s_pop (pc := 214) dX7_init_214 rfl ?_
  refine s_aload_n (pc := 215) dX7_init_215 1 rfl rfl ?_
  obtain ⟨q253, h254, hf⟩ := p_bd hf
  have t255 : p_tp q144.1 q253 11 := WT.get w151 t147 h254
  refine x_getR (pc := 216) dX7_init_216 fl_X7_39 rfl t147 h254 ?_
  refine s_iload_n (pc := 219) dX7_init_219 0 rfl rfl ?_
  refine s_iconst (pc := 220) dX7_init_220 (v := nI 0) rfl ?_
  refine s_getsN (pc := 221) rfl dX7_init_221 ?_
  refine s_iload_n (pc := 224) dX7_init_224 0 rfl rfl ?_
  obtain ⟨c256, hf⟩ := p_ckx hf
  refine y_tld (pc := 225) (j := 0) dX7_init_225 rfl rfl c256 ?_
  obtain ⟨q257, h258, hf⟩ := p_bd hf
  refine z_callV0 (pc := 226) dX7_init_226 (c_X8_put (p_dd hd (by decide)) w151 t255 h258) mk_X8_put mv_X8_put ml_X7_67 rfl rfl (Nat.le_of_ble_eq_true rfl) t255 rfl (p_d1 hd (by decide)) (Nat.le_of_ble_eq_true rfl) (by decide) (by decide) ?_
  refine s_iinc (pc := 229) (lo' := [(1, .int (nI 2)), (0, .ref a0)]) dX7_init_229 0 rfl (v := nI 2) rfl (Nat.le_of_ble_eq_true rfl) rfl ?_
  refine s_goto (pc := 232) (tgt := 199) dX7_init_232 rfl ?_
  refine s_iload_n (pc := 199) dX7_init_199 0 rfl rfl ?_
  refine s_getsN (pc := 200) rfl dX7_init_200 ?_
  refine y_tlen (pc := 203) (j := 0) (v := nI 7) dX7_init_203 rfl rfl ?_
  refine s_icmp_ge (pc := 204) (tgt := 235) dX7_init_204 rfl (fun hc => absurd hc (by decide)) (fun _ => ?_)
  refine s_aload_n (pc := 207) dX7_init_207 1 rfl rfl ?_
  obtain ⟨q259, h260, hf⟩ := p_bd hf
  have t261 : p_tp q144.1 q259 11 := WT.get w151 t147 h260
  refine x_getR (pc := 208) dX7_init_208 fl_X7_39 rfl t147 h260 ?_
  obtain ⟨q262, h263, hf⟩ := p_bd hf
  refine z_callV1 (pc := 211) dX7_init_211 (c_X8_add (p_dd hd (by decide)) w151 t261 h263) mk_X8_add mv_X8_add ml_X7_63 rfl rfl (Nat.le_of_ble_eq_true rfl) t261 rfl (p_d1 hd (by decide)) (Nat.le_of_ble_eq_true rfl) (by decide) (by decide) ?_
  refine s_pop (pc := 214) dX7_init_214 rfl ?_
  refine s_aload_n (pc := 215) dX7_init_215 1 rfl rfl ?_
  obtain ⟨q264, h265, hf⟩ := p_bd hf
  have t266 : p_tp q144.1 q264 11 := WT.get w151 t147 h265
  refine x_getR (pc := 216) dX7_init_216 fl_X7_39 rfl t147 h265 ?_
  refine s_iload_n (pc := 219) dX7_init_219 0 rfl rfl ?_
  refine s_iconst (pc := 220) dX7_init_220 (v := nI 0) rfl ?_
  refine s_getsN (pc := 221) rfl dX7_init_221 ?_
  refine s_iload_n (pc := 224) dX7_init_224 0 rfl rfl ?_
  obtain ⟨c267, hf⟩ := p_ckx hf
  refine y_tld (pc := 225) (j := 0) dX7_init_225 rfl rfl c267 ?_
  obtain ⟨q268, h269, hf⟩ := p_bd hf
  refine z_callV0 (pc := 226) dX7_init_226 (c_X8_put (p_dd hd (by decide)) w151 t266 h269) mk_X8_put mv_X8_put ml_X7_67 rfl rfl (Nat.le_of_ble_eq_true rfl) t266 rfl (p_d1 hd (by decide)) (Nat.le_of_ble_eq_true rfl) (by decide) (by decide) ?_
  refine s_iinc (pc := 229) (lo' := [(1, .int (nI 3)), (0, .ref a0)]) dX7_init_229 0 rfl (v := nI 3) rfl (Nat.le_of_ble_eq_true rfl) rfl ?_
  refine s_goto (pc := 232) (tgt := 199) dX7_init_232 rfl ?_
  refine s_iload_n (pc := 199) dX7_init_199 0 rfl rfl ?_
  refine s_getsN (pc := 200) rfl dX7_init_200 ?_
  refine y_tlen (pc := 203) (j := 0) (v := nI 7) dX7_init_203 rfl rfl ?_
  refine s_icmp_ge (pc := 204) (tgt := 235) dX7_init_204 rfl (fun hc => absurd hc (by decide)) (fun _ => ?_)
  refine s_aload_n (pc := 207) dX7_init_207 1 rfl rfl ?_
  obtain ⟨q270, h271, hf⟩ := p_bd hf
  have t272 : p_tp q144.1 q270 11 := WT.get w151 t147 h271
  refine x_getR (pc := 208) dX7_init_208 fl_X7_39 rfl t147 h271 ?_
  obtain ⟨q273, h274, hf⟩ := p_bd hf
  refine z_callV1 (pc := 211) dX7_init_211 (c_X8_add (p_dd hd (by decide)) w151 t272 h274) mk_X8_add mv_X8_add ml_X7_63 rfl rfl (Nat.le_of_ble_eq_true rfl) t272 rfl (p_d1 hd (by decide)) (Nat.le_of_ble_eq_true rfl) (by decide) (by decide) ?_
  refine s_pop (pc := 214) dX7_init_214 rfl ?_
  refine s_aload_n (pc := 215) dX7_init_215 1 rfl rfl ?_
  obtain ⟨q275, h276, hf⟩ := p_bd hf
  have t277 : p_tp q144.1 q275 11 := WT.get w151 t147 h276
  refine x_getR (pc := 216) dX7_init_216 fl_X7_39 rfl t147 h276 ?_
  refine s_iload_n (pc := 219) dX7_init_219 0 rfl rfl ?_
  refine s_iconst (pc := 220) dX7_init_220 (v := nI 0) rfl ?_
  refine s_getsN (pc := 221) rfl dX7_init_221 ?_
  refine s_iload_n (pc := 224) dX7_init_224 0 rfl rfl ?_
  obtain ⟨c278, hf⟩ := p_ckx hf
  refine y_tld (pc := 225) (j := 0) dX7_init_225 rfl rfl c278 ?_
  obtain ⟨q279, h280, hf⟩ := p_bd hf
  refine z_callV0 (pc := 226) dX7_init_226 (c_X8_put (p_dd hd (by decide)) w151 t277 h280) mk_X8_put mv_X8_put ml_X7_67 rfl rfl (Nat.le_of_ble_eq_true rfl) t277 rfl (p_d1 hd (by decide)) (Nat.le_of_ble_eq_true rfl) (by decide) (by decide) ?_
  refine s_iinc (pc := 229) (lo' := [(1, .int (nI 4)), (0, .ref a0)]) dX7_init_229 0 rfl (v := nI 4) rfl (Nat.le_of_ble_eq_true rfl) rfl ?_
  refine s_goto (pc := 232) (tgt := 199) dX7_init_232 rfl ?_
  refine s_iload_n (pc := 199) dX7_init_199 0 rfl rfl ?_
  refine s_getsN (pc := 200) rfl dX7_init_200 ?_
  refine y_tlen (pc := 203) (j := 0) (v := nI 7) dX7_init_203 rfl rfl ?_
  refine s_icmp_ge (pc := 204) (tgt := 235) dX7_init_204 rfl (fun hc => absurd hc (by decide)) (fun _ => ?_)
  refine s_aload_n (pc := 207) dX7_init_207 1 rfl rfl ?_
  obtain ⟨q281, h282, hf⟩ := p_bd hf
  have t283 : p_tp q144.1 q281 11 := WT.get w151 t147 h282
  refine x_getR (pc := 208) dX7_init_208 fl_X7_39 rfl t147 h282 ?_
  obtain ⟨q284, h285, hf⟩ := p_bd hf
  refine z_callV1 (pc := 211) dX7_init_211 (c_X8_add (p_dd hd (by decide)) w151 t283 h285) mk_X8_add mv_X8_add ml_X7_63 rfl rfl (Nat.le_of_ble_eq_true rfl) t283 rfl (p_d1 hd (by decide)) (Nat.le_of_ble_eq_true rfl) (by decide) (by decide) ?_
  refine s_pop (pc := 214) dX7_init_214 rfl ?_
  refine s_aload_n (pc := 215) dX7_init_215 1 rfl rfl ?_
  obtain ⟨q286, h287, hf⟩ := p_bd hf
  have t288 : p_tp q144.1 q286 11 := WT.get w151 t147 h287
  refine x_getR (pc := 216) dX7_init_216 fl_X7_39 rfl t147 h287 ?_
  refine s_iload_n (pc := 219) dX7_init_219 0 rfl rfl ?_
  refine s_iconst (pc := 220) dX7_init_220 (v := nI 0) rfl ?_
  refine s_getsN (pc := 221) rfl dX7_init_221 ?_
  refine s_iload_n (pc := 224) dX7_init_224 0 rfl rfl ?_
  obtain ⟨c289, hf⟩ := p_ckx hf
  refine y_tld (pc := 225) (j := 0) dX7_init_225 rfl rfl c289 ?_
  obtain ⟨q290, h291, hf⟩ := p_bd hf
  refine z_callV0 (pc := 226) dX7_init_226 (c_X8_put (p_dd hd (by decide)) w151 t288 h291) mk_X8_put mv_X8_put ml_X7_67 rfl rfl (Nat.le_of_ble_eq_true rfl) t288 rfl (p_d1 hd (by decide)) (Nat.le_of_ble_eq_true rfl) (by decide) (by decide) ?_
  refine s_iinc (pc := 229) (lo' := [(1, .int (nI 5)), (0, .ref a0)]) dX7_init_229 0 rfl (v := nI 5) rfl (Nat.le_of_ble_eq_true rfl) rfl ?_
  refine s_goto (pc := 232) (tgt := 199) dX7_init_232 rfl ?_
  refine s_iload_n (pc := 199) dX7_init_199 0 rfl rfl ?_
  refine s_getsN (pc := 200) rfl dX7_init_200 ?_
  refine y_tlen (pc := 203) (j := 0) (v := nI 7) dX7_init_203 rfl rfl ?_
  refine s_icmp_ge (pc := 204) (tgt := 235) dX7_init_204 rfl (fun hc => absurd hc (by decide)) (fun _ => ?_)
  refine s_aload_n (pc := 207) dX7_init_207 1 rfl rfl ?_
  obtain ⟨q292, h293, hf⟩ := p_bd hf
  have t294 : p_tp q144.1 q292 11 := WT.get w151 t147 h293
  refine x_getR (pc := 208) dX7_init_208 fl_X7_39 rfl t147 h293 ?_
  obtain ⟨q295, h296, hf⟩ := p_bd hf
  refine z_callV1 (pc := 211) dX7_init_211 (c_X8_add (p_dd hd (by decide)) w151 t294 h296) mk_X8_add mv_X8_add ml_X7_63 rfl rfl (Nat.le_of_ble_eq_true rfl) t294 rfl (p_d1 hd (by decide)) (Nat.le_of_ble_eq_true rfl) (by decide) (by decide) ?_
  refine s_pop (pc := 214) dX7_init_214 rfl ?_
  refine s_aload_n (pc := 215) dX7_init_215 1 rfl rfl ?_
  obtain ⟨q297, h298, hf⟩ := p_bd hf
  have t299 : p_tp q144.1 q297 11 := WT.get w151 t147 h298
  refine x_getR (pc := 216) dX7_init_216 fl_X7_39 rfl t147 h298 ?_
  refine s_iload_n (pc := 219) dX7_init_219 0 rfl rfl ?_
  refine s_iconst (pc := 220) dX7_init_220 (v := nI 0) rfl ?_
  refine s_getsN (pc := 221) rfl dX7_init_221 ?_
  refine s_iload_n (pc := 224) dX7_init_224 0 rfl rfl ?_
  obtain ⟨c300, hf⟩ := p_ckx hf
  refine y_tld (pc := 225) (j := 0) dX7_init_225 rfl rfl c300 ?_
  obtain ⟨q301, h302, hf⟩ := p_bd hf
  refine z_callV0 (pc := 226) dX7_init_226 (c_X8_put (p_dd hd (by decide)) w151 t299 h302) mk_X8_put mv_X8_put ml_X7_67 rfl rfl (Nat.le_of_ble_eq_true rfl) t299 rfl (p_d1 hd (by decide)) (Nat.le_of_ble_eq_true rfl) (by decide) (by decide) ?_
  refine s_iinc (pc := 229) (lo' := [(1, .int (nI 6)), (0, .ref a0)]) dX7_init_229 0 rfl (v := nI 6) rfl (Nat.le_of_ble_eq_true rfl) rfl ?_
  refine s_goto (pc := 232) (tgt := 199) dX7_init_232 rfl ?_
  refine s_iload_n (pc := 199) dX7_init_199 0 rfl rfl ?_
  refine s_getsN (pc := 200) rfl dX7_init_200 ?_
  refine y_tlen (pc := 203) (j := 0) (v := nI 7) dX7_init_203 rfl rfl ?_
  refine s_icmp_ge (pc := 204) (tgt := 235) dX7_init_204 rfl (fun hc => absurd hc (by decide)) (fun _ => ?_)
  refine s_aload_n (pc := 207) dX7_init_207 1 rfl rfl ?_
  obtain ⟨q303, h304, hf⟩ := p_bd hf
  have t305 : p_tp q144.1 q303 11 := WT.get w151 t147 h304
  refine x_getR (pc := 208) dX7_init_208 fl_X7_39 rfl t147 h304 ?_
  obtain ⟨q306, h307, hf⟩ := p_bd hf
  refine z_callV1 (pc := 211) dX7_init_211 (c_X8_add (p_dd hd (by decide)) w151 t305 h307) mk_X8_add mv_X8_add ml_X7_63 rfl rfl (Nat.le_of_ble_eq_true rfl) t305 rfl (p_d1 hd (by decide)) (Nat.le_of_ble_eq_true rfl) (by decide) (by decide) ?_
  refine s_pop (pc := 214) dX7_init_214 rfl ?_
  refine s_aload_n (pc := 215) dX7_init_215 1 rfl rfl ?_
  obtain ⟨q308, h309, hf⟩ := p_bd hf
  have t310 : p_tp q144.1 q308 11 := WT.get w151 t147 h309
  refine x_getR (pc := 216) dX7_init_216 fl_X7_39 rfl t147 h309 ?_
  refine s_iload_n (pc := 219) dX7_init_219 0 rfl rfl ?_
  refine s_iconst (pc := 220) dX7_init_220 (v := nI 0) rfl ?_
  refine s_getsN (pc := 221) rfl dX7_init_221 ?_
  refine s_iload_n (pc := 224) dX7_init_224 0 rfl rfl ?_
  obtain ⟨c311, hf⟩ := p_ckx hf
  refine y_tld (pc := 225) (j := 0) dX7_init_225 rfl rfl c311 ?_
  obtain ⟨q312, h313, hf⟩ := p_bd hf
  refine z_callV0 (pc := 226) dX7_init_226 (c_X8_put (p_dd hd (by decide)) w151 t310 h313) mk_X8_put mv_X8_put ml_X7_67 rfl rfl (Nat.le_of_ble_eq_true rfl) t310 rfl (p_d1 hd (by decide)) (Nat.le_of_ble_eq_true rfl) (by decide) (by decide) ?_
  refine s_iinc (pc := 229) (lo' := [(1, .int (nI 7)), (0, .ref a0)]) dX7_init_229 0 rfl (v := nI 7) rfl (Nat.le_of_ble_eq_true rfl) rfl ?_
  refine s_goto (pc := 232) (tgt := 199) dX7_init_232 rfl ?_
  refine s_iload_n (pc := 199) dX7_init_199 0 rfl rfl ?_
  refine s_getsN (pc := 200) rfl dX7_init_200 ?_
  refine y_tlen (pc := 203) (j := 0) (v := nI 7) dX7_init_203 rfl rfl ?_
  refine s_icmp_ge (pc := 204) (tgt := 235) dX7_init_204 rfl (fun _ => ?_) (fun hc => absurd (by decide) hc)
  cases hf
  refine s_widen (c2 := 18) (s2 := 9936) (by decide) (by decide) ?_
  exact s_return (pc := 235) dX7_init_235 rfl ⟨rfl, rfl, rfl, rfl, rfl⟩
theorem g_X7_init {N : pN} {I : pI} {L : pL} {P : pR} {a0 : Nat} {qq : pN × pI × pL × pR} (hW : WT N P) (ha0 : p_tp N a0 10) (hf : f_X7_init N I L P a0 = some qq) : WT qq.1 qq.2.2.2 ∧ p_ext N qq.1 := by
  unfold f_X7_init at hf
  obtain ⟨c3, hf⟩ := p_ckx hf
  obtain ⟨w1, e2, hf⟩ := p_lx2 hf
  have t4 : p_tp w1.1 a0 10 := (p_nwx e2) _ _ ha0
  have t5 : p_tp w1.1 N.1 11 := p_nws e2
  have w6 : WT w1.1 w1.2.2.2 := p_nww e2 hW
  have x7 : p_ext N w1.1 := p_ext.tr p_ext.rf (p_nwx e2)
  obtain ⟨q8, h9, hf⟩ := p_bd hf
  have g10 := g_X8_init w6 t5 h9
  have t11 : p_tp q8.1 a0 10 := g10.2 _ _ t4
  have t12 : p_tp q8.1 N.1 11 := g10.2 _ _ t5
  have w13 : WT q8.1 q8.2.2.2 := g10.1
  have x14 : p_ext N q8.1 := p_ext.tr x7 g10.2
  obtain ⟨P16, e17, hf⟩ := p_lx2 hf
  have w15 : WT q8.1 P16 := by rw [e17]; exact WT.put w13 t11 (fun q hq => by cases hq; exact t12)
  obtain ⟨c20, hf⟩ := p_ckx hf
  obtain ⟨w18, e19, hf⟩ := p_lx2 hf
  have t21 : p_tp w18.1 a0 10 := (p_nwx e19) _ _ t11
  have t22 : p_tp w18.1 q8.1.1 11 := p_nws e19
  have w23 : WT w18.1 w18.2.2.2 := p_nww e19 w15
  have x24 : p_ext N w18.1 := p_ext.tr x14 (p_nwx e19)
  obtain ⟨q25, h26, hf⟩ := p_bd hf
  have g27 := g_X8_init w23 t22 h26
  have t28 : p_tp q25.1 a0 10 := g27.2 _ _ t21
  have t29 : p_tp q25.1 q8.1.1 11 := g27.2 _ _ t22
  have w30 : WT q25.1 q25.2.2.2 := g27.1
  have x31 : p_ext N q25.1 := p_ext.tr x24 g27.2
  obtain ⟨P33, e34, hf⟩ := p_lx2 hf
  have w32 : WT q25.1 P33 := by rw [e34]; exact WT.put w30 t28 (fun q hq => by cases hq; exact t29)
  obtain ⟨c37, hf⟩ := p_ckx hf
  obtain ⟨w35, e36, hf⟩ := p_lx2 hf
  have t38 : p_tp w35.1 a0 10 := (p_nwx e36) _ _ t28
  have t39 : p_tp w35.1 q25.1.1 11 := p_nws e36
  have w40 : WT w35.1 w35.2.2.2 := p_nww e36 w32
  have x41 : p_ext N w35.1 := p_ext.tr x31 (p_nwx e36)
  obtain ⟨q42, h43, hf⟩ := p_bd hf
  have g44 := g_X8_init w40 t39 h43
  have t45 : p_tp q42.1 a0 10 := g44.2 _ _ t38
  have t46 : p_tp q42.1 q25.1.1 11 := g44.2 _ _ t39
  have w47 : WT q42.1 q42.2.2.2 := g44.1
  have x48 : p_ext N q42.1 := p_ext.tr x41 g44.2
  obtain ⟨P50, e51, hf⟩ := p_lx2 hf
  have w49 : WT q42.1 P50 := by rw [e51]; exact WT.put w47 t45 (fun q hq => by cases hq; exact t46)
  obtain ⟨c54, hf⟩ := p_ckx hf
  obtain ⟨w52, e53, hf⟩ := p_lx2 hf
  have t55 : p_tp w52.1 a0 10 := (p_nwx e53) _ _ t45
  have t56 : p_tp w52.1 q42.1.1 11 := p_nws e53
  have w57 : WT w52.1 w52.2.2.2 := p_nww e53 w49
  have x58 : p_ext N w52.1 := p_ext.tr x48 (p_nwx e53)
  obtain ⟨q59, h60, hf⟩ := p_bd hf
  have g61 := g_X8_init w57 t56 h60
  have t62 : p_tp q59.1 a0 10 := g61.2 _ _ t55
  have t63 : p_tp q59.1 q42.1.1 11 := g61.2 _ _ t56
  have w64 : WT q59.1 q59.2.2.2 := g61.1
  have x65 : p_ext N q59.1 := p_ext.tr x58 g61.2
  obtain ⟨P67, e68, hf⟩ := p_lx2 hf
  have w66 : WT q59.1 P67 := by rw [e68]; exact WT.put w64 t62 (fun q hq => by cases hq; exact t63)
  obtain ⟨c71, hf⟩ := p_ckx hf
  obtain ⟨w69, e70, hf⟩ := p_lx2 hf
  have t72 : p_tp w69.1 a0 10 := (p_nwx e70) _ _ t62
  have t73 : p_tp w69.1 q59.1.1 11 := p_nws e70
  have w74 : WT w69.1 w69.2.2.2 := p_nww e70 w66
  have x75 : p_ext N w69.1 := p_ext.tr x65 (p_nwx e70)
  obtain ⟨q76, h77, hf⟩ := p_bd hf
  have g78 := g_X8_init w74 t73 h77
  have t79 : p_tp q76.1 a0 10 := g78.2 _ _ t72
  have t80 : p_tp q76.1 q59.1.1 11 := g78.2 _ _ t73
  have w81 : WT q76.1 q76.2.2.2 := g78.1
  have x82 : p_ext N q76.1 := p_ext.tr x75 g78.2
  obtain ⟨P84, e85, hf⟩ := p_lx2 hf
  have w83 : WT q76.1 P84 := by rw [e85]; exact WT.put w81 t79 (fun q hq => by cases hq; exact t80)
  obtain ⟨c88, hf⟩ := p_ckx hf
  obtain ⟨w86, e87, hf⟩ := p_lx2 hf
  have t89 : p_tp w86.1 a0 10 := (p_nwx e87) _ _ t79
  have t90 : p_tp w86.1 q76.1.1 11 := p_nws e87
  have w91 : WT w86.1 w86.2.2.2 := p_nww e87 w83
  have x92 : p_ext N w86.1 := p_ext.tr x82 (p_nwx e87)
  obtain ⟨q93, h94, hf⟩ := p_bd hf
  have g95 := g_X8_init w91 t90 h94
  have t96 : p_tp q93.1 a0 10 := g95.2 _ _ t89
  have t97 : p_tp q93.1 q76.1.1 11 := g95.2 _ _ t90
  have w98 : WT q93.1 q93.2.2.2 := g95.1
  have x99 : p_ext N q93.1 := p_ext.tr x92 g95.2
  obtain ⟨P101, e102, hf⟩ := p_lx2 hf
  have w100 : WT q93.1 P101 := by rw [e102]; exact WT.put w98 t96 (fun q hq => by cases hq; exact t97)
  obtain ⟨c105, hf⟩ := p_ckx hf
  obtain ⟨w103, e104, hf⟩ := p_lx2 hf
  have t106 : p_tp w103.1 a0 10 := (p_nwx e104) _ _ t96
  have t107 : p_tp w103.1 q93.1.1 11 := p_nws e104
  have w108 : WT w103.1 w103.2.2.2 := p_nww e104 w100
  have x109 : p_ext N w103.1 := p_ext.tr x99 (p_nwx e104)
  obtain ⟨q110, h111, hf⟩ := p_bd hf
  have g112 := g_X8_init w108 t107 h111
  have t113 : p_tp q110.1 a0 10 := g112.2 _ _ t106
  have t114 : p_tp q110.1 q93.1.1 11 := g112.2 _ _ t107
  have w115 : WT q110.1 q110.2.2.2 := g112.1
  have x116 : p_ext N q110.1 := p_ext.tr x109 g112.2
  obtain ⟨P118, e119, hf⟩ := p_lx2 hf
  have w117 : WT q110.1 P118 := by rw [e119]; exact WT.put w115 t113 (fun q hq => by cases hq; exact t114)
  obtain ⟨c122, hf⟩ := p_ckx hf
  obtain ⟨w120, e121, hf⟩ := p_lx2 hf
  have t123 : p_tp w120.1 a0 10 := (p_nwx e121) _ _ t113
  have t124 : p_tp w120.1 q110.1.1 11 := p_nws e121
  have w125 : WT w120.1 w120.2.2.2 := p_nww e121 w117
  have x126 : p_ext N w120.1 := p_ext.tr x116 (p_nwx e121)
  obtain ⟨q127, h128, hf⟩ := p_bd hf
  have g129 := g_X8_init w125 t124 h128
  have t130 : p_tp q127.1 a0 10 := g129.2 _ _ t123
  have t131 : p_tp q127.1 q110.1.1 11 := g129.2 _ _ t124
  have w132 : WT q127.1 q127.2.2.2 := g129.1
  have x133 : p_ext N q127.1 := p_ext.tr x126 g129.2
  obtain ⟨P135, e136, hf⟩ := p_lx2 hf
  have w134 : WT q127.1 P135 := by rw [e136]; exact WT.put w132 t130 (fun q hq => by cases hq; exact t131)
  obtain ⟨c139, hf⟩ := p_ckx hf
  obtain ⟨w137, e138, hf⟩ := p_lx2 hf
  have t140 : p_tp w137.1 a0 10 := (p_nwx e138) _ _ t130
  have t141 : p_tp w137.1 q127.1.1 11 := p_nws e138
  have w142 : WT w137.1 w137.2.2.2 := p_nww e138 w134
  have x143 : p_ext N w137.1 := p_ext.tr x133 (p_nwx e138)
  obtain ⟨q144, h145, hf⟩ := p_bd hf
  have g146 := g_X8_init w142 t141 h145
  have t147 : p_tp q144.1 a0 10 := g146.2 _ _ t140
  have t148 : p_tp q144.1 q127.1.1 11 := g146.2 _ _ t141
  have w149 : WT q144.1 q144.2.2.2 := g146.1
  have x150 : p_ext N q144.1 := p_ext.tr x143 g146.2
  obtain ⟨P152, e153, hf⟩ := p_lx2 hf
  have w151 : WT q144.1 P152 := by rw [e153]; exact WT.put w149 t147 (fun q hq => by cases hq; exact t148)
  obtain ⟨I154, e155, hf⟩ := p_lx2 hf
  obtain ⟨I156, e157, hf⟩ := p_lx2 hf
  obtain ⟨I158, e159, hf⟩ := p_lx2 hf
  obtain ⟨I160, e161, hf⟩ := p_lx2 hf
  obtain ⟨q162, h163, hf⟩ := p_bd hf
  have t164 : p_tp q144.1 q162 11 := WT.get w151 t147 h163
  obtain ⟨q165, h166, hf⟩ := p_bd hf
  obtain ⟨q167, h168, hf⟩ := p_bd hf
  have t169 : p_tp q144.1 q167 11 := WT.get w151 t147 h168
  obtain ⟨q170, h171, hf⟩ := p_bd hf
  obtain ⟨q172, h173, hf⟩ := p_bd hf
  have t174 : p_tp q144.1 q172 11 := WT.get w151 t147 h173
  obtain ⟨q175, h176, hf⟩ := p_bd hf
  obtain ⟨q177, h178, hf⟩ := p_bd hf
  have t179 : p_tp q144.1 q177 11 := WT.get w151 t147 h178
  obtain ⟨q180, h181, hf⟩ := p_bd hf
  obtain ⟨q182, h183, hf⟩ := p_bd hf
  have t184 : p_tp q144.1 q182 11 := WT.get w151 t147 h183
  obtain ⟨q185, h186, hf⟩ := p_bd hf
  obtain ⟨q187, h188, hf⟩ := p_bd hf
  have t189 : p_tp q144.1 q187 11 := WT.get w151 t147 h188
  obtain ⟨q190, h191, hf⟩ := p_bd hf
  obtain ⟨q192, h193, hf⟩ := p_bd hf
  have t194 : p_tp q144.1 q192 11 := WT.get w151 t147 h193
  obtain ⟨q195, h196, hf⟩ := p_bd hf
  obtain ⟨q197, h198, hf⟩ := p_bd hf
  have t199 : p_tp q144.1 q197 11 := WT.get w151 t147 h198
  obtain ⟨q200, h201, hf⟩ := p_bd hf
  obtain ⟨q202, h203, hf⟩ := p_bd hf
  have t204 : p_tp q144.1 q202 11 := WT.get w151 t147 h203
  obtain ⟨q205, h206, hf⟩ := p_bd hf
  obtain ⟨q207, h208, hf⟩ := p_bd hf
  have t209 : p_tp q144.1 q207 11 := WT.get w151 t147 h208
  obtain ⟨q210, h211, hf⟩ := p_bd hf
  obtain ⟨q212, h213, hf⟩ := p_bd hf
  have t214 : p_tp q144.1 q212 11 := WT.get w151 t147 h213
  obtain ⟨q215, h216, hf⟩ := p_bd hf
  obtain ⟨q217, h218, hf⟩ := p_bd hf
  have t219 : p_tp q144.1 q217 11 := WT.get w151 t147 h218
  obtain ⟨q220, h221, hf⟩ := p_bd hf
  obtain ⟨q222, h223, hf⟩ := p_bd hf
  have t224 : p_tp q144.1 q222 11 := WT.get w151 t147 h223
  obtain ⟨q225, h226, hf⟩ := p_bd hf
  obtain ⟨q227, h228, hf⟩ := p_bd hf
  have t229 : p_tp q144.1 q227 11 := WT.get w151 t147 h228
  obtain ⟨q230, h231, hf⟩ := p_bd hf
  obtain ⟨q232, h233, hf⟩ := p_bd hf
  have t234 : p_tp q144.1 q232 11 := WT.get w151 t147 h233
  obtain ⟨q235, h236, hf⟩ := p_bd hf
  obtain ⟨q237, h238, hf⟩ := p_bd hf
  have t239 : p_tp q144.1 q237 11 := WT.get w151 t147 h238
  obtain ⟨q240, h241, hf⟩ := p_bd hf
  obtain ⟨q242, h243, hf⟩ := p_bd hf
  have t244 : p_tp q144.1 q242 11 := WT.get w151 t147 h243
  obtain ⟨c245, hf⟩ := p_ckx hf
  obtain ⟨q246, h247, hf⟩ := p_bd hf
  obtain ⟨q248, h249, hf⟩ := p_bd hf
  have t250 : p_tp q144.1 q248 11 := WT.get w151 t147 h249
  obtain ⟨q251, h252, hf⟩ := p_bd hf
  obtain ⟨q253, h254, hf⟩ := p_bd hf
  have t255 : p_tp q144.1 q253 11 := WT.get w151 t147 h254
  obtain ⟨c256, hf⟩ := p_ckx hf
  obtain ⟨q257, h258, hf⟩ := p_bd hf
  obtain ⟨q259, h260, hf⟩ := p_bd hf
  have t261 : p_tp q144.1 q259 11 := WT.get w151 t147 h260
  obtain ⟨q262, h263, hf⟩ := p_bd hf
  obtain ⟨q264, h265, hf⟩ := p_bd hf
  have t266 : p_tp q144.1 q264 11 := WT.get w151 t147 h265
  obtain ⟨c267, hf⟩ := p_ckx hf
  obtain ⟨q268, h269, hf⟩ := p_bd hf
  obtain ⟨q270, h271, hf⟩ := p_bd hf
  have t272 : p_tp q144.1 q270 11 := WT.get w151 t147 h271
  obtain ⟨q273, h274, hf⟩ := p_bd hf
  obtain ⟨q275, h276, hf⟩ := p_bd hf
  have t277 : p_tp q144.1 q275 11 := WT.get w151 t147 h276
  obtain ⟨c278, hf⟩ := p_ckx hf
  obtain ⟨q279, h280, hf⟩ := p_bd hf
  obtain ⟨q281, h282, hf⟩ := p_bd hf
  have t283 : p_tp q144.1 q281 11 := WT.get w151 t147 h282
  obtain ⟨q284, h285, hf⟩ := p_bd hf
  obtain ⟨q286, h287, hf⟩ := p_bd hf
  have t288 : p_tp q144.1 q286 11 := WT.get w151 t147 h287
  obtain ⟨c289, hf⟩ := p_ckx hf
  obtain ⟨q290, h291, hf⟩ := p_bd hf
  obtain ⟨q292, h293, hf⟩ := p_bd hf
  have t294 : p_tp q144.1 q292 11 := WT.get w151 t147 h293
  obtain ⟨q295, h296, hf⟩ := p_bd hf
  obtain ⟨q297, h298, hf⟩ := p_bd hf
  have t299 : p_tp q144.1 q297 11 := WT.get w151 t147 h298
  obtain ⟨c300, hf⟩ := p_ckx hf
  obtain ⟨q301, h302, hf⟩ := p_bd hf
  obtain ⟨q303, h304, hf⟩ := p_bd hf
  have t305 : p_tp q144.1 q303 11 := WT.get w151 t147 h304
  obtain ⟨q306, h307, hf⟩ := p_bd hf
  obtain ⟨q308, h309, hf⟩ := p_bd hf
  have t310 : p_tp q144.1 q308 11 := WT.get w151 t147 h309
  obtain ⟨c311, hf⟩ := p_ckx hf
  obtain ⟨q312, h313, hf⟩ := p_bd hf
  cases hf
  exact ⟨w151, x150⟩
def f_X9_init (N : pN) (I : pI) (L : pL) (P : pR) (a0 : Nat) (a1 : Nat) : Option (pN × pI × pL × pR) :=
  p_let (p_u I a0 1 (nI 0)) fun I1 =>
  p_let (p_u I1 a0 2 (nI 0)) fun I3 =>
  p_let (p_u I3 a0 3 (nI 0)) fun I5 =>
  p_let (p_u I5 a0 4 (nI 0)) fun I7 =>
  p_let (p_u I7 a0 5 (-1)) fun I9 =>
  p_let (p_u P a0 0 (some a1)) fun P12 =>
  some (N, I9, L, P12)
theorem c_X9_init {G : pG} {d : Nat} {N : pN} {I : pI} {L : pL} {P : pR} {a0 : Nat} {a1 : Nat} {qq : pN × pI × pL × pR} (hd : 1 ≤ d) (hW : WT N P) (ha0 : p_tp N a0 12) (ha1 : p_tp N a1 11) (hf : f_X9_init N I L P a0 a1 = some qq) : MT G mX9_init d 0 0 [.ref a0, .ref a1] N I L P (p_R none qq.1 qq.2.1 qq.2.2.1 qq.2.2.2) := by
  refine MT.of rfl (Nat.le_of_ble_eq_true rfl) ?_
  show SW G mX9_init (p_rm d 0 0) 0 0 0 0 (p_R none qq.1 qq.2.1 qq.2.2.1 qq.2.2.2) 0 [(0, .ref a0), (1, .ref a1)] [] N I L P
  unfold f_X9_init at hf
  refine s_aload_n (pc := 0) dX9_init_0 0 rfl rfl ?_
  refine z_obj (pc := 1) dX9_init_1 ml_X9_3 (p_d1 hd (by decide)) (Nat.le_of_ble_eq_true rfl) ?_
  refine s_aload_n (pc := 4) dX9_init_4 0 rfl rfl ?_
  refine s_iconst (pc := 5) dX9_init_5 (v := nI 0) rfl ?_
  refine x_putI (pc := 6) dX9_init_6 fl_X9_11 (Or.inl rfl) rfl ha0 ?_
  refine s_nmI (fun I1 e2 => ?_)
  replace hf := p_lx hf e2
  refine s_aload_n (pc := 9) dX9_init_9 0 rfl rfl ?_
  refine s_iconst (pc := 10) dX9_init_10 (v := nI 0) rfl ?_
  refine x_putI (pc := 11) dX9_init_11 fl_X9_15 (Or.inl rfl) rfl ha0 ?_
  refine s_nmI (fun I3 e4 => ?_)
  replace hf := p_lx hf e4
  refine s_aload_n (pc := 14) dX9_init_14 0 rfl rfl ?_
  refine s_iconst (pc := 15) dX9_init_15 (v := nI 0) rfl ?_
  refine x_putI (pc := 16) dX9_init_16 fl_X9_18 (Or.inl rfl) rfl ha0 ?_
  refine s_nmI (fun I5 e6 => ?_)
  replace hf := p_lx hf e6
  refine s_aload_n (pc := 19) dX9_init_19 0 rfl rfl ?_
  refine s_iconst (pc := 20) dX9_init_20 (v := nI 0) rfl ?_
  refine x_putI (pc := 21) dX9_init_21 fl_X9_21 (Or.inl rfl) rfl ha0 ?_
  refine s_nmI (fun I7 e8 => ?_)
  replace hf := p_lx hf e8
  refine s_aload_n (pc := 24) dX9_init_24 0 rfl rfl ?_
  refine s_iconst (pc := 25) dX9_init_25 (v := (-1)) rfl ?_
  refine x_putI (pc := 26) dX9_init_26 fl_X9_24 (Or.inl rfl) rfl ha0 ?_
  refine s_nmI (fun I9 e10 => ?_)
  replace hf := p_lx hf e10
  refine s_aload_n (pc := 29) dX9_init_29 0 rfl rfl ?_
  refine s_aload_n (pc := 30) dX9_init_30 1 rfl rfl ?_
  refine x_putR (pc := 31) dX9_init_31 fl_X9_27 (Or.inl rfl) rfl ha0 ?_
  refine s_nmP (fun P12 e13 => ?_)
  replace hf := p_lx hf e13
  have w11 : WT N P12 := by rw [e13]; exact WT.put hW ha0 (fun q hq => by cases hq; exact ha1)
  cases hf
  refine s_widen (c2 := 0) (s2 := 0) (by decide) (by decide) ?_
  exact s_return (pc := 34) dX9_init_34 rfl ⟨rfl, rfl, rfl, rfl, rfl⟩
theorem g_X9_init {N : pN} {I : pI} {L : pL} {P : pR} {a0 : Nat} {a1 : Nat} {qq : pN × pI × pL × pR} (hW : WT N P) (ha0 : p_tp N a0 12) (ha1 : p_tp N a1 11) (hf : f_X9_init N I L P a0 a1 = some qq) : WT qq.1 qq.2.2.2 ∧ p_ext N qq.1 := by
  unfold f_X9_init at hf
  obtain ⟨I1, e2, hf⟩ := p_lx2 hf
  obtain ⟨I3, e4, hf⟩ := p_lx2 hf
  obtain ⟨I5, e6, hf⟩ := p_lx2 hf
  obtain ⟨I7, e8, hf⟩ := p_lx2 hf
  obtain ⟨I9, e10, hf⟩ := p_lx2 hf
  obtain ⟨P12, e13, hf⟩ := p_lx2 hf
  have w11 : WT N P12 := by rw [e13]; exact WT.put hW ha0 (fun q hq => by cases hq; exact ha1)
  cases hf
  exact ⟨w11, p_ext.rf⟩
def f_X10_init (N : pN) (I : pI) (L : pL) (P : pR) (a0 : Nat) : Option (pN × pI × pL × pR) :=
  p_ck (decide (N.1 < 1000000)) <|
  p_let (p_nw N I L P (12, 0)) fun w1 =>
  p_ck (decide (w1.1.1 < 1000000)) <|
  p_let (p_nw w1.1 w1.2.1 w1.2.2.1 w1.2.2.2 (11, 0)) fun w8 =>
  Option.bind (f_X8_init w8.1 w8.2.1 w8.2.2.1 w8.2.2.2 w1.1.1 (nI 0) (nI 1)) fun q16 =>
  Option.bind (f_X9_init q16.1 q16.2.1 q16.2.2.1 q16.2.2.2 N.1 w1.1.1) fun q24 =>
  p_let (p_u q24.2.2.2 a0 0 (some N.1)) fun P32 =>
  p_ck (p_sz (nI 5) 5) <|
  p_ck (decide (q24.1.1 < 1000000)) <|
  p_let (p_nw q24.1 q24.2.1 q24.2.2.1 P32 (0, Int32.toNatClampNeg (nI 5))) fun w34 =>
  p_let (p_u w34.2.2.2 a0 1 (some q24.1.1)) fun P43 =>
  p_ck (p_sz (nI 5) 5) <|
  p_ck (decide (w34.1.1 < 1000000)) <|
  p_let (p_nw w34.1 w34.2.1 w34.2.2.1 P43 (0, Int32.toNatClampNeg (nI 5))) fun w45 =>
  p_let (p_u w45.2.2.2 a0 2 (some w34.1.1)) fun P54 =>
  some (w45.1, w45.2.1, w45.2.2.1, P54)
theorem c_X10_init {G : pG} {d : Nat} {N : pN} {I : pI} {L : pL} {P : pR} {a0 : Nat} {qq : pN × pI × pL × pR} (hd : 2 ≤ d) (hW : WT N P) (ha0 : p_tp N a0 13) (hf : f_X10_init N I L P a0 = some qq) : MT G mX10_init d 5 1120 [.ref a0] N I L P (p_R none qq.1 qq.2.1 qq.2.2.1 qq.2.2.2) := by
  refine MT.of rfl (Nat.le_of_ble_eq_true rfl) ?_
  show SW G mX10_init (p_rm d 5 1120) 5 1120 0 0 (p_R none qq.1 qq.2.1 qq.2.2.1 qq.2.2.2) 0 [(0, .ref a0)] [] N I L P
  unfold f_X10_init at hf
  refine s_aload_n (pc := 0) dX10_init_0 0 rfl rfl ?_
  refine z_obj (pc := 1) dX10_init_1 ml_X10_3 (p_d1 hd (by decide)) (Nat.le_of_ble_eq_true rfl) ?_
  refine s_aload_n (pc := 4) dX10_init_4 0 rfl rfl ?_
  obtain ⟨c3, hf⟩ := p_ckx hf
  refine a_new (pc := 5) (ci := 9) dX10_init_5 rfl kk_X10_9 (by decide) (by decide) c3 (fun w1 e2 => ?_)
  replace hf := p_lx hf e2
  have t4 : p_tp w1.1 a0 13 := (p_nwx e2) _ _ ha0
  have t5 : p_tp w1.1 N.1 12 := p_nws e2
  have w6 : WT w1.1 w1.2.2.2 := p_nww e2 hW
  have x7 : p_ext N w1.1 := p_ext.tr p_ext.rf (p_nwx e2)
  refine s_dup (pc := 8) dX10_init_8 rfl ?_
  obtain ⟨c10, hf⟩ := p_ckx hf
  refine a_new (pc := 9) (ci := 8) dX10_init_9 rfl kk_X10_11 (by decide) (by decide) c10 (fun w8 e9 => ?_)
  replace hf := p_lx hf e9
  have t11 : p_tp w8.1 a0 13 := (p_nwx e9) _ _ t4
  have t12 : p_tp w8.1 N.1 12 := (p_nwx e9) _ _ t5
  have t13 : p_tp w8.1 w1.1.1 11 := p_nws e9
  have w14 : WT w8.1 w8.2.2.2 := p_nww e9 w6
  have x15 : p_ext N w8.1 := p_ext.tr x7 (p_nwx e9)
  refine s_dup (pc := 12) dX10_init_12 rfl ?_
  refine s_iconst (pc := 13) dX10_init_13 (v := nI 0) rfl ?_
  refine s_iconst (pc := 14) dX10_init_14 (v := nI 1) rfl ?_
  obtain ⟨q16, h17, hf⟩ := p_bd hf
  have g18 := g_X8_init w14 t13 h17
  have t19 : p_tp q16.1 a0 13 := g18.2 _ _ t11
  have t20 : p_tp q16.1 w1.1.1 11 := g18.2 _ _ t13
  have t21 : p_tp q16.1 N.1 12 := g18.2 _ _ t12
  have w22 : WT q16.1 q16.2.2.2 := g18.1
  have x23 : p_ext N q16.1 := p_ext.tr x15 g18.2
  refine z_callI (pc := 15) dX10_init_15 (c_X8_init (p_dd hd (by decide)) w14 t13 h17) mk_X8_init mi_X8_init rfl rfl ml_X10_13 rfl rfl (Nat.le_of_ble_eq_true rfl) t13 (p_d1 hd (by decide)) (Nat.le_of_ble_eq_true rfl) (by decide) (by decide) ?_
  obtain ⟨q24, h25, hf⟩ := p_bd hf
  have g26 := g_X9_init w22 t21 t20 h25
  have t27 : p_tp q24.1 a0 13 := g26.2 _ _ t19
  have t28 : p_tp q24.1 N.1 12 := g26.2 _ _ t21
  have w29 : WT q24.1 q24.2.2.2 := g26.1
  have x30 : p_ext N q24.1 := p_ext.tr x23 g26.2
  refine z_callI (pc := 18) dX10_init_18 (c_X9_init (p_dd hd (by decide)) w22 t21 t20 h25) mk_X9_init mi_X9_init rfl rfl ml_X10_16 rfl rfl (Nat.le_of_ble_eq_true rfl) t21 (p_d1 hd (by decide)) (Nat.le_of_ble_eq_true rfl) (by decide) (by decide) ?_
  refine x_putR (pc := 21) dX10_init_21 fl_X10_19 (Or.inr ⟨rfl, rfl⟩) rfl t27 ?_
  refine s_nmP (fun P32 e33 => ?_)
  replace hf := p_lx hf e33
  have w31 : WT q24.1 P32 := by rw [e33]; exact WT.put w29 t27 (fun q hq => by cases hq; exact t28)
  refine s_aload_n (pc := 24) dX10_init_24 0 rfl rfl ?_
  refine s_iconst (pc := 25) dX10_init_25 (v := nI 5) rfl ?_
  obtain ⟨c37, hf⟩ := p_ckx hf
  obtain ⟨c36, hf⟩ := p_ckx hf
  refine a_newI (pc := 26) (z := nI 5) (cap := 5) dX10_init_26 c37 (by decide) (by decide) (by decide) c36 (fun w34 e35 => ?_)
  replace hf := p_lx hf e35
  have t38 : p_tp w34.1 a0 13 := (p_nwx e35) _ _ t27
  have t39 : p_tp w34.1 q24.1.1 0 := p_nws e35
  have w40 : WT w34.1 w34.2.2.2 := p_nww e35 w31
  have x41 : p_ext N w34.1 := p_ext.tr x30 (p_nwx e35)
  refine x_putR (pc := 28) dX10_init_28 fl_X10_25 (Or.inr ⟨rfl, rfl⟩) rfl t38 ?_
  refine s_nmP (fun P43 e44 => ?_)
  replace hf := p_lx hf e44
  have w42 : WT w34.1 P43 := by rw [e44]; exact WT.put w40 t38 (fun q hq => by cases hq; exact t39)
  refine s_aload_n (pc := 31) dX10_init_31 0 rfl rfl ?_
  refine s_iconst (pc := 32) dX10_init_32 (v := nI 5) rfl ?_
  obtain ⟨c48, hf⟩ := p_ckx hf
  obtain ⟨c47, hf⟩ := p_ckx hf
  refine a_newI (pc := 33) (z := nI 5) (cap := 5) dX10_init_33 c48 (by decide) (by decide) (by decide) c47 (fun w45 e46 => ?_)
  replace hf := p_lx hf e46
  have t49 : p_tp w45.1 a0 13 := (p_nwx e46) _ _ t38
  have t50 : p_tp w45.1 w34.1.1 0 := p_nws e46
  have w51 : WT w45.1 w45.2.2.2 := p_nww e46 w42
  have x52 : p_ext N w45.1 := p_ext.tr x41 (p_nwx e46)
  refine x_putR (pc := 35) dX10_init_35 fl_X10_29 (Or.inr ⟨rfl, rfl⟩) rfl t49 ?_
  refine s_nmP (fun P54 e55 => ?_)
  replace hf := p_lx hf e55
  have w53 : WT w45.1 P54 := by rw [e55]; exact WT.put w51 t49 (fun q hq => by cases hq; exact t50)
  cases hf
  refine s_widen (c2 := 5) (s2 := 1120) (by decide) (by decide) ?_
  exact s_return (pc := 38) dX10_init_38 rfl ⟨rfl, rfl, rfl, rfl, rfl⟩
theorem g_X10_init {N : pN} {I : pI} {L : pL} {P : pR} {a0 : Nat} {qq : pN × pI × pL × pR} (hW : WT N P) (ha0 : p_tp N a0 13) (hf : f_X10_init N I L P a0 = some qq) : WT qq.1 qq.2.2.2 ∧ p_ext N qq.1 := by
  unfold f_X10_init at hf
  obtain ⟨c3, hf⟩ := p_ckx hf
  obtain ⟨w1, e2, hf⟩ := p_lx2 hf
  have t4 : p_tp w1.1 a0 13 := (p_nwx e2) _ _ ha0
  have t5 : p_tp w1.1 N.1 12 := p_nws e2
  have w6 : WT w1.1 w1.2.2.2 := p_nww e2 hW
  have x7 : p_ext N w1.1 := p_ext.tr p_ext.rf (p_nwx e2)
  obtain ⟨c10, hf⟩ := p_ckx hf
  obtain ⟨w8, e9, hf⟩ := p_lx2 hf
  have t11 : p_tp w8.1 a0 13 := (p_nwx e9) _ _ t4
  have t12 : p_tp w8.1 N.1 12 := (p_nwx e9) _ _ t5
  have t13 : p_tp w8.1 w1.1.1 11 := p_nws e9
  have w14 : WT w8.1 w8.2.2.2 := p_nww e9 w6
  have x15 : p_ext N w8.1 := p_ext.tr x7 (p_nwx e9)
  obtain ⟨q16, h17, hf⟩ := p_bd hf
  have g18 := g_X8_init w14 t13 h17
  have t19 : p_tp q16.1 a0 13 := g18.2 _ _ t11
  have t20 : p_tp q16.1 w1.1.1 11 := g18.2 _ _ t13
  have t21 : p_tp q16.1 N.1 12 := g18.2 _ _ t12
  have w22 : WT q16.1 q16.2.2.2 := g18.1
  have x23 : p_ext N q16.1 := p_ext.tr x15 g18.2
  obtain ⟨q24, h25, hf⟩ := p_bd hf
  have g26 := g_X9_init w22 t21 t20 h25
  have t27 : p_tp q24.1 a0 13 := g26.2 _ _ t19
  have t28 : p_tp q24.1 N.1 12 := g26.2 _ _ t21
  have w29 : WT q24.1 q24.2.2.2 := g26.1
  have x30 : p_ext N q24.1 := p_ext.tr x23 g26.2
  obtain ⟨P32, e33, hf⟩ := p_lx2 hf
  have w31 : WT q24.1 P32 := by rw [e33]; exact WT.put w29 t27 (fun q hq => by cases hq; exact t28)
  obtain ⟨c37, hf⟩ := p_ckx hf
  obtain ⟨c36, hf⟩ := p_ckx hf
  obtain ⟨w34, e35, hf⟩ := p_lx2 hf
  have t38 : p_tp w34.1 a0 13 := (p_nwx e35) _ _ t27
  have t39 : p_tp w34.1 q24.1.1 0 := p_nws e35
  have w40 : WT w34.1 w34.2.2.2 := p_nww e35 w31
  have x41 : p_ext N w34.1 := p_ext.tr x30 (p_nwx e35)
  obtain ⟨P43, e44, hf⟩ := p_lx2 hf
  have w42 : WT w34.1 P43 := by rw [e44]; exact WT.put w40 t38 (fun q hq => by cases hq; exact t39)
  obtain ⟨c48, hf⟩ := p_ckx hf
  obtain ⟨c47, hf⟩ := p_ckx hf
  obtain ⟨w45, e46, hf⟩ := p_lx2 hf
  have t49 : p_tp w45.1 a0 13 := (p_nwx e46) _ _ t38
  have t50 : p_tp w45.1 w34.1.1 0 := p_nws e46
  have w51 : WT w45.1 w45.2.2.2 := p_nww e46 w42
  have x52 : p_ext N w45.1 := p_ext.tr x41 (p_nwx e46)
  obtain ⟨P54, e55, hf⟩ := p_lx2 hf
  have w53 : WT w45.1 P54 := by rw [e55]; exact WT.put w51 t49 (fun q hq => by cases hq; exact t50)
  cases hf
  exact ⟨w53, x52⟩
def f_X4_init (N : pN) (I : pI) (L : pL) (P : pR) (a0 : Nat) : Option (pN × pI × pL × pR) :=
  p_ck (decide (N.1 < 1000000)) <|
  p_let (p_nw N I L P (12, 0)) fun w1 =>
  p_ck (decide (w1.1.1 < 1000000)) <|
  p_let (p_nw w1.1 w1.2.1 w1.2.2.1 w1.2.2.2 (11, 0)) fun w8 =>
  Option.bind (f_X8_init w8.1 w8.2.1 w8.2.2.1 w8.2.2.2 w1.1.1 (nI 0) (nI 1)) fun q16 =>
  Option.bind (f_X9_init q16.1 q16.2.1 q16.2.2.1 q16.2.2.2 N.1 w1.1.1) fun q24 =>
  p_let (p_u q24.2.2.2 a0 0 (some N.1)) fun P32 =>
  p_ck (decide (q24.1.1 < 1000000)) <|
  p_let (p_nw q24.1 q24.2.1 q24.2.2.1 P32 (11, 0)) fun w34 =>
  Option.bind (f_X8_init w34.1 w34.2.1 w34.2.2.1 w34.2.2.2 q24.1.1 (nI 16) (nI 18)) fun q41 =>
  p_let (p_u q41.2.2.2 a0 1 (some q24.1.1)) fun P49 =>
  some (q41.1, q41.2.1, q41.2.2.1, P49)
theorem c_X4_init {G : pG} {d : Nat} {N : pN} {I : pI} {L : pL} {P : pR} {a0 : Nat} {qq : pN × pI × pL × pR} (hd : 2 ≤ d) (hW : WT N P) (ha0 : p_tp N a0 7) (hf : f_X4_init N I L P a0 = some qq) : MT G mX4_init d 5 2214 [.ref a0] N I L P (p_R none qq.1 qq.2.1 qq.2.2.1 qq.2.2.2) := by
  refine MT.of rfl (Nat.le_of_ble_eq_true rfl) ?_
  show SW G mX4_init (p_rm d 5 2214) 5 2214 0 0 (p_R none qq.1 qq.2.1 qq.2.2.1 qq.2.2.2) 0 [(0, .ref a0)] [] N I L P
  unfold f_X4_init at hf
  refine s_aload_n (pc := 0) dX4_init_0 0 rfl rfl ?_
  refine z_obj (pc := 1) dX4_init_1 ml_X4_3 (p_d1 hd (by decide)) (Nat.le_of_ble_eq_true rfl) ?_
  refine s_aload_n (pc := 4) dX4_init_4 0 rfl rfl ?_
  obtain ⟨c3, hf⟩ := p_ckx hf
  refine a_new (pc := 5) (ci := 9) dX4_init_5 rfl kk_X4_9 (by decide) (by decide) c3 (fun w1 e2 => ?_)
  replace hf := p_lx hf e2
  have t4 : p_tp w1.1 a0 7 := (p_nwx e2) _ _ ha0
  have t5 : p_tp w1.1 N.1 12 := p_nws e2
  have w6 : WT w1.1 w1.2.2.2 := p_nww e2 hW
  have x7 : p_ext N w1.1 := p_ext.tr p_ext.rf (p_nwx e2)
  refine s_dup (pc := 8) dX4_init_8 rfl ?_
  obtain ⟨c10, hf⟩ := p_ckx hf
  refine a_new (pc := 9) (ci := 8) dX4_init_9 rfl kk_X4_11 (by decide) (by decide) c10 (fun w8 e9 => ?_)
  replace hf := p_lx hf e9
  have t11 : p_tp w8.1 a0 7 := (p_nwx e9) _ _ t4
  have t12 : p_tp w8.1 N.1 12 := (p_nwx e9) _ _ t5
  have t13 : p_tp w8.1 w1.1.1 11 := p_nws e9
  have w14 : WT w8.1 w8.2.2.2 := p_nww e9 w6
  have x15 : p_ext N w8.1 := p_ext.tr x7 (p_nwx e9)
  refine s_dup (pc := 12) dX4_init_12 rfl ?_
  refine s_iconst (pc := 13) dX4_init_13 (v := nI 0) rfl ?_
  refine s_iconst (pc := 14) dX4_init_14 (v := nI 1) rfl ?_
  obtain ⟨q16, h17, hf⟩ := p_bd hf
  have g18 := g_X8_init w14 t13 h17
  have t19 : p_tp q16.1 a0 7 := g18.2 _ _ t11
  have t20 : p_tp q16.1 w1.1.1 11 := g18.2 _ _ t13
  have t21 : p_tp q16.1 N.1 12 := g18.2 _ _ t12
  have w22 : WT q16.1 q16.2.2.2 := g18.1
  have x23 : p_ext N q16.1 := p_ext.tr x15 g18.2
  refine z_callI (pc := 15) dX4_init_15 (c_X8_init (p_dd hd (by decide)) w14 t13 h17) mk_X8_init mi_X8_init rfl rfl ml_X4_13 rfl rfl (Nat.le_of_ble_eq_true rfl) t13 (p_d1 hd (by decide)) (Nat.le_of_ble_eq_true rfl) (by decide) (by decide) ?_
  obtain ⟨q24, h25, hf⟩ := p_bd hf
  have g26 := g_X9_init w22 t21 t20 h25
  have t27 : p_tp q24.1 a0 7 := g26.2 _ _ t19
  have t28 : p_tp q24.1 N.1 12 := g26.2 _ _ t21
  have w29 : WT q24.1 q24.2.2.2 := g26.1
  have x30 : p_ext N q24.1 := p_ext.tr x23 g26.2
  refine z_callI (pc := 18) dX4_init_18 (c_X9_init (p_dd hd (by decide)) w22 t21 t20 h25) mk_X9_init mi_X9_init rfl rfl ml_X4_16 rfl rfl (Nat.le_of_ble_eq_true rfl) t21 (p_d1 hd (by decide)) (Nat.le_of_ble_eq_true rfl) (by decide) (by decide) ?_
  refine x_putR (pc := 21) dX4_init_21 fl_X4_19 (Or.inr ⟨rfl, rfl⟩) rfl t27 ?_
  refine s_nmP (fun P32 e33 => ?_)
  replace hf := p_lx hf e33
  have w31 : WT q24.1 P32 := by rw [e33]; exact WT.put w29 t27 (fun q hq => by cases hq; exact t28)
  refine s_aload_n (pc := 24) dX4_init_24 0 rfl rfl ?_
  obtain ⟨c36, hf⟩ := p_ckx hf
  refine a_new (pc := 25) (ci := 8) dX4_init_25 rfl kk_X4_11 (by decide) (by decide) c36 (fun w34 e35 => ?_)
  replace hf := p_lx hf e35
  have t37 : p_tp w34.1 a0 7 := (p_nwx e35) _ _ t27
  have t38 : p_tp w34.1 q24.1.1 11 := p_nws e35
  have w39 : WT w34.1 w34.2.2.2 := p_nww e35 w31
  have x40 : p_ext N w34.1 := p_ext.tr x30 (p_nwx e35)
  refine s_dup (pc := 28) dX4_init_28 rfl ?_
  refine s_bipush (pc := 29) dX4_init_29 (v := nI 16) rfl ?_
  refine s_bipush (pc := 31) dX4_init_31 (v := nI 18) rfl ?_
  obtain ⟨q41, h42, hf⟩ := p_bd hf
  have g43 := g_X8_init w39 t38 h42
  have t44 : p_tp q41.1 a0 7 := g43.2 _ _ t37
  have t45 : p_tp q41.1 q24.1.1 11 := g43.2 _ _ t38
  have w46 : WT q41.1 q41.2.2.2 := g43.1
  have x47 : p_ext N q41.1 := p_ext.tr x40 g43.2
  refine z_callI (pc := 33) dX4_init_33 (c_X8_init (p_dd hd (by decide)) w39 t38 h42) mk_X8_init mi_X8_init rfl rfl ml_X4_13 rfl rfl (Nat.le_of_ble_eq_true rfl) t38 (p_d1 hd (by decide)) (Nat.le_of_ble_eq_true rfl) (by decide) (by decide) ?_
  refine x_putR (pc := 36) dX4_init_36 fl_X4_25 (Or.inr ⟨rfl, rfl⟩) rfl t44 ?_
  refine s_nmP (fun P49 e50 => ?_)
  replace hf := p_lx hf e50
  have w48 : WT q41.1 P49 := by rw [e50]; exact WT.put w46 t44 (fun q hq => by cases hq; exact t45)
  cases hf
  refine s_widen (c2 := 5) (s2 := 2214) (by decide) (by decide) ?_
  exact s_return (pc := 39) dX4_init_39 rfl ⟨rfl, rfl, rfl, rfl, rfl⟩
theorem g_X4_init {N : pN} {I : pI} {L : pL} {P : pR} {a0 : Nat} {qq : pN × pI × pL × pR} (hW : WT N P) (ha0 : p_tp N a0 7) (hf : f_X4_init N I L P a0 = some qq) : WT qq.1 qq.2.2.2 ∧ p_ext N qq.1 := by
  unfold f_X4_init at hf
  obtain ⟨c3, hf⟩ := p_ckx hf
  obtain ⟨w1, e2, hf⟩ := p_lx2 hf
  have t4 : p_tp w1.1 a0 7 := (p_nwx e2) _ _ ha0
  have t5 : p_tp w1.1 N.1 12 := p_nws e2
  have w6 : WT w1.1 w1.2.2.2 := p_nww e2 hW
  have x7 : p_ext N w1.1 := p_ext.tr p_ext.rf (p_nwx e2)
  obtain ⟨c10, hf⟩ := p_ckx hf
  obtain ⟨w8, e9, hf⟩ := p_lx2 hf
  have t11 : p_tp w8.1 a0 7 := (p_nwx e9) _ _ t4
  have t12 : p_tp w8.1 N.1 12 := (p_nwx e9) _ _ t5
  have t13 : p_tp w8.1 w1.1.1 11 := p_nws e9
  have w14 : WT w8.1 w8.2.2.2 := p_nww e9 w6
  have x15 : p_ext N w8.1 := p_ext.tr x7 (p_nwx e9)
  obtain ⟨q16, h17, hf⟩ := p_bd hf
  have g18 := g_X8_init w14 t13 h17
  have t19 : p_tp q16.1 a0 7 := g18.2 _ _ t11
  have t20 : p_tp q16.1 w1.1.1 11 := g18.2 _ _ t13
  have t21 : p_tp q16.1 N.1 12 := g18.2 _ _ t12
  have w22 : WT q16.1 q16.2.2.2 := g18.1
  have x23 : p_ext N q16.1 := p_ext.tr x15 g18.2
  obtain ⟨q24, h25, hf⟩ := p_bd hf
  have g26 := g_X9_init w22 t21 t20 h25
  have t27 : p_tp q24.1 a0 7 := g26.2 _ _ t19
  have t28 : p_tp q24.1 N.1 12 := g26.2 _ _ t21
  have w29 : WT q24.1 q24.2.2.2 := g26.1
  have x30 : p_ext N q24.1 := p_ext.tr x23 g26.2
  obtain ⟨P32, e33, hf⟩ := p_lx2 hf
  have w31 : WT q24.1 P32 := by rw [e33]; exact WT.put w29 t27 (fun q hq => by cases hq; exact t28)
  obtain ⟨c36, hf⟩ := p_ckx hf
  obtain ⟨w34, e35, hf⟩ := p_lx2 hf
  have t37 : p_tp w34.1 a0 7 := (p_nwx e35) _ _ t27
  have t38 : p_tp w34.1 q24.1.1 11 := p_nws e35
  have w39 : WT w34.1 w34.2.2.2 := p_nww e35 w31
  have x40 : p_ext N w34.1 := p_ext.tr x30 (p_nwx e35)
  obtain ⟨q41, h42, hf⟩ := p_bd hf
  have g43 := g_X8_init w39 t38 h42
  have t44 : p_tp q41.1 a0 7 := g43.2 _ _ t37
  have t45 : p_tp q41.1 q24.1.1 11 := g43.2 _ _ t38
  have w46 : WT q41.1 q41.2.2.2 := g43.1
  have x47 : p_ext N q41.1 := p_ext.tr x40 g43.2
  obtain ⟨P49, e50, hf⟩ := p_lx2 hf
  have w48 : WT q41.1 P49 := by rw [e50]; exact WT.put w46 t44 (fun q hq => by cases hq; exact t45)
  cases hf
  exact ⟨w48, x47⟩
def f_X2_init (N : pN) (I : pI) (L : pL) (P : pR) (a0 : Nat) : Option (pN × pI × pL × pR) :=
  p_ck (decide (N.1 < 1000000)) <|
  p_let (p_nw N I L P (9, 0)) fun w1 =>
  Option.bind (f_X6_init w1.1 w1.2.1 w1.2.2.1 w1.2.2.2 N.1) fun q8 =>
  p_let (p_u q8.2.2.2 a0 1 (some N.1)) fun P16 =>
  p_ck (decide (q8.1.1 < 1000000)) <|
  p_let (p_nw q8.1 q8.2.1 q8.2.2.1 P16 (9, 0)) fun w18 =>
  Option.bind (f_X6_init w18.1 w18.2.1 w18.2.2.1 w18.2.2.2 q8.1.1) fun q25 =>
  p_let (p_u q25.2.2.2 a0 2 (some q8.1.1)) fun P33 =>
  p_ck (decide (q25.1.1 < 1000000)) <|
  p_let (p_nw q25.1 q25.2.1 q25.2.2.1 P33 (9, 0)) fun w35 =>
  Option.bind (f_X6_init w35.1 w35.2.1 w35.2.2.1 w35.2.2.2 q25.1.1) fun q42 =>
  p_let (p_u q42.2.2.2 a0 3 (some q25.1.1)) fun P50 =>
  p_ck (decide (q42.1.1 < 1000000)) <|
  p_let (p_nw q42.1 q42.2.1 q42.2.2.1 P50 (9, 0)) fun w52 =>
  Option.bind (f_X6_init w52.1 w52.2.1 w52.2.2.1 w52.2.2.2 q42.1.1) fun q59 =>
  p_let (p_u q59.2.2.2 a0 4 (some q42.1.1)) fun P67 =>
  p_ck (decide (q59.1.1 < 1000000)) <|
  p_let (p_nw q59.1 q59.2.1 q59.2.2.1 P67 (9, 0)) fun w69 =>
  Option.bind (f_X6_init w69.1 w69.2.1 w69.2.2.1 w69.2.2.2 q59.1.1) fun q76 =>
  p_let (p_u q76.2.2.2 a0 5 (some q59.1.1)) fun P84 =>
  p_ck (decide (q76.1.1 < 1000000)) <|
  p_let (p_nw q76.1 q76.2.1 q76.2.2.1 P84 (9, 0)) fun w86 =>
  Option.bind (f_X6_init w86.1 w86.2.1 w86.2.2.1 w86.2.2.2 q76.1.1) fun q93 =>
  p_let (p_u q93.2.2.2 a0 6 (some q76.1.1)) fun P101 =>
  p_ck (decide (q93.1.1 < 1000000)) <|
  p_let (p_nw q93.1 q93.2.1 q93.2.2.1 P101 (9, 0)) fun w103 =>
  Option.bind (f_X6_init w103.1 w103.2.1 w103.2.2.1 w103.2.2.2 q93.1.1) fun q110 =>
  p_let (p_u q110.2.2.2 a0 7 (some q93.1.1)) fun P118 =>
  p_ck (decide (q110.1.1 < 1000000)) <|
  p_let (p_nw q110.1 q110.2.1 q110.2.2.1 P118 (11, 0)) fun w120 =>
  Option.bind (f_X8_init w120.1 w120.2.1 w120.2.2.1 w120.2.2.2 q110.1.1 (nI 169) (nI 6)) fun q127 =>
  p_let (p_u q127.2.2.2 a0 8 (some q110.1.1)) fun P135 =>
  p_ck (p_sz (nI 169) 169) <|
  p_ck (decide (q127.1.1 < 1000000)) <|
  p_let (p_nw q127.1 q127.2.1 q127.2.2.1 P135 (0, Int32.toNatClampNeg (nI 169))) fun w137 =>
  p_let (p_u w137.2.2.2 a0 9 (some q127.1.1)) fun P146 =>
  p_let (p_u w137.2.1 a0 10 (nI 0)) fun I148 =>
  p_let (p_u I148 a0 11 (nI 0)) fun I150 =>
  p_let (p_u I150 a0 12 (nI 0)) fun I152 =>
  p_let (p_u I152 a0 13 (nI 0)) fun I154 =>
  p_ck (decide (w137.1.1 < 1000000)) <|
  p_let (p_nw w137.1 I154 w137.2.2.1 P146 (3, 0)) fun w156 =>
  Option.bind (f_X0_init w156.1 w156.2.1 w156.2.2.1 w156.2.2.2 w137.1.1 (nI 11) none) fun q163 =>
  p_ck (decide (q163.1.1 < 1000000)) <|
  p_let (p_nw q163.1 q163.2.1 q163.2.2.1 q163.2.2.2 (3, 0)) fun w170 =>
  Option.bind (f_X0_init w170.1 w170.2.1 w170.2.2.1 w170.2.2.2 q163.1.1 (nI 10) (some w137.1.1)) fun q178 =>
  p_ck (decide (q178.1.1 < 1000000)) <|
  p_let (p_nw q178.1 q178.2.1 q178.2.2.1 q178.2.2.2 (3, 0)) fun w186 =>
  Option.bind (f_X0_init w186.1 w186.2.1 w186.2.2.1 w186.2.2.2 q178.1.1 (nI 9) (some q163.1.1)) fun q194 =>
  p_ck (decide (q194.1.1 < 1000000)) <|
  p_let (p_nw q194.1 q194.2.1 q194.2.2.1 q194.2.2.2 (3, 0)) fun w202 =>
  Option.bind (f_X0_init w202.1 w202.2.1 w202.2.2.1 w202.2.2.2 q194.1.1 (nI 8) (some q178.1.1)) fun q210 =>
  p_ck (decide (q210.1.1 < 1000000)) <|
  p_let (p_nw q210.1 q210.2.1 q210.2.2.1 q210.2.2.2 (3, 0)) fun w218 =>
  Option.bind (f_X0_init w218.1 w218.2.1 w218.2.2.1 w218.2.2.2 q210.1.1 (nI 7) (some q194.1.1)) fun q226 =>
  p_ck (decide (q226.1.1 < 1000000)) <|
  p_let (p_nw q226.1 q226.2.1 q226.2.2.1 q226.2.2.2 (3, 0)) fun w234 =>
  Option.bind (f_X0_init w234.1 w234.2.1 w234.2.2.1 w234.2.2.2 q226.1.1 (nI 6) (some q210.1.1)) fun q242 =>
  p_ck (decide (q242.1.1 < 1000000)) <|
  p_let (p_nw q242.1 q242.2.1 q242.2.2.1 q242.2.2.2 (3, 0)) fun w250 =>
  Option.bind (f_X0_init w250.1 w250.2.1 w250.2.2.1 w250.2.2.2 q242.1.1 (nI 5) (some q226.1.1)) fun q258 =>
  p_ck (decide (q258.1.1 < 1000000)) <|
  p_let (p_nw q258.1 q258.2.1 q258.2.2.1 q258.2.2.2 (3, 0)) fun w266 =>
  Option.bind (f_X0_init w266.1 w266.2.1 w266.2.2.1 w266.2.2.2 q258.1.1 (nI 4) (some q242.1.1)) fun q274 =>
  p_ck (decide (q274.1.1 < 1000000)) <|
  p_let (p_nw q274.1 q274.2.1 q274.2.2.1 q274.2.2.2 (3, 0)) fun w282 =>
  Option.bind (f_X0_init w282.1 w282.2.1 w282.2.2.1 w282.2.2.2 q274.1.1 (nI 3) (some q258.1.1)) fun q290 =>
  p_ck (decide (q290.1.1 < 1000000)) <|
  p_let (p_nw q290.1 q290.2.1 q290.2.2.1 q290.2.2.2 (3, 0)) fun w298 =>
  Option.bind (f_X0_init w298.1 w298.2.1 w298.2.2.1 w298.2.2.2 q290.1.1 (nI 2) (some q274.1.1)) fun q306 =>
  p_ck (decide (q306.1.1 < 1000000)) <|
  p_let (p_nw q306.1 q306.2.1 q306.2.2.1 q306.2.2.2 (3, 0)) fun w314 =>
  Option.bind (f_X0_init w314.1 w314.2.1 w314.2.2.1 w314.2.2.2 q306.1.1 (nI 1) (some q290.1.1)) fun q322 =>
  p_ck (decide (q322.1.1 < 1000000)) <|
  p_let (p_nw q322.1 q322.2.1 q322.2.2.1 q322.2.2.2 (3, 0)) fun w330 =>
  Option.bind (f_X0_init w330.1 w330.2.1 w330.2.2.1 w330.2.2.2 q322.1.1 (nI 0) (some q306.1.1)) fun q338 =>
  p_let (p_u q338.2.2.2 a0 0 (some q322.1.1)) fun P347 =>
  some (q338.1, q338.2.1, q338.2.2.1, P347)
theorem c_X2_init {G : pG} {d : Nat} {N : pN} {I : pI} {L : pL} {P : pR} {a0 : Nat} {qq : pN × pI × pL × pR} (hd : 2 ≤ d) (hW : WT N P) (ha0 : p_tp N a0 5) (hf : f_X2_init N I L P a0 = some qq) : MT G mX2_init d 22 1402 [.ref a0] N I L P (p_R none qq.1 qq.2.1 qq.2.2.1 qq.2.2.2) := by
  refine MT.of rfl (Nat.le_of_ble_eq_true rfl) ?_
  show SW G mX2_init (p_rm d 22 1402) 22 1402 0 0 (p_R none qq.1 qq.2.1 qq.2.2.1 qq.2.2.2) 0 [(0, .ref a0)] [] N I L P
  unfold f_X2_init at hf
  refine s_aload_n (pc := 0) dX2_init_0 0 rfl rfl ?_
  refine z_obj (pc := 1) dX2_init_1 ml_X2_3 (p_d1 hd (by decide)) (Nat.le_of_ble_eq_true rfl) ?_
  refine s_aload_n (pc := 4) dX2_init_4 0 rfl rfl ?_
  obtain ⟨c3, hf⟩ := p_ckx hf
  refine a_new (pc := 5) (ci := 6) dX2_init_5 rfl kk_X2_9 (by decide) (by decide) c3 (fun w1 e2 => ?_)
  replace hf := p_lx hf e2
  have t4 : p_tp w1.1 a0 5 := (p_nwx e2) _ _ ha0
  have t5 : p_tp w1.1 N.1 9 := p_nws e2
  have w6 : WT w1.1 w1.2.2.2 := p_nww e2 hW
  have x7 : p_ext N w1.1 := p_ext.tr p_ext.rf (p_nwx e2)
  refine s_dup (pc := 8) dX2_init_8 rfl ?_
  obtain ⟨q8, h9, hf⟩ := p_bd hf
  have g10 := g_X6_init w6 t5 h9
  have t11 : p_tp q8.1 a0 5 := g10.2 _ _ t4
  have t12 : p_tp q8.1 N.1 9 := g10.2 _ _ t5
  have w13 : WT q8.1 q8.2.2.2 := g10.1
  have x14 : p_ext N q8.1 := p_ext.tr x7 g10.2
  refine z_callIN (pc := 9) dX2_init_9 (c_X6_init (p_dd hd (by decide)) w6 t5 h9) mk_X6_init mi_X6_init rfl rfl (by decide) rfl rfl (Nat.le_of_ble_eq_true rfl) t5 (p_d1 hd (by decide)) (Nat.le_of_ble_eq_true rfl) (by decide) (by decide) ?_
  refine x_putR (pc := 12) dX2_init_12 fl_X2_12 (Or.inr ⟨rfl, rfl⟩) rfl t11 ?_
  refine s_nmP (fun P16 e17 => ?_)
  replace hf := p_lx hf e17
  have w15 : WT q8.1 P16 := by rw [e17]; exact WT.put w13 t11 (fun q hq => by cases hq; exact t12)
  refine s_aload_n (pc := 15) dX2_init_15 0 rfl rfl ?_
  obtain ⟨c20, hf⟩ := p_ckx hf
  refine a_new (pc := 16) (ci := 6) dX2_init_16 rfl kk_X2_9 (by decide) (by decide) c20 (fun w18 e19 => ?_)
  replace hf := p_lx hf e19
  have t21 : p_tp w18.1 a0 5 := (p_nwx e19) _ _ t11
  have t22 : p_tp w18.1 q8.1.1 9 := p_nws e19
  have w23 : WT w18.1 w18.2.2.2 := p_nww e19 w15
  have x24 : p_ext N w18.1 := p_ext.tr x14 (p_nwx e19)
  refine s_dup (pc := 19) dX2_init_19 rfl ?_
  obtain ⟨q25, h26, hf⟩ := p_bd hf
  have g27 := g_X6_init w23 t22 h26
  have t28 : p_tp q25.1 a0 5 := g27.2 _ _ t21
  have t29 : p_tp q25.1 q8.1.1 9 := g27.2 _ _ t22
  have w30 : WT q25.1 q25.2.2.2 := g27.1
  have x31 : p_ext N q25.1 := p_ext.tr x24 g27.2
  refine z_callIN (pc := 20) dX2_init_20 (c_X6_init (p_dd hd (by decide)) w23 t22 h26) mk_X6_init mi_X6_init rfl rfl (by decide) rfl rfl (Nat.le_of_ble_eq_true rfl) t22 (p_d1 hd (by decide)) (Nat.le_of_ble_eq_true rfl) (by decide) (by decide) ?_
  refine x_putR (pc := 23) dX2_init_23 fl_X2_18 (Or.inr ⟨rfl, rfl⟩) rfl t28 ?_
  refine s_nmP (fun P33 e34 => ?_)
  replace hf := p_lx hf e34
  have w32 : WT q25.1 P33 := by rw [e34]; exact WT.put w30 t28 (fun q hq => by cases hq; exact t29)
  refine s_aload_n (pc := 26) dX2_init_26 0 rfl rfl ?_
  obtain ⟨c37, hf⟩ := p_ckx hf
  refine a_new (pc := 27) (ci := 6) dX2_init_27 rfl kk_X2_9 (by decide) (by decide) c37 (fun w35 e36 => ?_)
  replace hf := p_lx hf e36
  have t38 : p_tp w35.1 a0 5 := (p_nwx e36) _ _ t28
  have t39 : p_tp w35.1 q25.1.1 9 := p_nws e36
  have w40 : WT w35.1 w35.2.2.2 := p_nww e36 w32
  have x41 : p_ext N w35.1 := p_ext.tr x31 (p_nwx e36)
  refine s_dup (pc := 30) dX2_init_30 rfl ?_
  obtain ⟨q42, h43, hf⟩ := p_bd hf
  have g44 := g_X6_init w40 t39 h43
  have t45 : p_tp q42.1 a0 5 := g44.2 _ _ t38
  have t46 : p_tp q42.1 q25.1.1 9 := g44.2 _ _ t39
  have w47 : WT q42.1 q42.2.2.2 := g44.1
  have x48 : p_ext N q42.1 := p_ext.tr x41 g44.2
  refine z_callIN (pc := 31) dX2_init_31 (c_X6_init (p_dd hd (by decide)) w40 t39 h43) mk_X6_init mi_X6_init rfl rfl (by decide) rfl rfl (Nat.le_of_ble_eq_true rfl) t39 (p_d1 hd (by decide)) (Nat.le_of_ble_eq_true rfl) (by decide) (by decide) ?_
  refine x_putR (pc := 34) dX2_init_34 fl_X2_21 (Or.inr ⟨rfl, rfl⟩) rfl t45 ?_
  refine s_nmP (fun P50 e51 => ?_)
  replace hf := p_lx hf e51
  have w49 : WT q42.1 P50 := by rw [e51]; exact WT.put w47 t45 (fun q hq => by cases hq; exact t46)
  refine s_aload_n (pc := 37) dX2_init_37 0 rfl rfl ?_
  obtain ⟨c54, hf⟩ := p_ckx hf
  refine a_new (pc := 38) (ci := 6) dX2_init_38 rfl kk_X2_9 (by decide) (by decide) c54 (fun w52 e53 => ?_)
  replace hf := p_lx hf e53
  have t55 : p_tp w52.1 a0 5 := (p_nwx e53) _ _ t45
  have t56 : p_tp w52.1 q42.1.1 9 := p_nws e53
  have w57 : WT w52.1 w52.2.2.2 := p_nww e53 w49
  have x58 : p_ext N w52.1 := p_ext.tr x48 (p_nwx e53)
  refine s_dup (pc := 41) dX2_init_41 rfl ?_
  obtain ⟨q59, h60, hf⟩ := p_bd hf
  have g61 := g_X6_init w57 t56 h60
  have t62 : p_tp q59.1 a0 5 := g61.2 _ _ t55
  have t63 : p_tp q59.1 q42.1.1 9 := g61.2 _ _ t56
  have w64 : WT q59.1 q59.2.2.2 := g61.1
  have x65 : p_ext N q59.1 := p_ext.tr x58 g61.2
  refine z_callIN (pc := 42) dX2_init_42 (c_X6_init (p_dd hd (by decide)) w57 t56 h60) mk_X6_init mi_X6_init rfl rfl (by decide) rfl rfl (Nat.le_of_ble_eq_true rfl) t56 (p_d1 hd (by decide)) (Nat.le_of_ble_eq_true rfl) (by decide) (by decide) ?_
  refine x_putR (pc := 45) dX2_init_45 fl_X2_24 (Or.inr ⟨rfl, rfl⟩) rfl t62 ?_
  refine s_nmP (fun P67 e68 => ?_)
  replace hf := p_lx hf e68
  have w66 : WT q59.1 P67 := by rw [e68]; exact WT.put w64 t62 (fun q hq => by cases hq; exact t63)
  refine s_aload_n (pc := 48) dX2_init_48 0 rfl rfl ?_
  obtain ⟨c71, hf⟩ := p_ckx hf
  refine a_new (pc := 49) (ci := 6) dX2_init_49 rfl kk_X2_9 (by decide) (by decide) c71 (fun w69 e70 => ?_)
  replace hf := p_lx hf e70
  have t72 : p_tp w69.1 a0 5 := (p_nwx e70) _ _ t62
  have t73 : p_tp w69.1 q59.1.1 9 := p_nws e70
  have w74 : WT w69.1 w69.2.2.2 := p_nww e70 w66
  have x75 : p_ext N w69.1 := p_ext.tr x65 (p_nwx e70)
  refine s_dup (pc := 52) dX2_init_52 rfl ?_
  obtain ⟨q76, h77, hf⟩ := p_bd hf
  have g78 := g_X6_init w74 t73 h77
  have t79 : p_tp q76.1 a0 5 := g78.2 _ _ t72
  have t80 : p_tp q76.1 q59.1.1 9 := g78.2 _ _ t73
  have w81 : WT q76.1 q76.2.2.2 := g78.1
  have x82 : p_ext N q76.1 := p_ext.tr x75 g78.2
  refine z_callIN (pc := 53) dX2_init_53 (c_X6_init (p_dd hd (by decide)) w74 t73 h77) mk_X6_init mi_X6_init rfl rfl (by decide) rfl rfl (Nat.le_of_ble_eq_true rfl) t73 (p_d1 hd (by decide)) (Nat.le_of_ble_eq_true rfl) (by decide) (by decide) ?_
  refine x_putR (pc := 56) dX2_init_56 fl_X2_27 (Or.inr ⟨rfl, rfl⟩) rfl t79 ?_
  refine s_nmP (fun P84 e85 => ?_)
  replace hf := p_lx hf e85
  have w83 : WT q76.1 P84 := by rw [e85]; exact WT.put w81 t79 (fun q hq => by cases hq; exact t80)
  refine s_aload_n (pc := 59) dX2_init_59 0 rfl rfl ?_
  obtain ⟨c88, hf⟩ := p_ckx hf
  refine a_new (pc := 60) (ci := 6) dX2_init_60 rfl kk_X2_9 (by decide) (by decide) c88 (fun w86 e87 => ?_)
  replace hf := p_lx hf e87
  have t89 : p_tp w86.1 a0 5 := (p_nwx e87) _ _ t79
  have t90 : p_tp w86.1 q76.1.1 9 := p_nws e87
  have w91 : WT w86.1 w86.2.2.2 := p_nww e87 w83
  have x92 : p_ext N w86.1 := p_ext.tr x82 (p_nwx e87)
  refine s_dup (pc := 63) dX2_init_63 rfl ?_
  obtain ⟨q93, h94, hf⟩ := p_bd hf
  have g95 := g_X6_init w91 t90 h94
  have t96 : p_tp q93.1 a0 5 := g95.2 _ _ t89
  have t97 : p_tp q93.1 q76.1.1 9 := g95.2 _ _ t90
  have w98 : WT q93.1 q93.2.2.2 := g95.1
  have x99 : p_ext N q93.1 := p_ext.tr x92 g95.2
  refine z_callIN (pc := 64) dX2_init_64 (c_X6_init (p_dd hd (by decide)) w91 t90 h94) mk_X6_init mi_X6_init rfl rfl (by decide) rfl rfl (Nat.le_of_ble_eq_true rfl) t90 (p_d1 hd (by decide)) (Nat.le_of_ble_eq_true rfl) (by decide) (by decide) ?_
  refine x_putR (pc := 67) dX2_init_67 fl_X2_30 (Or.inr ⟨rfl, rfl⟩) rfl t96 ?_
  refine s_nmP (fun P101 e102 => ?_)
  replace hf := p_lx hf e102
  have w100 : WT q93.1 P101 := by rw [e102]; exact WT.put w98 t96 (fun q hq => by cases hq; exact t97)
  refine s_aload_n (pc := 70) dX2_init_70 0 rfl rfl ?_
  obtain ⟨c105, hf⟩ := p_ckx hf
  refine a_new (pc := 71) (ci := 6) dX2_init_71 rfl kk_X2_9 (by decide) (by decide) c105 (fun w103 e104 => ?_)
  replace hf := p_lx hf e104
  have t106 : p_tp w103.1 a0 5 := (p_nwx e104) _ _ t96
  have t107 : p_tp w103.1 q93.1.1 9 := p_nws e104
  have w108 : WT w103.1 w103.2.2.2 := p_nww e104 w100
  have x109 : p_ext N w103.1 := p_ext.tr x99 (p_nwx e104)
  refine s_dup (pc := 74) dX2_init_74 rfl ?_
  obtain ⟨q110, h111, hf⟩ := p_bd hf
  have g112 := g_X6_init w108 t107 h111
  have t113 : p_tp q110.1 a0 5 := g112.2 _ _ t106
  have t114 : p_tp q110.1 q93.1.1 9 := g112.2 _ _ t107
  have w115 : WT q110.1 q110.2.2.2 := g112.1
  have x116 : p_ext N q110.1 := p_ext.tr x109 g112.2
  refine z_callIN (pc := 75) dX2_init_75 (c_X6_init (p_dd hd (by decide)) w108 t107 h111) mk_X6_init mi_X6_init rfl rfl (by decide) rfl rfl (Nat.le_of_ble_eq_true rfl) t107 (p_d1 hd (by decide)) (Nat.le_of_ble_eq_true rfl) (by decide) (by decide) ?_
  refine x_putR (pc := 78) dX2_init_78 fl_X2_33 (Or.inr ⟨rfl, rfl⟩) rfl t113 ?_
  refine s_nmP (fun P118 e119 => ?_)
  replace hf := p_lx hf e119
  have w117 : WT q110.1 P118 := by rw [e119]; exact WT.put w115 t113 (fun q hq => by cases hq; exact t114)
  refine s_aload_n (pc := 81) dX2_init_81 0 rfl rfl ?_
  obtain ⟨c122, hf⟩ := p_ckx hf
  refine a_new (pc := 82) (ci := 8) dX2_init_82 rfl kk_X2_36 (by decide) (by decide) c122 (fun w120 e121 => ?_)
  replace hf := p_lx hf e121
  have t123 : p_tp w120.1 a0 5 := (p_nwx e121) _ _ t113
  have t124 : p_tp w120.1 q110.1.1 11 := p_nws e121
  have w125 : WT w120.1 w120.2.2.2 := p_nww e121 w117
  have x126 : p_ext N w120.1 := p_ext.tr x116 (p_nwx e121)
  refine s_dup (pc := 85) dX2_init_85 rfl ?_
  refine s_sipush (pc := 86) dX2_init_86 (v := nI 169) rfl ?_
  refine s_bipush (pc := 89) dX2_init_89 (v := nI 6) rfl ?_
  obtain ⟨q127, h128, hf⟩ := p_bd hf
  have g129 := g_X8_init w125 t124 h128
  have t130 : p_tp q127.1 a0 5 := g129.2 _ _ t123
  have t131 : p_tp q127.1 q110.1.1 11 := g129.2 _ _ t124
  have w132 : WT q127.1 q127.2.2.2 := g129.1
  have x133 : p_ext N q127.1 := p_ext.tr x126 g129.2
  refine z_callI (pc := 91) dX2_init_91 (c_X8_init (p_dd hd (by decide)) w125 t124 h128) mk_X8_init mi_X8_init rfl rfl ml_X2_38 rfl rfl (Nat.le_of_ble_eq_true rfl) t124 (p_d1 hd (by decide)) (Nat.le_of_ble_eq_true rfl) (by decide) (by decide) ?_
  refine x_putR (pc := 94) dX2_init_94 fl_X2_41 (Or.inr ⟨rfl, rfl⟩) rfl t130 ?_
  refine s_nmP (fun P135 e136 => ?_)
  replace hf := p_lx hf e136
  have w134 : WT q127.1 P135 := by rw [e136]; exact WT.put w132 t130 (fun q hq => by cases hq; exact t131)
  refine s_aload_n (pc := 97) dX2_init_97 0 rfl rfl ?_
  refine s_sipush (pc := 98) dX2_init_98 (v := nI 169) rfl ?_
  obtain ⟨c140, hf⟩ := p_ckx hf
  obtain ⟨c139, hf⟩ := p_ckx hf
  refine a_newI (pc := 101) (z := nI 169) (cap := 169) dX2_init_101 c140 (by decide) (by decide) (by decide) c139 (fun w137 e138 => ?_)
  replace hf := p_lx hf e138
  have t141 : p_tp w137.1 a0 5 := (p_nwx e138) _ _ t130
  have t142 : p_tp w137.1 q127.1.1 0 := p_nws e138
  have w143 : WT w137.1 w137.2.2.2 := p_nww e138 w134
  have x144 : p_ext N w137.1 := p_ext.tr x133 (p_nwx e138)
  refine x_putR (pc := 103) dX2_init_103 fl_X2_45 (Or.inr ⟨rfl, rfl⟩) rfl t141 ?_
  refine s_nmP (fun P146 e147 => ?_)
  replace hf := p_lx hf e147
  have w145 : WT w137.1 P146 := by rw [e147]; exact WT.put w143 t141 (fun q hq => by cases hq; exact t142)
  refine s_aload_n (pc := 106) dX2_init_106 0 rfl rfl ?_
  refine s_iconst (pc := 107) dX2_init_107 (v := nI 0) rfl ?_
  refine x_putI (pc := 108) dX2_init_108 fl_X2_49 (Or.inl rfl) rfl t141 ?_
  refine s_nmI (fun I148 e149 => ?_)
  replace hf := p_lx hf e149
  refine s_aload_n (pc := 111) dX2_init_111 0 rfl rfl ?_
  refine s_iconst (pc := 112) dX2_init_112 (v := nI 0) rfl ?_
  refine x_putI (pc := 113) dX2_init_113 fl_X2_53 (Or.inl rfl) rfl t141 ?_
  refine s_nmI (fun I150 e151 => ?_)
  replace hf := p_lx hf e151
  refine s_aload_n (pc := 116) dX2_init_116 0 rfl rfl ?_
  refine s_iconst (pc := 117) dX2_init_117 (v := nI 0) rfl ?_
  refine x_putI (pc := 118) dX2_init_118 fl_X2_56 (Or.inl rfl) rfl t141 ?_
  refine s_nmI (fun I152 e153 => ?_)
  replace hf := p_lx hf e153
  refine s_aload_n (pc := 121) dX2_init_121 0 rfl rfl ?_
  refine s_iconst (pc := 122) dX2_init_122 (v := nI 0) rfl ?_
  refine x_putI (pc := 123) dX2_init_123 fl_X2_59 (Or.inl rfl) rfl t141 ?_
  refine s_nmI (fun I154 e155 => ?_)
  replace hf := p_lx hf e155
  refine s_null (pc := 126) dX2_init_126 ?_
  refine s_astore_nN (pc := 127) (lo' := [(1, .null), (0, .ref a0)]) dX2_init_127 rfl (Nat.le_of_ble_eq_true rfl) rfl ?_
  refine s_bipush (pc := 128) dX2_init_128 (v := nI 11) rfl ?_
  refine s_istore_n (pc := 130) (lo' := [(2, .int (nI 11)), (1, .null), (0, .ref a0)]) dX2_init_130 rfl (Nat.le_of_ble_eq_true rfl) rfl ?_
  refine s_iload_n (pc := 131) dX2_init_131 0 rfl rfl ?_
  refine s_if_lt (pc := 132) (tgt := 151) dX2_init_132 rfl (fun hc => absurd hc (by decide)) (fun _ => ?_)
  obtain ⟨c158, hf⟩ := p_ckx hf
  refine a_new (pc := 135) (ci := 0) dX2_init_135 rfl kk_X2_62 (by decide) (by decide) c158 (fun w156 e157 => ?_)
  replace hf := p_lx hf e157
  have t159 : p_tp w156.1 a0 5 := (p_nwx e157) _ _ t141
  have t160 : p_tp w156.1 w137.1.1 3 := p_nws e157
  have w161 : WT w156.1 w156.2.2.2 := p_nww e157 w145
  have x162 : p_ext N w156.1 := p_ext.tr x144 (p_nwx e157)
  refine s_dup (pc := 138) dX2_init_138 rfl ?_
  refine s_iload_n (pc := 139) dX2_init_139 0 rfl rfl ?_
  refine s_aload_nN (pc := 140) dX2_init_140 1 rfl rfl ?_
  obtain ⟨q163, h164, hf⟩ := p_bd hf
  have g165 := g_X0_init w161 t160 (fun q hq => by cases hq) h164
  have t166 : p_tp q163.1 a0 5 := g165.2 _ _ t159
  have t167 : p_tp q163.1 w137.1.1 3 := g165.2 _ _ t160
  have w168 : WT q163.1 q163.2.2.2 := g165.1
  have x169 : p_ext N q163.1 := p_ext.tr x162 g165.2
  refine z_callI (pc := 141) dX2_init_141 (c_X0_init (p_dd hd (by decide)) w161 t160 (fun q hq => by cases hq) h164) mk_X0_init mi_X0_init rfl rfl ml_X2_64 rfl rfl (Nat.le_of_ble_eq_true rfl) t160 (p_d1 hd (by decide)) (Nat.le_of_ble_eq_true rfl) (by decide) (by decide) ?_
  refine s_astore_n (pc := 144) (lo' := [(1, .ref w137.1.1), (2, .int (nI 11)), (0, .ref a0)]) dX2_init_144 rfl (Nat.le_of_ble_eq_true rfl) rfl ?_
  refine s_iinc (pc := 145) (lo' := [(2, .int (nI 10)), (1, .ref w137.1.1), (0, .ref a0)]) dX2_init_145 1 rfl (v := nI 10) rfl (Nat.le_of_ble_eq_true rfl) rfl ?_
  refine s_goto (pc := 148) (tgt := 131) dX2_init_148 rfl ?_
  refine s_iload_n (pc := 131) dX2_init_131 0 rfl rfl ?_
  refine s_if_lt (pc := 132) (tgt := 151) dX2_init_132 rfl (fun hc => absurd hc (by decide)) (fun _ => ?_)
  obtain ⟨c172, hf⟩ := p_ckx hf
  refine a_new (pc := 135) (ci := 0) dX2_init_135 rfl kk_X2_62 (by decide) (by decide) c172 (fun w170 e171 => ?_)
  replace hf := p_lx hf e171
  have t173 : p_tp w170.1 w137.1.1 3 := (p_nwx e171) _ _ t167
  have t174 : p_tp w170.1 a0 5 := (p_nwx e171) _ _ t166
  have t175 : p_tp w170.1 q163.1.1 3 := p_nws e171
  have w176 : WT w170.1 w170.2.2.2 := p_nww e171 w168
  have x177 : p_ext N w170.1 := p_ext.tr x169 (p_nwx e171)
  refine s_dup (pc := 138) dX2_init_138 rfl ?_
  refine s_iload_n (pc := 139) dX2_init_139 0 rfl rfl ?_
  refine s_aload_n (pc := 140) dX2_init_140 1 rfl rfl ?_
  obtain ⟨q178, h179, hf⟩ := p_bd hf
  have g180 := g_X0_init w176 t175 (fun q hq => by cases hq; exact t173) h179
  have t181 : p_tp q178.1 w137.1.1 3 := g180.2 _ _ t173
  have t182 : p_tp q178.1 a0 5 := g180.2 _ _ t174
  have t183 : p_tp q178.1 q163.1.1 3 := g180.2 _ _ t175
  have w184 : WT q178.1 q178.2.2.2 := g180.1
  have x185 : p_ext N q178.1 := p_ext.tr x177 g180.2
  refine z_callI (pc := 141) dX2_init_141 (c_X0_init (p_dd hd (by decide)) w176 t175 (fun q hq => by cases hq; exact t173) h179) mk_X0_init mi_X0_init rfl rfl ml_X2_64 rfl rfl (Nat.le_of_ble_eq_true rfl) t175 (p_d1 hd (by decide)) (Nat.le_of_ble_eq_true rfl) (by decide) (by decide) ?_
  refine s_astore_n (pc := 144) (lo' := [(1, .ref q163.1.1), (2, .int (nI 10)), (0, .ref a0)]) dX2_init_144 rfl (Nat.le_of_ble_eq_true rfl) rfl ?_
  refine s_iinc (pc := 145) (lo' := [(2, .int (nI 9)), (1, .ref q163.1.1), (0, .ref a0)]) dX2_init_145 1 rfl (v := nI 9) rfl (Nat.le_of_ble_eq_true rfl) rfl ?_
  refine s_goto (pc := 148) (tgt := 131) dX2_init_148 rfl ?_
  refine s_iload_n (pc := 131) dX2_init_131 0 rfl rfl ?_
  refine s_if_lt (pc := 132) (tgt := 151) dX2_init_132 rfl (fun hc => absurd hc (by decide)) (fun _ => ?_)
  obtain ⟨c188, hf⟩ := p_ckx hf
  refine a_new (pc := 135) (ci := 0) dX2_init_135 rfl kk_X2_62 (by decide) (by decide) c188 (fun w186 e187 => ?_)
  replace hf := p_lx hf e187
  have t189 : p_tp w186.1 q163.1.1 3 := (p_nwx e187) _ _ t183
  have t190 : p_tp w186.1 a0 5 := (p_nwx e187) _ _ t182
  have t191 : p_tp w186.1 q178.1.1 3 := p_nws e187
  have w192 : WT w186.1 w186.2.2.2 := p_nww e187 w184
  have x193 : p_ext N w186.1 := p_ext.tr x185 (p_nwx e187)
  refine s_dup (pc := 138) dX2_init_138 rfl ?_
  refine s_iload_n (pc := 139) dX2_init_139 0 rfl rfl ?_
  refine s_aload_n (pc := 140) dX2_init_140 1 rfl rfl ?_
  obtain ⟨q194, h195, hf⟩ := p_bd hf
  have g196 := g_X0_init w192 t191 (fun q hq => by cases hq; exact t189) h195
  have t197 : p_tp q194.1 q163.1.1 3 := g196.2 _ _ t189
  have t198 : p_tp q194.1 a0 5 := g196.2 _ _ t190
  have t199 : p_tp q194.1 q178.1.1 3 := g196.2 _ _ t191
  have w200 : WT q194.1 q194.2.2.2 := g196.1
  have x201 : p_ext N q194.1 := p_ext.tr x193 g196.2
  refine z_callI (pc := 141) dX2_init_141 (c_X0_init (p_dd hd (by decide)) w192 t191 (fun q hq => by cases hq; exact t189) h195) mk_X0_init mi_X0_init rfl rfl ml_X2_64 rfl rfl (Nat.le_of_ble_eq_true rfl) t191 (p_d1 hd (by decide)) (Nat.le_of_ble_eq_true rfl) (by decide) (by decide) ?_
  refine s_astore_n (pc := 144) (lo' := [(1, .ref q178.1.1), (2, .int (nI 9)), (0, .ref a0)]) dX2_init_144 rfl (Nat.le_of_ble_eq_true rfl) rfl ?_
  refine s_iinc (pc := 145) (lo' := [(2, .int (nI 8)), (1, .ref q178.1.1), (0, .ref a0)]) dX2_init_145 1 rfl (v := nI 8) rfl (Nat.le_of_ble_eq_true rfl) rfl ?_
  refine s_goto (pc := 148) (tgt := 131) dX2_init_148 rfl ?_
  refine s_iload_n (pc := 131) dX2_init_131 0 rfl rfl ?_
  refine s_if_lt (pc := 132) (tgt := 151) dX2_init_132 rfl (fun hc => absurd hc (by decide)) (fun _ => ?_)
  obtain ⟨c204, hf⟩ := p_ckx hf
  refine a_new (pc := 135) (ci := 0) dX2_init_135 rfl kk_X2_62 (by decide) (by decide) c204 (fun w202 e203 => ?_)
  replace hf := p_lx hf e203
  have t205 : p_tp w202.1 q178.1.1 3 := (p_nwx e203) _ _ t199
  have t206 : p_tp w202.1 a0 5 := (p_nwx e203) _ _ t198
  have t207 : p_tp w202.1 q194.1.1 3 := p_nws e203
  have w208 : WT w202.1 w202.2.2.2 := p_nww e203 w200
  have x209 : p_ext N w202.1 := p_ext.tr x201 (p_nwx e203)
  refine s_dup (pc := 138) dX2_init_138 rfl ?_
  refine s_iload_n (pc := 139) dX2_init_139 0 rfl rfl ?_
  refine s_aload_n (pc := 140) dX2_init_140 1 rfl rfl ?_
  obtain ⟨q210, h211, hf⟩ := p_bd hf
  have g212 := g_X0_init w208 t207 (fun q hq => by cases hq; exact t205) h211
  have t213 : p_tp q210.1 q178.1.1 3 := g212.2 _ _ t205
  have t214 : p_tp q210.1 a0 5 := g212.2 _ _ t206
  have t215 : p_tp q210.1 q194.1.1 3 := g212.2 _ _ t207
  have w216 : WT q210.1 q210.2.2.2 := g212.1
  have x217 : p_ext N q210.1 := p_ext.tr x209 g212.2
  refine z_callI (pc := 141) dX2_init_141 (c_X0_init (p_dd hd (by decide)) w208 t207 (fun q hq => by cases hq; exact t205) h211) mk_X0_init mi_X0_init rfl rfl ml_X2_64 rfl rfl (Nat.le_of_ble_eq_true rfl) t207 (p_d1 hd (by decide)) (Nat.le_of_ble_eq_true rfl) (by decide) (by decide) ?_
  refine s_astore_n (pc := 144) (lo' := [(1, .ref q194.1.1), (2, .int (nI 8)), (0, .ref a0)]) dX2_init_144 rfl (Nat.le_of_ble_eq_true rfl) rfl ?_
  refine s_iinc (pc := 145) (lo' := [(2, .int (nI 7)), (1, .ref q194.1.1), (0, .ref a0)]) dX2_init_145 1 rfl (v := nI 7) rfl (Nat.le_of_ble_eq_true rfl) rfl ?_
  refine s_goto (pc := 148) (tgt := 131) dX2_init_148 rfl ?_
  refine s_iload_n (pc := 131) dX2_init_131 0 rfl rfl ?_
  refine s_if_lt (pc := 132) (tgt := 151) dX2_init_132 rfl (fun hc => absurd hc (by decide)) (fun _ => ?_)
  obtain ⟨c220, hf⟩ := p_ckx hf
  refine a_new (pc := 135) (ci := 0) dX2_init_135 rfl kk_X2_62 (by decide) (by decide) c220 (fun w218 e219 => ?_)
  replace hf := p_lx hf e219
  have t221 : p_tp w218.1 q194.1.1 3 := (p_nwx e219) _ _ t215
  have t222 : p_tp w218.1 a0 5 := (p_nwx e219) _ _ t214
  have t223 : p_tp w218.1 q210.1.1 3 := p_nws e219
  have w224 : WT w218.1 w218.2.2.2 := p_nww e219 w216
  have x225 : p_ext N w218.1 := p_ext.tr x217 (p_nwx e219)
  refine s_dup (pc := 138) dX2_init_138 rfl ?_
  refine s_iload_n (pc := 139) dX2_init_139 0 rfl rfl ?_
  refine s_aload_n (pc := 140) dX2_init_140 1 rfl rfl ?_
  obtain ⟨q226, h227, hf⟩ := p_bd hf
  have g228 := g_X0_init w224 t223 (fun q hq => by cases hq; exact t221) h227
  have t229 : p_tp q226.1 q194.1.1 3 := g228.2 _ _ t221
  have t230 : p_tp q226.1 a0 5 := g228.2 _ _ t222
  have t231 : p_tp q226.1 q210.1.1 3 := g228.2 _ _ t223
  have w232 : WT q226.1 q226.2.2.2 := g228.1
  have x233 : p_ext N q226.1 := p_ext.tr x225 g228.2
  refine z_callI (pc := 141) dX2_init_141 (c_X0_init (p_dd hd (by decide)) w224 t223 (fun q hq => by cases hq; exact t221) h227) mk_X0_init mi_X0_init rfl rfl ml_X2_64 rfl rfl (Nat.le_of_ble_eq_true rfl) t223 (p_d1 hd (by decide)) (Nat.le_of_ble_eq_true rfl) (by decide) (by decide) ?_
  refine s_astore_n (pc := 144) (lo' := [(1, .ref q210.1.1), (2, .int (nI 7)), (0, .ref a0)]) dX2_init_144 rfl (Nat.le_of_ble_eq_true rfl) rfl ?_
  refine s_iinc (pc := 145) (lo' := [(2, .int (nI 6)), (1, .ref q210.1.1), (0, .ref a0)]) dX2_init_145 1 rfl (v := nI 6) rfl (Nat.le_of_ble_eq_true rfl) rfl ?_
  refine s_goto (pc := 148) (tgt := 131) dX2_init_148 rfl ?_
  refine s_iload_n (pc := 131) dX2_init_131 0 rfl rfl ?_
  refine s_if_lt (pc := 132) (tgt := 151) dX2_init_132 rfl (fun hc => absurd hc (by decide)) (fun _ => ?_)
  obtain ⟨c236, hf⟩ := p_ckx hf
  refine a_new (pc := 135) (ci := 0) dX2_init_135 rfl kk_X2_62 (by decide) (by decide) c236 (fun w234 e235 => ?_)
  replace hf := p_lx hf e235
  have t237 : p_tp w234.1 q210.1.1 3 := (p_nwx e235) _ _ t231
  have t238 : p_tp w234.1 a0 5 := (p_nwx e235) _ _ t230
  have t239 : p_tp w234.1 q226.1.1 3 := p_nws e235
  have w240 : WT w234.1 w234.2.2.2 := p_nww e235 w232
  have x241 : p_ext N w234.1 := p_ext.tr x233 (p_nwx e235)
  refine s_dup (pc := 138) dX2_init_138 rfl ?_
  refine s_iload_n (pc := 139) dX2_init_139 0 rfl rfl ?_
  refine s_aload_n (pc := 140) dX2_init_140 1 rfl rfl ?_
  obtain ⟨q242, h243, hf⟩ := p_bd hf
  have g244 := g_X0_init w240 t239 (fun q hq => by cases hq; exact t237) h243
  have t245 : p_tp q242.1 q210.1.1 3 := g244.2 _ _ t237
  have t246 : p_tp q242.1 a0 5 := g244.2 _ _ t238
  have t247 : p_tp q242.1 q226.1.1 3 := g244.2 _ _ t239
  have w248 : WT q242.1 q242.2.2.2 := g244.1
  have x249 : p_ext N q242.1 := p_ext.tr x241 g244.2
  refine z_callI (pc := 141) dX2_init_141 (c_X0_init (p_dd hd (by decide)) w240 t239 (fun q hq => by cases hq; exact t237) h243) mk_X0_init mi_X0_init rfl rfl ml_X2_64 rfl rfl (Nat.le_of_ble_eq_true rfl) t239 (p_d1 hd (by decide)) (Nat.le_of_ble_eq_true rfl) (by decide) (by decide) ?_
  refine s_astore_n (pc := 144) (lo' := [(1, .ref q226.1.1), (2, .int (nI 6)), (0, .ref a0)]) dX2_init_144 rfl (Nat.le_of_ble_eq_true rfl) rfl ?_
  refine s_iinc (pc := 145) (lo' := [(2, .int (nI 5)), (1, .ref q226.1.1), (0, .ref a0)]) dX2_init_145 1 rfl (v := nI 5) rfl (Nat.le_of_ble_eq_true rfl) rfl ?_
  refine s_goto (pc := 148) (tgt := 131) dX2_init_148 rfl ?_
  refine s_iload_n (pc := 131) dX2_init_131 0 rfl rfl ?_
  refine s_if_lt (pc := 132) (tgt := 151) dX2_init_132 rfl (fun hc => absurd hc (by decide)) (fun _ => ?_)
  obtain ⟨c252, hf⟩ := p_ckx hf
  refine a_new (pc := 135) (ci := 0) dX2_init_135 rfl kk_X2_62 (by decide) (by decide) c252 (fun w250 e251 => ?_)
  replace hf := p_lx hf e251
  have t253 : p_tp w250.1 q226.1.1 3 := (p_nwx e251) _ _ t247
  have t254 : p_tp w250.1 a0 5 := (p_nwx e251) _ _ t246
  have t255 : p_tp w250.1 q242.1.1 3 := p_nws e251
  have w256 : WT w250.1 w250.2.2.2 := p_nww e251 w248
  have x257 : p_ext N w250.1 := p_ext.tr x249 (p_nwx e251)
  refine s_dup (pc := 138) dX2_init_138 rfl ?_
  refine s_iload_n (pc := 139) dX2_init_139 0 rfl rfl ?_
  refine s_aload_n (pc := 140) dX2_init_140 1 rfl rfl ?_
  obtain ⟨q258, h259, hf⟩ := p_bd hf
  have g260 := g_X0_init w256 t255 (fun q hq => by cases hq; exact t253) h259
  have t261 : p_tp q258.1 q226.1.1 3 := g260.2 _ _ t253
  have t262 : p_tp q258.1 a0 5 := g260.2 _ _ t254
  have t263 : p_tp q258.1 q242.1.1 3 := g260.2 _ _ t255
  have w264 : WT q258.1 q258.2.2.2 := g260.1
  have x265 : p_ext N q258.1 := p_ext.tr x257 g260.2
  refine z_callI (pc := 141) dX2_init_141 (c_X0_init (p_dd hd (by decide)) w256 t255 (fun q hq => by cases hq; exact t253) h259) mk_X0_init mi_X0_init rfl rfl ml_X2_64 rfl rfl (Nat.le_of_ble_eq_true rfl) t255 (p_d1 hd (by decide)) (Nat.le_of_ble_eq_true rfl) (by decide) (by decide) ?_
  refine s_astore_n (pc := 144) (lo' := [(1, .ref q242.1.1), (2, .int (nI 5)), (0, .ref a0)]) dX2_init_144 rfl (Nat.le_of_ble_eq_true rfl) rfl ?_
  refine s_iinc (pc := 145) (lo' := [(2, .int (nI 4)), (1, .ref q242.1.1), (0, .ref a0)]) dX2_init_145 1 rfl (v := nI 4) rfl (Nat.le_of_ble_eq_true rfl) rfl ?_
  refine s_goto (pc := 148) (tgt := 131) dX2_init_148 rfl ?_
  refine s_iload_n (pc := 131) dX2_init_131 0 rfl rfl ?_
  refine s_if_lt (pc := 132) (tgt := 151) dX2_init_132 rfl (fun hc => absurd hc (by decide)) (fun _ => ?_)
  obtain ⟨c268, hf⟩ := p_ckx hf
  refine a_new (pc := 135) (ci := 0) dX2_init_135 rfl kk_X2_62 (by decide) (by decide) c268 (fun w266 e267 => ?_)
  replace hf := p_lx hf e267
  have t269 : p_tp w266.1 q242.1.1 3 := (p_nwx e267) _ _ t263
  have t270 : p_tp w266.1 a0 5 := (p_nwx e267) _ _ t262
  have t271 : p_tp w266.1 q258.1.1 3 := p_nws e267
  have w272 : WT w266.1 w266.2.2.2 := p_nww e267 w264
  have x273 : p_ext N w266.1 := p_ext.tr x265 (p_nwx e267)
  refine s_dup (pc := 138) dX2_init_138 rfl ?_
  refine s_iload_n (pc := 139) dX2_init_139 0 rfl rfl ?_
  refine s_aload_n (pc := 140) dX2_init_140 1 rfl rfl ?_
  obtain ⟨q274, h275, hf⟩ := p_bd hf
  have g276 := g_X0_init w272 t271 (fun q hq => by cases hq; exact t269) h275
  have t277 : p_tp q274.1 q242.1.1 3 := g276.2 _ _ t269
  have t278 : p_tp q274.1 a0 5 := g276.2 _ _ t270
  have t279 : p_tp q274.1 q258.1.1 3 := g276.2 _ _ t271
  have w280 : WT q274.1 q274.2.2.2 := g276.1
  have x281 : p_ext N q274.1 := p_ext.tr x273 g276.2
  refine z_callI (pc := 141) dX2_init_141 (c_X0_init (p_dd hd (by decide)) w272 t271 (fun q hq => by cases hq; exact t269) h275) mk_X0_init mi_X0_init rfl rfl ml_X2_64 rfl rfl (Nat.le_of_ble_eq_true rfl) t271 (p_d1 hd (by decide)) (Nat.le_of_ble_eq_true rfl) (by decide) (by decide) ?_
  refine s_astore_n (pc := 144) (lo' := [(1, .ref q258.1.1), (2, .int (nI 4)), (0, .ref a0)]) dX2_init_144 rfl (Nat.le_of_ble_eq_true rfl) rfl ?_
  refine s_iinc (pc := 145) (lo' := [(2, .int (nI 3)), (1, .ref q258.1.1), (0, .ref a0)]) dX2_init_145 1 rfl (v := nI 3) rfl (Nat.le_of_ble_eq_true rfl) rfl ?_
  refine s_goto (pc := 148) (tgt := 131) dX2_init_148 rfl ?_
  refine s_iload_n (pc := 131) dX2_init_131 0 rfl rfl ?_
  refine s_if_lt (pc := 132) (tgt := 151) dX2_init_132 rfl (fun hc => absurd hc (by decide)) (fun _ => ?_)
  obtain ⟨c284, hf⟩ := p_ckx hf
  refine a_new (pc := 135) (ci := 0) dX2_init_135 rfl kk_X2_62 (by decide) (by decide) c284 (fun w282 e283 => ?_)
  replace hf := p_lx hf e283
  have t285 : p_tp w282.1 q258.1.1 3 := (p_nwx e283) _ _ t279
  have t286 : p_tp w282.1 a0 5 := (p_nwx e283) _ _ t278
  have t287 : p_tp w282.1 q274.1.1 3 := p_nws e283
  have w288 : WT w282.1 w282.2.2.2 := p_nww e283 w280
  have x289 : p_ext N w282.1 := p_ext.tr x281 (p_nwx e283)
  refine s_dup (pc := 138) dX2_init_138 rfl ?_
  refine s_iload_n (pc := 139) dX2_init_139 0 rfl rfl ?_
  refine s_aload_n (pc := 140) dX2_init_140 1 rfl rfl ?_
  obtain ⟨q290, h291, hf⟩ := p_bd hf
  have g292 := g_X0_init w288 t287 (fun q hq => by cases hq; exact t285) h291
  have t293 : p_tp q290.1 q258.1.1 3 := g292.2 _ _ t285
  have t294 : p_tp q290.1 a0 5 := g292.2 _ _ t286
  have t295 : p_tp q290.1 q274.1.1 3 := g292.2 _ _ t287
  have w296 : WT q290.1 q290.2.2.2 := g292.1
  have x297 : p_ext N q290.1 := p_ext.tr x289 g292.2
  refine z_callI (pc := 141) dX2_init_141 (c_X0_init (p_dd hd (by decide)) w288 t287 (fun q hq => by cases hq; exact t285) h291) mk_X0_init mi_X0_init rfl rfl ml_X2_64 rfl rfl (Nat.le_of_ble_eq_true rfl) t287 (p_d1 hd (by decide)) (Nat.le_of_ble_eq_true rfl) (by decide) (by decide) ?_
  refine s_astore_n (pc := 144) (lo' := [(1, .ref q274.1.1), (2, .int (nI 3)), (0, .ref a0)]) dX2_init_144 rfl (Nat.le_of_ble_eq_true rfl) rfl ?_
  refine s_iinc (pc := 145) (lo' := [(2, .int (nI 2)), (1, .ref q274.1.1), (0, .ref a0)]) dX2_init_145 1 rfl (v := nI 2) rfl (Nat.le_of_ble_eq_true rfl) rfl ?_
  refine s_goto (pc := 148) (tgt := 131) dX2_init_148 rfl ?_
  refine s_iload_n (pc := 131) dX2_init_131 0 rfl rfl ?_
  refine s_if_lt (pc := 132) (tgt := 151) dX2_init_132 rfl (fun hc => absurd hc (by decide)) (fun _ => ?_)
  obtain ⟨c300, hf⟩ := p_ckx hf
  refine a_new (pc := 135) (ci := 0) dX2_init_135 rfl kk_X2_62 (by decide) (by decide) c300 (fun w298 e299 => ?_)
  replace hf := p_lx hf e299
  have t301 : p_tp w298.1 q274.1.1 3 := (p_nwx e299) _ _ t295
  have t302 : p_tp w298.1 a0 5 := (p_nwx e299) _ _ t294
  have t303 : p_tp w298.1 q290.1.1 3 := p_nws e299
  have w304 : WT w298.1 w298.2.2.2 := p_nww e299 w296
  have x305 : p_ext N w298.1 := p_ext.tr x297 (p_nwx e299)
  refine s_dup (pc := 138) dX2_init_138 rfl ?_
  refine s_iload_n (pc := 139) dX2_init_139 0 rfl rfl ?_
  refine s_aload_n (pc := 140) dX2_init_140 1 rfl rfl ?_
  obtain ⟨q306, h307, hf⟩ := p_bd hf
  have g308 := g_X0_init w304 t303 (fun q hq => by cases hq; exact t301) h307
  have t309 : p_tp q306.1 q274.1.1 3 := g308.2 _ _ t301
  have t310 : p_tp q306.1 a0 5 := g308.2 _ _ t302
  have t311 : p_tp q306.1 q290.1.1 3 := g308.2 _ _ t303
  have w312 : WT q306.1 q306.2.2.2 := g308.1
  have x313 : p_ext N q306.1 := p_ext.tr x305 g308.2
  refine z_callI (pc := 141) dX2_init_141 (c_X0_init (p_dd hd (by decide)) w304 t303 (fun q hq => by cases hq; exact t301) h307) mk_X0_init mi_X0_init rfl rfl ml_X2_64 rfl rfl (Nat.le_of_ble_eq_true rfl) t303 (p_d1 hd (by decide)) (Nat.le_of_ble_eq_true rfl) (by decide) (by decide) ?_
  refine s_astore_n (pc := 144) (lo' := [(1, .ref q290.1.1), (2, .int (nI 2)), (0, .ref a0)]) dX2_init_144 rfl (Nat.le_of_ble_eq_true rfl) rfl ?_
  refine s_iinc (pc := 145) (lo' := [(2, .int (nI 1)), (1, .ref q290.1.1), (0, .ref a0)]) dX2_init_145 1 rfl (v := nI 1) rfl (Nat.le_of_ble_eq_true rfl) rfl ?_
  refine s_goto (pc := 148) (tgt := 131) dX2_init_148 rfl ?_
  refine s_iload_n (pc := 131) dX2_init_131 0 rfl rfl ?_
  refine s_if_lt (pc := 132) (tgt := 151) dX2_init_132 rfl (fun hc => absurd hc (by decide)) (fun _ => ?_)
  obtain ⟨c316, hf⟩ := p_ckx hf
  refine a_new (pc := 135) (ci := 0) dX2_init_135 rfl kk_X2_62 (by decide) (by decide) c316 (fun w314 e315 => ?_)
  replace hf := p_lx hf e315
  have t317 : p_tp w314.1 q290.1.1 3 := (p_nwx e315) _ _ t311
  have t318 : p_tp w314.1 a0 5 := (p_nwx e315) _ _ t310
  have t319 : p_tp w314.1 q306.1.1 3 := p_nws e315
  have w320 : WT w314.1 w314.2.2.2 := p_nww e315 w312
  have x321 : p_ext N w314.1 := p_ext.tr x313 (p_nwx e315)
  refine s_dup (pc := 138) dX2_init_138 rfl ?_
  refine s_iload_n (pc := 139) dX2_init_139 0 rfl rfl ?_
  refine s_aload_n (pc := 140) dX2_init_140 1 rfl rfl ?_
  obtain ⟨q322, h323, hf⟩ := p_bd hf
  have g324 := g_X0_init w320 t319 (fun q hq => by cases hq; exact t317) h323
  have t325 : p_tp q322.1 q290.1.1 3 := g324.2 _ _ t317
  have t326 : p_tp q322.1 a0 5 := g324.2 _ _ t318
  have t327 : p_tp q322.1 q306.1.1 3 := g324.2 _ _ t319
  have w328 : WT q322.1 q322.2.2.2 := g324.1
  have x329 : p_ext N q322.1 := p_ext.tr x321 g324.2
  refine z_callI (pc := 141) dX2_init_141 (c_X0_init (p_dd hd (by decide)) w320 t319 (fun q hq => by cases hq; exact t317) h323) mk_X0_init mi_X0_init rfl rfl ml_X2_64 rfl rfl (Nat.le_of_ble_eq_true rfl) t319 (p_d1 hd (by decide)) (Nat.le_of_ble_eq_true rfl) (by decide) (by decide) ?_
  refine s_astore_n (pc := 144) (lo' := [(1, .ref q306.1.1), (2, .int (nI 1)), (0, .ref a0)]) dX2_init_144 rfl (Nat.le_of_ble_eq_true rfl) rfl ?_
  refine s_iinc (pc := 145) (lo' := [(2, .int (nI 0)), (1, .ref q306.1.1), (0, .ref a0)]) dX2_init_145 1 rfl (v := nI 0) rfl (Nat.le_of_ble_eq_true rfl) rfl ?_
  refine s_goto (pc := 148) (tgt := 131) dX2_init_148 rfl ?_
  refine s_iload_n (pc := 131) dX2_init_131 0 rfl rfl ?_
  refine s_if_lt (pc := 132) (tgt := 151) dX2_init_132 rfl (fun hc => absurd hc (by decide)) (fun _ => ?_)
  obtain ⟨c332, hf⟩ := p_ckx hf
  refine a_new (pc := 135) (ci := 0) dX2_init_135 rfl kk_X2_62 (by decide) (by decide) c332 (fun w330 e331 => ?_)
  replace hf := p_lx hf e331
  have t333 : p_tp w330.1 q306.1.1 3 := (p_nwx e331) _ _ t327
  have t334 : p_tp w330.1 a0 5 := (p_nwx e331) _ _ t326
  have t335 : p_tp w330.1 q322.1.1 3 := p_nws e331
  have w336 : WT w330.1 w330.2.2.2 := p_nww e331 w328
  have x337 : p_ext N w330.1 := p_ext.tr x329 (p_nwx e331)
  refine s_dup (pc := 138) dX2_init_138 rfl ?_
  refine s_iload_n (pc := 139) dX2_init_139 0 rfl rfl ?_
  refine s_aload_n (pc := 140) dX2_init_140 1 rfl rfl ?_
  obtain ⟨q338, h339, hf⟩ := p_bd hf
  have g340 := g_X0_init w336 t335 (fun q hq => by cases hq; exact t333) h339
  have t341 : p_tp q338.1 q306.1.1 3 := g340.2 _ _ t333
  have t342 : p_tp q338.1 a0 5 := g340.2 _ _ t334
  have t343 : p_tp q338.1 q322.1.1 3 := g340.2 _ _ t335
  have w344 : WT q338.1 q338.2.2.2 := g340.1
  have x345 : p_ext N q338.1 := p_ext.tr x337 g340.2
  refine z_callI (pc := 141) dX2_init_141 (c_X0_init (p_dd hd (by decide)) w336 t335 (fun q hq => by cases hq; exact t333) h339) mk_X0_init mi_X0_init rfl rfl ml_X2_64 rfl rfl (Nat.le_of_ble_eq_true rfl) t335 (p_d1 hd (by decide)) (Nat.le_of_ble_eq_true rfl) (by decide) (by decide) ?_
  refine s_astore_n (pc := 144) (lo' := [(1, .ref q322.1.1), (2, .int (nI 0)), (0, .ref a0)]) dX2_init_144 rfl (Nat.le_of_ble_eq_true rfl) rfl ?_
  refine s_iinc (pc := 145) (lo' := [(2, .int (-1)), (1, .ref q322.1.1), (0, .ref a0)]) dX2_init_145 1 rfl (v := (-1)) rfl (Nat.le_of_ble_eq_true rfl) rfl ?_
  refine s_goto (pc := 148) (tgt := 131) dX2_init_148 rfl ?_
  refine s_iload_n (pc := 131) dX2_init_131 0 rfl rfl ?_
  refine s_if_lt (pc := 132) (tgt := 151) dX2_init_132 rfl (fun _ => ?_) (fun hc => absurd (by decide) hc)
  refine s_aload_n (pc := 151) dX2_init_151 2 rfl rfl ?_
  refine s_aload_n (pc := 152) dX2_init_152 1 rfl rfl ?_
  refine x_putR (pc := 153) dX2_init_153 fl_X2_67 (Or.inr ⟨rfl, rfl⟩) rfl t342 ?_
  refine s_nmP (fun P347 e348 => ?_)
  replace hf := p_lx hf e348
  have w346 : WT q338.1 P347 := by rw [e348]; exact WT.put w344 t342 (fun q hq => by cases hq; exact t343)
  cases hf
  refine s_widen (c2 := 22) (s2 := 1402) (by decide) (by decide) ?_
  exact s_return (pc := 156) dX2_init_156 rfl ⟨rfl, rfl, rfl, rfl, rfl⟩
theorem g_X2_init {N : pN} {I : pI} {L : pL} {P : pR} {a0 : Nat} {qq : pN × pI × pL × pR} (hW : WT N P) (ha0 : p_tp N a0 5) (hf : f_X2_init N I L P a0 = some qq) : WT qq.1 qq.2.2.2 ∧ p_ext N qq.1 := by
  unfold f_X2_init at hf
  obtain ⟨c3, hf⟩ := p_ckx hf
  obtain ⟨w1, e2, hf⟩ := p_lx2 hf
  have t4 : p_tp w1.1 a0 5 := (p_nwx e2) _ _ ha0
  have t5 : p_tp w1.1 N.1 9 := p_nws e2
  have w6 : WT w1.1 w1.2.2.2 := p_nww e2 hW
  have x7 : p_ext N w1.1 := p_ext.tr p_ext.rf (p_nwx e2)
  obtain ⟨q8, h9, hf⟩ := p_bd hf
  have g10 := g_X6_init w6 t5 h9
  have t11 : p_tp q8.1 a0 5 := g10.2 _ _ t4
  have t12 : p_tp q8.1 N.1 9 := g10.2 _ _ t5
  have w13 : WT q8.1 q8.2.2.2 := g10.1
  have x14 : p_ext N q8.1 := p_ext.tr x7 g10.2
  obtain ⟨P16, e17, hf⟩ := p_lx2 hf
  have w15 : WT q8.1 P16 := by rw [e17]; exact WT.put w13 t11 (fun q hq => by cases hq; exact t12)
  obtain ⟨c20, hf⟩ := p_ckx hf
  obtain ⟨w18, e19, hf⟩ := p_lx2 hf
  have t21 : p_tp w18.1 a0 5 := (p_nwx e19) _ _ t11
  have t22 : p_tp w18.1 q8.1.1 9 := p_nws e19
  have w23 : WT w18.1 w18.2.2.2 := p_nww e19 w15
  have x24 : p_ext N w18.1 := p_ext.tr x14 (p_nwx e19)
  obtain ⟨q25, h26, hf⟩ := p_bd hf
  have g27 := g_X6_init w23 t22 h26
  have t28 : p_tp q25.1 a0 5 := g27.2 _ _ t21
  have t29 : p_tp q25.1 q8.1.1 9 := g27.2 _ _ t22
  have w30 : WT q25.1 q25.2.2.2 := g27.1
  have x31 : p_ext N q25.1 := p_ext.tr x24 g27.2
  obtain ⟨P33, e34, hf⟩ := p_lx2 hf
  have w32 : WT q25.1 P33 := by rw [e34]; exact WT.put w30 t28 (fun q hq => by cases hq; exact t29)
  obtain ⟨c37, hf⟩ := p_ckx hf
  obtain ⟨w35, e36, hf⟩ := p_lx2 hf
  have t38 : p_tp w35.1 a0 5 := (p_nwx e36) _ _ t28
  have t39 : p_tp w35.1 q25.1.1 9 := p_nws e36
  have w40 : WT w35.1 w35.2.2.2 := p_nww e36 w32
  have x41 : p_ext N w35.1 := p_ext.tr x31 (p_nwx e36)
  obtain ⟨q42, h43, hf⟩ := p_bd hf
  have g44 := g_X6_init w40 t39 h43
  have t45 : p_tp q42.1 a0 5 := g44.2 _ _ t38
  have t46 : p_tp q42.1 q25.1.1 9 := g44.2 _ _ t39
  have w47 : WT q42.1 q42.2.2.2 := g44.1
  have x48 : p_ext N q42.1 := p_ext.tr x41 g44.2
  obtain ⟨P50, e51, hf⟩ := p_lx2 hf
  have w49 : WT q42.1 P50 := by rw [e51]; exact WT.put w47 t45 (fun q hq => by cases hq; exact t46)
  obtain ⟨c54, hf⟩ := p_ckx hf
  obtain ⟨w52, e53, hf⟩ := p_lx2 hf
  have t55 : p_tp w52.1 a0 5 := (p_nwx e53) _ _ t45
  have t56 : p_tp w52.1 q42.1.1 9 := p_nws e53
  have w57 : WT w52.1 w52.2.2.2 := p_nww e53 w49
  have x58 : p_ext N w52.1 := p_ext.tr x48 (p_nwx e53)
  obtain ⟨q59, h60, hf⟩ := p_bd hf
  have g61 := g_X6_init w57 t56 h60
  have t62 : p_tp q59.1 a0 5 := g61.2 _ _ t55
  have t63 : p_tp q59.1 q42.1.1 9 := g61.2 _ _ t56
  have w64 : WT q59.1 q59.2.2.2 := g61.1
  have x65 : p_ext N q59.1 := p_ext.tr x58 g61.2
  obtain ⟨P67, e68, hf⟩ := p_lx2 hf
  have w66 : WT q59.1 P67 := by rw [e68]; exact WT.put w64 t62 (fun q hq => by cases hq; exact t63)
  obtain ⟨c71, hf⟩ := p_ckx hf
  obtain ⟨w69, e70, hf⟩ := p_lx2 hf
  have t72 : p_tp w69.1 a0 5 := (p_nwx e70) _ _ t62
  have t73 : p_tp w69.1 q59.1.1 9 := p_nws e70
  have w74 : WT w69.1 w69.2.2.2 := p_nww e70 w66
  have x75 : p_ext N w69.1 := p_ext.tr x65 (p_nwx e70)
  obtain ⟨q76, h77, hf⟩ := p_bd hf
  have g78 := g_X6_init w74 t73 h77
  have t79 : p_tp q76.1 a0 5 := g78.2 _ _ t72
  have t80 : p_tp q76.1 q59.1.1 9 := g78.2 _ _ t73
  have w81 : WT q76.1 q76.2.2.2 := g78.1
  have x82 : p_ext N q76.1 := p_ext.tr x75 g78.2
  obtain ⟨P84, e85, hf⟩ := p_lx2 hf
  have w83 : WT q76.1 P84 := by rw [e85]; exact WT.put w81 t79 (fun q hq => by cases hq; exact t80)
  obtain ⟨c88, hf⟩ := p_ckx hf
  obtain ⟨w86, e87, hf⟩ := p_lx2 hf
  have t89 : p_tp w86.1 a0 5 := (p_nwx e87) _ _ t79
  have t90 : p_tp w86.1 q76.1.1 9 := p_nws e87
  have w91 : WT w86.1 w86.2.2.2 := p_nww e87 w83
  have x92 : p_ext N w86.1 := p_ext.tr x82 (p_nwx e87)
  obtain ⟨q93, h94, hf⟩ := p_bd hf
  have g95 := g_X6_init w91 t90 h94
  have t96 : p_tp q93.1 a0 5 := g95.2 _ _ t89
  have t97 : p_tp q93.1 q76.1.1 9 := g95.2 _ _ t90
  have w98 : WT q93.1 q93.2.2.2 := g95.1
  have x99 : p_ext N q93.1 := p_ext.tr x92 g95.2
  obtain ⟨P101, e102, hf⟩ := p_lx2 hf
  have w100 : WT q93.1 P101 := by rw [e102]; exact WT.put w98 t96 (fun q hq => by cases hq; exact t97)
  obtain ⟨c105, hf⟩ := p_ckx hf
  obtain ⟨w103, e104, hf⟩ := p_lx2 hf
  have t106 : p_tp w103.1 a0 5 := (p_nwx e104) _ _ t96
  have t107 : p_tp w103.1 q93.1.1 9 := p_nws e104
  have w108 : WT w103.1 w103.2.2.2 := p_nww e104 w100
  have x109 : p_ext N w103.1 := p_ext.tr x99 (p_nwx e104)
  obtain ⟨q110, h111, hf⟩ := p_bd hf
  have g112 := g_X6_init w108 t107 h111
  have t113 : p_tp q110.1 a0 5 := g112.2 _ _ t106
  have t114 : p_tp q110.1 q93.1.1 9 := g112.2 _ _ t107
  have w115 : WT q110.1 q110.2.2.2 := g112.1
  have x116 : p_ext N q110.1 := p_ext.tr x109 g112.2
  obtain ⟨P118, e119, hf⟩ := p_lx2 hf
  have w117 : WT q110.1 P118 := by rw [e119]; exact WT.put w115 t113 (fun q hq => by cases hq; exact t114)
  obtain ⟨c122, hf⟩ := p_ckx hf
  obtain ⟨w120, e121, hf⟩ := p_lx2 hf
  have t123 : p_tp w120.1 a0 5 := (p_nwx e121) _ _ t113
  have t124 : p_tp w120.1 q110.1.1 11 := p_nws e121
  have w125 : WT w120.1 w120.2.2.2 := p_nww e121 w117
  have x126 : p_ext N w120.1 := p_ext.tr x116 (p_nwx e121)
  obtain ⟨q127, h128, hf⟩ := p_bd hf
  have g129 := g_X8_init w125 t124 h128
  have t130 : p_tp q127.1 a0 5 := g129.2 _ _ t123
  have t131 : p_tp q127.1 q110.1.1 11 := g129.2 _ _ t124
  have w132 : WT q127.1 q127.2.2.2 := g129.1
  have x133 : p_ext N q127.1 := p_ext.tr x126 g129.2
  obtain ⟨P135, e136, hf⟩ := p_lx2 hf
  have w134 : WT q127.1 P135 := by rw [e136]; exact WT.put w132 t130 (fun q hq => by cases hq; exact t131)
  obtain ⟨c140, hf⟩ := p_ckx hf
  obtain ⟨c139, hf⟩ := p_ckx hf
  obtain ⟨w137, e138, hf⟩ := p_lx2 hf
  have t141 : p_tp w137.1 a0 5 := (p_nwx e138) _ _ t130
  have t142 : p_tp w137.1 q127.1.1 0 := p_nws e138
  have w143 : WT w137.1 w137.2.2.2 := p_nww e138 w134
  have x144 : p_ext N w137.1 := p_ext.tr x133 (p_nwx e138)
  obtain ⟨P146, e147, hf⟩ := p_lx2 hf
  have w145 : WT w137.1 P146 := by rw [e147]; exact WT.put w143 t141 (fun q hq => by cases hq; exact t142)
  obtain ⟨I148, e149, hf⟩ := p_lx2 hf
  obtain ⟨I150, e151, hf⟩ := p_lx2 hf
  obtain ⟨I152, e153, hf⟩ := p_lx2 hf
  obtain ⟨I154, e155, hf⟩ := p_lx2 hf
  obtain ⟨c158, hf⟩ := p_ckx hf
  obtain ⟨w156, e157, hf⟩ := p_lx2 hf
  have t159 : p_tp w156.1 a0 5 := (p_nwx e157) _ _ t141
  have t160 : p_tp w156.1 w137.1.1 3 := p_nws e157
  have w161 : WT w156.1 w156.2.2.2 := p_nww e157 w145
  have x162 : p_ext N w156.1 := p_ext.tr x144 (p_nwx e157)
  obtain ⟨q163, h164, hf⟩ := p_bd hf
  have g165 := g_X0_init w161 t160 (fun q hq => by cases hq) h164
  have t166 : p_tp q163.1 a0 5 := g165.2 _ _ t159
  have t167 : p_tp q163.1 w137.1.1 3 := g165.2 _ _ t160
  have w168 : WT q163.1 q163.2.2.2 := g165.1
  have x169 : p_ext N q163.1 := p_ext.tr x162 g165.2
  obtain ⟨c172, hf⟩ := p_ckx hf
  obtain ⟨w170, e171, hf⟩ := p_lx2 hf
  have t173 : p_tp w170.1 w137.1.1 3 := (p_nwx e171) _ _ t167
  have t174 : p_tp w170.1 a0 5 := (p_nwx e171) _ _ t166
  have t175 : p_tp w170.1 q163.1.1 3 := p_nws e171
  have w176 : WT w170.1 w170.2.2.2 := p_nww e171 w168
  have x177 : p_ext N w170.1 := p_ext.tr x169 (p_nwx e171)
  obtain ⟨q178, h179, hf⟩ := p_bd hf
  have g180 := g_X0_init w176 t175 (fun q hq => by cases hq; exact t173) h179
  have t181 : p_tp q178.1 w137.1.1 3 := g180.2 _ _ t173
  have t182 : p_tp q178.1 a0 5 := g180.2 _ _ t174
  have t183 : p_tp q178.1 q163.1.1 3 := g180.2 _ _ t175
  have w184 : WT q178.1 q178.2.2.2 := g180.1
  have x185 : p_ext N q178.1 := p_ext.tr x177 g180.2
  obtain ⟨c188, hf⟩ := p_ckx hf
  obtain ⟨w186, e187, hf⟩ := p_lx2 hf
  have t189 : p_tp w186.1 q163.1.1 3 := (p_nwx e187) _ _ t183
  have t190 : p_tp w186.1 a0 5 := (p_nwx e187) _ _ t182
  have t191 : p_tp w186.1 q178.1.1 3 := p_nws e187
  have w192 : WT w186.1 w186.2.2.2 := p_nww e187 w184
  have x193 : p_ext N w186.1 := p_ext.tr x185 (p_nwx e187)
  obtain ⟨q194, h195, hf⟩ := p_bd hf
  have g196 := g_X0_init w192 t191 (fun q hq => by cases hq; exact t189) h195
  have t197 : p_tp q194.1 q163.1.1 3 := g196.2 _ _ t189
  have t198 : p_tp q194.1 a0 5 := g196.2 _ _ t190
  have t199 : p_tp q194.1 q178.1.1 3 := g196.2 _ _ t191
  have w200 : WT q194.1 q194.2.2.2 := g196.1
  have x201 : p_ext N q194.1 := p_ext.tr x193 g196.2
  obtain ⟨c204, hf⟩ := p_ckx hf
  obtain ⟨w202, e203, hf⟩ := p_lx2 hf
  have t205 : p_tp w202.1 q178.1.1 3 := (p_nwx e203) _ _ t199
  have t206 : p_tp w202.1 a0 5 := (p_nwx e203) _ _ t198
  have t207 : p_tp w202.1 q194.1.1 3 := p_nws e203
  have w208 : WT w202.1 w202.2.2.2 := p_nww e203 w200
  have x209 : p_ext N w202.1 := p_ext.tr x201 (p_nwx e203)
  obtain ⟨q210, h211, hf⟩ := p_bd hf
  have g212 := g_X0_init w208 t207 (fun q hq => by cases hq; exact t205) h211
  have t213 : p_tp q210.1 q178.1.1 3 := g212.2 _ _ t205
  have t214 : p_tp q210.1 a0 5 := g212.2 _ _ t206
  have t215 : p_tp q210.1 q194.1.1 3 := g212.2 _ _ t207
  have w216 : WT q210.1 q210.2.2.2 := g212.1
  have x217 : p_ext N q210.1 := p_ext.tr x209 g212.2
  obtain ⟨c220, hf⟩ := p_ckx hf
  obtain ⟨w218, e219, hf⟩ := p_lx2 hf
  have t221 : p_tp w218.1 q194.1.1 3 := (p_nwx e219) _ _ t215
  have t222 : p_tp w218.1 a0 5 := (p_nwx e219) _ _ t214
  have t223 : p_tp w218.1 q210.1.1 3 := p_nws e219
  have w224 : WT w218.1 w218.2.2.2 := p_nww e219 w216
  have x225 : p_ext N w218.1 := p_ext.tr x217 (p_nwx e219)
  obtain ⟨q226, h227, hf⟩ := p_bd hf
  have g228 := g_X0_init w224 t223 (fun q hq => by cases hq; exact t221) h227
  have t229 : p_tp q226.1 q194.1.1 3 := g228.2 _ _ t221
  have t230 : p_tp q226.1 a0 5 := g228.2 _ _ t222
  have t231 : p_tp q226.1 q210.1.1 3 := g228.2 _ _ t223
  have w232 : WT q226.1 q226.2.2.2 := g228.1
  have x233 : p_ext N q226.1 := p_ext.tr x225 g228.2
  obtain ⟨c236, hf⟩ := p_ckx hf
  obtain ⟨w234, e235, hf⟩ := p_lx2 hf
  have t237 : p_tp w234.1 q210.1.1 3 := (p_nwx e235) _ _ t231
  have t238 : p_tp w234.1 a0 5 := (p_nwx e235) _ _ t230
  have t239 : p_tp w234.1 q226.1.1 3 := p_nws e235
  have w240 : WT w234.1 w234.2.2.2 := p_nww e235 w232
  have x241 : p_ext N w234.1 := p_ext.tr x233 (p_nwx e235)
  obtain ⟨q242, h243, hf⟩ := p_bd hf
  have g244 := g_X0_init w240 t239 (fun q hq => by cases hq; exact t237) h243
  have t245 : p_tp q242.1 q210.1.1 3 := g244.2 _ _ t237
  have t246 : p_tp q242.1 a0 5 := g244.2 _ _ t238
  have t247 : p_tp q242.1 q226.1.1 3 := g244.2 _ _ t239
  have w248 : WT q242.1 q242.2.2.2 := g244.1
  have x249 : p_ext N q242.1 := p_ext.tr x241 g244.2
  obtain ⟨c252, hf⟩ := p_ckx hf
  obtain ⟨w250, e251, hf⟩ := p_lx2 hf
  have t253 : p_tp w250.1 q226.1.1 3 := (p_nwx e251) _ _ t247
  have t254 : p_tp w250.1 a0 5 := (p_nwx e251) _ _ t246
  have t255 : p_tp w250.1 q242.1.1 3 := p_nws e251
  have w256 : WT w250.1 w250.2.2.2 := p_nww e251 w248
  have x257 : p_ext N w250.1 := p_ext.tr x249 (p_nwx e251)
  obtain ⟨q258, h259, hf⟩ := p_bd hf
  have g260 := g_X0_init w256 t255 (fun q hq => by cases hq; exact t253) h259
  have t261 : p_tp q258.1 q226.1.1 3 := g260.2 _ _ t253
  have t262 : p_tp q258.1 a0 5 := g260.2 _ _ t254
  have t263 : p_tp q258.1 q242.1.1 3 := g260.2 _ _ t255
  have w264 : WT q258.1 q258.2.2.2 := g260.1
  have x265 : p_ext N q258.1 := p_ext.tr x257 g260.2
  obtain ⟨c268, hf⟩ := p_ckx hf
  obtain ⟨w266, e267, hf⟩ := p_lx2 hf
  have t269 : p_tp w266.1 q242.1.1 3 := (p_nwx e267) _ _ t263
  have t270 : p_tp w266.1 a0 5 := (p_nwx e267) _ _ t262
  have t271 : p_tp w266.1 q258.1.1 3 := p_nws e267
  have w272 : WT w266.1 w266.2.2.2 := p_nww e267 w264
  have x273 : p_ext N w266.1 := p_ext.tr x265 (p_nwx e267)
  obtain ⟨q274, h275, hf⟩ := p_bd hf
  have g276 := g_X0_init w272 t271 (fun q hq => by cases hq; exact t269) h275
  have t277 : p_tp q274.1 q242.1.1 3 := g276.2 _ _ t269
  have t278 : p_tp q274.1 a0 5 := g276.2 _ _ t270
  have t279 : p_tp q274.1 q258.1.1 3 := g276.2 _ _ t271
  have w280 : WT q274.1 q274.2.2.2 := g276.1
  have x281 : p_ext N q274.1 := p_ext.tr x273 g276.2
  obtain ⟨c284, hf⟩ := p_ckx hf
  obtain ⟨w282, e283, hf⟩ := p_lx2 hf
  have t285 : p_tp w282.1 q258.1.1 3 := (p_nwx e283) _ _ t279
  have t286 : p_tp w282.1 a0 5 := (p_nwx e283) _ _ t278
  have t287 : p_tp w282.1 q274.1.1 3 := p_nws e283
  have w288 : WT w282.1 w282.2.2.2 := p_nww e283 w280
  have x289 : p_ext N w282.1 := p_ext.tr x281 (p_nwx e283)
  obtain ⟨q290, h291, hf⟩ := p_bd hf
  have g292 := g_X0_init w288 t287 (fun q hq => by cases hq; exact t285) h291
  have t293 : p_tp q290.1 q258.1.1 3 := g292.2 _ _ t285
  have t294 : p_tp q290.1 a0 5 := g292.2 _ _ t286
  have t295 : p_tp q290.1 q274.1.1 3 := g292.2 _ _ t287
  have w296 : WT q290.1 q290.2.2.2 := g292.1
  have x297 : p_ext N q290.1 := p_ext.tr x289 g292.2
  obtain ⟨c300, hf⟩ := p_ckx hf
  obtain ⟨w298, e299, hf⟩ := p_lx2 hf
  have t301 : p_tp w298.1 q274.1.1 3 := (p_nwx e299) _ _ t295
  have t302 : p_tp w298.1 a0 5 := (p_nwx e299) _ _ t294
  have t303 : p_tp w298.1 q290.1.1 3 := p_nws e299
  have w304 : WT w298.1 w298.2.2.2 := p_nww e299 w296
  have x305 : p_ext N w298.1 := p_ext.tr x297 (p_nwx e299)
  obtain ⟨q306, h307, hf⟩ := p_bd hf
  have g308 := g_X0_init w304 t303 (fun q hq => by cases hq; exact t301) h307
  have t309 : p_tp q306.1 q274.1.1 3 := g308.2 _ _ t301
  have t310 : p_tp q306.1 a0 5 := g308.2 _ _ t302
  have t311 : p_tp q306.1 q290.1.1 3 := g308.2 _ _ t303
  have w312 : WT q306.1 q306.2.2.2 := g308.1
  have x313 : p_ext N q306.1 := p_ext.tr x305 g308.2
  obtain ⟨c316, hf⟩ := p_ckx hf
  obtain ⟨w314, e315, hf⟩ := p_lx2 hf
  have t317 : p_tp w314.1 q290.1.1 3 := (p_nwx e315) _ _ t311
  have t318 : p_tp w314.1 a0 5 := (p_nwx e315) _ _ t310
  have t319 : p_tp w314.1 q306.1.1 3 := p_nws e315
  have w320 : WT w314.1 w314.2.2.2 := p_nww e315 w312
  have x321 : p_ext N w314.1 := p_ext.tr x313 (p_nwx e315)
  obtain ⟨q322, h323, hf⟩ := p_bd hf
  have g324 := g_X0_init w320 t319 (fun q hq => by cases hq; exact t317) h323
  have t325 : p_tp q322.1 q290.1.1 3 := g324.2 _ _ t317
  have t326 : p_tp q322.1 a0 5 := g324.2 _ _ t318
  have t327 : p_tp q322.1 q306.1.1 3 := g324.2 _ _ t319
  have w328 : WT q322.1 q322.2.2.2 := g324.1
  have x329 : p_ext N q322.1 := p_ext.tr x321 g324.2
  obtain ⟨c332, hf⟩ := p_ckx hf
  obtain ⟨w330, e331, hf⟩ := p_lx2 hf
  have t333 : p_tp w330.1 q306.1.1 3 := (p_nwx e331) _ _ t327
  have t334 : p_tp w330.1 a0 5 := (p_nwx e331) _ _ t326
  have t335 : p_tp w330.1 q322.1.1 3 := p_nws e331
  have w336 : WT w330.1 w330.2.2.2 := p_nww e331 w328
  have x337 : p_ext N w330.1 := p_ext.tr x329 (p_nwx e331)
  obtain ⟨q338, h339, hf⟩ := p_bd hf
  have g340 := g_X0_init w336 t335 (fun q hq => by cases hq; exact t333) h339
  have t341 : p_tp q338.1 q306.1.1 3 := g340.2 _ _ t333
  have t342 : p_tp q338.1 a0 5 := g340.2 _ _ t334
  have t343 : p_tp q338.1 q322.1.1 3 := g340.2 _ _ t335
  have w344 : WT q338.1 q338.2.2.2 := g340.1
  have x345 : p_ext N q338.1 := p_ext.tr x337 g340.2
  obtain ⟨P347, e348, hf⟩ := p_lx2 hf
  have w346 : WT q338.1 P347 := by rw [e348]; exact WT.put w344 t342 (fun q hq => by cases hq; exact t343)
  cases hf
  exact ⟨w346, x345⟩
def f_X3_init (N : pN) (I : pI) (L : pL) (P : pR) (a0 : Nat) (a1 : Nat) (a2 : Nat) : Option (pN × pI × pL × pR) :=
  p_ck (p_sz (nI 2710) 2710) <|
  p_ck (decide (N.1 < 1000000)) <|
  p_let (p_nw N I L P (0, Int32.toNatClampNeg (nI 2710))) fun w1 =>
  p_let (p_u w1.2.2.2 a0 2 (some N.1)) fun P12 =>
  p_ck (p_sz (nI 2710) 2710) <|
  p_ck (decide (w1.1.1 < 1000000)) <|
  p_let (p_nw w1.1 w1.2.1 w1.2.2.1 P12 (0, Int32.toNatClampNeg (nI 2710))) fun w14 =>
  p_let (p_u w14.2.2.2 a0 3 (some w1.1.1)) fun P25 =>
  p_ck (p_sz (nI 6) 6) <|
  p_ck (decide (w14.1.1 < 1000000)) <|
  p_let (p_nw w14.1 w14.2.1 w14.2.2.1 P25 (0, Int32.toNatClampNeg (nI 6))) fun w27 =>
  p_let (p_u w27.2.2.2 a0 4 (some w14.1.1)) fun P38 =>
  p_ck (p_sz (nI 60) 60) <|
  p_ck (decide (w27.1.1 < 1000000)) <|
  p_let (p_nw w27.1 w27.2.1 w27.2.2.1 P38 (0, Int32.toNatClampNeg (nI 60))) fun w40 =>
  p_let (p_u w40.2.2.2 a0 5 (some w27.1.1)) fun P51 =>
  p_let (p_u w40.2.1 a0 6 (nI 1)) fun I53 =>
  p_let (p_u I53 a0 7 (-1)) fun I55 =>
  p_let (p_u P51 a0 0 (some a1)) fun P58 =>
  p_let (p_u P58 a0 1 (some a2)) fun P61 =>
  some (w40.1, I55, w40.2.2.1, P61)
theorem c_X3_init {G : pG} {d : Nat} {N : pN} {I : pI} {L : pL} {P : pR} {a0 : Nat} {a1 : Nat} {a2 : Nat} {qq : pN × pI × pL × pR} (hd : 1 ≤ d) (hW : WT N P) (ha0 : p_tp N a0 6) (ha1 : p_tp N a1 10) (ha2 : p_tp N a2 5) (hf : f_X3_init N I L P a0 a1 a2 = some qq) : MT G mX3_init d 4 5486 [.ref a0, .ref a1, .ref a2] N I L P (p_R none qq.1 qq.2.1 qq.2.2.1 qq.2.2.2) := by
  refine MT.of rfl (Nat.le_of_ble_eq_true rfl) ?_
  show SW G mX3_init (p_rm d 4 5486) 4 5486 0 0 (p_R none qq.1 qq.2.1 qq.2.2.1 qq.2.2.2) 0 [(0, .ref a0), (1, .ref a1), (2, .ref a2)] [] N I L P
  unfold f_X3_init at hf
  refine s_aload_n (pc := 0) dX3_init_0 0 rfl rfl ?_
  refine z_obj (pc := 1) dX3_init_1 ml_X3_3 (p_d1 hd (by decide)) (Nat.le_of_ble_eq_true rfl) ?_
  refine s_aload_n (pc := 4) dX3_init_4 0 rfl rfl ?_
  refine s_sipush (pc := 5) dX3_init_5 (v := nI 2710) rfl ?_
  obtain ⟨c4, hf⟩ := p_ckx hf
  obtain ⟨c3, hf⟩ := p_ckx hf
  refine a_newI (pc := 8) (z := nI 2710) (cap := 2710) dX3_init_8 c4 (by decide) (by decide) (by decide) c3 (fun w1 e2 => ?_)
  replace hf := p_lx hf e2
  have t5 : p_tp w1.1 a0 6 := (p_nwx e2) _ _ ha0
  have t6 : p_tp w1.1 a1 10 := (p_nwx e2) _ _ ha1
  have t7 : p_tp w1.1 a2 5 := (p_nwx e2) _ _ ha2
  have t8 : p_tp w1.1 N.1 0 := p_nws e2
  have w9 : WT w1.1 w1.2.2.2 := p_nww e2 hW
  have x10 : p_ext N w1.1 := p_ext.tr p_ext.rf (p_nwx e2)
  refine x_putR (pc := 10) dX3_init_10 fl_X3_11 (Or.inr ⟨rfl, rfl⟩) rfl t5 ?_
  refine s_nmP (fun P12 e13 => ?_)
  replace hf := p_lx hf e13
  have w11 : WT w1.1 P12 := by rw [e13]; exact WT.put w9 t5 (fun q hq => by cases hq; exact t8)
  refine s_aload_n (pc := 13) dX3_init_13 0 rfl rfl ?_
  refine s_sipush (pc := 14) dX3_init_14 (v := nI 2710) rfl ?_
  obtain ⟨c17, hf⟩ := p_ckx hf
  obtain ⟨c16, hf⟩ := p_ckx hf
  refine a_newI (pc := 17) (z := nI 2710) (cap := 2710) dX3_init_17 c17 (by decide) (by decide) (by decide) c16 (fun w14 e15 => ?_)
  replace hf := p_lx hf e15
  have t18 : p_tp w14.1 a0 6 := (p_nwx e15) _ _ t5
  have t19 : p_tp w14.1 a1 10 := (p_nwx e15) _ _ t6
  have t20 : p_tp w14.1 a2 5 := (p_nwx e15) _ _ t7
  have t21 : p_tp w14.1 w1.1.1 0 := p_nws e15
  have w22 : WT w14.1 w14.2.2.2 := p_nww e15 w11
  have x23 : p_ext N w14.1 := p_ext.tr x10 (p_nwx e15)
  refine x_putR (pc := 19) dX3_init_19 fl_X3_15 (Or.inr ⟨rfl, rfl⟩) rfl t18 ?_
  refine s_nmP (fun P25 e26 => ?_)
  replace hf := p_lx hf e26
  have w24 : WT w14.1 P25 := by rw [e26]; exact WT.put w22 t18 (fun q hq => by cases hq; exact t21)
  refine s_aload_n (pc := 22) dX3_init_22 0 rfl rfl ?_
  refine s_bipush (pc := 23) dX3_init_23 (v := nI 6) rfl ?_
  obtain ⟨c30, hf⟩ := p_ckx hf
  obtain ⟨c29, hf⟩ := p_ckx hf
  refine a_newI (pc := 25) (z := nI 6) (cap := 6) dX3_init_25 c30 (by decide) (by decide) (by decide) c29 (fun w27 e28 => ?_)
  replace hf := p_lx hf e28
  have t31 : p_tp w27.1 a0 6 := (p_nwx e28) _ _ t18
  have t32 : p_tp w27.1 a1 10 := (p_nwx e28) _ _ t19
  have t33 : p_tp w27.1 a2 5 := (p_nwx e28) _ _ t20
  have t34 : p_tp w27.1 w14.1.1 0 := p_nws e28
  have w35 : WT w27.1 w27.2.2.2 := p_nww e28 w24
  have x36 : p_ext N w27.1 := p_ext.tr x23 (p_nwx e28)
  refine x_putR (pc := 27) dX3_init_27 fl_X3_18 (Or.inr ⟨rfl, rfl⟩) rfl t31 ?_
  refine s_nmP (fun P38 e39 => ?_)
  replace hf := p_lx hf e39
  have w37 : WT w27.1 P38 := by rw [e39]; exact WT.put w35 t31 (fun q hq => by cases hq; exact t34)
  refine s_aload_n (pc := 30) dX3_init_30 0 rfl rfl ?_
  refine s_bipush (pc := 31) dX3_init_31 (v := nI 60) rfl ?_
  obtain ⟨c43, hf⟩ := p_ckx hf
  obtain ⟨c42, hf⟩ := p_ckx hf
  refine a_newI (pc := 33) (z := nI 60) (cap := 60) dX3_init_33 c43 (by decide) (by decide) (by decide) c42 (fun w40 e41 => ?_)
  replace hf := p_lx hf e41
  have t44 : p_tp w40.1 a0 6 := (p_nwx e41) _ _ t31
  have t45 : p_tp w40.1 a1 10 := (p_nwx e41) _ _ t32
  have t46 : p_tp w40.1 a2 5 := (p_nwx e41) _ _ t33
  have t47 : p_tp w40.1 w27.1.1 0 := p_nws e41
  have w48 : WT w40.1 w40.2.2.2 := p_nww e41 w37
  have x49 : p_ext N w40.1 := p_ext.tr x36 (p_nwx e41)
  refine x_putR (pc := 35) dX3_init_35 fl_X3_21 (Or.inr ⟨rfl, rfl⟩) rfl t44 ?_
  refine s_nmP (fun P51 e52 => ?_)
  replace hf := p_lx hf e52
  have w50 : WT w40.1 P51 := by rw [e52]; exact WT.put w48 t44 (fun q hq => by cases hq; exact t47)
  refine s_aload_n (pc := 38) dX3_init_38 0 rfl rfl ?_
  refine s_iconst (pc := 39) dX3_init_39 (v := nI 1) rfl ?_
  refine x_putI (pc := 40) dX3_init_40 fl_X3_24 (Or.inl rfl) rfl t44 ?_
  refine s_nmI (fun I53 e54 => ?_)
  replace hf := p_lx hf e54
  refine s_aload_n (pc := 43) dX3_init_43 0 rfl rfl ?_
  refine s_iconst (pc := 44) dX3_init_44 (v := (-1)) rfl ?_
  refine x_putI (pc := 45) dX3_init_45 fl_X3_28 (Or.inl rfl) rfl t44 ?_
  refine s_nmI (fun I55 e56 => ?_)
  replace hf := p_lx hf e56
  refine s_aload_n (pc := 48) dX3_init_48 0 rfl rfl ?_
  refine s_aload_n (pc := 49) dX3_init_49 1 rfl rfl ?_
  refine x_putR (pc := 50) dX3_init_50 fl_X3_31 (Or.inr ⟨rfl, rfl⟩) rfl t44 ?_
  refine s_nmP (fun P58 e59 => ?_)
  replace hf := p_lx hf e59
  have w57 : WT w40.1 P58 := by rw [e59]; exact WT.put w50 t44 (fun q hq => by cases hq; exact t45)
  refine s_aload_n (pc := 53) dX3_init_53 0 rfl rfl ?_
  refine s_aload_n (pc := 54) dX3_init_54 2 rfl rfl ?_
  refine x_putR (pc := 55) dX3_init_55 fl_X3_35 (Or.inr ⟨rfl, rfl⟩) rfl t44 ?_
  refine s_nmP (fun P61 e62 => ?_)
  replace hf := p_lx hf e62
  have w60 : WT w40.1 P61 := by rw [e62]; exact WT.put w57 t44 (fun q hq => by cases hq; exact t46)
  cases hf
  refine s_widen (c2 := 4) (s2 := 5486) (by decide) (by decide) ?_
  exact s_return (pc := 58) dX3_init_58 rfl ⟨rfl, rfl, rfl, rfl, rfl⟩
theorem g_X3_init {N : pN} {I : pI} {L : pL} {P : pR} {a0 : Nat} {a1 : Nat} {a2 : Nat} {qq : pN × pI × pL × pR} (hW : WT N P) (ha0 : p_tp N a0 6) (ha1 : p_tp N a1 10) (ha2 : p_tp N a2 5) (hf : f_X3_init N I L P a0 a1 a2 = some qq) : WT qq.1 qq.2.2.2 ∧ p_ext N qq.1 := by
  unfold f_X3_init at hf
  obtain ⟨c4, hf⟩ := p_ckx hf
  obtain ⟨c3, hf⟩ := p_ckx hf
  obtain ⟨w1, e2, hf⟩ := p_lx2 hf
  have t5 : p_tp w1.1 a0 6 := (p_nwx e2) _ _ ha0
  have t6 : p_tp w1.1 a1 10 := (p_nwx e2) _ _ ha1
  have t7 : p_tp w1.1 a2 5 := (p_nwx e2) _ _ ha2
  have t8 : p_tp w1.1 N.1 0 := p_nws e2
  have w9 : WT w1.1 w1.2.2.2 := p_nww e2 hW
  have x10 : p_ext N w1.1 := p_ext.tr p_ext.rf (p_nwx e2)
  obtain ⟨P12, e13, hf⟩ := p_lx2 hf
  have w11 : WT w1.1 P12 := by rw [e13]; exact WT.put w9 t5 (fun q hq => by cases hq; exact t8)
  obtain ⟨c17, hf⟩ := p_ckx hf
  obtain ⟨c16, hf⟩ := p_ckx hf
  obtain ⟨w14, e15, hf⟩ := p_lx2 hf
  have t18 : p_tp w14.1 a0 6 := (p_nwx e15) _ _ t5
  have t19 : p_tp w14.1 a1 10 := (p_nwx e15) _ _ t6
  have t20 : p_tp w14.1 a2 5 := (p_nwx e15) _ _ t7
  have t21 : p_tp w14.1 w1.1.1 0 := p_nws e15
  have w22 : WT w14.1 w14.2.2.2 := p_nww e15 w11
  have x23 : p_ext N w14.1 := p_ext.tr x10 (p_nwx e15)
  obtain ⟨P25, e26, hf⟩ := p_lx2 hf
  have w24 : WT w14.1 P25 := by rw [e26]; exact WT.put w22 t18 (fun q hq => by cases hq; exact t21)
  obtain ⟨c30, hf⟩ := p_ckx hf
  obtain ⟨c29, hf⟩ := p_ckx hf
  obtain ⟨w27, e28, hf⟩ := p_lx2 hf
  have t31 : p_tp w27.1 a0 6 := (p_nwx e28) _ _ t18
  have t32 : p_tp w27.1 a1 10 := (p_nwx e28) _ _ t19
  have t33 : p_tp w27.1 a2 5 := (p_nwx e28) _ _ t20
  have t34 : p_tp w27.1 w14.1.1 0 := p_nws e28
  have w35 : WT w27.1 w27.2.2.2 := p_nww e28 w24
  have x36 : p_ext N w27.1 := p_ext.tr x23 (p_nwx e28)
  obtain ⟨P38, e39, hf⟩ := p_lx2 hf
  have w37 : WT w27.1 P38 := by rw [e39]; exact WT.put w35 t31 (fun q hq => by cases hq; exact t34)
  obtain ⟨c43, hf⟩ := p_ckx hf
  obtain ⟨c42, hf⟩ := p_ckx hf
  obtain ⟨w40, e41, hf⟩ := p_lx2 hf
  have t44 : p_tp w40.1 a0 6 := (p_nwx e41) _ _ t31
  have t45 : p_tp w40.1 a1 10 := (p_nwx e41) _ _ t32
  have t46 : p_tp w40.1 a2 5 := (p_nwx e41) _ _ t33
  have t47 : p_tp w40.1 w27.1.1 0 := p_nws e41
  have w48 : WT w40.1 w40.2.2.2 := p_nww e41 w37
  have x49 : p_ext N w40.1 := p_ext.tr x36 (p_nwx e41)
  obtain ⟨P51, e52, hf⟩ := p_lx2 hf
  have w50 : WT w40.1 P51 := by rw [e52]; exact WT.put w48 t44 (fun q hq => by cases hq; exact t47)
  obtain ⟨I53, e54, hf⟩ := p_lx2 hf
  obtain ⟨I55, e56, hf⟩ := p_lx2 hf
  obtain ⟨P58, e59, hf⟩ := p_lx2 hf
  have w57 : WT w40.1 P58 := by rw [e59]; exact WT.put w50 t44 (fun q hq => by cases hq; exact t45)
  obtain ⟨P61, e62, hf⟩ := p_lx2 hf
  have w60 : WT w40.1 P61 := by rw [e62]; exact WT.put w57 t44 (fun q hq => by cases hq; exact t46)
  cases hf
  exact ⟨w60, x49⟩
def f_X5_init (N : pN) (I : pI) (L : pL) (P : pR) (a0 : Nat) (a1 : Nat) (a2 : Nat) : Option (pN × pI × pL × pR) :=
  p_ck (p_sz (nI 8) 8) <|
  p_ck (decide (N.1 < 1000000)) <|
  p_let (p_nw N I L P (0, Int32.toNatClampNeg (nI 8))) fun w1 =>
  p_let (p_u w1.2.2.2 a0 2 (some N.1)) fun P12 =>
  p_ck (p_sz (nI 6) 6) <|
  p_ck (decide (w1.1.1 < 1000000)) <|
  p_let (p_nw w1.1 w1.2.1 w1.2.2.1 P12 (0, Int32.toNatClampNeg (nI 6))) fun w14 =>
  p_let (p_u w14.2.2.2 a0 3 (some w1.1.1)) fun P25 =>
  p_ck (p_sz (nI 6) 6) <|
  p_ck (decide (w14.1.1 < 1000000)) <|
  p_let (p_nw w14.1 w14.2.1 w14.2.2.1 P25 (0, Int32.toNatClampNeg (nI 6))) fun w27 =>
  p_let (p_u w27.2.2.2 a0 4 (some w14.1.1)) fun P38 =>
  p_let (p_u w27.2.1 a0 5 (-1)) fun I40 =>
  p_let (p_u I40 a0 6 (-1)) fun I42 =>
  p_let (p_u I42 a0 7 (-1)) fun I44 =>
  p_let (p_u I44 a0 8 (nI 0)) fun I46 =>
  p_let (p_u P38 a0 0 (some a1)) fun P49 =>
  p_let (p_u P49 a0 1 (some a2)) fun P52 =>
  some (w27.1, I46, w27.2.2.1, P52)
theorem c_X5_init {G : pG} {d : Nat} {N : pN} {I : pI} {L : pL} {P : pR} {a0 : Nat} {a1 : Nat} {a2 : Nat} {qq : pN × pI × pL × pR} (hd : 1 ≤ d) (hW : WT N P) (ha0 : p_tp N a0 8) (ha1 : p_tp N a1 10) (ha2 : p_tp N a2 6) (hf : f_X5_init N I L P a0 a1 a2 = some qq) : MT G mX5_init d 3 20 [.ref a0, .ref a1, .ref a2] N I L P (p_R none qq.1 qq.2.1 qq.2.2.1 qq.2.2.2) := by
  refine MT.of rfl (Nat.le_of_ble_eq_true rfl) ?_
  show SW G mX5_init (p_rm d 3 20) 3 20 0 0 (p_R none qq.1 qq.2.1 qq.2.2.1 qq.2.2.2) 0 [(0, .ref a0), (1, .ref a1), (2, .ref a2)] [] N I L P
  unfold f_X5_init at hf
  refine s_aload_n (pc := 0) dX5_init_0 0 rfl rfl ?_
  refine z_obj (pc := 1) dX5_init_1 ml_X5_3 (p_d1 hd (by decide)) (Nat.le_of_ble_eq_true rfl) ?_
  refine s_aload_n (pc := 4) dX5_init_4 0 rfl rfl ?_
  refine s_bipush (pc := 5) dX5_init_5 (v := nI 8) rfl ?_
  obtain ⟨c4, hf⟩ := p_ckx hf
  obtain ⟨c3, hf⟩ := p_ckx hf
  refine a_newI (pc := 7) (z := nI 8) (cap := 8) dX5_init_7 c4 (by decide) (by decide) (by decide) c3 (fun w1 e2 => ?_)
  replace hf := p_lx hf e2
  have t5 : p_tp w1.1 a0 8 := (p_nwx e2) _ _ ha0
  have t6 : p_tp w1.1 a1 10 := (p_nwx e2) _ _ ha1
  have t7 : p_tp w1.1 a2 6 := (p_nwx e2) _ _ ha2
  have t8 : p_tp w1.1 N.1 0 := p_nws e2
  have w9 : WT w1.1 w1.2.2.2 := p_nww e2 hW
  have x10 : p_ext N w1.1 := p_ext.tr p_ext.rf (p_nwx e2)
  refine x_putR (pc := 9) dX5_init_9 fl_X5_9 (Or.inr ⟨rfl, rfl⟩) rfl t5 ?_
  refine s_nmP (fun P12 e13 => ?_)
  replace hf := p_lx hf e13
  have w11 : WT w1.1 P12 := by rw [e13]; exact WT.put w9 t5 (fun q hq => by cases hq; exact t8)
  refine s_aload_n (pc := 12) dX5_init_12 0 rfl rfl ?_
  refine s_bipush (pc := 13) dX5_init_13 (v := nI 6) rfl ?_
  obtain ⟨c17, hf⟩ := p_ckx hf
  obtain ⟨c16, hf⟩ := p_ckx hf
  refine a_newI (pc := 15) (z := nI 6) (cap := 6) dX5_init_15 c17 (by decide) (by decide) (by decide) c16 (fun w14 e15 => ?_)
  replace hf := p_lx hf e15
  have t18 : p_tp w14.1 a0 8 := (p_nwx e15) _ _ t5
  have t19 : p_tp w14.1 a1 10 := (p_nwx e15) _ _ t6
  have t20 : p_tp w14.1 a2 6 := (p_nwx e15) _ _ t7
  have t21 : p_tp w14.1 w1.1.1 0 := p_nws e15
  have w22 : WT w14.1 w14.2.2.2 := p_nww e15 w11
  have x23 : p_ext N w14.1 := p_ext.tr x10 (p_nwx e15)
  refine x_putR (pc := 17) dX5_init_17 fl_X5_15 (Or.inr ⟨rfl, rfl⟩) rfl t18 ?_
  refine s_nmP (fun P25 e26 => ?_)
  replace hf := p_lx hf e26
  have w24 : WT w14.1 P25 := by rw [e26]; exact WT.put w22 t18 (fun q hq => by cases hq; exact t21)
  refine s_aload_n (pc := 20) dX5_init_20 0 rfl rfl ?_
  refine s_bipush (pc := 21) dX5_init_21 (v := nI 6) rfl ?_
  obtain ⟨c30, hf⟩ := p_ckx hf
  obtain ⟨c29, hf⟩ := p_ckx hf
  refine a_newI (pc := 23) (z := nI 6) (cap := 6) dX5_init_23 c30 (by decide) (by decide) (by decide) c29 (fun w27 e28 => ?_)
  replace hf := p_lx hf e28
  have t31 : p_tp w27.1 a0 8 := (p_nwx e28) _ _ t18
  have t32 : p_tp w27.1 a1 10 := (p_nwx e28) _ _ t19
  have t33 : p_tp w27.1 a2 6 := (p_nwx e28) _ _ t20
  have t34 : p_tp w27.1 w14.1.1 0 := p_nws e28
  have w35 : WT w27.1 w27.2.2.2 := p_nww e28 w24
  have x36 : p_ext N w27.1 := p_ext.tr x23 (p_nwx e28)
  refine x_putR (pc := 25) dX5_init_25 fl_X5_18 (Or.inr ⟨rfl, rfl⟩) rfl t31 ?_
  refine s_nmP (fun P38 e39 => ?_)
  replace hf := p_lx hf e39
  have w37 : WT w27.1 P38 := by rw [e39]; exact WT.put w35 t31 (fun q hq => by cases hq; exact t34)
  refine s_aload_n (pc := 28) dX5_init_28 0 rfl rfl ?_
  refine s_iconst (pc := 29) dX5_init_29 (v := (-1)) rfl ?_
  refine x_putI (pc := 30) dX5_init_30 fl_X5_21 (Or.inl rfl) rfl t31 ?_
  refine s_nmI (fun I40 e41 => ?_)
  replace hf := p_lx hf e41
  refine s_aload_n (pc := 33) dX5_init_33 0 rfl rfl ?_
  refine s_iconst (pc := 34) dX5_init_34 (v := (-1)) rfl ?_
  refine x_putI (pc := 35) dX5_init_35 fl_X5_25 (Or.inl rfl) rfl t31 ?_
  refine s_nmI (fun I42 e43 => ?_)
  replace hf := p_lx hf e43
  refine s_aload_n (pc := 38) dX5_init_38 0 rfl rfl ?_
  refine s_iconst (pc := 39) dX5_init_39 (v := (-1)) rfl ?_
  refine x_putI (pc := 40) dX5_init_40 fl_X5_28 (Or.inl rfl) rfl t31 ?_
  refine s_nmI (fun I44 e45 => ?_)
  replace hf := p_lx hf e45
  refine s_aload_n (pc := 43) dX5_init_43 0 rfl rfl ?_
  refine s_iconst (pc := 44) dX5_init_44 (v := nI 0) rfl ?_
  refine x_putI (pc := 45) dX5_init_45 fl_X5_31 (Or.inl rfl) rfl t31 ?_
  refine s_nmI (fun I46 e47 => ?_)
  replace hf := p_lx hf e47
  refine s_aload_n (pc := 48) dX5_init_48 0 rfl rfl ?_
  refine s_aload_n (pc := 49) dX5_init_49 1 rfl rfl ?_
  refine x_putR (pc := 50) dX5_init_50 fl_X5_34 (Or.inr ⟨rfl, rfl⟩) rfl t31 ?_
  refine s_nmP (fun P49 e50 => ?_)
  replace hf := p_lx hf e50
  have w48 : WT w27.1 P49 := by rw [e50]; exact WT.put w37 t31 (fun q hq => by cases hq; exact t32)
  refine s_aload_n (pc := 53) dX5_init_53 0 rfl rfl ?_
  refine s_aload_n (pc := 54) dX5_init_54 2 rfl rfl ?_
  refine x_putR (pc := 55) dX5_init_55 fl_X5_38 (Or.inr ⟨rfl, rfl⟩) rfl t31 ?_
  refine s_nmP (fun P52 e53 => ?_)
  replace hf := p_lx hf e53
  have w51 : WT w27.1 P52 := by rw [e53]; exact WT.put w48 t31 (fun q hq => by cases hq; exact t33)
  cases hf
  refine s_widen (c2 := 3) (s2 := 20) (by decide) (by decide) ?_
  exact s_return (pc := 58) dX5_init_58 rfl ⟨rfl, rfl, rfl, rfl, rfl⟩
theorem g_X5_init {N : pN} {I : pI} {L : pL} {P : pR} {a0 : Nat} {a1 : Nat} {a2 : Nat} {qq : pN × pI × pL × pR} (hW : WT N P) (ha0 : p_tp N a0 8) (ha1 : p_tp N a1 10) (ha2 : p_tp N a2 6) (hf : f_X5_init N I L P a0 a1 a2 = some qq) : WT qq.1 qq.2.2.2 ∧ p_ext N qq.1 := by
  unfold f_X5_init at hf
  obtain ⟨c4, hf⟩ := p_ckx hf
  obtain ⟨c3, hf⟩ := p_ckx hf
  obtain ⟨w1, e2, hf⟩ := p_lx2 hf
  have t5 : p_tp w1.1 a0 8 := (p_nwx e2) _ _ ha0
  have t6 : p_tp w1.1 a1 10 := (p_nwx e2) _ _ ha1
  have t7 : p_tp w1.1 a2 6 := (p_nwx e2) _ _ ha2
  have t8 : p_tp w1.1 N.1 0 := p_nws e2
  have w9 : WT w1.1 w1.2.2.2 := p_nww e2 hW
  have x10 : p_ext N w1.1 := p_ext.tr p_ext.rf (p_nwx e2)
  obtain ⟨P12, e13, hf⟩ := p_lx2 hf
  have w11 : WT w1.1 P12 := by rw [e13]; exact WT.put w9 t5 (fun q hq => by cases hq; exact t8)
  obtain ⟨c17, hf⟩ := p_ckx hf
  obtain ⟨c16, hf⟩ := p_ckx hf
  obtain ⟨w14, e15, hf⟩ := p_lx2 hf
  have t18 : p_tp w14.1 a0 8 := (p_nwx e15) _ _ t5
  have t19 : p_tp w14.1 a1 10 := (p_nwx e15) _ _ t6
  have t20 : p_tp w14.1 a2 6 := (p_nwx e15) _ _ t7
  have t21 : p_tp w14.1 w1.1.1 0 := p_nws e15
  have w22 : WT w14.1 w14.2.2.2 := p_nww e15 w11
  have x23 : p_ext N w14.1 := p_ext.tr x10 (p_nwx e15)
  obtain ⟨P25, e26, hf⟩ := p_lx2 hf
  have w24 : WT w14.1 P25 := by rw [e26]; exact WT.put w22 t18 (fun q hq => by cases hq; exact t21)
  obtain ⟨c30, hf⟩ := p_ckx hf
  obtain ⟨c29, hf⟩ := p_ckx hf
  obtain ⟨w27, e28, hf⟩ := p_lx2 hf
  have t31 : p_tp w27.1 a0 8 := (p_nwx e28) _ _ t18
  have t32 : p_tp w27.1 a1 10 := (p_nwx e28) _ _ t19
  have t33 : p_tp w27.1 a2 6 := (p_nwx e28) _ _ t20
  have t34 : p_tp w27.1 w14.1.1 0 := p_nws e28
  have w35 : WT w27.1 w27.2.2.2 := p_nww e28 w24
  have x36 : p_ext N w27.1 := p_ext.tr x23 (p_nwx e28)
  obtain ⟨P38, e39, hf⟩ := p_lx2 hf
  have w37 : WT w27.1 P38 := by rw [e39]; exact WT.put w35 t31 (fun q hq => by cases hq; exact t34)
  obtain ⟨I40, e41, hf⟩ := p_lx2 hf
  obtain ⟨I42, e43, hf⟩ := p_lx2 hf
  obtain ⟨I44, e45, hf⟩ := p_lx2 hf
  obtain ⟨I46, e47, hf⟩ := p_lx2 hf
  obtain ⟨P49, e50, hf⟩ := p_lx2 hf
  have w48 : WT w27.1 P49 := by rw [e50]; exact WT.put w37 t31 (fun q hq => by cases hq; exact t32)
  obtain ⟨P52, e53, hf⟩ := p_lx2 hf
  have w51 : WT w27.1 P52 := by rw [e53]; exact WT.put w48 t31 (fun q hq => by cases hq; exact t33)
  cases hf
  exact ⟨w51, x36⟩
def f_X1_init (N : pN) (I : pI) (L : pL) (P : pR) (a0 : Nat) (a1 : Nat) (a2 : Nat) : Option (pN × pI × pL × pR) :=
  p_ck (p_sz (nI 6) 6) <|
  p_ck (decide (N.1 < 1000000)) <|
  p_let (p_nw N I L P (0, Int32.toNatClampNeg (nI 6))) fun w1 =>
  p_let (p_u w1.2.2.2 a0 2 (some N.1)) fun P12 =>
  p_let (p_u w1.2.1 a0 3 (-1)) fun I14 =>
  p_let (p_u I14 a0 4 (-1)) fun I16 =>
  p_let (p_u P12 a0 0 (some a1)) fun P19 =>
  p_let (p_u P19 a0 1 (some a2)) fun P22 =>
  some (w1.1, I16, w1.2.2.1, P22)
theorem c_X1_init {G : pG} {d : Nat} {N : pN} {I : pI} {L : pL} {P : pR} {a0 : Nat} {a1 : Nat} {a2 : Nat} {qq : pN × pI × pL × pR} (hd : 1 ≤ d) (hW : WT N P) (ha0 : p_tp N a0 4) (ha1 : p_tp N a1 10) (ha2 : p_tp N a2 6) (hf : f_X1_init N I L P a0 a1 a2 = some qq) : MT G mX1_init d 1 6 [.ref a0, .ref a1, .ref a2] N I L P (p_R none qq.1 qq.2.1 qq.2.2.1 qq.2.2.2) := by
  refine MT.of rfl (Nat.le_of_ble_eq_true rfl) ?_
  show SW G mX1_init (p_rm d 1 6) 1 6 0 0 (p_R none qq.1 qq.2.1 qq.2.2.1 qq.2.2.2) 0 [(0, .ref a0), (1, .ref a1), (2, .ref a2)] [] N I L P
  unfold f_X1_init at hf
  refine s_aload_n (pc := 0) dX1_init_0 0 rfl rfl ?_
  refine z_obj (pc := 1) dX1_init_1 ml_X1_3 (p_d1 hd (by decide)) (Nat.le_of_ble_eq_true rfl) ?_
  refine s_aload_n (pc := 4) dX1_init_4 0 rfl rfl ?_
  refine s_bipush (pc := 5) dX1_init_5 (v := nI 6) rfl ?_
  obtain ⟨c4, hf⟩ := p_ckx hf
  obtain ⟨c3, hf⟩ := p_ckx hf
  refine a_newI (pc := 7) (z := nI 6) (cap := 6) dX1_init_7 c4 (by decide) (by decide) (by decide) c3 (fun w1 e2 => ?_)
  replace hf := p_lx hf e2
  have t5 : p_tp w1.1 a0 4 := (p_nwx e2) _ _ ha0
  have t6 : p_tp w1.1 a1 10 := (p_nwx e2) _ _ ha1
  have t7 : p_tp w1.1 a2 6 := (p_nwx e2) _ _ ha2
  have t8 : p_tp w1.1 N.1 0 := p_nws e2
  have w9 : WT w1.1 w1.2.2.2 := p_nww e2 hW
  have x10 : p_ext N w1.1 := p_ext.tr p_ext.rf (p_nwx e2)
  refine x_putR (pc := 9) dX1_init_9 fl_X1_9 (Or.inr ⟨rfl, rfl⟩) rfl t5 ?_
  refine s_nmP (fun P12 e13 => ?_)
  replace hf := p_lx hf e13
  have w11 : WT w1.1 P12 := by rw [e13]; exact WT.put w9 t5 (fun q hq => by cases hq; exact t8)
  refine s_aload_n (pc := 12) dX1_init_12 0 rfl rfl ?_
  refine s_iconst (pc := 13) dX1_init_13 (v := (-1)) rfl ?_
  refine x_putI (pc := 14) dX1_init_14 fl_X1_15 (Or.inl rfl) rfl t5 ?_
  refine s_nmI (fun I14 e15 => ?_)
  replace hf := p_lx hf e15
  refine s_aload_n (pc := 17) dX1_init_17 0 rfl rfl ?_
  refine s_iconst (pc := 18) dX1_init_18 (v := (-1)) rfl ?_
  refine x_putI (pc := 19) dX1_init_19 fl_X1_19 (Or.inl rfl) rfl t5 ?_
  refine s_nmI (fun I16 e17 => ?_)
  replace hf := p_lx hf e17
  refine s_aload_n (pc := 22) dX1_init_22 0 rfl rfl ?_
  refine s_aload_n (pc := 23) dX1_init_23 1 rfl rfl ?_
  refine x_putR (pc := 24) dX1_init_24 fl_X1_22 (Or.inr ⟨rfl, rfl⟩) rfl t5 ?_
  refine s_nmP (fun P19 e20 => ?_)
  replace hf := p_lx hf e20
  have w18 : WT w1.1 P19 := by rw [e20]; exact WT.put w11 t5 (fun q hq => by cases hq; exact t6)
  refine s_aload_n (pc := 27) dX1_init_27 0 rfl rfl ?_
  refine s_aload_n (pc := 28) dX1_init_28 2 rfl rfl ?_
  refine x_putR (pc := 29) dX1_init_29 fl_X1_26 (Or.inr ⟨rfl, rfl⟩) rfl t5 ?_
  refine s_nmP (fun P22 e23 => ?_)
  replace hf := p_lx hf e23
  have w21 : WT w1.1 P22 := by rw [e23]; exact WT.put w18 t5 (fun q hq => by cases hq; exact t7)
  cases hf
  refine s_widen (c2 := 1) (s2 := 6) (by decide) (by decide) ?_
  exact s_return (pc := 32) dX1_init_32 rfl ⟨rfl, rfl, rfl, rfl, rfl⟩
theorem g_X1_init {N : pN} {I : pI} {L : pL} {P : pR} {a0 : Nat} {a1 : Nat} {a2 : Nat} {qq : pN × pI × pL × pR} (hW : WT N P) (ha0 : p_tp N a0 4) (ha1 : p_tp N a1 10) (ha2 : p_tp N a2 6) (hf : f_X1_init N I L P a0 a1 a2 = some qq) : WT qq.1 qq.2.2.2 ∧ p_ext N qq.1 := by
  unfold f_X1_init at hf
  obtain ⟨c4, hf⟩ := p_ckx hf
  obtain ⟨c3, hf⟩ := p_ckx hf
  obtain ⟨w1, e2, hf⟩ := p_lx2 hf
  have t5 : p_tp w1.1 a0 4 := (p_nwx e2) _ _ ha0
  have t6 : p_tp w1.1 a1 10 := (p_nwx e2) _ _ ha1
  have t7 : p_tp w1.1 a2 6 := (p_nwx e2) _ _ ha2
  have t8 : p_tp w1.1 N.1 0 := p_nws e2
  have w9 : WT w1.1 w1.2.2.2 := p_nww e2 hW
  have x10 : p_ext N w1.1 := p_ext.tr p_ext.rf (p_nwx e2)
  obtain ⟨P12, e13, hf⟩ := p_lx2 hf
  have w11 : WT w1.1 P12 := by rw [e13]; exact WT.put w9 t5 (fun q hq => by cases hq; exact t8)
  obtain ⟨I14, e15, hf⟩ := p_lx2 hf
  obtain ⟨I16, e17, hf⟩ := p_lx2 hf
  obtain ⟨P19, e20, hf⟩ := p_lx2 hf
  have w18 : WT w1.1 P19 := by rw [e20]; exact WT.put w11 t5 (fun q hq => by cases hq; exact t6)
  obtain ⟨P22, e23, hf⟩ := p_lx2 hf
  have w21 : WT w1.1 P22 := by rw [e23]; exact WT.put w18 t5 (fun q hq => by cases hq; exact t7)
  cases hf
  exact ⟨w21, x10⟩
def f_X11_init (N : pN) (I : pI) (L : pL) (P : pR) (a0 : Nat) : Option (pN × pI × pL × pR) :=
  p_ck (decide (N.1 < 1000000)) <|
  p_let (p_nw N I L P (10, 0)) fun w1 =>
  Option.bind (f_X7_init w1.1 w1.2.1 w1.2.2.1 w1.2.2.2 N.1) fun q8 =>
  p_let (p_u q8.2.2.2 a0 0 (some N.1)) fun P16 =>
  p_ck (p_sz (nI 3) 3) <|
  p_ck (decide (q8.1.1 < 1000000)) <|
  p_let (p_nw q8.1 q8.2.1 q8.2.2.1 P16 (2, Int32.toNatClampNeg (nI 3))) fun w18 =>
  p_let (p_u w18.2.2.2 a0 1 (some q8.1.1)) fun P27 =>
  p_ck (decide (w18.1.1 < 1000000)) <|
  p_let (p_nw w18.1 w18.2.1 w18.2.2.1 P27 (5, 0)) fun w29 =>
  Option.bind (f_X2_init w29.1 w29.2.1 w29.2.2.1 w29.2.2.2 w18.1.1) fun q36 =>
  p_let (p_u q36.2.2.2 a0 2 (some w18.1.1)) fun P44 =>
  p_ck (decide (q36.1.1 < 1000000)) <|
  p_let (p_nw q36.1 q36.2.1 q36.2.2.1 P44 (6, 0)) fun w46 =>
  Option.bind (w46.2.2.2 a0 0) fun q53 =>
  Option.bind (w46.2.2.2 a0 2) fun q56 =>
  Option.bind (f_X3_init w46.1 w46.2.1 w46.2.2.1 w46.2.2.2 q36.1.1 q53 q56) fun q59 =>
  p_let (p_u q59.2.2.2 a0 3 (some q36.1.1)) fun P67 =>
  p_ck (decide (q59.1.1 < 1000000)) <|
  p_let (p_nw q59.1 q59.2.1 q59.2.2.1 P67 (8, 0)) fun w69 =>
  Option.bind (w69.2.2.2 a0 0) fun q76 =>
  Option.bind (w69.2.2.2 a0 3) fun q79 =>
  Option.bind (f_X5_init w69.1 w69.2.1 w69.2.2.1 w69.2.2.2 q59.1.1 q76 q79) fun q82 =>
  p_let (p_u q82.2.2.2 a0 4 (some q59.1.1)) fun P90 =>
  p_ck (decide (q82.1.1 < 1000000)) <|
  p_let (p_nw q82.1 q82.2.1 q82.2.2.1 P90 (4, 0)) fun w92 =>
  Option.bind (w92.2.2.2 a0 0) fun q99 =>
  Option.bind (w92.2.2.2 a0 3) fun q102 =>
  Option.bind (f_X1_init w92.1 w92.2.1 w92.2.2.1 w92.2.2.2 q82.1.1 q99 q102) fun q105 =>
  p_let (p_u q105.2.2.2 a0 5 (some q82.1.1)) fun P113 =>
  p_ck (decide (q105.1.1 < 1000000)) <|
  p_let (p_nw q105.1 q105.2.1 q105.2.2.1 P113 (13, 0)) fun w115 =>
  Option.bind (f_X10_init w115.1 w115.2.1 w115.2.2.1 w115.2.2.2 q105.1.1) fun q122 =>
  p_let (p_u q122.2.2.2 a0 6 (some q105.1.1)) fun P130 =>
  p_ck (decide (q122.1.1 < 1000000)) <|
  p_let (p_nw q122.1 q122.2.1 q122.2.2.1 P130 (7, 0)) fun w132 =>
  Option.bind (f_X4_init w132.1 w132.2.1 w132.2.2.1 w132.2.2.2 q122.1.1) fun q139 =>
  p_let (p_u q139.2.2.2 a0 7 (some q122.1.1)) fun P147 =>
  some (q139.1, q139.2.1, q139.2.2.1, P147)
theorem c_X11_init {G : pG} {d : Nat} {N : pN} {I : pI} {L : pL} {P : pR} {a0 : Nat} {qq : pN × pI × pL × pR} (hd : 3 ≤ d) (hW : WT N P) (ha0 : p_tp N a0 14) (hf : f_X11_init N I L P a0 = some qq) : MT G mX11_init d 66 20241 [.ref a0] N I L P (p_R none qq.1 qq.2.1 qq.2.2.1 qq.2.2.2) := by
  refine MT.of rfl (Nat.le_of_ble_eq_true rfl) ?_
  show SW G mX11_init (p_rm d 66 20241) 66 20241 0 0 (p_R none qq.1 qq.2.1 qq.2.2.1 qq.2.2.2) 0 [(0, .ref a0)] [] N I L P
  unfold f_X11_init at hf
  refine s_aload_n (pc := 0) dX11_init_0 0 rfl rfl ?_
  refine z_obj (pc := 1) dX11_init_1 ml_X11_1 (p_d1 hd (by decide)) (Nat.le_of_ble_eq_true rfl) ?_
  refine s_aload_n (pc := 4) dX11_init_4 0 rfl rfl ?_
  obtain ⟨c3, hf⟩ := p_ckx hf
  refine a_new (pc := 5) (ci := 7) dX11_init_5 rfl kk_X11_7 (by decide) (by decide) c3 (fun w1 e2 => ?_)
  replace hf := p_lx hf e2
  have t4 : p_tp w1.1 a0 14 := (p_nwx e2) _ _ ha0
  have t5 : p_tp w1.1 N.1 10 := p_nws e2
  have w6 : WT w1.1 w1.2.2.2 := p_nww e2 hW
  have x7 : p_ext N w1.1 := p_ext.tr p_ext.rf (p_nwx e2)
  refine s_dup (pc := 8) dX11_init_8 rfl ?_
  obtain ⟨q8, h9, hf⟩ := p_bd hf
  have g10 := g_X7_init w6 t5 h9
  have t11 : p_tp q8.1 a0 14 := g10.2 _ _ t4
  have t12 : p_tp q8.1 N.1 10 := g10.2 _ _ t5
  have w13 : WT q8.1 q8.2.2.2 := g10.1
  have x14 : p_ext N q8.1 := p_ext.tr x7 g10.2
  refine z_callI (pc := 9) dX11_init_9 (c_X7_init (p_dd hd (by decide)) w6 t5 h9) mk_X7_init mi_X7_init rfl rfl ml_X11_9 rfl rfl (Nat.le_of_ble_eq_true rfl) t5 (p_d1 hd (by decide)) (Nat.le_of_ble_eq_true rfl) (by decide) (by decide) ?_
  refine x_putR (pc := 12) dX11_init_12 fl_X11_10 (Or.inr ⟨rfl, rfl⟩) rfl t11 ?_
  refine s_nmP (fun P16 e17 => ?_)
  replace hf := p_lx hf e17
  have w15 : WT q8.1 P16 := by rw [e17]; exact WT.put w13 t11 (fun q hq => by cases hq; exact t12)
  refine s_aload_n (pc := 15) dX11_init_15 0 rfl rfl ?_
  refine s_iconst (pc := 16) dX11_init_16 (v := nI 3) rfl ?_
  obtain ⟨c21, hf⟩ := p_ckx hf
  obtain ⟨c20, hf⟩ := p_ckx hf
  refine a_anew (pc := 17) (z := nI 3) (cap := 3) dX11_init_17 kk_X11_7 c21 (by decide) (by decide) (by decide) c20 (fun w18 e19 => ?_)
  replace hf := p_lx hf e19
  have t22 : p_tp w18.1 a0 14 := (p_nwx e19) _ _ t11
  have t23 : p_tp w18.1 q8.1.1 2 := p_nws e19
  have w24 : WT w18.1 w18.2.2.2 := p_nww e19 w15
  have x25 : p_ext N w18.1 := p_ext.tr x14 (p_nwx e19)
  refine x_putR (pc := 20) dX11_init_20 fl_X11_16 (Or.inr ⟨rfl, rfl⟩) rfl t22 ?_
  refine s_nmP (fun P27 e28 => ?_)
  replace hf := p_lx hf e28
  have w26 : WT w18.1 P27 := by rw [e28]; exact WT.put w24 t22 (fun q hq => by cases hq; exact t23)
  refine s_aload_n (pc := 23) dX11_init_23 0 rfl rfl ?_
  obtain ⟨c31, hf⟩ := p_ckx hf
  refine a_new (pc := 24) (ci := 2) dX11_init_24 rfl kk_X11_20 (by decide) (by decide) c31 (fun w29 e30 => ?_)
  replace hf := p_lx hf e30
  have t32 : p_tp w29.1 a0 14 := (p_nwx e30) _ _ t22
  have t33 : p_tp w29.1 w18.1.1 5 := p_nws e30
  have w34 : WT w29.1 w29.2.2.2 := p_nww e30 w26
  have x35 : p_ext N w29.1 := p_ext.tr x25 (p_nwx e30)
  refine s_dup (pc := 27) dX11_init_27 rfl ?_
  obtain ⟨q36, h37, hf⟩ := p_bd hf
  have g38 := g_X2_init w34 t33 h37
  have t39 : p_tp q36.1 a0 14 := g38.2 _ _ t32
  have t40 : p_tp q36.1 w18.1.1 5 := g38.2 _ _ t33
  have w41 : WT q36.1 q36.2.2.2 := g38.1
  have x42 : p_ext N q36.1 := p_ext.tr x35 g38.2
  refine z_callI (pc := 28) dX11_init_28 (c_X2_init (p_dd hd (by decide)) w34 t33 h37) mk_X2_init mi_X2_init rfl rfl ml_X11_22 rfl rfl (Nat.le_of_ble_eq_true rfl) t33 (p_d1 hd (by decide)) (Nat.le_of_ble_eq_true rfl) (by decide) (by decide) ?_
  refine x_putR (pc := 31) dX11_init_31 fl_X11_23 (Or.inr ⟨rfl, rfl⟩) rfl t39 ?_
  refine s_nmP (fun P44 e45 => ?_)
  replace hf := p_lx hf e45
  have w43 : WT q36.1 P44 := by rw [e45]; exact WT.put w41 t39 (fun q hq => by cases hq; exact t40)
  refine s_aload_n (pc := 34) dX11_init_34 0 rfl rfl ?_
  obtain ⟨c48, hf⟩ := p_ckx hf
  refine a_new (pc := 35) (ci := 3) dX11_init_35 rfl kk_X11_27 (by decide) (by decide) c48 (fun w46 e47 => ?_)
  replace hf := p_lx hf e47
  have t49 : p_tp w46.1 a0 14 := (p_nwx e47) _ _ t39
  have t50 : p_tp w46.1 q36.1.1 6 := p_nws e47
  have w51 : WT w46.1 w46.2.2.2 := p_nww e47 w43
  have x52 : p_ext N w46.1 := p_ext.tr x42 (p_nwx e47)
  refine s_dup (pc := 38) dX11_init_38 rfl ?_
  refine s_aload_n (pc := 39) dX11_init_39 0 rfl rfl ?_
  obtain ⟨q53, h54, hf⟩ := p_bd hf
  have t55 : p_tp w46.1 q53 10 := WT.get w51 t49 h54
  refine x_getR (pc := 40) dX11_init_40 fl_X11_10 rfl t49 h54 ?_
  refine s_aload_n (pc := 43) dX11_init_43 0 rfl rfl ?_
  obtain ⟨q56, h57, hf⟩ := p_bd hf
  have t58 : p_tp w46.1 q56 5 := WT.get w51 t49 h57
  refine x_getR (pc := 44) dX11_init_44 fl_X11_23 rfl t49 h57 ?_
  obtain ⟨q59, h60, hf⟩ := p_bd hf
  have g61 := g_X3_init w51 t50 t55 t58 h60
  have t62 : p_tp q59.1 a0 14 := g61.2 _ _ t49
  have t63 : p_tp q59.1 q36.1.1 6 := g61.2 _ _ t50
  have w64 : WT q59.1 q59.2.2.2 := g61.1
  have x65 : p_ext N q59.1 := p_ext.tr x52 g61.2
  refine z_callI (pc := 47) dX11_init_47 (c_X3_init (p_dd hd (by decide)) w51 t50 t55 t58 h60) mk_X3_init mi_X3_init rfl rfl ml_X11_29 rfl rfl (Nat.le_of_ble_eq_true rfl) t50 (p_d1 hd (by decide)) (Nat.le_of_ble_eq_true rfl) (by decide) (by decide) ?_
  refine x_putR (pc := 50) dX11_init_50 fl_X11_32 (Or.inr ⟨rfl, rfl⟩) rfl t62 ?_
  refine s_nmP (fun P67 e68 => ?_)
  replace hf := p_lx hf e68
  have w66 : WT q59.1 P67 := by rw [e68]; exact WT.put w64 t62 (fun q hq => by cases hq; exact t63)
  refine s_aload_n (pc := 53) dX11_init_53 0 rfl rfl ?_
  obtain ⟨c71, hf⟩ := p_ckx hf
  refine a_new (pc := 54) (ci := 5) dX11_init_54 rfl kk_X11_36 (by decide) (by decide) c71 (fun w69 e70 => ?_)
  replace hf := p_lx hf e70
  have t72 : p_tp w69.1 a0 14 := (p_nwx e70) _ _ t62
  have t73 : p_tp w69.1 q59.1.1 8 := p_nws e70
  have w74 : WT w69.1 w69.2.2.2 := p_nww e70 w66
  have x75 : p_ext N w69.1 := p_ext.tr x65 (p_nwx e70)
  refine s_dup (pc := 57) dX11_init_57 rfl ?_
  refine s_aload_n (pc := 58) dX11_init_58 0 rfl rfl ?_
  obtain ⟨q76, h77, hf⟩ := p_bd hf
  have t78 : p_tp w69.1 q76 10 := WT.get w74 t72 h77
  refine x_getR (pc := 59) dX11_init_59 fl_X11_10 rfl t72 h77 ?_
  refine s_aload_n (pc := 62) dX11_init_62 0 rfl rfl ?_
  obtain ⟨q79, h80, hf⟩ := p_bd hf
  have t81 : p_tp w69.1 q79 6 := WT.get w74 t72 h80
  refine x_getR (pc := 63) dX11_init_63 fl_X11_32 rfl t72 h80 ?_
  obtain ⟨q82, h83, hf⟩ := p_bd hf
  have g84 := g_X5_init w74 t73 t78 t81 h83
  have t85 : p_tp q82.1 a0 14 := g84.2 _ _ t72
  have t86 : p_tp q82.1 q59.1.1 8 := g84.2 _ _ t73
  have w87 : WT q82.1 q82.2.2.2 := g84.1
  have x88 : p_ext N q82.1 := p_ext.tr x75 g84.2
  refine z_callI (pc := 66) dX11_init_66 (c_X5_init (p_dd hd (by decide)) w74 t73 t78 t81 h83) mk_X5_init mi_X5_init rfl rfl ml_X11_38 rfl rfl (Nat.le_of_ble_eq_true rfl) t73 (p_d1 hd (by decide)) (Nat.le_of_ble_eq_true rfl) (by decide) (by decide) ?_
  refine x_putR (pc := 69) dX11_init_69 fl_X11_41 (Or.inr ⟨rfl, rfl⟩) rfl t85 ?_
  refine s_nmP (fun P90 e91 => ?_)
  replace hf := p_lx hf e91
  have w89 : WT q82.1 P90 := by rw [e91]; exact WT.put w87 t85 (fun q hq => by cases hq; exact t86)
  refine s_aload_n (pc := 72) dX11_init_72 0 rfl rfl ?_
  obtain ⟨c94, hf⟩ := p_ckx hf
  refine a_new (pc := 73) (ci := 1) dX11_init_73 rfl kk_X11_45 (by decide) (by decide) c94 (fun w92 e93 => ?_)
  replace hf := p_lx hf e93
  have t95 : p_tp w92.1 a0 14 := (p_nwx e93) _ _ t85
  have t96 : p_tp w92.1 q82.1.1 4 := p_nws e93
  have w97 : WT w92.1 w92.2.2.2 := p_nww e93 w89
  have x98 : p_ext N w92.1 := p_ext.tr x88 (p_nwx e93)
  refine s_dup (pc := 76) dX11_init_76 rfl ?_
  refine s_aload_n (pc := 77) dX11_init_77 0 rfl rfl ?_
  obtain ⟨q99, h100, hf⟩ := p_bd hf
  have t101 : p_tp w92.1 q99 10 := WT.get w97 t95 h100
  refine x_getR (pc := 78) dX11_init_78 fl_X11_10 rfl t95 h100 ?_
  refine s_aload_n (pc := 81) dX11_init_81 0 rfl rfl ?_
  obtain ⟨q102, h103, hf⟩ := p_bd hf
  have t104 : p_tp w92.1 q102 6 := WT.get w97 t95 h103
  refine x_getR (pc := 82) dX11_init_82 fl_X11_32 rfl t95 h103 ?_
  obtain ⟨q105, h106, hf⟩ := p_bd hf
  have g107 := g_X1_init w97 t96 t101 t104 h106
  have t108 : p_tp q105.1 a0 14 := g107.2 _ _ t95
  have t109 : p_tp q105.1 q82.1.1 4 := g107.2 _ _ t96
  have w110 : WT q105.1 q105.2.2.2 := g107.1
  have x111 : p_ext N q105.1 := p_ext.tr x98 g107.2
  refine z_callI (pc := 85) dX11_init_85 (c_X1_init (p_dd hd (by decide)) w97 t96 t101 t104 h106) mk_X1_init mi_X1_init rfl rfl ml_X11_47 rfl rfl (Nat.le_of_ble_eq_true rfl) t96 (p_d1 hd (by decide)) (Nat.le_of_ble_eq_true rfl) (by decide) (by decide) ?_
  refine x_putR (pc := 88) dX11_init_88 fl_X11_48 (Or.inr ⟨rfl, rfl⟩) rfl t108 ?_
  refine s_nmP (fun P113 e114 => ?_)
  replace hf := p_lx hf e114
  have w112 : WT q105.1 P113 := by rw [e114]; exact WT.put w110 t108 (fun q hq => by cases hq; exact t109)
  refine s_aload_n (pc := 91) dX11_init_91 0 rfl rfl ?_
  obtain ⟨c117, hf⟩ := p_ckx hf
  refine a_new (pc := 92) (ci := 10) dX11_init_92 rfl kk_X11_52 (by decide) (by decide) c117 (fun w115 e116 => ?_)
  replace hf := p_lx hf e116
  have t118 : p_tp w115.1 a0 14 := (p_nwx e116) _ _ t108
  have t119 : p_tp w115.1 q105.1.1 13 := p_nws e116
  have w120 : WT w115.1 w115.2.2.2 := p_nww e116 w112
  have x121 : p_ext N w115.1 := p_ext.tr x111 (p_nwx e116)
  refine s_dup (pc := 95) dX11_init_95 rfl ?_
  obtain ⟨q122, h123, hf⟩ := p_bd hf
  have g124 := g_X10_init w120 t119 h123
  have t125 : p_tp q122.1 a0 14 := g124.2 _ _ t118
  have t126 : p_tp q122.1 q105.1.1 13 := g124.2 _ _ t119
  have w127 : WT q122.1 q122.2.2.2 := g124.1
  have x128 : p_ext N q122.1 := p_ext.tr x121 g124.2
  refine z_callIN (pc := 96) dX11_init_96 (c_X10_init (p_dd hd (by decide)) w120 t119 h123) mk_X10_init mi_X10_init rfl rfl (by decide) rfl rfl (Nat.le_of_ble_eq_true rfl) t119 (p_d1 hd (by decide)) (Nat.le_of_ble_eq_true rfl) (by decide) (by decide) ?_
  refine x_putR (pc := 99) dX11_init_99 fl_X11_55 (Or.inr ⟨rfl, rfl⟩) rfl t125 ?_
  refine s_nmP (fun P130 e131 => ?_)
  replace hf := p_lx hf e131
  have w129 : WT q122.1 P130 := by rw [e131]; exact WT.put w127 t125 (fun q hq => by cases hq; exact t126)
  refine s_aload_n (pc := 102) dX11_init_102 0 rfl rfl ?_
  obtain ⟨c134, hf⟩ := p_ckx hf
  refine a_new (pc := 103) (ci := 4) dX11_init_103 rfl kk_X11_59 (by decide) (by decide) c134 (fun w132 e133 => ?_)
  replace hf := p_lx hf e133
  have t135 : p_tp w132.1 a0 14 := (p_nwx e133) _ _ t125
  have t136 : p_tp w132.1 q122.1.1 7 := p_nws e133
  have w137 : WT w132.1 w132.2.2.2 := p_nww e133 w129
  have x138 : p_ext N w132.1 := p_ext.tr x128 (p_nwx e133)
  refine s_dup (pc := 106) dX11_init_106 rfl ?_
  obtain ⟨q139, h140, hf⟩ := p_bd hf
  have g141 := g_X4_init w137 t136 h140
  have t142 : p_tp q139.1 a0 14 := g141.2 _ _ t135
  have t143 : p_tp q139.1 q122.1.1 7 := g141.2 _ _ t136
  have w144 : WT q139.1 q139.2.2.2 := g141.1
  have x145 : p_ext N q139.1 := p_ext.tr x138 g141.2
  refine z_callIN (pc := 107) dX11_init_107 (c_X4_init (p_dd hd (by decide)) w137 t136 h140) mk_X4_init mi_X4_init rfl rfl (by decide) rfl rfl (Nat.le_of_ble_eq_true rfl) t136 (p_d1 hd (by decide)) (Nat.le_of_ble_eq_true rfl) (by decide) (by decide) ?_
  refine x_putR (pc := 110) dX11_init_110 fl_X11_62 (Or.inr ⟨rfl, rfl⟩) rfl t142 ?_
  refine s_nmP (fun P147 e148 => ?_)
  replace hf := p_lx hf e148
  have w146 : WT q139.1 P147 := by rw [e148]; exact WT.put w144 t142 (fun q hq => by cases hq; exact t143)
  cases hf
  refine s_widen (c2 := 66) (s2 := 20241) (by decide) (by decide) ?_
  exact s_return (pc := 113) dX11_init_113 rfl ⟨rfl, rfl, rfl, rfl, rfl⟩
theorem g_X11_init {N : pN} {I : pI} {L : pL} {P : pR} {a0 : Nat} {qq : pN × pI × pL × pR} (hW : WT N P) (ha0 : p_tp N a0 14) (hf : f_X11_init N I L P a0 = some qq) : WT qq.1 qq.2.2.2 ∧ p_ext N qq.1 := by
  unfold f_X11_init at hf
  obtain ⟨c3, hf⟩ := p_ckx hf
  obtain ⟨w1, e2, hf⟩ := p_lx2 hf
  have t4 : p_tp w1.1 a0 14 := (p_nwx e2) _ _ ha0
  have t5 : p_tp w1.1 N.1 10 := p_nws e2
  have w6 : WT w1.1 w1.2.2.2 := p_nww e2 hW
  have x7 : p_ext N w1.1 := p_ext.tr p_ext.rf (p_nwx e2)
  obtain ⟨q8, h9, hf⟩ := p_bd hf
  have g10 := g_X7_init w6 t5 h9
  have t11 : p_tp q8.1 a0 14 := g10.2 _ _ t4
  have t12 : p_tp q8.1 N.1 10 := g10.2 _ _ t5
  have w13 : WT q8.1 q8.2.2.2 := g10.1
  have x14 : p_ext N q8.1 := p_ext.tr x7 g10.2
  obtain ⟨P16, e17, hf⟩ := p_lx2 hf
  have w15 : WT q8.1 P16 := by rw [e17]; exact WT.put w13 t11 (fun q hq => by cases hq; exact t12)
  obtain ⟨c21, hf⟩ := p_ckx hf
  obtain ⟨c20, hf⟩ := p_ckx hf
  obtain ⟨w18, e19, hf⟩ := p_lx2 hf
  have t22 : p_tp w18.1 a0 14 := (p_nwx e19) _ _ t11
  have t23 : p_tp w18.1 q8.1.1 2 := p_nws e19
  have w24 : WT w18.1 w18.2.2.2 := p_nww e19 w15
  have x25 : p_ext N w18.1 := p_ext.tr x14 (p_nwx e19)
  obtain ⟨P27, e28, hf⟩ := p_lx2 hf
  have w26 : WT w18.1 P27 := by rw [e28]; exact WT.put w24 t22 (fun q hq => by cases hq; exact t23)
  obtain ⟨c31, hf⟩ := p_ckx hf
  obtain ⟨w29, e30, hf⟩ := p_lx2 hf
  have t32 : p_tp w29.1 a0 14 := (p_nwx e30) _ _ t22
  have t33 : p_tp w29.1 w18.1.1 5 := p_nws e30
  have w34 : WT w29.1 w29.2.2.2 := p_nww e30 w26
  have x35 : p_ext N w29.1 := p_ext.tr x25 (p_nwx e30)
  obtain ⟨q36, h37, hf⟩ := p_bd hf
  have g38 := g_X2_init w34 t33 h37
  have t39 : p_tp q36.1 a0 14 := g38.2 _ _ t32
  have t40 : p_tp q36.1 w18.1.1 5 := g38.2 _ _ t33
  have w41 : WT q36.1 q36.2.2.2 := g38.1
  have x42 : p_ext N q36.1 := p_ext.tr x35 g38.2
  obtain ⟨P44, e45, hf⟩ := p_lx2 hf
  have w43 : WT q36.1 P44 := by rw [e45]; exact WT.put w41 t39 (fun q hq => by cases hq; exact t40)
  obtain ⟨c48, hf⟩ := p_ckx hf
  obtain ⟨w46, e47, hf⟩ := p_lx2 hf
  have t49 : p_tp w46.1 a0 14 := (p_nwx e47) _ _ t39
  have t50 : p_tp w46.1 q36.1.1 6 := p_nws e47
  have w51 : WT w46.1 w46.2.2.2 := p_nww e47 w43
  have x52 : p_ext N w46.1 := p_ext.tr x42 (p_nwx e47)
  obtain ⟨q53, h54, hf⟩ := p_bd hf
  have t55 : p_tp w46.1 q53 10 := WT.get w51 t49 h54
  obtain ⟨q56, h57, hf⟩ := p_bd hf
  have t58 : p_tp w46.1 q56 5 := WT.get w51 t49 h57
  obtain ⟨q59, h60, hf⟩ := p_bd hf
  have g61 := g_X3_init w51 t50 t55 t58 h60
  have t62 : p_tp q59.1 a0 14 := g61.2 _ _ t49
  have t63 : p_tp q59.1 q36.1.1 6 := g61.2 _ _ t50
  have w64 : WT q59.1 q59.2.2.2 := g61.1
  have x65 : p_ext N q59.1 := p_ext.tr x52 g61.2
  obtain ⟨P67, e68, hf⟩ := p_lx2 hf
  have w66 : WT q59.1 P67 := by rw [e68]; exact WT.put w64 t62 (fun q hq => by cases hq; exact t63)
  obtain ⟨c71, hf⟩ := p_ckx hf
  obtain ⟨w69, e70, hf⟩ := p_lx2 hf
  have t72 : p_tp w69.1 a0 14 := (p_nwx e70) _ _ t62
  have t73 : p_tp w69.1 q59.1.1 8 := p_nws e70
  have w74 : WT w69.1 w69.2.2.2 := p_nww e70 w66
  have x75 : p_ext N w69.1 := p_ext.tr x65 (p_nwx e70)
  obtain ⟨q76, h77, hf⟩ := p_bd hf
  have t78 : p_tp w69.1 q76 10 := WT.get w74 t72 h77
  obtain ⟨q79, h80, hf⟩ := p_bd hf
  have t81 : p_tp w69.1 q79 6 := WT.get w74 t72 h80
  obtain ⟨q82, h83, hf⟩ := p_bd hf
  have g84 := g_X5_init w74 t73 t78 t81 h83
  have t85 : p_tp q82.1 a0 14 := g84.2 _ _ t72
  have t86 : p_tp q82.1 q59.1.1 8 := g84.2 _ _ t73
  have w87 : WT q82.1 q82.2.2.2 := g84.1
  have x88 : p_ext N q82.1 := p_ext.tr x75 g84.2
  obtain ⟨P90, e91, hf⟩ := p_lx2 hf
  have w89 : WT q82.1 P90 := by rw [e91]; exact WT.put w87 t85 (fun q hq => by cases hq; exact t86)
  obtain ⟨c94, hf⟩ := p_ckx hf
  obtain ⟨w92, e93, hf⟩ := p_lx2 hf
  have t95 : p_tp w92.1 a0 14 := (p_nwx e93) _ _ t85
  have t96 : p_tp w92.1 q82.1.1 4 := p_nws e93
  have w97 : WT w92.1 w92.2.2.2 := p_nww e93 w89
  have x98 : p_ext N w92.1 := p_ext.tr x88 (p_nwx e93)
  obtain ⟨q99, h100, hf⟩ := p_bd hf
  have t101 : p_tp w92.1 q99 10 := WT.get w97 t95 h100
  obtain ⟨q102, h103, hf⟩ := p_bd hf
  have t104 : p_tp w92.1 q102 6 := WT.get w97 t95 h103
  obtain ⟨q105, h106, hf⟩ := p_bd hf
  have g107 := g_X1_init w97 t96 t101 t104 h106
  have t108 : p_tp q105.1 a0 14 := g107.2 _ _ t95
  have t109 : p_tp q105.1 q82.1.1 4 := g107.2 _ _ t96
  have w110 : WT q105.1 q105.2.2.2 := g107.1
  have x111 : p_ext N q105.1 := p_ext.tr x98 g107.2
  obtain ⟨P113, e114, hf⟩ := p_lx2 hf
  have w112 : WT q105.1 P113 := by rw [e114]; exact WT.put w110 t108 (fun q hq => by cases hq; exact t109)
  obtain ⟨c117, hf⟩ := p_ckx hf
  obtain ⟨w115, e116, hf⟩ := p_lx2 hf
  have t118 : p_tp w115.1 a0 14 := (p_nwx e116) _ _ t108
  have t119 : p_tp w115.1 q105.1.1 13 := p_nws e116
  have w120 : WT w115.1 w115.2.2.2 := p_nww e116 w112
  have x121 : p_ext N w115.1 := p_ext.tr x111 (p_nwx e116)
  obtain ⟨q122, h123, hf⟩ := p_bd hf
  have g124 := g_X10_init w120 t119 h123
  have t125 : p_tp q122.1 a0 14 := g124.2 _ _ t118
  have t126 : p_tp q122.1 q105.1.1 13 := g124.2 _ _ t119
  have w127 : WT q122.1 q122.2.2.2 := g124.1
  have x128 : p_ext N q122.1 := p_ext.tr x121 g124.2
  obtain ⟨P130, e131, hf⟩ := p_lx2 hf
  have w129 : WT q122.1 P130 := by rw [e131]; exact WT.put w127 t125 (fun q hq => by cases hq; exact t126)
  obtain ⟨c134, hf⟩ := p_ckx hf
  obtain ⟨w132, e133, hf⟩ := p_lx2 hf
  have t135 : p_tp w132.1 a0 14 := (p_nwx e133) _ _ t125
  have t136 : p_tp w132.1 q122.1.1 7 := p_nws e133
  have w137 : WT w132.1 w132.2.2.2 := p_nww e133 w129
  have x138 : p_ext N w132.1 := p_ext.tr x128 (p_nwx e133)
  obtain ⟨q139, h140, hf⟩ := p_bd hf
  have g141 := g_X4_init w137 t136 h140
  have t142 : p_tp q139.1 a0 14 := g141.2 _ _ t135
  have t143 : p_tp q139.1 q122.1.1 7 := g141.2 _ _ t136
  have w144 : WT q139.1 q139.2.2.2 := g141.1
  have x145 : p_ext N q139.1 := p_ext.tr x138 g141.2
  obtain ⟨P147, e148, hf⟩ := p_lx2 hf
  have w146 : WT q139.1 P147 := by rw [e148]; exact WT.put w144 t142 (fun q hq => by cases hq; exact t143)
  cases hf
  exact ⟨w146, x145⟩
def f_X12_init (n : Nat) (N : pN) (I : pI) (L : pL) (P : pR) (a0 : Nat) : Option (pN × pI × pL × pR) :=
  p_ck (p_sz (nI 4640) 4640) <|
  p_ck (decide (N.1 < 1000000)) <|
  p_let (p_nw N I L P (0, Int32.toNatClampNeg (nI 4640))) fun w1 =>
  p_let (p_u w1.2.2.2 a0 0 (some N.1)) fun P10 =>
  p_ck (p_sz (nI 3) 3) <|
  p_ck (decide (w1.1.1 < 1000000)) <|
  p_let (p_nw w1.1 w1.2.1 w1.2.2.1 P10 (1, Int32.toNatClampNeg (nI 3))) fun w12 =>
  p_let (p_u w12.2.2.2 a0 1 (some w1.1.1)) fun P21 =>
  p_ck (p_sz (nI 200) 200) <|
  p_ck (decide (w12.1.1 < 1000000)) <|
  p_let (p_nw w12.1 w12.2.1 w12.2.2.1 P21 (0, Int32.toNatClampNeg (nI 200))) fun w23 =>
  p_let (p_u w23.2.2.2 a0 7 (some w12.1.1)) fun P32 =>
  p_ck (p_sz (nI 200) 200) <|
  p_ck (decide (w23.1.1 < 1000000)) <|
  p_let (p_nw w23.1 w23.2.1 w23.2.2.1 P32 (0, Int32.toNatClampNeg (nI 200))) fun w34 =>
  p_let (p_u w34.2.2.2 a0 8 (some w23.1.1)) fun P43 =>
  p_ck (p_sz (nI 200) 200) <|
  p_ck (decide (w34.1.1 < 1000000)) <|
  p_let (p_nw w34.1 w34.2.1 w34.2.2.1 P43 (0, Int32.toNatClampNeg (nI 200))) fun w45 =>
  p_let (p_u w45.2.2.2 a0 9 (some w34.1.1)) fun P54 =>
  p_ck (p_sz (nI 200) 200) <|
  p_ck (decide (w45.1.1 < 1000000)) <|
  p_let (p_nw w45.1 w45.2.1 w45.2.2.1 P54 (0, Int32.toNatClampNeg (nI 200))) fun w56 =>
  p_let (p_u w56.2.2.2 a0 10 (some w45.1.1)) fun P65 =>
  p_ck (p_sz (nI 200) 200) <|
  p_ck (decide (w56.1.1 < 1000000)) <|
  p_let (p_nw w56.1 w56.2.1 w56.2.2.1 P65 (0, Int32.toNatClampNeg (nI 200))) fun w67 =>
  p_let (p_u w67.2.2.2 a0 11 (some w56.1.1)) fun P76 =>
  p_ck (p_sz (nI 200) 200) <|
  p_ck (decide (w67.1.1 < 1000000)) <|
  p_let (p_nw w67.1 w67.2.1 w67.2.2.1 P76 (0, Int32.toNatClampNeg (nI 200))) fun w78 =>
  p_let (p_u w78.2.2.2 a0 12 (some w67.1.1)) fun P87 =>
  p_ck (p_sz (nI 200) 200) <|
  p_ck (decide (w78.1.1 < 1000000)) <|
  p_let (p_nw w78.1 w78.2.1 w78.2.2.1 P87 (0, Int32.toNatClampNeg (nI 200))) fun w89 =>
  p_let (p_u w89.2.2.2 a0 19 (some w78.1.1)) fun P98 =>
  p_ck (p_sz (nI 2646) 2646) <|
  p_ck (decide (w89.1.1 < 1000000)) <|
  p_let (p_nw w89.1 w89.2.1 w89.2.2.1 P98 (0, Int32.toNatClampNeg (nI 2646))) fun w100 =>
  p_let (p_u w100.2.2.2 a0 20 (some w89.1.1)) fun P109 =>
  p_ck (p_sz (nI 60) 60) <|
  p_ck (decide (w100.1.1 < 1000000)) <|
  p_let (p_nw w100.1 w100.2.1 w100.2.2.1 P109 (0, Int32.toNatClampNeg (nI 60))) fun w111 =>
  p_let (p_u w111.2.2.2 a0 21 (some w100.1.1)) fun P120 =>
  p_ck (p_sz (nI 8) 8) <|
  p_ck (decide (w111.1.1 < 1000000)) <|
  p_let (p_nw w111.1 w111.2.1 w111.2.2.1 P120 (0, Int32.toNatClampNeg (nI 8))) fun w122 =>
  p_let (p_u w122.2.2.2 a0 22 (some w111.1.1)) fun P131 =>
  p_ck (p_sz (nI 6) 6) <|
  p_ck (decide (w122.1.1 < 1000000)) <|
  p_let (p_nw w122.1 w122.2.1 w122.2.2.1 P131 (0, Int32.toNatClampNeg (nI 6))) fun w133 =>
  p_let (p_u w133.2.2.2 a0 26 (some w122.1.1)) fun P142 =>
  p_ck (p_sz (nI 36) 36) <|
  p_ck (decide (w133.1.1 < 1000000)) <|
  p_let (p_nw w133.1 w133.2.1 w133.2.2.1 P142 (1, Int32.toNatClampNeg (nI 36))) fun w144 =>
  p_let (p_u w144.2.2.2 a0 27 (some w133.1.1)) fun P153 =>
  p_ck (p_sz (nI 390) 390) <|
  p_ck (decide (w144.1.1 < 1000000)) <|
  p_let (p_nw w144.1 w144.2.1 w144.2.2.1 P153 (0, Int32.toNatClampNeg (nI 390))) fun w155 =>
  p_let (p_u w155.2.2.2 a0 36 (some w144.1.1)) fun P164 =>
  p_ck (p_sz (nI 5) 5) <|
  p_ck (decide (w155.1.1 < 1000000)) <|
  p_let (p_nw w155.1 w155.2.1 w155.2.2.1 P164 (0, Int32.toNatClampNeg (nI 5))) fun w166 =>
  p_let (p_u w166.2.2.2 a0 37 (some w155.1.1)) fun P175 =>
  p_ck (p_sz (nI 320) 320) <|
  p_ck (decide (w166.1.1 < 1000000)) <|
  p_let (p_nw w166.1 w166.2.1 w166.2.2.1 P175 (0, Int32.toNatClampNeg (nI 320))) fun w177 =>
  p_let (p_u w177.2.2.2 a0 39 (some w166.1.1)) fun P186 =>
  p_ck (p_sz (nI 4) 4) <|
  p_ck (decide (w177.1.1 < 1000000)) <|
  p_let (p_nw w177.1 w177.2.1 w177.2.2.1 P186 (0, Int32.toNatClampNeg (nI 4))) fun w188 =>
  p_let (p_u w188.2.2.2 a0 40 (some w177.1.1)) fun P197 =>
  Option.bind (P197 a0 0) fun q199 =>
  p_ck (p_ib w188.1 q199 (nI 5)) <|
  p_let (p_u w188.2.1 q199 (Int32.toNatClampNeg (nI 5)) (-1)) fun I203 =>
  Option.bind (P197 a0 0) fun q205 =>
  p_ck (p_ib w188.1 q205 (nI 10)) <|
  p_let (p_u I203 q205 (Int32.toNatClampNeg (nI 10)) (-1)) fun I209 =>
  Option.bind (P197 a0 0) fun q211 =>
  p_ck (p_ib w188.1 q211 (nI 11)) <|
  p_let (p_u I209 q211 (Int32.toNatClampNeg (nI 11)) (nI 1)) fun I215 =>
  Option.bind (P197 a0 0) fun q217 =>
  p_ck (p_ib w188.1 q217 (nI 13)) <|
  p_let (p_u I215 q217 (Int32.toNatClampNeg (nI 13)) (nI 1)) fun I221 =>
  Option.bind (P197 a0 0) fun q223 =>
  p_ck (p_ib w188.1 q223 (nI 14)) <|
  p_let (p_u I221 q223 (Int32.toNatClampNeg (nI 14)) (nI 100)) fun I227 =>
  Option.bind (P197 a0 0) fun q229 =>
  p_ck (p_ib w188.1 q229 (nI 15)) <|
  p_let (p_u I227 q229 (Int32.toNatClampNeg (nI 15)) (nI 10)) fun I233 =>
  Option.bind (P197 a0 0) fun q235 =>
  p_ck (p_ib w188.1 q235 (nI 16)) <|
  p_let (p_u I233 q235 (Int32.toNatClampNeg (nI 16)) (nI 10)) fun I239 =>
  Option.bind (P197 a0 0) fun q241 =>
  p_ck (p_ib w188.1 q241 (nI 17)) <|
  p_let (p_u I239 q241 (Int32.toNatClampNeg (nI 17)) (nI 1)) fun I245 =>
  Option.bind (P197 a0 0) fun q247 =>
  p_ck (p_ib w188.1 q247 ((nI 18) + (nI 0))) <|
  p_let (p_u I245 q247 (Int32.toNatClampNeg ((nI 18) + (nI 0))) (nI 50)) fun I251 =>
  Option.bind (P197 a0 0) fun q253 =>
  p_ck (p_ib w188.1 q253 ((nI 18) + (nI 1))) <|
  p_let (p_u I251 q253 (Int32.toNatClampNeg ((nI 18) + (nI 1))) (nI 50)) fun I257 =>
  Option.bind (P197 a0 0) fun q259 =>
  p_ck (p_ib w188.1 q259 ((nI 18) + (nI 2))) <|
  p_let (p_u I257 q259 (Int32.toNatClampNeg ((nI 18) + (nI 2))) (nI 50)) fun I263 =>
  Option.bind (P197 a0 0) fun q265 =>
  p_ck (p_ib w188.1 q265 ((nI 18) + (nI 3))) <|
  p_let (p_u I263 q265 (Int32.toNatClampNeg ((nI 18) + (nI 3))) (nI 50)) fun I269 =>
  Option.bind (P197 a0 0) fun q271 =>
  p_ck (p_ib w188.1 q271 ((nI 18) + (nI 4))) <|
  p_let (p_u I269 q271 (Int32.toNatClampNeg ((nI 18) + (nI 4))) (nI 50)) fun I275 =>
  Option.bind (f_X12_forgets n w188.1 I275 P197 a0) fun q277 =>
  some (w188.1, q277, w188.2.2.1, P197)
theorem c_X12_init {G : pG} {d : Nat} {n : Nat} {N : pN} {I : pI} {L : pL} {P : pR} {a0 : Nat} {qq : pN × pI × pL × pR} (hd : 1 ≤ d) (hW : WT N P) (ha0 : p_tp N a0 15) (hf : f_X12_init n N I L P a0 = some qq) : MT G mX12_init d 18 9518 [.ref a0] N I L P (p_R none qq.1 qq.2.1 qq.2.2.1 qq.2.2.2) := by
  refine MT.of rfl (Nat.le_of_ble_eq_true rfl) ?_
  show SW G mX12_init (p_rm d 18 9518) 18 9518 0 0 (p_R none qq.1 qq.2.1 qq.2.2.1 qq.2.2.2) 0 [(0, .ref a0)] [] N I L P
  unfold f_X12_init at hf
  refine s_aload_n (pc := 0) dX12_init_0 0 rfl rfl ?_
  refine z_obj (pc := 1) dX12_init_1 ml_X12_1 (p_d1 hd (by decide)) (Nat.le_of_ble_eq_true rfl) ?_
  refine s_aload_n (pc := 4) dX12_init_4 0 rfl rfl ?_
  refine s_sipush (pc := 5) dX12_init_5 (v := nI 4640) rfl ?_
  obtain ⟨c4, hf⟩ := p_ckx hf
  obtain ⟨c3, hf⟩ := p_ckx hf
  refine a_newI (pc := 8) (z := nI 4640) (cap := 4640) dX12_init_8 c4 (by decide) (by decide) (by decide) c3 (fun w1 e2 => ?_)
  replace hf := p_lx hf e2
  have t5 : p_tp w1.1 a0 15 := (p_nwx e2) _ _ ha0
  have t6 : p_tp w1.1 N.1 0 := p_nws e2
  have w7 : WT w1.1 w1.2.2.2 := p_nww e2 hW
  have x8 : p_ext N w1.1 := p_ext.tr p_ext.rf (p_nwx e2)
  refine x_putR (pc := 10) dX12_init_10 fl_X12_7 (Or.inr ⟨rfl, rfl⟩) rfl t5 ?_
  refine s_nmP (fun P10 e11 => ?_)
  replace hf := p_lx hf e11
  have w9 : WT w1.1 P10 := by rw [e11]; exact WT.put w7 t5 (fun q hq => by cases hq; exact t6)
  refine s_aload_n (pc := 13) dX12_init_13 0 rfl rfl ?_
  refine s_iconst (pc := 14) dX12_init_14 (v := nI 3) rfl ?_
  obtain ⟨c15, hf⟩ := p_ckx hf
  obtain ⟨c14, hf⟩ := p_ckx hf
  refine a_newZ (pc := 15) (z := nI 3) (cap := 3) dX12_init_15 c15 (by decide) (by decide) (by decide) c14 (fun w12 e13 => ?_)
  replace hf := p_lx hf e13
  have t16 : p_tp w12.1 a0 15 := (p_nwx e13) _ _ t5
  have t17 : p_tp w12.1 w1.1.1 1 := p_nws e13
  have w18 : WT w12.1 w12.2.2.2 := p_nww e13 w9
  have x19 : p_ext N w12.1 := p_ext.tr x8 (p_nwx e13)
  refine x_putR (pc := 17) dX12_init_17 fl_X12_13 (Or.inr ⟨rfl, rfl⟩) rfl t16 ?_
  refine s_nmP (fun P21 e22 => ?_)
  replace hf := p_lx hf e22
  have w20 : WT w12.1 P21 := by rw [e22]; exact WT.put w18 t16 (fun q hq => by cases hq; exact t17)
  refine s_aload_n (pc := 20) dX12_init_20 0 rfl rfl ?_
  refine s_sipush (pc := 21) dX12_init_21 (v := nI 200) rfl ?_
  obtain ⟨c26, hf⟩ := p_ckx hf
  obtain ⟨c25, hf⟩ := p_ckx hf
  refine a_newI (pc := 24) (z := nI 200) (cap := 200) dX12_init_24 c26 (by decide) (by decide) (by decide) c25 (fun w23 e24 => ?_)
  replace hf := p_lx hf e24
  have t27 : p_tp w23.1 a0 15 := (p_nwx e24) _ _ t16
  have t28 : p_tp w23.1 w12.1.1 0 := p_nws e24
  have w29 : WT w23.1 w23.2.2.2 := p_nww e24 w20
  have x30 : p_ext N w23.1 := p_ext.tr x19 (p_nwx e24)
  refine x_putR (pc := 26) dX12_init_26 fl_X12_17 (Or.inr ⟨rfl, rfl⟩) rfl t27 ?_
  refine s_nmP (fun P32 e33 => ?_)
  replace hf := p_lx hf e33
  have w31 : WT w23.1 P32 := by rw [e33]; exact WT.put w29 t27 (fun q hq => by cases hq; exact t28)
  refine s_aload_n (pc := 29) dX12_init_29 0 rfl rfl ?_
  refine s_sipush (pc := 30) dX12_init_30 (v := nI 200) rfl ?_
  obtain ⟨c37, hf⟩ := p_ckx hf
  obtain ⟨c36, hf⟩ := p_ckx hf
  refine a_newI (pc := 33) (z := nI 200) (cap := 200) dX12_init_33 c37 (by decide) (by decide) (by decide) c36 (fun w34 e35 => ?_)
  replace hf := p_lx hf e35
  have t38 : p_tp w34.1 a0 15 := (p_nwx e35) _ _ t27
  have t39 : p_tp w34.1 w23.1.1 0 := p_nws e35
  have w40 : WT w34.1 w34.2.2.2 := p_nww e35 w31
  have x41 : p_ext N w34.1 := p_ext.tr x30 (p_nwx e35)
  refine x_putR (pc := 35) dX12_init_35 fl_X12_20 (Or.inr ⟨rfl, rfl⟩) rfl t38 ?_
  refine s_nmP (fun P43 e44 => ?_)
  replace hf := p_lx hf e44
  have w42 : WT w34.1 P43 := by rw [e44]; exact WT.put w40 t38 (fun q hq => by cases hq; exact t39)
  refine s_aload_n (pc := 38) dX12_init_38 0 rfl rfl ?_
  refine s_sipush (pc := 39) dX12_init_39 (v := nI 200) rfl ?_
  obtain ⟨c48, hf⟩ := p_ckx hf
  obtain ⟨c47, hf⟩ := p_ckx hf
  refine a_newI (pc := 42) (z := nI 200) (cap := 200) dX12_init_42 c48 (by decide) (by decide) (by decide) c47 (fun w45 e46 => ?_)
  replace hf := p_lx hf e46
  have t49 : p_tp w45.1 a0 15 := (p_nwx e46) _ _ t38
  have t50 : p_tp w45.1 w34.1.1 0 := p_nws e46
  have w51 : WT w45.1 w45.2.2.2 := p_nww e46 w42
  have x52 : p_ext N w45.1 := p_ext.tr x41 (p_nwx e46)
  refine x_putR (pc := 44) dX12_init_44 fl_X12_23 (Or.inr ⟨rfl, rfl⟩) rfl t49 ?_
  refine s_nmP (fun P54 e55 => ?_)
  replace hf := p_lx hf e55
  have w53 : WT w45.1 P54 := by rw [e55]; exact WT.put w51 t49 (fun q hq => by cases hq; exact t50)
  refine s_aload_n (pc := 47) dX12_init_47 0 rfl rfl ?_
  refine s_sipush (pc := 48) dX12_init_48 (v := nI 200) rfl ?_
  obtain ⟨c59, hf⟩ := p_ckx hf
  obtain ⟨c58, hf⟩ := p_ckx hf
  refine a_newI (pc := 51) (z := nI 200) (cap := 200) dX12_init_51 c59 (by decide) (by decide) (by decide) c58 (fun w56 e57 => ?_)
  replace hf := p_lx hf e57
  have t60 : p_tp w56.1 a0 15 := (p_nwx e57) _ _ t49
  have t61 : p_tp w56.1 w45.1.1 0 := p_nws e57
  have w62 : WT w56.1 w56.2.2.2 := p_nww e57 w53
  have x63 : p_ext N w56.1 := p_ext.tr x52 (p_nwx e57)
  refine x_putR (pc := 53) dX12_init_53 fl_X12_26 (Or.inr ⟨rfl, rfl⟩) rfl t60 ?_
  refine s_nmP (fun P65 e66 => ?_)
  replace hf := p_lx hf e66
  have w64 : WT w56.1 P65 := by rw [e66]; exact WT.put w62 t60 (fun q hq => by cases hq; exact t61)
  refine s_aload_n (pc := 56) dX12_init_56 0 rfl rfl ?_
  refine s_sipush (pc := 57) dX12_init_57 (v := nI 200) rfl ?_
  obtain ⟨c70, hf⟩ := p_ckx hf
  obtain ⟨c69, hf⟩ := p_ckx hf
  refine a_newI (pc := 60) (z := nI 200) (cap := 200) dX12_init_60 c70 (by decide) (by decide) (by decide) c69 (fun w67 e68 => ?_)
  replace hf := p_lx hf e68
  have t71 : p_tp w67.1 a0 15 := (p_nwx e68) _ _ t60
  have t72 : p_tp w67.1 w56.1.1 0 := p_nws e68
  have w73 : WT w67.1 w67.2.2.2 := p_nww e68 w64
  have x74 : p_ext N w67.1 := p_ext.tr x63 (p_nwx e68)
  refine x_putR (pc := 62) dX12_init_62 fl_X12_29 (Or.inr ⟨rfl, rfl⟩) rfl t71 ?_
  refine s_nmP (fun P76 e77 => ?_)
  replace hf := p_lx hf e77
  have w75 : WT w67.1 P76 := by rw [e77]; exact WT.put w73 t71 (fun q hq => by cases hq; exact t72)
  refine s_aload_n (pc := 65) dX12_init_65 0 rfl rfl ?_
  refine s_sipush (pc := 66) dX12_init_66 (v := nI 200) rfl ?_
  obtain ⟨c81, hf⟩ := p_ckx hf
  obtain ⟨c80, hf⟩ := p_ckx hf
  refine a_newI (pc := 69) (z := nI 200) (cap := 200) dX12_init_69 c81 (by decide) (by decide) (by decide) c80 (fun w78 e79 => ?_)
  replace hf := p_lx hf e79
  have t82 : p_tp w78.1 a0 15 := (p_nwx e79) _ _ t71
  have t83 : p_tp w78.1 w67.1.1 0 := p_nws e79
  have w84 : WT w78.1 w78.2.2.2 := p_nww e79 w75
  have x85 : p_ext N w78.1 := p_ext.tr x74 (p_nwx e79)
  refine x_putR (pc := 71) dX12_init_71 fl_X12_32 (Or.inr ⟨rfl, rfl⟩) rfl t82 ?_
  refine s_nmP (fun P87 e88 => ?_)
  replace hf := p_lx hf e88
  have w86 : WT w78.1 P87 := by rw [e88]; exact WT.put w84 t82 (fun q hq => by cases hq; exact t83)
  refine s_aload_n (pc := 74) dX12_init_74 0 rfl rfl ?_
  refine s_sipush (pc := 75) dX12_init_75 (v := nI 200) rfl ?_
  obtain ⟨c92, hf⟩ := p_ckx hf
  obtain ⟨c91, hf⟩ := p_ckx hf
  refine a_newI (pc := 78) (z := nI 200) (cap := 200) dX12_init_78 c92 (by decide) (by decide) (by decide) c91 (fun w89 e90 => ?_)
  replace hf := p_lx hf e90
  have t93 : p_tp w89.1 a0 15 := (p_nwx e90) _ _ t82
  have t94 : p_tp w89.1 w78.1.1 0 := p_nws e90
  have w95 : WT w89.1 w89.2.2.2 := p_nww e90 w86
  have x96 : p_ext N w89.1 := p_ext.tr x85 (p_nwx e90)
  refine x_putR (pc := 80) dX12_init_80 fl_X12_35 (Or.inr ⟨rfl, rfl⟩) rfl t93 ?_
  refine s_nmP (fun P98 e99 => ?_)
  replace hf := p_lx hf e99
  have w97 : WT w89.1 P98 := by rw [e99]; exact WT.put w95 t93 (fun q hq => by cases hq; exact t94)
  refine s_aload_n (pc := 83) dX12_init_83 0 rfl rfl ?_
  refine s_sipush (pc := 84) dX12_init_84 (v := nI 2646) rfl ?_
  obtain ⟨c103, hf⟩ := p_ckx hf
  obtain ⟨c102, hf⟩ := p_ckx hf
  refine a_newI (pc := 87) (z := nI 2646) (cap := 2646) dX12_init_87 c103 (by decide) (by decide) (by decide) c102 (fun w100 e101 => ?_)
  replace hf := p_lx hf e101
  have t104 : p_tp w100.1 a0 15 := (p_nwx e101) _ _ t93
  have t105 : p_tp w100.1 w89.1.1 0 := p_nws e101
  have w106 : WT w100.1 w100.2.2.2 := p_nww e101 w97
  have x107 : p_ext N w100.1 := p_ext.tr x96 (p_nwx e101)
  refine x_putR (pc := 89) dX12_init_89 fl_X12_38 (Or.inr ⟨rfl, rfl⟩) rfl t104 ?_
  refine s_nmP (fun P109 e110 => ?_)
  replace hf := p_lx hf e110
  have w108 : WT w100.1 P109 := by rw [e110]; exact WT.put w106 t104 (fun q hq => by cases hq; exact t105)
  refine s_aload_n (pc := 92) dX12_init_92 0 rfl rfl ?_
  refine s_bipush (pc := 93) dX12_init_93 (v := nI 60) rfl ?_
  obtain ⟨c114, hf⟩ := p_ckx hf
  obtain ⟨c113, hf⟩ := p_ckx hf
  refine a_newI (pc := 95) (z := nI 60) (cap := 60) dX12_init_95 c114 (by decide) (by decide) (by decide) c113 (fun w111 e112 => ?_)
  replace hf := p_lx hf e112
  have t115 : p_tp w111.1 a0 15 := (p_nwx e112) _ _ t104
  have t116 : p_tp w111.1 w100.1.1 0 := p_nws e112
  have w117 : WT w111.1 w111.2.2.2 := p_nww e112 w108
  have x118 : p_ext N w111.1 := p_ext.tr x107 (p_nwx e112)
  refine x_putR (pc := 97) dX12_init_97 fl_X12_41 (Or.inr ⟨rfl, rfl⟩) rfl t115 ?_
  refine s_nmP (fun P120 e121 => ?_)
  replace hf := p_lx hf e121
  have w119 : WT w111.1 P120 := by rw [e121]; exact WT.put w117 t115 (fun q hq => by cases hq; exact t116)
  refine s_aload_n (pc := 100) dX12_init_100 0 rfl rfl ?_
  refine s_bipush (pc := 101) dX12_init_101 (v := nI 8) rfl ?_
  obtain ⟨c125, hf⟩ := p_ckx hf
  obtain ⟨c124, hf⟩ := p_ckx hf
  refine a_newI (pc := 103) (z := nI 8) (cap := 8) dX12_init_103 c125 (by decide) (by decide) (by decide) c124 (fun w122 e123 => ?_)
  replace hf := p_lx hf e123
  have t126 : p_tp w122.1 a0 15 := (p_nwx e123) _ _ t115
  have t127 : p_tp w122.1 w111.1.1 0 := p_nws e123
  have w128 : WT w122.1 w122.2.2.2 := p_nww e123 w119
  have x129 : p_ext N w122.1 := p_ext.tr x118 (p_nwx e123)
  refine x_putR (pc := 105) dX12_init_105 fl_X12_44 (Or.inr ⟨rfl, rfl⟩) rfl t126 ?_
  refine s_nmP (fun P131 e132 => ?_)
  replace hf := p_lx hf e132
  have w130 : WT w122.1 P131 := by rw [e132]; exact WT.put w128 t126 (fun q hq => by cases hq; exact t127)
  refine s_aload_n (pc := 108) dX12_init_108 0 rfl rfl ?_
  refine s_bipush (pc := 109) dX12_init_109 (v := nI 6) rfl ?_
  obtain ⟨c136, hf⟩ := p_ckx hf
  obtain ⟨c135, hf⟩ := p_ckx hf
  refine a_newI (pc := 111) (z := nI 6) (cap := 6) dX12_init_111 c136 (by decide) (by decide) (by decide) c135 (fun w133 e134 => ?_)
  replace hf := p_lx hf e134
  have t137 : p_tp w133.1 a0 15 := (p_nwx e134) _ _ t126
  have t138 : p_tp w133.1 w122.1.1 0 := p_nws e134
  have w139 : WT w133.1 w133.2.2.2 := p_nww e134 w130
  have x140 : p_ext N w133.1 := p_ext.tr x129 (p_nwx e134)
  refine x_putR (pc := 113) dX12_init_113 fl_X12_47 (Or.inr ⟨rfl, rfl⟩) rfl t137 ?_
  refine s_nmP (fun P142 e143 => ?_)
  replace hf := p_lx hf e143
  have w141 : WT w133.1 P142 := by rw [e143]; exact WT.put w139 t137 (fun q hq => by cases hq; exact t138)
  refine s_aload_n (pc := 116) dX12_init_116 0 rfl rfl ?_
  refine s_bipush (pc := 117) dX12_init_117 (v := nI 36) rfl ?_
  obtain ⟨c147, hf⟩ := p_ckx hf
  obtain ⟨c146, hf⟩ := p_ckx hf
  refine a_newZ (pc := 119) (z := nI 36) (cap := 36) dX12_init_119 c147 (by decide) (by decide) (by decide) c146 (fun w144 e145 => ?_)
  replace hf := p_lx hf e145
  have t148 : p_tp w144.1 a0 15 := (p_nwx e145) _ _ t137
  have t149 : p_tp w144.1 w133.1.1 1 := p_nws e145
  have w150 : WT w144.1 w144.2.2.2 := p_nww e145 w141
  have x151 : p_ext N w144.1 := p_ext.tr x140 (p_nwx e145)
  refine x_putR (pc := 121) dX12_init_121 fl_X12_50 (Or.inr ⟨rfl, rfl⟩) rfl t148 ?_
  refine s_nmP (fun P153 e154 => ?_)
  replace hf := p_lx hf e154
  have w152 : WT w144.1 P153 := by rw [e154]; exact WT.put w150 t148 (fun q hq => by cases hq; exact t149)
  refine s_aload_n (pc := 124) dX12_init_124 0 rfl rfl ?_
  refine s_sipush (pc := 125) dX12_init_125 (v := nI 390) rfl ?_
  obtain ⟨c158, hf⟩ := p_ckx hf
  obtain ⟨c157, hf⟩ := p_ckx hf
  refine a_newI (pc := 128) (z := nI 390) (cap := 390) dX12_init_128 c158 (by decide) (by decide) (by decide) c157 (fun w155 e156 => ?_)
  replace hf := p_lx hf e156
  have t159 : p_tp w155.1 a0 15 := (p_nwx e156) _ _ t148
  have t160 : p_tp w155.1 w144.1.1 0 := p_nws e156
  have w161 : WT w155.1 w155.2.2.2 := p_nww e156 w152
  have x162 : p_ext N w155.1 := p_ext.tr x151 (p_nwx e156)
  refine x_putR (pc := 130) dX12_init_130 fl_X12_53 (Or.inr ⟨rfl, rfl⟩) rfl t159 ?_
  refine s_nmP (fun P164 e165 => ?_)
  replace hf := p_lx hf e165
  have w163 : WT w155.1 P164 := by rw [e165]; exact WT.put w161 t159 (fun q hq => by cases hq; exact t160)
  refine s_aload_n (pc := 133) dX12_init_133 0 rfl rfl ?_
  refine s_iconst (pc := 134) dX12_init_134 (v := nI 5) rfl ?_
  obtain ⟨c169, hf⟩ := p_ckx hf
  obtain ⟨c168, hf⟩ := p_ckx hf
  refine a_newI (pc := 135) (z := nI 5) (cap := 5) dX12_init_135 c169 (by decide) (by decide) (by decide) c168 (fun w166 e167 => ?_)
  replace hf := p_lx hf e167
  have t170 : p_tp w166.1 a0 15 := (p_nwx e167) _ _ t159
  have t171 : p_tp w166.1 w155.1.1 0 := p_nws e167
  have w172 : WT w166.1 w166.2.2.2 := p_nww e167 w163
  have x173 : p_ext N w166.1 := p_ext.tr x162 (p_nwx e167)
  refine x_putR (pc := 137) dX12_init_137 fl_X12_56 (Or.inr ⟨rfl, rfl⟩) rfl t170 ?_
  refine s_nmP (fun P175 e176 => ?_)
  replace hf := p_lx hf e176
  have w174 : WT w166.1 P175 := by rw [e176]; exact WT.put w172 t170 (fun q hq => by cases hq; exact t171)
  refine s_aload_n (pc := 140) dX12_init_140 0 rfl rfl ?_
  refine s_sipush (pc := 141) dX12_init_141 (v := nI 320) rfl ?_
  obtain ⟨c180, hf⟩ := p_ckx hf
  obtain ⟨c179, hf⟩ := p_ckx hf
  refine a_newI (pc := 144) (z := nI 320) (cap := 320) dX12_init_144 c180 (by decide) (by decide) (by decide) c179 (fun w177 e178 => ?_)
  replace hf := p_lx hf e178
  have t181 : p_tp w177.1 a0 15 := (p_nwx e178) _ _ t170
  have t182 : p_tp w177.1 w166.1.1 0 := p_nws e178
  have w183 : WT w177.1 w177.2.2.2 := p_nww e178 w174
  have x184 : p_ext N w177.1 := p_ext.tr x173 (p_nwx e178)
  refine x_putR (pc := 146) dX12_init_146 fl_X12_59 (Or.inr ⟨rfl, rfl⟩) rfl t181 ?_
  refine s_nmP (fun P186 e187 => ?_)
  replace hf := p_lx hf e187
  have w185 : WT w177.1 P186 := by rw [e187]; exact WT.put w183 t181 (fun q hq => by cases hq; exact t182)
  refine s_aload_n (pc := 149) dX12_init_149 0 rfl rfl ?_
  refine s_iconst (pc := 150) dX12_init_150 (v := nI 4) rfl ?_
  obtain ⟨c191, hf⟩ := p_ckx hf
  obtain ⟨c190, hf⟩ := p_ckx hf
  refine a_newI (pc := 151) (z := nI 4) (cap := 4) dX12_init_151 c191 (by decide) (by decide) (by decide) c190 (fun w188 e189 => ?_)
  replace hf := p_lx hf e189
  have t192 : p_tp w188.1 a0 15 := (p_nwx e189) _ _ t181
  have t193 : p_tp w188.1 w177.1.1 0 := p_nws e189
  have w194 : WT w188.1 w188.2.2.2 := p_nww e189 w185
  have x195 : p_ext N w188.1 := p_ext.tr x184 (p_nwx e189)
  refine x_putR (pc := 153) dX12_init_153 fl_X12_62 (Or.inr ⟨rfl, rfl⟩) rfl t192 ?_
  refine s_nmP (fun P197 e198 => ?_)
  replace hf := p_lx hf e198
  have w196 : WT w188.1 P197 := by rw [e198]; exact WT.put w194 t192 (fun q hq => by cases hq; exact t193)
  refine s_aload_n (pc := 156) dX12_init_156 0 rfl rfl ?_
  obtain ⟨q199, h200, hf⟩ := p_bd hf
  have t201 : p_tp w188.1 q199 0 := WT.get w196 t192 h200
  refine x_getR (pc := 157) dX12_init_157 fl_X12_7 rfl t192 h200 ?_
  refine s_iconst (pc := 160) dX12_init_160 (v := nI 5) rfl ?_
  refine s_iconst (pc := 161) dX12_init_161 (v := (-1)) rfl ?_
  obtain ⟨c202, hf⟩ := p_ckx hf
  refine x_iast (pc := 162) dX12_init_162 t201 c202 ?_
  refine s_nmI (fun I203 e204 => ?_)
  replace hf := p_lx hf e204
  refine s_aload_n (pc := 163) dX12_init_163 0 rfl rfl ?_
  obtain ⟨q205, h206, hf⟩ := p_bd hf
  have t207 : p_tp w188.1 q205 0 := WT.get w196 t192 h206
  refine x_getR (pc := 164) dX12_init_164 fl_X12_7 rfl t192 h206 ?_
  refine s_bipush (pc := 167) dX12_init_167 (v := nI 10) rfl ?_
  refine s_iconst (pc := 169) dX12_init_169 (v := (-1)) rfl ?_
  obtain ⟨c208, hf⟩ := p_ckx hf
  refine x_iast (pc := 170) dX12_init_170 t207 c208 ?_
  refine s_nmI (fun I209 e210 => ?_)
  replace hf := p_lx hf e210
  refine s_aload_n (pc := 171) dX12_init_171 0 rfl rfl ?_
  obtain ⟨q211, h212, hf⟩ := p_bd hf
  have t213 : p_tp w188.1 q211 0 := WT.get w196 t192 h212
  refine x_getR (pc := 172) dX12_init_172 fl_X12_7 rfl t192 h212 ?_
  refine s_bipush (pc := 175) dX12_init_175 (v := nI 11) rfl ?_
  refine s_iconst (pc := 177) dX12_init_177 (v := nI 1) rfl ?_
  obtain ⟨c214, hf⟩ := p_ckx hf
  refine x_iast (pc := 178) dX12_init_178 t213 c214 ?_
  refine s_nmI (fun I215 e216 => ?_)
  replace hf := p_lx hf e216
  refine s_aload_n (pc := 179) dX12_init_179 0 rfl rfl ?_
  obtain ⟨q217, h218, hf⟩ := p_bd hf
  have t219 : p_tp w188.1 q217 0 := WT.get w196 t192 h218
  refine x_getR (pc := 180) dX12_init_180 fl_X12_7 rfl t192 h218 ?_
  refine s_bipush (pc := 183) dX12_init_183 (v := nI 13) rfl ?_
  refine s_iconst (pc := 185) dX12_init_185 (v := nI 1) rfl ?_
  obtain ⟨c220, hf⟩ := p_ckx hf
  refine x_iast (pc := 186) dX12_init_186 t219 c220 ?_
  refine s_nmI (fun I221 e222 => ?_)
  replace hf := p_lx hf e222
  refine s_aload_n (pc := 187) dX12_init_187 0 rfl rfl ?_
  obtain ⟨q223, h224, hf⟩ := p_bd hf
  have t225 : p_tp w188.1 q223 0 := WT.get w196 t192 h224
  refine x_getR (pc := 188) dX12_init_188 fl_X12_7 rfl t192 h224 ?_
  refine s_bipush (pc := 191) dX12_init_191 (v := nI 14) rfl ?_
  refine s_bipush (pc := 193) dX12_init_193 (v := nI 100) rfl ?_
  obtain ⟨c226, hf⟩ := p_ckx hf
  refine x_iast (pc := 195) dX12_init_195 t225 c226 ?_
  refine s_nmI (fun I227 e228 => ?_)
  replace hf := p_lx hf e228
  refine s_aload_n (pc := 196) dX12_init_196 0 rfl rfl ?_
  obtain ⟨q229, h230, hf⟩ := p_bd hf
  have t231 : p_tp w188.1 q229 0 := WT.get w196 t192 h230
  refine x_getR (pc := 197) dX12_init_197 fl_X12_7 rfl t192 h230 ?_
  refine s_bipush (pc := 200) dX12_init_200 (v := nI 15) rfl ?_
  refine s_bipush (pc := 202) dX12_init_202 (v := nI 10) rfl ?_
  obtain ⟨c232, hf⟩ := p_ckx hf
  refine x_iast (pc := 204) dX12_init_204 t231 c232 ?_
  refine s_nmI (fun I233 e234 => ?_)
  replace hf := p_lx hf e234
  refine s_aload_n (pc := 205) dX12_init_205 0 rfl rfl ?_
  obtain ⟨q235, h236, hf⟩ := p_bd hf
  have t237 : p_tp w188.1 q235 0 := WT.get w196 t192 h236
  refine x_getR (pc := 206) dX12_init_206 fl_X12_7 rfl t192 h236 ?_
  refine s_bipush (pc := 209) dX12_init_209 (v := nI 16) rfl ?_
  refine s_bipush (pc := 211) dX12_init_211 (v := nI 10) rfl ?_
  obtain ⟨c238, hf⟩ := p_ckx hf
  refine x_iast (pc := 213) dX12_init_213 t237 c238 ?_
  refine s_nmI (fun I239 e240 => ?_)
  replace hf := p_lx hf e240
  refine s_aload_n (pc := 214) dX12_init_214 0 rfl rfl ?_
  obtain ⟨q241, h242, hf⟩ := p_bd hf
  have t243 : p_tp w188.1 q241 0 := WT.get w196 t192 h242
  refine x_getR (pc := 215) dX12_init_215 fl_X12_7 rfl t192 h242 ?_
  refine s_bipush (pc := 218) dX12_init_218 (v := nI 17) rfl ?_
  refine s_iconst (pc := 220) dX12_init_220 (v := nI 1) rfl ?_
  obtain ⟨c244, hf⟩ := p_ckx hf
  refine x_iast (pc := 221) dX12_init_221 t243 c244 ?_
  refine s_nmI (fun I245 e246 => ?_)
  replace hf := p_lx hf e246
  refine s_iconst (pc := 222) dX12_init_222 (v := nI 0) rfl ?_
  refine s_istore_n (pc := 223) (lo' := [(1, .int (nI 0)), (0, .ref a0)]) dX12_init_223 rfl (Nat.le_of_ble_eq_true rfl) rfl ?_
  refine s_iload_n (pc := 224) dX12_init_224 0 rfl rfl ?_
  refine s_iconst (pc := 225) dX12_init_225 (v := nI 5) rfl ?_
  refine s_icmp_ge (pc := 226) (tgt := 246) dX12_init_226 rfl (fun hc => absurd hc (by decide)) (fun _ => ?_)
  refine s_aload_n (pc := 229) dX12_init_229 1 rfl rfl ?_
  obtain ⟨q247, h248, hf⟩ := p_bd hf
  have t249 : p_tp w188.1 q247 0 := WT.get w196 t192 h248
  refine x_getR (pc := 230) dX12_init_230 fl_X12_7 rfl t192 h248 ?_
  refine s_bipush (pc := 233) dX12_init_233 (v := nI 18) rfl ?_
  refine s_iload_n (pc := 235) dX12_init_235 0 rfl rfl ?_
  refine s_iadd (pc := 236) dX12_init_236 ?_
  refine s_bipush (pc := 237) dX12_init_237 (v := nI 50) rfl ?_
  obtain ⟨c250, hf⟩ := p_ckx hf
  refine x_iast (pc := 239) dX12_init_239 t249 c250 ?_
  refine s_nmI (fun I251 e252 => ?_)
  replace hf := p_lx hf e252
  refine s_iinc (pc := 240) (lo' := [(1, .int (nI 1)), (0, .ref a0)]) dX12_init_240 0 rfl (v := nI 1) rfl (Nat.le_of_ble_eq_true rfl) rfl ?_
  refine s_goto (pc := 243) (tgt := 224) dX12_init_243 rfl ?_
  refine s_iload_n (pc := 224) dX12_init_224 0 rfl rfl ?_
  refine s_iconst (pc := 225) dX12_init_225 (v := nI 5) rfl ?_
  refine s_icmp_ge (pc := 226) (tgt := 246) dX12_init_226 rfl (fun hc => absurd hc (by decide)) (fun _ => ?_)
  refine s_aload_n (pc := 229) dX12_init_229 1 rfl rfl ?_
  obtain ⟨q253, h254, hf⟩ := p_bd hf
  have t255 : p_tp w188.1 q253 0 := WT.get w196 t192 h254
  refine x_getR (pc := 230) dX12_init_230 fl_X12_7 rfl t192 h254 ?_
  refine s_bipush (pc := 233) dX12_init_233 (v := nI 18) rfl ?_
  refine s_iload_n (pc := 235) dX12_init_235 0 rfl rfl ?_
  refine s_iadd (pc := 236) dX12_init_236 ?_
  refine s_bipush (pc := 237) dX12_init_237 (v := nI 50) rfl ?_
  obtain ⟨c256, hf⟩ := p_ckx hf
  refine x_iast (pc := 239) dX12_init_239 t255 c256 ?_
  refine s_nmI (fun I257 e258 => ?_)
  replace hf := p_lx hf e258
  refine s_iinc (pc := 240) (lo' := [(1, .int (nI 2)), (0, .ref a0)]) dX12_init_240 0 rfl (v := nI 2) rfl (Nat.le_of_ble_eq_true rfl) rfl ?_
  refine s_goto (pc := 243) (tgt := 224) dX12_init_243 rfl ?_
  refine s_iload_n (pc := 224) dX12_init_224 0 rfl rfl ?_
  refine s_iconst (pc := 225) dX12_init_225 (v := nI 5) rfl ?_
  refine s_icmp_ge (pc := 226) (tgt := 246) dX12_init_226 rfl (fun hc => absurd hc (by decide)) (fun _ => ?_)
  refine s_aload_n (pc := 229) dX12_init_229 1 rfl rfl ?_
  obtain ⟨q259, h260, hf⟩ := p_bd hf
  have t261 : p_tp w188.1 q259 0 := WT.get w196 t192 h260
  refine x_getR (pc := 230) dX12_init_230 fl_X12_7 rfl t192 h260 ?_
  refine s_bipush (pc := 233) dX12_init_233 (v := nI 18) rfl ?_
  refine s_iload_n (pc := 235) dX12_init_235 0 rfl rfl ?_
  refine s_iadd (pc := 236) dX12_init_236 ?_
  refine s_bipush (pc := 237) dX12_init_237 (v := nI 50) rfl ?_
  obtain ⟨c262, hf⟩ := p_ckx hf
  refine x_iast (pc := 239) dX12_init_239 t261 c262 ?_
  refine s_nmI (fun I263 e264 => ?_)
  replace hf := p_lx hf e264
  refine s_iinc (pc := 240) (lo' := [(1, .int (nI 3)), (0, .ref a0)]) dX12_init_240 0 rfl (v := nI 3) rfl (Nat.le_of_ble_eq_true rfl) rfl ?_
  refine s_goto (pc := 243) (tgt := 224) dX12_init_243 rfl ?_
  refine s_iload_n (pc := 224) dX12_init_224 0 rfl rfl ?_
  refine s_iconst (pc := 225) dX12_init_225 (v := nI 5) rfl ?_
  refine s_icmp_ge (pc := 226) (tgt := 246) dX12_init_226 rfl (fun hc => absurd hc (by decide)) (fun _ => ?_)
  refine s_aload_n (pc := 229) dX12_init_229 1 rfl rfl ?_
  obtain ⟨q265, h266, hf⟩ := p_bd hf
  have t267 : p_tp w188.1 q265 0 := WT.get w196 t192 h266
  refine x_getR (pc := 230) dX12_init_230 fl_X12_7 rfl t192 h266 ?_
  refine s_bipush (pc := 233) dX12_init_233 (v := nI 18) rfl ?_
  refine s_iload_n (pc := 235) dX12_init_235 0 rfl rfl ?_
  refine s_iadd (pc := 236) dX12_init_236 ?_
  refine s_bipush (pc := 237) dX12_init_237 (v := nI 50) rfl ?_
  obtain ⟨c268, hf⟩ := p_ckx hf
  refine x_iast (pc := 239) dX12_init_239 t267 c268 ?_
  refine s_nmI (fun I269 e270 => ?_)
  replace hf := p_lx hf e270
  refine s_iinc (pc := 240) (lo' := [(1, .int (nI 4)), (0, .ref a0)]) dX12_init_240 0 rfl (v := nI 4) rfl (Nat.le_of_ble_eq_true rfl) rfl ?_
  refine s_goto (pc := 243) (tgt := 224) dX12_init_243 rfl ?_
  refine s_iload_n (pc := 224) dX12_init_224 0 rfl rfl ?_
  refine s_iconst (pc := 225) dX12_init_225 (v := nI 5) rfl ?_
  refine s_icmp_ge (pc := 226) (tgt := 246) dX12_init_226 rfl (fun hc => absurd hc (by decide)) (fun _ => ?_)
  refine s_aload_n (pc := 229) dX12_init_229 1 rfl rfl ?_
  obtain ⟨q271, h272, hf⟩ := p_bd hf
  have t273 : p_tp w188.1 q271 0 := WT.get w196 t192 h272
  refine x_getR (pc := 230) dX12_init_230 fl_X12_7 rfl t192 h272 ?_
  refine s_bipush (pc := 233) dX12_init_233 (v := nI 18) rfl ?_
  refine s_iload_n (pc := 235) dX12_init_235 0 rfl rfl ?_
  refine s_iadd (pc := 236) dX12_init_236 ?_
  refine s_bipush (pc := 237) dX12_init_237 (v := nI 50) rfl ?_
  obtain ⟨c274, hf⟩ := p_ckx hf
  refine x_iast (pc := 239) dX12_init_239 t273 c274 ?_
  refine s_nmI (fun I275 e276 => ?_)
  replace hf := p_lx hf e276
  refine s_iinc (pc := 240) (lo' := [(1, .int (nI 5)), (0, .ref a0)]) dX12_init_240 0 rfl (v := nI 5) rfl (Nat.le_of_ble_eq_true rfl) rfl ?_
  refine s_goto (pc := 243) (tgt := 224) dX12_init_243 rfl ?_
  refine s_iload_n (pc := 224) dX12_init_224 0 rfl rfl ?_
  refine s_iconst (pc := 225) dX12_init_225 (v := nI 5) rfl ?_
  refine s_icmp_ge (pc := 226) (tgt := 246) dX12_init_226 rfl (fun _ => ?_) (fun hc => absurd (by decide) hc)
  refine s_aload_n (pc := 246) dX12_init_246 1 rfl rfl ?_
  obtain ⟨q277, h278, hf⟩ := p_bd hf
  refine z_callV0 (pc := 247) dX12_init_247 (c_X12_forgets (p_dd hd (by decide)) w196 t192 h278) mk_X12_forgets mv_X12_forgets ml_X12_65 rfl rfl (Nat.le_of_ble_eq_true rfl) t192 rfl (p_d1 hd (by decide)) (Nat.le_of_ble_eq_true rfl) (by decide) (by decide) ?_
  cases hf
  refine s_widen (c2 := 18) (s2 := 9518) (by decide) (by decide) ?_
  exact s_return (pc := 250) dX12_init_250 rfl ⟨rfl, rfl, rfl, rfl, rfl⟩
theorem g_X12_init {n : Nat} {N : pN} {I : pI} {L : pL} {P : pR} {a0 : Nat} {qq : pN × pI × pL × pR} (hW : WT N P) (ha0 : p_tp N a0 15) (hf : f_X12_init n N I L P a0 = some qq) : WT qq.1 qq.2.2.2 ∧ p_ext N qq.1 := by
  unfold f_X12_init at hf
  obtain ⟨c4, hf⟩ := p_ckx hf
  obtain ⟨c3, hf⟩ := p_ckx hf
  obtain ⟨w1, e2, hf⟩ := p_lx2 hf
  have t5 : p_tp w1.1 a0 15 := (p_nwx e2) _ _ ha0
  have t6 : p_tp w1.1 N.1 0 := p_nws e2
  have w7 : WT w1.1 w1.2.2.2 := p_nww e2 hW
  have x8 : p_ext N w1.1 := p_ext.tr p_ext.rf (p_nwx e2)
  obtain ⟨P10, e11, hf⟩ := p_lx2 hf
  have w9 : WT w1.1 P10 := by rw [e11]; exact WT.put w7 t5 (fun q hq => by cases hq; exact t6)
  obtain ⟨c15, hf⟩ := p_ckx hf
  obtain ⟨c14, hf⟩ := p_ckx hf
  obtain ⟨w12, e13, hf⟩ := p_lx2 hf
  have t16 : p_tp w12.1 a0 15 := (p_nwx e13) _ _ t5
  have t17 : p_tp w12.1 w1.1.1 1 := p_nws e13
  have w18 : WT w12.1 w12.2.2.2 := p_nww e13 w9
  have x19 : p_ext N w12.1 := p_ext.tr x8 (p_nwx e13)
  obtain ⟨P21, e22, hf⟩ := p_lx2 hf
  have w20 : WT w12.1 P21 := by rw [e22]; exact WT.put w18 t16 (fun q hq => by cases hq; exact t17)
  obtain ⟨c26, hf⟩ := p_ckx hf
  obtain ⟨c25, hf⟩ := p_ckx hf
  obtain ⟨w23, e24, hf⟩ := p_lx2 hf
  have t27 : p_tp w23.1 a0 15 := (p_nwx e24) _ _ t16
  have t28 : p_tp w23.1 w12.1.1 0 := p_nws e24
  have w29 : WT w23.1 w23.2.2.2 := p_nww e24 w20
  have x30 : p_ext N w23.1 := p_ext.tr x19 (p_nwx e24)
  obtain ⟨P32, e33, hf⟩ := p_lx2 hf
  have w31 : WT w23.1 P32 := by rw [e33]; exact WT.put w29 t27 (fun q hq => by cases hq; exact t28)
  obtain ⟨c37, hf⟩ := p_ckx hf
  obtain ⟨c36, hf⟩ := p_ckx hf
  obtain ⟨w34, e35, hf⟩ := p_lx2 hf
  have t38 : p_tp w34.1 a0 15 := (p_nwx e35) _ _ t27
  have t39 : p_tp w34.1 w23.1.1 0 := p_nws e35
  have w40 : WT w34.1 w34.2.2.2 := p_nww e35 w31
  have x41 : p_ext N w34.1 := p_ext.tr x30 (p_nwx e35)
  obtain ⟨P43, e44, hf⟩ := p_lx2 hf
  have w42 : WT w34.1 P43 := by rw [e44]; exact WT.put w40 t38 (fun q hq => by cases hq; exact t39)
  obtain ⟨c48, hf⟩ := p_ckx hf
  obtain ⟨c47, hf⟩ := p_ckx hf
  obtain ⟨w45, e46, hf⟩ := p_lx2 hf
  have t49 : p_tp w45.1 a0 15 := (p_nwx e46) _ _ t38
  have t50 : p_tp w45.1 w34.1.1 0 := p_nws e46
  have w51 : WT w45.1 w45.2.2.2 := p_nww e46 w42
  have x52 : p_ext N w45.1 := p_ext.tr x41 (p_nwx e46)
  obtain ⟨P54, e55, hf⟩ := p_lx2 hf
  have w53 : WT w45.1 P54 := by rw [e55]; exact WT.put w51 t49 (fun q hq => by cases hq; exact t50)
  obtain ⟨c59, hf⟩ := p_ckx hf
  obtain ⟨c58, hf⟩ := p_ckx hf
  obtain ⟨w56, e57, hf⟩ := p_lx2 hf
  have t60 : p_tp w56.1 a0 15 := (p_nwx e57) _ _ t49
  have t61 : p_tp w56.1 w45.1.1 0 := p_nws e57
  have w62 : WT w56.1 w56.2.2.2 := p_nww e57 w53
  have x63 : p_ext N w56.1 := p_ext.tr x52 (p_nwx e57)
  obtain ⟨P65, e66, hf⟩ := p_lx2 hf
  have w64 : WT w56.1 P65 := by rw [e66]; exact WT.put w62 t60 (fun q hq => by cases hq; exact t61)
  obtain ⟨c70, hf⟩ := p_ckx hf
  obtain ⟨c69, hf⟩ := p_ckx hf
  obtain ⟨w67, e68, hf⟩ := p_lx2 hf
  have t71 : p_tp w67.1 a0 15 := (p_nwx e68) _ _ t60
  have t72 : p_tp w67.1 w56.1.1 0 := p_nws e68
  have w73 : WT w67.1 w67.2.2.2 := p_nww e68 w64
  have x74 : p_ext N w67.1 := p_ext.tr x63 (p_nwx e68)
  obtain ⟨P76, e77, hf⟩ := p_lx2 hf
  have w75 : WT w67.1 P76 := by rw [e77]; exact WT.put w73 t71 (fun q hq => by cases hq; exact t72)
  obtain ⟨c81, hf⟩ := p_ckx hf
  obtain ⟨c80, hf⟩ := p_ckx hf
  obtain ⟨w78, e79, hf⟩ := p_lx2 hf
  have t82 : p_tp w78.1 a0 15 := (p_nwx e79) _ _ t71
  have t83 : p_tp w78.1 w67.1.1 0 := p_nws e79
  have w84 : WT w78.1 w78.2.2.2 := p_nww e79 w75
  have x85 : p_ext N w78.1 := p_ext.tr x74 (p_nwx e79)
  obtain ⟨P87, e88, hf⟩ := p_lx2 hf
  have w86 : WT w78.1 P87 := by rw [e88]; exact WT.put w84 t82 (fun q hq => by cases hq; exact t83)
  obtain ⟨c92, hf⟩ := p_ckx hf
  obtain ⟨c91, hf⟩ := p_ckx hf
  obtain ⟨w89, e90, hf⟩ := p_lx2 hf
  have t93 : p_tp w89.1 a0 15 := (p_nwx e90) _ _ t82
  have t94 : p_tp w89.1 w78.1.1 0 := p_nws e90
  have w95 : WT w89.1 w89.2.2.2 := p_nww e90 w86
  have x96 : p_ext N w89.1 := p_ext.tr x85 (p_nwx e90)
  obtain ⟨P98, e99, hf⟩ := p_lx2 hf
  have w97 : WT w89.1 P98 := by rw [e99]; exact WT.put w95 t93 (fun q hq => by cases hq; exact t94)
  obtain ⟨c103, hf⟩ := p_ckx hf
  obtain ⟨c102, hf⟩ := p_ckx hf
  obtain ⟨w100, e101, hf⟩ := p_lx2 hf
  have t104 : p_tp w100.1 a0 15 := (p_nwx e101) _ _ t93
  have t105 : p_tp w100.1 w89.1.1 0 := p_nws e101
  have w106 : WT w100.1 w100.2.2.2 := p_nww e101 w97
  have x107 : p_ext N w100.1 := p_ext.tr x96 (p_nwx e101)
  obtain ⟨P109, e110, hf⟩ := p_lx2 hf
  have w108 : WT w100.1 P109 := by rw [e110]; exact WT.put w106 t104 (fun q hq => by cases hq; exact t105)
  obtain ⟨c114, hf⟩ := p_ckx hf
  obtain ⟨c113, hf⟩ := p_ckx hf
  obtain ⟨w111, e112, hf⟩ := p_lx2 hf
  have t115 : p_tp w111.1 a0 15 := (p_nwx e112) _ _ t104
  have t116 : p_tp w111.1 w100.1.1 0 := p_nws e112
  have w117 : WT w111.1 w111.2.2.2 := p_nww e112 w108
  have x118 : p_ext N w111.1 := p_ext.tr x107 (p_nwx e112)
  obtain ⟨P120, e121, hf⟩ := p_lx2 hf
  have w119 : WT w111.1 P120 := by rw [e121]; exact WT.put w117 t115 (fun q hq => by cases hq; exact t116)
  obtain ⟨c125, hf⟩ := p_ckx hf
  obtain ⟨c124, hf⟩ := p_ckx hf
  obtain ⟨w122, e123, hf⟩ := p_lx2 hf
  have t126 : p_tp w122.1 a0 15 := (p_nwx e123) _ _ t115
  have t127 : p_tp w122.1 w111.1.1 0 := p_nws e123
  have w128 : WT w122.1 w122.2.2.2 := p_nww e123 w119
  have x129 : p_ext N w122.1 := p_ext.tr x118 (p_nwx e123)
  obtain ⟨P131, e132, hf⟩ := p_lx2 hf
  have w130 : WT w122.1 P131 := by rw [e132]; exact WT.put w128 t126 (fun q hq => by cases hq; exact t127)
  obtain ⟨c136, hf⟩ := p_ckx hf
  obtain ⟨c135, hf⟩ := p_ckx hf
  obtain ⟨w133, e134, hf⟩ := p_lx2 hf
  have t137 : p_tp w133.1 a0 15 := (p_nwx e134) _ _ t126
  have t138 : p_tp w133.1 w122.1.1 0 := p_nws e134
  have w139 : WT w133.1 w133.2.2.2 := p_nww e134 w130
  have x140 : p_ext N w133.1 := p_ext.tr x129 (p_nwx e134)
  obtain ⟨P142, e143, hf⟩ := p_lx2 hf
  have w141 : WT w133.1 P142 := by rw [e143]; exact WT.put w139 t137 (fun q hq => by cases hq; exact t138)
  obtain ⟨c147, hf⟩ := p_ckx hf
  obtain ⟨c146, hf⟩ := p_ckx hf
  obtain ⟨w144, e145, hf⟩ := p_lx2 hf
  have t148 : p_tp w144.1 a0 15 := (p_nwx e145) _ _ t137
  have t149 : p_tp w144.1 w133.1.1 1 := p_nws e145
  have w150 : WT w144.1 w144.2.2.2 := p_nww e145 w141
  have x151 : p_ext N w144.1 := p_ext.tr x140 (p_nwx e145)
  obtain ⟨P153, e154, hf⟩ := p_lx2 hf
  have w152 : WT w144.1 P153 := by rw [e154]; exact WT.put w150 t148 (fun q hq => by cases hq; exact t149)
  obtain ⟨c158, hf⟩ := p_ckx hf
  obtain ⟨c157, hf⟩ := p_ckx hf
  obtain ⟨w155, e156, hf⟩ := p_lx2 hf
  have t159 : p_tp w155.1 a0 15 := (p_nwx e156) _ _ t148
  have t160 : p_tp w155.1 w144.1.1 0 := p_nws e156
  have w161 : WT w155.1 w155.2.2.2 := p_nww e156 w152
  have x162 : p_ext N w155.1 := p_ext.tr x151 (p_nwx e156)
  obtain ⟨P164, e165, hf⟩ := p_lx2 hf
  have w163 : WT w155.1 P164 := by rw [e165]; exact WT.put w161 t159 (fun q hq => by cases hq; exact t160)
  obtain ⟨c169, hf⟩ := p_ckx hf
  obtain ⟨c168, hf⟩ := p_ckx hf
  obtain ⟨w166, e167, hf⟩ := p_lx2 hf
  have t170 : p_tp w166.1 a0 15 := (p_nwx e167) _ _ t159
  have t171 : p_tp w166.1 w155.1.1 0 := p_nws e167
  have w172 : WT w166.1 w166.2.2.2 := p_nww e167 w163
  have x173 : p_ext N w166.1 := p_ext.tr x162 (p_nwx e167)
  obtain ⟨P175, e176, hf⟩ := p_lx2 hf
  have w174 : WT w166.1 P175 := by rw [e176]; exact WT.put w172 t170 (fun q hq => by cases hq; exact t171)
  obtain ⟨c180, hf⟩ := p_ckx hf
  obtain ⟨c179, hf⟩ := p_ckx hf
  obtain ⟨w177, e178, hf⟩ := p_lx2 hf
  have t181 : p_tp w177.1 a0 15 := (p_nwx e178) _ _ t170
  have t182 : p_tp w177.1 w166.1.1 0 := p_nws e178
  have w183 : WT w177.1 w177.2.2.2 := p_nww e178 w174
  have x184 : p_ext N w177.1 := p_ext.tr x173 (p_nwx e178)
  obtain ⟨P186, e187, hf⟩ := p_lx2 hf
  have w185 : WT w177.1 P186 := by rw [e187]; exact WT.put w183 t181 (fun q hq => by cases hq; exact t182)
  obtain ⟨c191, hf⟩ := p_ckx hf
  obtain ⟨c190, hf⟩ := p_ckx hf
  obtain ⟨w188, e189, hf⟩ := p_lx2 hf
  have t192 : p_tp w188.1 a0 15 := (p_nwx e189) _ _ t181
  have t193 : p_tp w188.1 w177.1.1 0 := p_nws e189
  have w194 : WT w188.1 w188.2.2.2 := p_nww e189 w185
  have x195 : p_ext N w188.1 := p_ext.tr x184 (p_nwx e189)
  obtain ⟨P197, e198, hf⟩ := p_lx2 hf
  have w196 : WT w188.1 P197 := by rw [e198]; exact WT.put w194 t192 (fun q hq => by cases hq; exact t193)
  obtain ⟨q199, h200, hf⟩ := p_bd hf
  have t201 : p_tp w188.1 q199 0 := WT.get w196 t192 h200
  obtain ⟨c202, hf⟩ := p_ckx hf
  obtain ⟨I203, e204, hf⟩ := p_lx2 hf
  obtain ⟨q205, h206, hf⟩ := p_bd hf
  have t207 : p_tp w188.1 q205 0 := WT.get w196 t192 h206
  obtain ⟨c208, hf⟩ := p_ckx hf
  obtain ⟨I209, e210, hf⟩ := p_lx2 hf
  obtain ⟨q211, h212, hf⟩ := p_bd hf
  have t213 : p_tp w188.1 q211 0 := WT.get w196 t192 h212
  obtain ⟨c214, hf⟩ := p_ckx hf
  obtain ⟨I215, e216, hf⟩ := p_lx2 hf
  obtain ⟨q217, h218, hf⟩ := p_bd hf
  have t219 : p_tp w188.1 q217 0 := WT.get w196 t192 h218
  obtain ⟨c220, hf⟩ := p_ckx hf
  obtain ⟨I221, e222, hf⟩ := p_lx2 hf
  obtain ⟨q223, h224, hf⟩ := p_bd hf
  have t225 : p_tp w188.1 q223 0 := WT.get w196 t192 h224
  obtain ⟨c226, hf⟩ := p_ckx hf
  obtain ⟨I227, e228, hf⟩ := p_lx2 hf
  obtain ⟨q229, h230, hf⟩ := p_bd hf
  have t231 : p_tp w188.1 q229 0 := WT.get w196 t192 h230
  obtain ⟨c232, hf⟩ := p_ckx hf
  obtain ⟨I233, e234, hf⟩ := p_lx2 hf
  obtain ⟨q235, h236, hf⟩ := p_bd hf
  have t237 : p_tp w188.1 q235 0 := WT.get w196 t192 h236
  obtain ⟨c238, hf⟩ := p_ckx hf
  obtain ⟨I239, e240, hf⟩ := p_lx2 hf
  obtain ⟨q241, h242, hf⟩ := p_bd hf
  have t243 : p_tp w188.1 q241 0 := WT.get w196 t192 h242
  obtain ⟨c244, hf⟩ := p_ckx hf
  obtain ⟨I245, e246, hf⟩ := p_lx2 hf
  obtain ⟨q247, h248, hf⟩ := p_bd hf
  have t249 : p_tp w188.1 q247 0 := WT.get w196 t192 h248
  obtain ⟨c250, hf⟩ := p_ckx hf
  obtain ⟨I251, e252, hf⟩ := p_lx2 hf
  obtain ⟨q253, h254, hf⟩ := p_bd hf
  have t255 : p_tp w188.1 q253 0 := WT.get w196 t192 h254
  obtain ⟨c256, hf⟩ := p_ckx hf
  obtain ⟨I257, e258, hf⟩ := p_lx2 hf
  obtain ⟨q259, h260, hf⟩ := p_bd hf
  have t261 : p_tp w188.1 q259 0 := WT.get w196 t192 h260
  obtain ⟨c262, hf⟩ := p_ckx hf
  obtain ⟨I263, e264, hf⟩ := p_lx2 hf
  obtain ⟨q265, h266, hf⟩ := p_bd hf
  have t267 : p_tp w188.1 q265 0 := WT.get w196 t192 h266
  obtain ⟨c268, hf⟩ := p_ckx hf
  obtain ⟨I269, e270, hf⟩ := p_lx2 hf
  obtain ⟨q271, h272, hf⟩ := p_bd hf
  have t273 : p_tp w188.1 q271 0 := WT.get w196 t192 h272
  obtain ⟨c274, hf⟩ := p_ckx hf
  obtain ⟨I275, e276, hf⟩ := p_lx2 hf
  obtain ⟨q277, h278, hf⟩ := p_bd hf
  cases hf
  exact ⟨w196, x195⟩
def f_X11_image (N : pN) (I : pI) (L : pL) (P : pR) (a0 : Nat) (x1 : Int32) : Option (Int32 × pN × pI × pL × pR) :=
  (if x1 < 0 then
    some (nI 0, N, I, L, P)
  else
    Option.bind (P a0 1) fun q1 =>
    (if x1 < (nI (N.2 q1).2) then
      Option.bind (P a0 1) fun q4 =>
      p_ck (p_ib N q4 x1) <|
      p_cs (P q4 (Int32.toNatClampNeg x1)) (p_ck (decide (N.1 < 1000000)) <|
      p_let (p_nw N I L P (10, 0)) fun w11 =>
      Option.bind (f_X7_init w11.1 w11.2.1 w11.2.2.1 w11.2.2.2 N.1) fun q19 =>
      Option.bind (q19.2.2.2 a0 1) fun q27 =>
      p_ck (p_ib q19.1 q27 x1) <|
      p_let (p_u q19.2.2.2 q27 (Int32.toNatClampNeg x1) (some N.1)) fun P31 =>
      Option.bind (P31 a0 0) fun q34 =>
      Option.bind (f_X7_copy q19.1 q19.2.1 P31 N.1 q34) fun q37 =>
      some (nI 1, q19.1, q37, q19.2.2.1, P31)) fun q8 =>
      Option.bind (P a0 0) fun q39 =>
      Option.bind (f_X7_copy N I P q8 q39) fun q42 =>
      some (nI 1, N, q42, L, P)
    else
      some (nI 0, N, I, L, P)))
theorem c_X11_image {G : pG} {d : Nat} {N : pN} {I : pI} {L : pL} {P : pR} {a0 : Nat} {x1 : Int32} {qq : Int32 × pN × pI × pL × pR} (hd : 3 ≤ d) (hW : WT N P) (ha0 : p_tp N a0 14) (hf : f_X11_image N I L P a0 x1 = some qq) : MT G mX11_image d 19 9949 [.ref a0, .int x1] N I L P (p_R (some (.int qq.1)) qq.2.1 qq.2.2.1 qq.2.2.2.1 qq.2.2.2.2) := by
  refine MT.of rfl (Nat.le_of_ble_eq_true rfl) ?_
  show SW G mX11_image (p_rm d 19 9949) 19 9949 0 0 (p_R (some (.int qq.1)) qq.2.1 qq.2.2.1 qq.2.2.2.1 qq.2.2.2.2) 0 [(0, .ref a0), (1, .int x1)] [] N I L P
  unfold f_X11_image at hf
  refine s_iload_n (pc := 0) dX11_image_0 1 rfl rfl ?_
  refine s_if_lt (pc := 1) (tgt := 13) dX11_image_1 rfl (fun hc => ?_) (fun hc => ?_)
  · replace hf := p_ps hf hc
    refine s_iconst (pc := 13) dX11_image_13 (v := nI 0) rfl ?_
    cases hf
    refine s_widen (c2 := 19) (s2 := 9949) (by decide) (by decide) ?_
    exact s_ireturn (pc := 14) dX11_image_14 rfl rfl ⟨rfl, rfl, rfl, rfl, rfl⟩
  · replace hf := p_ng hf hc
    refine s_iload_n (pc := 4) dX11_image_4 1 rfl rfl ?_
    refine s_aload_n (pc := 5) dX11_image_5 0 rfl rfl ?_
    obtain ⟨q1, h2, hf⟩ := p_bd hf
    have t3 : p_tp N q1 2 := WT.get hW ha0 h2
    refine x_getR (pc := 6) dX11_image_6 fl_X11_16 rfl ha0 h2 ?_
    refine x_alen (pc := 9) dX11_image_9 t3 (Nat.le_of_ble_eq_true rfl) ?_
    refine s_icmp_lt (pc := 10) (tgt := 15) dX11_image_10 rfl (fun hc => ?_) (fun hc => ?_)
    · replace hf := p_ps hf hc
      refine s_aload_n (pc := 15) dX11_image_15 0 rfl rfl ?_
      obtain ⟨q4, h5, hf⟩ := p_bd hf
      have t6 : p_tp N q4 2 := WT.get hW ha0 h5
      refine x_getR (pc := 16) dX11_image_16 fl_X11_16 rfl ha0 h5 ?_
      refine s_iload_n (pc := 19) dX11_image_19 1 rfl rfl ?_
      obtain ⟨c7, hf⟩ := p_ckx hf
      refine x_aald (pc := 20) dX11_image_20 t6 c7 ?_
      refine x_astoreQ_n (pc := 21) (lo' := [(2, va_rf (P q4 (Int32.toNatClampNeg x1))), (0, .ref a0), (1, .int x1)]) dX11_image_21 rfl (Nat.le_of_ble_eq_true rfl) rfl ?_
      refine x_aloadQ_n (pc := 22) dX11_image_22 0 rfl rfl ?_
      refine y_ifnonnull (pc := 23) (tgt := 41) dX11_image_23 rfl (fun q8 h9 => ?_) (fun hc => ?_)
      · have t10 : p_tp N q8 10 := (fun _ hq => WT.elt hW t6 hq) q8 h9
        replace hf := p_cs_s hf h9
        have hz : va_rf (P q4 (Int32.toNatClampNeg x1)) = .ref q8 := by rw [h9]; rfl
        rw [hz]
        refine s_aload_n (pc := 41) dX11_image_41 0 rfl rfl ?_
        refine s_aload_n (pc := 42) dX11_image_42 1 rfl rfl ?_
        obtain ⟨q39, h40, hf⟩ := p_bd hf
        have t41 : p_tp N q39 10 := WT.get hW ha0 h40
        refine x_getR (pc := 43) dX11_image_43 fl_X11_10 rfl ha0 h40 ?_
        obtain ⟨q42, h43, hf⟩ := p_bd hf
        refine z_callV0 (pc := 46) dX11_image_46 (c_X7_copy (p_dd hd (by decide)) hW t10 t41 h43) mk_X7_copy mv_X7_copy ml_X11_272 rfl rfl (Nat.le_of_ble_eq_true rfl) t10 rfl (p_d1 hd (by decide)) (Nat.le_of_ble_eq_true rfl) (by decide) (by decide) ?_
        refine s_iconst (pc := 49) dX11_image_49 (v := nI 1) rfl ?_
        cases hf
        refine s_widen (c2 := 19) (s2 := 9949) (by decide) (by decide) ?_
        exact s_ireturn (pc := 50) dX11_image_50 rfl rfl ⟨rfl, rfl, rfl, rfl, rfl⟩
      · replace hf := p_cs_n hf hc
        obtain ⟨c13, hf⟩ := p_ckx hf
        refine a_new (pc := 26) (ci := 7) dX11_image_26 rfl kk_X11_7 (by decide) (by decide) c13 (fun w11 e12 => ?_)
        replace hf := p_lx hf e12
        have t14 : ∀ q, P q4 (Int32.toNatClampNeg x1) = some q → p_tp w11.1 q 10 := fun q hq => (p_nwx e12) _ _ ((fun _ hq => WT.elt hW t6 hq) q hq)
        have t15 : p_tp w11.1 a0 14 := (p_nwx e12) _ _ ha0
        have t16 : p_tp w11.1 N.1 10 := p_nws e12
        have w17 : WT w11.1 w11.2.2.2 := p_nww e12 hW
        have x18 : p_ext N w11.1 := p_ext.tr p_ext.rf (p_nwx e12)
        refine s_dup (pc := 29) dX11_image_29 rfl ?_
        obtain ⟨q19, h20, hf⟩ := p_bd hf
        have g21 := g_X7_init w17 t16 h20
        have t22 : ∀ q, P q4 (Int32.toNatClampNeg x1) = some q → p_tp q19.1 q 10 := fun q hq => g21.2 _ _ (t14 q hq)
        have t23 : p_tp q19.1 a0 14 := g21.2 _ _ t15
        have t24 : p_tp q19.1 N.1 10 := g21.2 _ _ t16
        have w25 : WT q19.1 q19.2.2.2 := g21.1
        have x26 : p_ext N q19.1 := p_ext.tr x18 g21.2
        refine z_callI (pc := 30) dX11_image_30 (c_X7_init (p_dd hd (by decide)) w17 t16 h20) mk_X7_init mi_X7_init rfl rfl ml_X11_9 rfl rfl (Nat.le_of_ble_eq_true rfl) t16 (p_d1 hd (by decide)) (Nat.le_of_ble_eq_true rfl) (by decide) (by decide) ?_
        refine s_astore_n (pc := 33) (lo' := [(2, .ref N.1), (0, .ref a0), (1, .int x1)]) dX11_image_33 rfl (Nat.le_of_ble_eq_true rfl) rfl ?_
        refine s_aload_n (pc := 34) dX11_image_34 1 rfl rfl ?_
        obtain ⟨q27, h28, hf⟩ := p_bd hf
        have t29 : p_tp q19.1 q27 2 := WT.get w25 t23 h28
        refine x_getR (pc := 35) dX11_image_35 fl_X11_16 rfl t23 h28 ?_
        refine s_iload_n (pc := 38) dX11_image_38 2 rfl rfl ?_
        refine s_aload_n (pc := 39) dX11_image_39 0 rfl rfl ?_
        obtain ⟨c30, hf⟩ := p_ckx hf
        refine x_aast (pc := 40) dX11_image_40 t29 t24 c30 ?_
        refine s_nmP (fun P31 e32 => ?_)
        replace hf := p_lx hf e32
        have w33 : WT q19.1 P31 := by rw [e32]; exact WT.put2 w25 t29 t24
        refine s_aload_n (pc := 41) dX11_image_41 0 rfl rfl ?_
        refine s_aload_n (pc := 42) dX11_image_42 1 rfl rfl ?_
        obtain ⟨q34, h35, hf⟩ := p_bd hf
        have t36 : p_tp q19.1 q34 10 := WT.get w33 t23 h35
        refine x_getR (pc := 43) dX11_image_43 fl_X11_10 rfl t23 h35 ?_
        obtain ⟨q37, h38, hf⟩ := p_bd hf
        refine z_callV0 (pc := 46) dX11_image_46 (c_X7_copy (p_dd hd (by decide)) w33 t24 t36 h38) mk_X7_copy mv_X7_copy ml_X11_272 rfl rfl (Nat.le_of_ble_eq_true rfl) t24 rfl (p_d1 hd (by decide)) (Nat.le_of_ble_eq_true rfl) (by decide) (by decide) ?_
        refine s_iconst (pc := 49) dX11_image_49 (v := nI 1) rfl ?_
        cases hf
        refine s_widen (c2 := 19) (s2 := 9949) (by decide) (by decide) ?_
        exact s_ireturn (pc := 50) dX11_image_50 rfl rfl ⟨rfl, rfl, rfl, rfl, rfl⟩
    · replace hf := p_ng hf hc
      refine s_iconst (pc := 13) dX11_image_13 (v := nI 0) rfl ?_
      cases hf
      refine s_widen (c2 := 19) (s2 := 9949) (by decide) (by decide) ?_
      exact s_ireturn (pc := 14) dX11_image_14 rfl rfl ⟨rfl, rfl, rfl, rfl, rfl⟩
