def B_X12_comes_353 (N : pN) (P : pR) (a0 : Nat) (x1 : Int32) (rec0 : (Int32 × pI) → Option pI) (s0 : Int32 × pI) : Option pI :=
  (if (nI 4) ≤ s0.1 then
    some s0.2
  else
    Option.bind (P a0 0) fun q9 =>
    Option.bind (P a0 0) fun q12 =>
    p_ck (p_ib N q12 (nI 2)) <|
    Option.bind (P a0 36) fun q16 =>
    p_ck (p_ib N q16 ((x1 + (nI 1)) + s0.1)) <|
    p_ck (p_ib N q9 (((nI 170) + ((nI 4) * (s0.2 q12 (Int32.toNatClampNeg (nI 2))))) + s0.1)) <|
    p_let (p_u s0.2 q9 (Int32.toNatClampNeg (((nI 170) + ((nI 4) * (s0.2 q12 (Int32.toNatClampNeg (nI 2))))) + s0.1)) (s0.2 q16 (Int32.toNatClampNeg ((x1 + (nI 1)) + s0.1)))) fun I21 =>
    rec0 (s0.1 + nI 1, I21))
def B_X12_comes_193 (N : pN) (P : pR) (x3 : Int32) (a0 : Nat) (x1 : Int32) (rec0 : (Int32 × pI) → Option pI) (s0 : Int32 × pI) : Option pI :=
  (if (nI 4) ≤ s0.1 then
    some s0.2
  else
    Option.bind (P a0 0) fun q88 =>
    Option.bind (P a0 36) fun q91 =>
    p_ck (p_ib N q91 ((x1 + (nI 1)) + s0.1)) <|
    p_ck (p_ib N q88 (x3 + s0.1)) <|
    p_let (p_u s0.2 q88 (Int32.toNatClampNeg (x3 + s0.1)) (s0.2 q91 (Int32.toNatClampNeg ((x1 + (nI 1)) + s0.1)))) fun I96 =>
    rec0 (s0.1 + nI 1, I96))
def B_X12_comes_73 (N : pN) (P : pR) (x4 : Int32) (x3 : Int32) (a0 : Nat) (x1 : Int32) (rec0 : (Int32 × pI) → Option pI) (s0 : Int32 × pI) : Option pI :=
  (if (nI 4) ≤ s0.1 then
    some s0.2
  else
    Option.bind (P a0 0) fun q170 =>
    Option.bind (P a0 36) fun q173 =>
    Option.bind (α := Int32) ((if x4 = 0 then
      some s0.1
    else
      some ((s0.1 + (nI 2)) - (s0.1 + (nI 2)) / (nI 4) * (nI 4)))) fun t176 =>
    p_ck (p_ib N q173 ((x1 + (nI 1)) + t176)) <|
    p_ck (p_ib N q170 (x3 + s0.1)) <|
    p_let (p_u s0.2 q170 (Int32.toNatClampNeg (x3 + s0.1)) (s0.2 q173 (Int32.toNatClampNeg ((x1 + (nI 1)) + t176)))) fun I180 =>
    rec0 (s0.1 + nI 1, I180))
def f_X12_comes (n : Nat) (N : pN) (I : pI) (P : pR) (a0 : Nat) (x1 : Int32) : Option pI :=
  Option.bind (P a0 36) fun q1 =>
  p_ck (p_ib N q1 x1) <|
  p_let (I q1 (Int32.toNatClampNeg x1)) fun v5 =>
  (if v5 = (nI 1) then
    Option.bind (P a0 0) fun q144 =>
    p_ck (p_ib N q144 (nI 0)) <|
    p_let ((nI 30) + ((nI 7) * (I q144 (Int32.toNatClampNeg (nI 0))))) fun v148 =>
    Option.bind (P a0 36) fun q150 =>
    p_ck (p_ib N q150 (x1 + (nI 1))) <|
    Option.bind (P a0 36) fun q154 =>
    p_ck (p_ib N q154 (x1 + (nI 3))) <|
    Option.bind (α := Int32) ((if (I q154 (Int32.toNatClampNeg (x1 + (nI 3)))) < (I q150 (Int32.toNatClampNeg (x1 + (nI 1)))) then
      some (nI 1)
    else
      Option.bind (P a0 36) fun q160 =>
      p_ck (p_ib N q160 (x1 + (nI 2))) <|
      Option.bind (P a0 36) fun q164 =>
      p_ck (p_ib N q164 (x1 + (nI 4))) <|
      (if (I q160 (Int32.toNatClampNeg (x1 + (nI 2)))) ≤ (I q164 (Int32.toNatClampNeg (x1 + (nI 4)))) then
        some (nI 0)
      else
        some (nI 1)))) fun t158 =>
    Option.bind (p_it (B_X12_comes_73 N P t158 v148 a0 x1) n (nI 0, I)) fun t168 =>
    Option.bind (P a0 0) fun q195 =>
    Option.bind (P a0 36) fun q198 =>
    p_ck (p_ib N q198 (x1 + (nI 5))) <|
    p_ck (p_ib N q195 (v148 + (nI 4))) <|
    p_let (p_u t168 q195 (Int32.toNatClampNeg (v148 + (nI 4))) (t168 q198 (Int32.toNatClampNeg (x1 + (nI 5))))) fun I203 =>
    Option.bind (P a0 0) fun q205 =>
    Option.bind (P a0 0) fun q208 =>
    p_ck (p_ib N q208 (nI 4)) <|
    p_ck (p_ib N q205 (v148 + (nI 5))) <|
    p_let (p_u I203 q205 (Int32.toNatClampNeg (v148 + (nI 5))) (I203 q208 (Int32.toNatClampNeg (nI 4)))) fun I213 =>
    Option.bind (P a0 0) fun q215 =>
    p_ck (p_ib N q215 (v148 + (nI 6))) <|
    p_let (p_u I213 q215 (Int32.toNatClampNeg (v148 + (nI 6))) (-1)) fun I219 =>
    Option.bind (P a0 0) fun q221 =>
    p_ck (p_ib N q221 (nI 0)) <|
    p_ck (p_ib N q221 (nI 0)) <|
    p_let (p_u I219 q221 (Int32.toNatClampNeg (nI 0)) ((I219 q221 (Int32.toNatClampNeg (nI 0))) + (nI 1))) fun I226 =>
    some I226
  else
    (if v5 = (nI 2) then
      Option.bind (P a0 0) fun q80 =>
      p_ck (p_ib N q80 (nI 1)) <|
      p_let ((nI 120) + ((nI 8) * (I q80 (Int32.toNatClampNeg (nI 1))))) fun v84 =>
      Option.bind (p_it (B_X12_comes_193 N P v84 a0 x1) n (nI 0, I)) fun t86 =>
      Option.bind (P a0 0) fun q109 =>
      Option.bind (P a0 0) fun q112 =>
      p_ck (p_ib N q112 (nI 4)) <|
      p_ck (p_ib N q109 (v84 + (nI 4))) <|
      p_let (p_u t86 q109 (Int32.toNatClampNeg (v84 + (nI 4))) (t86 q112 (Int32.toNatClampNeg (nI 4)))) fun I117 =>
      Option.bind (P a0 0) fun q119 =>
      p_ck (p_ib N q119 (v84 + (nI 5))) <|
      p_let (p_u I117 q119 (Int32.toNatClampNeg (v84 + (nI 5))) (-1)) fun I123 =>
      Option.bind (P a0 0) fun q125 =>
      p_ck (p_ib N q125 (v84 + (nI 6))) <|
      p_let (p_u I123 q125 (Int32.toNatClampNeg (v84 + (nI 6))) (-1)) fun I129 =>
      Option.bind (P a0 0) fun q131 =>
      p_ck (p_ib N q131 (v84 + (nI 7))) <|
      p_let (p_u I129 q131 (Int32.toNatClampNeg (v84 + (nI 7))) (-1)) fun I135 =>
      Option.bind (P a0 0) fun q137 =>
      p_ck (p_ib N q137 (nI 1)) <|
      p_ck (p_ib N q137 (nI 1)) <|
      p_let (p_u I135 q137 (Int32.toNatClampNeg (nI 1)) ((I135 q137 (Int32.toNatClampNeg (nI 1))) + (nI 1))) fun I142 =>
      some I142
    else
      (if v5 = (nI 3) then
        Option.bind (P a0 0) fun q45 =>
        Option.bind (P a0 0) fun q48 =>
        p_ck (p_ib N q48 (nI 3)) <|
        Option.bind (P a0 36) fun q52 =>
        p_ck (p_ib N q52 (x1 + (nI 1))) <|
        p_ck (p_ib N q45 ((nI 202) + ((nI 2) * (I q48 (Int32.toNatClampNeg (nI 3)))))) <|
        p_let (p_u I q45 (Int32.toNatClampNeg ((nI 202) + ((nI 2) * (I q48 (Int32.toNatClampNeg (nI 3)))))) (I q52 (Int32.toNatClampNeg (x1 + (nI 1))))) fun I57 =>
        Option.bind (P a0 0) fun q59 =>
        Option.bind (P a0 0) fun q62 =>
        p_ck (p_ib N q62 (nI 3)) <|
        Option.bind (P a0 36) fun q66 =>
        p_ck (p_ib N q66 (x1 + (nI 2))) <|
        p_ck (p_ib N q59 (((nI 202) + ((nI 2) * (I57 q62 (Int32.toNatClampNeg (nI 3))))) + (nI 1))) <|
        p_let (p_u I57 q59 (Int32.toNatClampNeg (((nI 202) + ((nI 2) * (I57 q62 (Int32.toNatClampNeg (nI 3))))) + (nI 1))) (I57 q66 (Int32.toNatClampNeg (x1 + (nI 2))))) fun I71 =>
        Option.bind (P a0 0) fun q73 =>
        p_ck (p_ib N q73 (nI 3)) <|
        p_ck (p_ib N q73 (nI 3)) <|
        p_let (p_u I71 q73 (Int32.toNatClampNeg (nI 3)) ((I71 q73 (Int32.toNatClampNeg (nI 3))) + (nI 1))) fun I78 =>
        some I78
      else
        Option.bind (p_it (B_X12_comes_353 N P a0 x1) n (nI 0, I)) fun t7 =>
        Option.bind (P a0 0) fun q38 =>
        p_ck (p_ib N q38 (nI 2)) <|
        p_ck (p_ib N q38 (nI 2)) <|
        p_let (p_u t7 q38 (Int32.toNatClampNeg (nI 2)) ((t7 q38 (Int32.toNatClampNeg (nI 2))) + (nI 1))) fun I43 =>
        some I43)))
theorem c_X12_comes {G : pG} {d : Nat} {n : Nat} {N : pN} {I : pI} {L : pL} {P : pR} {a0 : Nat} {x1 : Int32} {qq : pI} (hd : 0 ≤ d) (hW : WT N P) (ha0 : p_tp N a0 15) (hf : f_X12_comes n N I P a0 x1 = some qq) : MT G mX12_comes d 0 0 [.ref a0, .int x1] N I L P (p_R none N qq L P) := by
  refine MT.of rfl (Nat.le_of_ble_eq_true rfl) ?_
  show SW G mX12_comes (p_rm d 0 0) 0 0 0 0 (p_R none N qq L P) 0 [(0, .ref a0), (1, .int x1)] [] N I L P
  unfold f_X12_comes at hf
  refine s_aload_n (pc := 0) dX12_comes_0 0 rfl rfl ?_
  obtain ⟨q1, h2, hf⟩ := p_bd hf
  have t3 : p_tp N q1 0 := WT.get hW ha0 h2
  refine x_getR (pc := 1) dX12_comes_1 fl_X12_53 rfl ha0 h2 ?_
  refine s_iload_n (pc := 4) dX12_comes_4 1 rfl rfl ?_
  obtain ⟨c4, hf⟩ := p_ckx hf
  refine x_iald (pc := 5) dX12_comes_5 t3 c4 ?_
  refine s_topi (fun v5 e6 => ?_)
  replace hf := p_lx hf e6
  refine s_istore_n (pc := 6) (lo' := [(2, .int v5), (0, .ref a0), (1, .int x1)]) dX12_comes_6 rfl (Nat.le_of_ble_eq_true rfl) rfl ?_
  refine s_iload_n (pc := 7) dX12_comes_7 0 rfl rfl ?_
  refine s_iconst (pc := 8) dX12_comes_8 (v := nI 1) rfl ?_
  refine s_icmp_ne (pc := 9) (tgt := 172) dX12_comes_9 rfl (fun hc => ?_) (fun hc => ?_)
  · replace hf := p_ng hf hc
    refine s_iload_n (pc := 172) dX12_comes_172 0 rfl rfl ?_
    refine s_iconst (pc := 173) dX12_comes_173 (v := nI 2) rfl ?_
    refine s_icmp_ne (pc := 174) (tgt := 281) dX12_comes_174 rfl (fun hc => ?_) (fun hc => ?_)
    · replace hf := p_ng hf hc
      refine s_iload_n (pc := 281) dX12_comes_281 0 rfl rfl ?_
      refine s_iconst (pc := 282) dX12_comes_282 (v := nI 3) rfl ?_
      refine s_icmp_ne (pc := 283) (tgt := 351) dX12_comes_283 rfl (fun hc => ?_) (fun hc => ?_)
      · replace hf := p_ng hf hc
        refine s_iconst (pc := 351) dX12_comes_351 (v := nI 0) rfl ?_
        refine s_istore_n (pc := 352) (lo' := [(3, .int (nI 0)), (2, .int v5), (0, .ref a0), (1, .int x1)]) dX12_comes_352 rfl (Nat.le_of_ble_eq_true rfl) rfl ?_
        obtain ⟨t7, hg, hf⟩ := p_bd hf
        have k8 : SW G mX12_comes (p_rm d 0 0) 0 0 0 0 (p_R none N qq L P) 393 [(0, .ref a0)] [] N t7 L P := by
          refine s_aload_n (pc := 393) dX12_comes_393 0 rfl rfl ?_
          obtain ⟨q38, h39, hf⟩ := p_bd hf
          have t40 : p_tp N q38 0 := WT.get hW ha0 h39
          refine x_getR (pc := 394) dX12_comes_394 fl_X12_7 rfl ha0 h39 ?_
          refine s_iconst (pc := 397) dX12_comes_397 (v := nI 2) rfl ?_
          refine s_dup2_11 (pc := 398) dX12_comes_398 rfl rfl ?_
          obtain ⟨c41, hf⟩ := p_ckx hf
          refine x_iald (pc := 399) dX12_comes_399 t40 c41 ?_
          refine s_iconst (pc := 400) dX12_comes_400 (v := nI 1) rfl ?_
          refine s_iadd (pc := 401) dX12_comes_401 ?_
          obtain ⟨c42, hf⟩ := p_ckx hf
          refine x_iast (pc := 402) dX12_comes_402 t40 c42 ?_
          refine s_nmI (fun I43 e44 => ?_)
          replace hf := p_lx hf e44
          cases hf
          exact s_return (pc := 403) dX12_comes_403 rfl ⟨rfl, rfl, rfl, rfl, rfl⟩
        replace hf := hg
        have k23 : ∀ (k : Nat) (s0 : Int32 × pI), p_it (B_X12_comes_353 N P a0 x1) k s0 = some t7 → (SW G mX12_comes (p_rm d 0 0) 0 0 0 0 (p_R none N qq L P) 353 [(0, .ref a0), (1, .int x1), (3, .int s0.1)] [] N s0.2 L P) := p_it_ind (C := fun (s0 : Int32 × pI) => SW G mX12_comes (p_rm d 0 0) 0 0 0 0 (p_R none N qq L P) 353 [(0, .ref a0), (1, .int x1), (3, .int s0.1)] [] N s0.2 L P) (by
          intro rec0 hrec0 s0 hf
          unfold B_X12_comes_353 at hf
          refine s_iload_n (pc := 353) dX12_comes_353 2 rfl rfl ?_
          refine s_iconst (pc := 354) dX12_comes_354 (v := nI 4) rfl ?_
          refine s_icmp_ge (pc := 355) (tgt := 393) dX12_comes_355 rfl (fun hc => ?_) (fun hc => ?_)
          · replace hf := p_ps hf hc
            cases hf
            exact s_lo [0] rfl (k8)
          · replace hf := p_ng hf hc
            refine s_aload_n (pc := 358) dX12_comes_358 0 rfl rfl ?_
            obtain ⟨q24, h25, hf⟩ := p_bd hf
            have t26 : p_tp N q24 0 := WT.get hW ha0 h25
            refine x_getR (pc := 359) dX12_comes_359 fl_X12_7 rfl ha0 h25 ?_
            refine s_sipush (pc := 362) dX12_comes_362 (v := nI 170) rfl ?_
            refine s_iconst (pc := 365) dX12_comes_365 (v := nI 4) rfl ?_
            refine s_aload_n (pc := 366) dX12_comes_366 0 rfl rfl ?_
            obtain ⟨q27, h28, hf⟩ := p_bd hf
            have t29 : p_tp N q27 0 := WT.get hW ha0 h28
            refine x_getR (pc := 367) dX12_comes_367 fl_X12_7 rfl ha0 h28 ?_
            refine s_iconst (pc := 370) dX12_comes_370 (v := nI 2) rfl ?_
            obtain ⟨c30, hf⟩ := p_ckx hf
            refine x_iald (pc := 371) dX12_comes_371 t29 c30 ?_
            refine s_imul (pc := 372) dX12_comes_372 ?_
            refine s_iadd (pc := 373) dX12_comes_373 ?_
            refine s_iload_n (pc := 374) dX12_comes_374 2 rfl rfl ?_
            refine s_iadd (pc := 375) dX12_comes_375 ?_
            refine s_aload_n (pc := 376) dX12_comes_376 0 rfl rfl ?_
            obtain ⟨q31, h32, hf⟩ := p_bd hf
            have t33 : p_tp N q31 0 := WT.get hW ha0 h32
            refine x_getR (pc := 377) dX12_comes_377 fl_X12_53 rfl ha0 h32 ?_
            refine s_iload_n (pc := 380) dX12_comes_380 1 rfl rfl ?_
            refine s_iconst (pc := 381) dX12_comes_381 (v := nI 1) rfl ?_
            refine s_iadd (pc := 382) dX12_comes_382 ?_
            refine s_iload_n (pc := 383) dX12_comes_383 2 rfl rfl ?_
            refine s_iadd (pc := 384) dX12_comes_384 ?_
            obtain ⟨c34, hf⟩ := p_ckx hf
            refine x_iald (pc := 385) dX12_comes_385 t33 c34 ?_
            obtain ⟨c35, hf⟩ := p_ckx hf
            refine x_iast (pc := 386) dX12_comes_386 t26 c35 ?_
            refine s_nmI (fun I36 e37 => ?_)
            replace hf := p_lx hf e37
            refine s_iinc (pc := 387) (lo' := [(3, .int (s0.1 + nI 1)), (0, .ref a0), (1, .int x1)]) dX12_comes_387 2 rfl (v := s0.1 + nI 1) rfl (Nat.le_of_ble_eq_true rfl) rfl ?_
            refine s_goto (pc := 390) (tgt := 353) dX12_comes_390 rfl ?_
            exact s_lo [1, 2, 0] rfl (hrec0 (s0.1 + nI 1, I36) hf))
        exact s_lo [2, 3, 0] rfl (k23 n (nI 0, I) hf)
      · replace hf := p_ps hf hc
        refine s_aload_n (pc := 286) dX12_comes_286 1 rfl rfl ?_
        obtain ⟨q45, h46, hf⟩ := p_bd hf
        have t47 : p_tp N q45 0 := WT.get hW ha0 h46
        refine x_getR (pc := 287) dX12_comes_287 fl_X12_7 rfl ha0 h46 ?_
        refine s_sipush (pc := 290) dX12_comes_290 (v := nI 202) rfl ?_
        refine s_iconst (pc := 293) dX12_comes_293 (v := nI 2) rfl ?_
        refine s_aload_n (pc := 294) dX12_comes_294 1 rfl rfl ?_
        obtain ⟨q48, h49, hf⟩ := p_bd hf
        have t50 : p_tp N q48 0 := WT.get hW ha0 h49
        refine x_getR (pc := 295) dX12_comes_295 fl_X12_7 rfl ha0 h49 ?_
        refine s_iconst (pc := 298) dX12_comes_298 (v := nI 3) rfl ?_
        obtain ⟨c51, hf⟩ := p_ckx hf
        refine x_iald (pc := 299) dX12_comes_299 t50 c51 ?_
        refine s_imul (pc := 300) dX12_comes_300 ?_
        refine s_iadd (pc := 301) dX12_comes_301 ?_
        refine s_aload_n (pc := 302) dX12_comes_302 1 rfl rfl ?_
        obtain ⟨q52, h53, hf⟩ := p_bd hf
        have t54 : p_tp N q52 0 := WT.get hW ha0 h53
        refine x_getR (pc := 303) dX12_comes_303 fl_X12_53 rfl ha0 h53 ?_
        refine s_iload_n (pc := 306) dX12_comes_306 2 rfl rfl ?_
        refine s_iconst (pc := 307) dX12_comes_307 (v := nI 1) rfl ?_
        refine s_iadd (pc := 308) dX12_comes_308 ?_
        obtain ⟨c55, hf⟩ := p_ckx hf
        refine x_iald (pc := 309) dX12_comes_309 t54 c55 ?_
        obtain ⟨c56, hf⟩ := p_ckx hf
        refine x_iast (pc := 310) dX12_comes_310 t47 c56 ?_
        refine s_nmI (fun I57 e58 => ?_)
        replace hf := p_lx hf e58
        refine s_aload_n (pc := 311) dX12_comes_311 1 rfl rfl ?_
        obtain ⟨q59, h60, hf⟩ := p_bd hf
        have t61 : p_tp N q59 0 := WT.get hW ha0 h60
        refine x_getR (pc := 312) dX12_comes_312 fl_X12_7 rfl ha0 h60 ?_
        refine s_sipush (pc := 315) dX12_comes_315 (v := nI 202) rfl ?_
        refine s_iconst (pc := 318) dX12_comes_318 (v := nI 2) rfl ?_
        refine s_aload_n (pc := 319) dX12_comes_319 1 rfl rfl ?_
        obtain ⟨q62, h63, hf⟩ := p_bd hf
        have t64 : p_tp N q62 0 := WT.get hW ha0 h63
        refine x_getR (pc := 320) dX12_comes_320 fl_X12_7 rfl ha0 h63 ?_
        refine s_iconst (pc := 323) dX12_comes_323 (v := nI 3) rfl ?_
        obtain ⟨c65, hf⟩ := p_ckx hf
        refine x_iald (pc := 324) dX12_comes_324 t64 c65 ?_
        refine s_imul (pc := 325) dX12_comes_325 ?_
        refine s_iadd (pc := 326) dX12_comes_326 ?_
        refine s_iconst (pc := 327) dX12_comes_327 (v := nI 1) rfl ?_
        refine s_iadd (pc := 328) dX12_comes_328 ?_
        refine s_aload_n (pc := 329) dX12_comes_329 1 rfl rfl ?_
        obtain ⟨q66, h67, hf⟩ := p_bd hf
        have t68 : p_tp N q66 0 := WT.get hW ha0 h67
        refine x_getR (pc := 330) dX12_comes_330 fl_X12_53 rfl ha0 h67 ?_
        refine s_iload_n (pc := 333) dX12_comes_333 2 rfl rfl ?_
        refine s_iconst (pc := 334) dX12_comes_334 (v := nI 2) rfl ?_
        refine s_iadd (pc := 335) dX12_comes_335 ?_
        obtain ⟨c69, hf⟩ := p_ckx hf
        refine x_iald (pc := 336) dX12_comes_336 t68 c69 ?_
        obtain ⟨c70, hf⟩ := p_ckx hf
        refine x_iast (pc := 337) dX12_comes_337 t61 c70 ?_
        refine s_nmI (fun I71 e72 => ?_)
        replace hf := p_lx hf e72
        refine s_aload_n (pc := 338) dX12_comes_338 1 rfl rfl ?_
        obtain ⟨q73, h74, hf⟩ := p_bd hf
        have t75 : p_tp N q73 0 := WT.get hW ha0 h74
        refine x_getR (pc := 339) dX12_comes_339 fl_X12_7 rfl ha0 h74 ?_
        refine s_iconst (pc := 342) dX12_comes_342 (v := nI 3) rfl ?_
        refine s_dup2_11 (pc := 343) dX12_comes_343 rfl rfl ?_
        obtain ⟨c76, hf⟩ := p_ckx hf
        refine x_iald (pc := 344) dX12_comes_344 t75 c76 ?_
        refine s_iconst (pc := 345) dX12_comes_345 (v := nI 1) rfl ?_
        refine s_iadd (pc := 346) dX12_comes_346 ?_
        obtain ⟨c77, hf⟩ := p_ckx hf
        refine x_iast (pc := 347) dX12_comes_347 t75 c77 ?_
        refine s_nmI (fun I78 e79 => ?_)
        replace hf := p_lx hf e79
        refine s_goto (pc := 348) (tgt := 403) dX12_comes_348 rfl ?_
        cases hf
        exact s_return (pc := 403) dX12_comes_403 rfl ⟨rfl, rfl, rfl, rfl, rfl⟩
    · replace hf := p_ps hf hc
      refine s_bipush (pc := 177) dX12_comes_177 (v := nI 120) rfl ?_
      refine s_bipush (pc := 179) dX12_comes_179 (v := nI 8) rfl ?_
      refine s_aload_n (pc := 181) dX12_comes_181 1 rfl rfl ?_
      obtain ⟨q80, h81, hf⟩ := p_bd hf
      have t82 : p_tp N q80 0 := WT.get hW ha0 h81
      refine x_getR (pc := 182) dX12_comes_182 fl_X12_7 rfl ha0 h81 ?_
      refine s_iconst (pc := 185) dX12_comes_185 (v := nI 1) rfl ?_
      obtain ⟨c83, hf⟩ := p_ckx hf
      refine x_iald (pc := 186) dX12_comes_186 t82 c83 ?_
      refine s_imul (pc := 187) dX12_comes_187 ?_
      refine s_iadd (pc := 188) dX12_comes_188 ?_
      refine s_topi (fun v84 e85 => ?_)
      replace hf := p_lx hf e85
      refine s_istore_n (pc := 189) (lo' := [(3, .int v84), (2, .int v5), (0, .ref a0), (1, .int x1)]) dX12_comes_189 rfl (Nat.le_of_ble_eq_true rfl) rfl ?_
      refine s_iconst (pc := 190) dX12_comes_190 (v := nI 0) rfl ?_
      refine s_istore (pc := 191) (lo' := [(4, .int (nI 0)), (3, .int v84), (2, .int v5), (0, .ref a0), (1, .int x1)]) dX12_comes_191 (Nat.le_of_ble_eq_true rfl) rfl ?_
      obtain ⟨t86, hg, hf⟩ := p_bd hf
      have k87 : SW G mX12_comes (p_rm d 0 0) 0 0 0 0 (p_R none N qq L P) 225 [(3, .int v84), (0, .ref a0)] [] N t86 L P := by
        refine s_aload_n (pc := 225) dX12_comes_225 1 rfl rfl ?_
        obtain ⟨q109, h110, hf⟩ := p_bd hf
        have t111 : p_tp N q109 0 := WT.get hW ha0 h110
        refine x_getR (pc := 226) dX12_comes_226 fl_X12_7 rfl ha0 h110 ?_
        refine s_iload_n (pc := 229) dX12_comes_229 0 rfl rfl ?_
        refine s_iconst (pc := 230) dX12_comes_230 (v := nI 4) rfl ?_
        refine s_iadd (pc := 231) dX12_comes_231 ?_
        refine s_aload_n (pc := 232) dX12_comes_232 1 rfl rfl ?_
        obtain ⟨q112, h113, hf⟩ := p_bd hf
        have t114 : p_tp N q112 0 := WT.get hW ha0 h113
        refine x_getR (pc := 233) dX12_comes_233 fl_X12_7 rfl ha0 h113 ?_
        refine s_iconst (pc := 236) dX12_comes_236 (v := nI 4) rfl ?_
        obtain ⟨c115, hf⟩ := p_ckx hf
        refine x_iald (pc := 237) dX12_comes_237 t114 c115 ?_
        obtain ⟨c116, hf⟩ := p_ckx hf
        refine x_iast (pc := 238) dX12_comes_238 t111 c116 ?_
        refine s_nmI (fun I117 e118 => ?_)
        replace hf := p_lx hf e118
        refine s_aload_n (pc := 239) dX12_comes_239 1 rfl rfl ?_
        obtain ⟨q119, h120, hf⟩ := p_bd hf
        have t121 : p_tp N q119 0 := WT.get hW ha0 h120
        refine x_getR (pc := 240) dX12_comes_240 fl_X12_7 rfl ha0 h120 ?_
        refine s_iload_n (pc := 243) dX12_comes_243 0 rfl rfl ?_
        refine s_iconst (pc := 244) dX12_comes_244 (v := nI 5) rfl ?_
        refine s_iadd (pc := 245) dX12_comes_245 ?_
        refine s_iconst (pc := 246) dX12_comes_246 (v := (-1)) rfl ?_
        obtain ⟨c122, hf⟩ := p_ckx hf
        refine x_iast (pc := 247) dX12_comes_247 t121 c122 ?_
        refine s_nmI (fun I123 e124 => ?_)
        replace hf := p_lx hf e124
        refine s_aload_n (pc := 248) dX12_comes_248 1 rfl rfl ?_
        obtain ⟨q125, h126, hf⟩ := p_bd hf
        have t127 : p_tp N q125 0 := WT.get hW ha0 h126
        refine x_getR (pc := 249) dX12_comes_249 fl_X12_7 rfl ha0 h126 ?_
        refine s_iload_n (pc := 252) dX12_comes_252 0 rfl rfl ?_
        refine s_bipush (pc := 253) dX12_comes_253 (v := nI 6) rfl ?_
        refine s_iadd (pc := 255) dX12_comes_255 ?_
        refine s_iconst (pc := 256) dX12_comes_256 (v := (-1)) rfl ?_
        obtain ⟨c128, hf⟩ := p_ckx hf
        refine x_iast (pc := 257) dX12_comes_257 t127 c128 ?_
        refine s_nmI (fun I129 e130 => ?_)
        replace hf := p_lx hf e130
        refine s_aload_n (pc := 258) dX12_comes_258 1 rfl rfl ?_
        obtain ⟨q131, h132, hf⟩ := p_bd hf
        have t133 : p_tp N q131 0 := WT.get hW ha0 h132
        refine x_getR (pc := 259) dX12_comes_259 fl_X12_7 rfl ha0 h132 ?_
        refine s_iload_n (pc := 262) dX12_comes_262 0 rfl rfl ?_
        refine s_bipush (pc := 263) dX12_comes_263 (v := nI 7) rfl ?_
        refine s_iadd (pc := 265) dX12_comes_265 ?_
        refine s_iconst (pc := 266) dX12_comes_266 (v := (-1)) rfl ?_
        obtain ⟨c134, hf⟩ := p_ckx hf
        refine x_iast (pc := 267) dX12_comes_267 t133 c134 ?_
        refine s_nmI (fun I135 e136 => ?_)
        replace hf := p_lx hf e136
        refine s_aload_n (pc := 268) dX12_comes_268 1 rfl rfl ?_
        obtain ⟨q137, h138, hf⟩ := p_bd hf
        have t139 : p_tp N q137 0 := WT.get hW ha0 h138
        refine x_getR (pc := 269) dX12_comes_269 fl_X12_7 rfl ha0 h138 ?_
        refine s_iconst (pc := 272) dX12_comes_272 (v := nI 1) rfl ?_
        refine s_dup2_11 (pc := 273) dX12_comes_273 rfl rfl ?_
        obtain ⟨c140, hf⟩ := p_ckx hf
        refine x_iald (pc := 274) dX12_comes_274 t139 c140 ?_
        refine s_iconst (pc := 275) dX12_comes_275 (v := nI 1) rfl ?_
        refine s_iadd (pc := 276) dX12_comes_276 ?_
        obtain ⟨c141, hf⟩ := p_ckx hf
        refine x_iast (pc := 277) dX12_comes_277 t139 c141 ?_
        refine s_nmI (fun I142 e143 => ?_)
        replace hf := p_lx hf e143
        refine s_goto (pc := 278) (tgt := 403) dX12_comes_278 rfl ?_
        cases hf
        exact s_return (pc := 403) dX12_comes_403 rfl ⟨rfl, rfl, rfl, rfl, rfl⟩
      replace hf := hg
      have k98 : ∀ (k : Nat) (s0 : Int32 × pI), p_it (B_X12_comes_193 N P v84 a0 x1) k s0 = some t86 → (SW G mX12_comes (p_rm d 0 0) 0 0 0 0 (p_R none N qq L P) 193 [(3, .int v84), (0, .ref a0), (1, .int x1), (4, .int s0.1)] [] N s0.2 L P) := p_it_ind (C := fun (s0 : Int32 × pI) => SW G mX12_comes (p_rm d 0 0) 0 0 0 0 (p_R none N qq L P) 193 [(3, .int v84), (0, .ref a0), (1, .int x1), (4, .int s0.1)] [] N s0.2 L P) (by
        intro rec0 hrec0 s0 hf
        unfold B_X12_comes_193 at hf
        refine s_iload (pc := 193) dX12_comes_193 3 rfl ?_
        refine s_iconst (pc := 195) dX12_comes_195 (v := nI 4) rfl ?_
        refine s_icmp_ge (pc := 196) (tgt := 225) dX12_comes_196 rfl (fun hc => ?_) (fun hc => ?_)
        · replace hf := p_ps hf hc
          cases hf
          exact s_lo [0, 1] rfl (k87)
        · replace hf := p_ng hf hc
          refine s_aload_n (pc := 199) dX12_comes_199 1 rfl rfl ?_
          obtain ⟨q99, h100, hf⟩ := p_bd hf
          have t101 : p_tp N q99 0 := WT.get hW ha0 h100
          refine x_getR (pc := 200) dX12_comes_200 fl_X12_7 rfl ha0 h100 ?_
          refine s_iload_n (pc := 203) dX12_comes_203 0 rfl rfl ?_
          refine s_iload (pc := 204) dX12_comes_204 3 rfl ?_
          refine s_iadd (pc := 206) dX12_comes_206 ?_
          refine s_aload_n (pc := 207) dX12_comes_207 1 rfl rfl ?_
          obtain ⟨q102, h103, hf⟩ := p_bd hf
          have t104 : p_tp N q102 0 := WT.get hW ha0 h103
          refine x_getR (pc := 208) dX12_comes_208 fl_X12_53 rfl ha0 h103 ?_
          refine s_iload_n (pc := 211) dX12_comes_211 2 rfl rfl ?_
          refine s_iconst (pc := 212) dX12_comes_212 (v := nI 1) rfl ?_
          refine s_iadd (pc := 213) dX12_comes_213 ?_
          refine s_iload (pc := 214) dX12_comes_214 3 rfl ?_
          refine s_iadd (pc := 216) dX12_comes_216 ?_
          obtain ⟨c105, hf⟩ := p_ckx hf
          refine x_iald (pc := 217) dX12_comes_217 t104 c105 ?_
          obtain ⟨c106, hf⟩ := p_ckx hf
          refine x_iast (pc := 218) dX12_comes_218 t101 c106 ?_
          refine s_nmI (fun I107 e108 => ?_)
          replace hf := p_lx hf e108
          refine s_iinc (pc := 219) (lo' := [(4, .int (s0.1 + nI 1)), (3, .int v84), (0, .ref a0), (1, .int x1)]) dX12_comes_219 3 rfl (v := s0.1 + nI 1) rfl (Nat.le_of_ble_eq_true rfl) rfl ?_
          refine s_goto (pc := 222) (tgt := 193) dX12_comes_222 rfl ?_
          exact s_lo [1, 2, 3, 0] rfl (hrec0 (s0.1 + nI 1, I107) hf))
      exact s_lo [1, 3, 4, 0] rfl (k98 n (nI 0, I) hf)
  · replace hf := p_ps hf hc
    refine s_bipush (pc := 12) dX12_comes_12 (v := nI 30) rfl ?_
    refine s_bipush (pc := 14) dX12_comes_14 (v := nI 7) rfl ?_
    refine s_aload_n (pc := 16) dX12_comes_16 1 rfl rfl ?_
    obtain ⟨q144, h145, hf⟩ := p_bd hf
    have t146 : p_tp N q144 0 := WT.get hW ha0 h145
    refine x_getR (pc := 17) dX12_comes_17 fl_X12_7 rfl ha0 h145 ?_
    refine s_iconst (pc := 20) dX12_comes_20 (v := nI 0) rfl ?_
    obtain ⟨c147, hf⟩ := p_ckx hf
    refine x_iald (pc := 21) dX12_comes_21 t146 c147 ?_
    refine s_imul (pc := 22) dX12_comes_22 ?_
    refine s_iadd (pc := 23) dX12_comes_23 ?_
    refine s_topi (fun v148 e149 => ?_)
    replace hf := p_lx hf e149
    refine s_istore_n (pc := 24) (lo' := [(3, .int v148), (2, .int v5), (0, .ref a0), (1, .int x1)]) dX12_comes_24 rfl (Nat.le_of_ble_eq_true rfl) rfl ?_
    refine s_aload_n (pc := 25) dX12_comes_25 2 rfl rfl ?_
    obtain ⟨q150, h151, hf⟩ := p_bd hf
    have t152 : p_tp N q150 0 := WT.get hW ha0 h151
    refine x_getR (pc := 26) dX12_comes_26 fl_X12_53 rfl ha0 h151 ?_
    refine s_iload_n (pc := 29) dX12_comes_29 3 rfl rfl ?_
    refine s_iconst (pc := 30) dX12_comes_30 (v := nI 1) rfl ?_
    refine s_iadd (pc := 31) dX12_comes_31 ?_
    obtain ⟨c153, hf⟩ := p_ckx hf
    refine x_iald (pc := 32) dX12_comes_32 t152 c153 ?_
    refine s_aload_n (pc := 33) dX12_comes_33 2 rfl rfl ?_
    obtain ⟨q154, h155, hf⟩ := p_bd hf
    have t156 : p_tp N q154 0 := WT.get hW ha0 h155
    refine x_getR (pc := 34) dX12_comes_34 fl_X12_53 rfl ha0 h155 ?_
    refine s_iload_n (pc := 37) dX12_comes_37 3 rfl rfl ?_
    refine s_iconst (pc := 38) dX12_comes_38 (v := nI 3) rfl ?_
    refine s_iadd (pc := 39) dX12_comes_39 ?_
    obtain ⟨c157, hf⟩ := p_ckx hf
    refine x_iald (pc := 40) dX12_comes_40 t156 c157 ?_
    obtain ⟨t158, hg, hf⟩ := p_bd hf
    have k159 : SW G mX12_comes (p_rm d 0 0) 0 0 0 0 (p_R none N qq L P) 68 [(3, .int v148), (0, .ref a0), (1, .int x1)] [.int t158] N I L P := by
      refine s_istore (pc := 68) (lo' := [(4, .int t158), (3, .int v148), (0, .ref a0), (1, .int x1)]) dX12_comes_68 (Nat.le_of_ble_eq_true rfl) rfl ?_
      refine s_iconst (pc := 70) dX12_comes_70 (v := nI 0) rfl ?_
      refine s_istore (pc := 71) (lo' := [(5, .int (nI 0)), (4, .int t158), (3, .int v148), (0, .ref a0), (1, .int x1)]) dX12_comes_71 (Nat.le_of_ble_eq_true rfl) rfl ?_
      obtain ⟨t168, hg, hf⟩ := p_bd hf
      have k169 : SW G mX12_comes (p_rm d 0 0) 0 0 0 0 (p_R none N qq L P) 119 [(3, .int v148), (0, .ref a0), (1, .int x1)] [] N t168 L P := by
        refine s_aload_n (pc := 119) dX12_comes_119 1 rfl rfl ?_
        obtain ⟨q195, h196, hf⟩ := p_bd hf
        have t197 : p_tp N q195 0 := WT.get hW ha0 h196
        refine x_getR (pc := 120) dX12_comes_120 fl_X12_7 rfl ha0 h196 ?_
        refine s_iload_n (pc := 123) dX12_comes_123 0 rfl rfl ?_
        refine s_iconst (pc := 124) dX12_comes_124 (v := nI 4) rfl ?_
        refine s_iadd (pc := 125) dX12_comes_125 ?_
        refine s_aload_n (pc := 126) dX12_comes_126 1 rfl rfl ?_
        obtain ⟨q198, h199, hf⟩ := p_bd hf
        have t200 : p_tp N q198 0 := WT.get hW ha0 h199
        refine x_getR (pc := 127) dX12_comes_127 fl_X12_53 rfl ha0 h199 ?_
        refine s_iload_n (pc := 130) dX12_comes_130 2 rfl rfl ?_
        refine s_iconst (pc := 131) dX12_comes_131 (v := nI 5) rfl ?_
        refine s_iadd (pc := 132) dX12_comes_132 ?_
        obtain ⟨c201, hf⟩ := p_ckx hf
        refine x_iald (pc := 133) dX12_comes_133 t200 c201 ?_
        obtain ⟨c202, hf⟩ := p_ckx hf
        refine x_iast (pc := 134) dX12_comes_134 t197 c202 ?_
        refine s_nmI (fun I203 e204 => ?_)
        replace hf := p_lx hf e204
        refine s_aload_n (pc := 135) dX12_comes_135 1 rfl rfl ?_
        obtain ⟨q205, h206, hf⟩ := p_bd hf
        have t207 : p_tp N q205 0 := WT.get hW ha0 h206
        refine x_getR (pc := 136) dX12_comes_136 fl_X12_7 rfl ha0 h206 ?_
        refine s_iload_n (pc := 139) dX12_comes_139 0 rfl rfl ?_
        refine s_iconst (pc := 140) dX12_comes_140 (v := nI 5) rfl ?_
        refine s_iadd (pc := 141) dX12_comes_141 ?_
        refine s_aload_n (pc := 142) dX12_comes_142 1 rfl rfl ?_
        obtain ⟨q208, h209, hf⟩ := p_bd hf
        have t210 : p_tp N q208 0 := WT.get hW ha0 h209
        refine x_getR (pc := 143) dX12_comes_143 fl_X12_7 rfl ha0 h209 ?_
        refine s_iconst (pc := 146) dX12_comes_146 (v := nI 4) rfl ?_
        obtain ⟨c211, hf⟩ := p_ckx hf
        refine x_iald (pc := 147) dX12_comes_147 t210 c211 ?_
        obtain ⟨c212, hf⟩ := p_ckx hf
        refine x_iast (pc := 148) dX12_comes_148 t207 c212 ?_
        refine s_nmI (fun I213 e214 => ?_)
        replace hf := p_lx hf e214
        refine s_aload_n (pc := 149) dX12_comes_149 1 rfl rfl ?_
        obtain ⟨q215, h216, hf⟩ := p_bd hf
        have t217 : p_tp N q215 0 := WT.get hW ha0 h216
        refine x_getR (pc := 150) dX12_comes_150 fl_X12_7 rfl ha0 h216 ?_
        refine s_iload_n (pc := 153) dX12_comes_153 0 rfl rfl ?_
        refine s_bipush (pc := 154) dX12_comes_154 (v := nI 6) rfl ?_
        refine s_iadd (pc := 156) dX12_comes_156 ?_
        refine s_iconst (pc := 157) dX12_comes_157 (v := (-1)) rfl ?_
        obtain ⟨c218, hf⟩ := p_ckx hf
        refine x_iast (pc := 158) dX12_comes_158 t217 c218 ?_
        refine s_nmI (fun I219 e220 => ?_)
        replace hf := p_lx hf e220
        refine s_aload_n (pc := 159) dX12_comes_159 1 rfl rfl ?_
        obtain ⟨q221, h222, hf⟩ := p_bd hf
        have t223 : p_tp N q221 0 := WT.get hW ha0 h222
        refine x_getR (pc := 160) dX12_comes_160 fl_X12_7 rfl ha0 h222 ?_
        refine s_iconst (pc := 163) dX12_comes_163 (v := nI 0) rfl ?_
        refine s_dup2_11 (pc := 164) dX12_comes_164 rfl rfl ?_
        obtain ⟨c224, hf⟩ := p_ckx hf
        refine x_iald (pc := 165) dX12_comes_165 t223 c224 ?_
        refine s_iconst (pc := 166) dX12_comes_166 (v := nI 1) rfl ?_
        refine s_iadd (pc := 167) dX12_comes_167 ?_
        obtain ⟨c225, hf⟩ := p_ckx hf
        refine x_iast (pc := 168) dX12_comes_168 t223 c225 ?_
        refine s_nmI (fun I226 e227 => ?_)
        replace hf := p_lx hf e227
        refine s_goto (pc := 169) (tgt := 403) dX12_comes_169 rfl ?_
        cases hf
        exact s_return (pc := 403) dX12_comes_403 rfl ⟨rfl, rfl, rfl, rfl, rfl⟩
      replace hf := hg
      have k182 : ∀ (k : Nat) (s0 : Int32 × pI), p_it (B_X12_comes_73 N P t158 v148 a0 x1) k s0 = some t168 → (SW G mX12_comes (p_rm d 0 0) 0 0 0 0 (p_R none N qq L P) 73 [(4, .int t158), (3, .int v148), (0, .ref a0), (1, .int x1), (5, .int s0.1)] [] N s0.2 L P) := p_it_ind (C := fun (s0 : Int32 × pI) => SW G mX12_comes (p_rm d 0 0) 0 0 0 0 (p_R none N qq L P) 73 [(4, .int t158), (3, .int v148), (0, .ref a0), (1, .int x1), (5, .int s0.1)] [] N s0.2 L P) (by
        intro rec0 hrec0 s0 hf
        unfold B_X12_comes_73 at hf
        refine s_iload (pc := 73) dX12_comes_73 4 rfl ?_
        refine s_iconst (pc := 75) dX12_comes_75 (v := nI 4) rfl ?_
        refine s_icmp_ge (pc := 76) (tgt := 119) dX12_comes_76 rfl (fun hc => ?_) (fun hc => ?_)
        · replace hf := p_ps hf hc
          cases hf
          exact s_lo [1, 2, 3] rfl (k169)
        · replace hf := p_ng hf hc
          refine s_aload_n (pc := 79) dX12_comes_79 2 rfl rfl ?_
          obtain ⟨q183, h184, hf⟩ := p_bd hf
          have t185 : p_tp N q183 0 := WT.get hW ha0 h184
          refine x_getR (pc := 80) dX12_comes_80 fl_X12_7 rfl ha0 h184 ?_
          refine s_iload_n (pc := 83) dX12_comes_83 1 rfl rfl ?_
          refine s_iload (pc := 84) dX12_comes_84 4 rfl ?_
          refine s_iadd (pc := 86) dX12_comes_86 ?_
          refine s_aload_n (pc := 87) dX12_comes_87 2 rfl rfl ?_
          obtain ⟨q186, h187, hf⟩ := p_bd hf
          have t188 : p_tp N q186 0 := WT.get hW ha0 h187
          refine x_getR (pc := 88) dX12_comes_88 fl_X12_53 rfl ha0 h187 ?_
          refine s_iload_n (pc := 91) dX12_comes_91 3 rfl rfl ?_
          refine s_iconst (pc := 92) dX12_comes_92 (v := nI 1) rfl ?_
          refine s_iadd (pc := 93) dX12_comes_93 ?_
          refine s_iload (pc := 94) dX12_comes_94 0 rfl ?_
          obtain ⟨t189, hg, hf⟩ := p_bd hf
          have k190 : SW G mX12_comes (p_rm d 0 0) 0 0 0 0 (p_R none N qq L P) 110 [(4, .int t158), (3, .int v148), (0, .ref a0), (1, .int x1), (5, .int s0.1)] [.int t189, .int (x1 + (nI 1)), .ref q186, .int (v148 + s0.1), .ref q183] N s0.2 L P := by
            refine s_iadd (pc := 110) dX12_comes_110 ?_
            obtain ⟨c191, hf⟩ := p_ckx hf
            refine x_iald (pc := 111) dX12_comes_111 t188 c191 ?_
            obtain ⟨c192, hf⟩ := p_ckx hf
            refine x_iast (pc := 112) dX12_comes_112 t185 c192 ?_
            refine s_nmI (fun I193 e194 => ?_)
            replace hf := p_lx hf e194
            refine s_iinc (pc := 113) (lo' := [(5, .int (s0.1 + nI 1)), (4, .int t158), (3, .int v148), (0, .ref a0), (1, .int x1)]) dX12_comes_113 4 rfl (v := s0.1 + nI 1) rfl (Nat.le_of_ble_eq_true rfl) rfl ?_
            refine s_goto (pc := 116) (tgt := 73) dX12_comes_116 rfl ?_
            exact s_lo [1, 2, 3, 4, 0] rfl (hrec0 (s0.1 + nI 1, I193) hf)
          replace hf := hg
          refine s_if_eq (pc := 96) (tgt := 108) dX12_comes_96 rfl (fun hc => ?_) (fun hc => ?_)
          · replace hf := p_ps hf hc
            refine s_iload (pc := 108) dX12_comes_108 4 rfl ?_
            cases hf
            exact s_lo [0, 1, 2, 3, 4] rfl (k190)
          · replace hf := p_ng hf hc
            refine s_iload (pc := 99) dX12_comes_99 4 rfl ?_
            refine s_iconst (pc := 101) dX12_comes_101 (v := nI 2) rfl ?_
            refine s_iadd (pc := 102) dX12_comes_102 ?_
            refine s_iconst (pc := 103) dX12_comes_103 (v := nI 4) rfl ?_
            refine s_irem (pc := 104) dX12_comes_104 (by decide) ?_
            refine s_goto (pc := 105) (tgt := 110) dX12_comes_105 rfl ?_
            cases hf
            exact s_lo [0, 1, 2, 3, 4] rfl (k190))
      exact s_lo [1, 2, 3, 4, 0] rfl (k182 n (nI 0, I) hf)
    replace hf := hg
    refine s_icmp_gt (pc := 41) (tgt := 63) dX12_comes_41 rfl (fun hc => ?_) (fun hc => ?_)
    · replace hf := p_ps hf hc
      refine s_iconst (pc := 63) dX12_comes_63 (v := nI 1) rfl ?_
      refine s_goto (pc := 64) (tgt := 68) dX12_comes_64 rfl ?_
      cases hf
      exact s_lo [0, 2, 3] rfl (k159)
    · replace hf := p_ng hf hc
      refine s_aload_n (pc := 44) dX12_comes_44 2 rfl rfl ?_
      obtain ⟨q160, h161, hf⟩ := p_bd hf
      have t162 : p_tp N q160 0 := WT.get hW ha0 h161
      refine x_getR (pc := 45) dX12_comes_45 fl_X12_53 rfl ha0 h161 ?_
      refine s_iload_n (pc := 48) dX12_comes_48 3 rfl rfl ?_
      refine s_iconst (pc := 49) dX12_comes_49 (v := nI 2) rfl ?_
      refine s_iadd (pc := 50) dX12_comes_50 ?_
      obtain ⟨c163, hf⟩ := p_ckx hf
      refine x_iald (pc := 51) dX12_comes_51 t162 c163 ?_
      refine s_aload_n (pc := 52) dX12_comes_52 2 rfl rfl ?_
      obtain ⟨q164, h165, hf⟩ := p_bd hf
      have t166 : p_tp N q164 0 := WT.get hW ha0 h165
      refine x_getR (pc := 53) dX12_comes_53 fl_X12_53 rfl ha0 h165 ?_
      refine s_iload_n (pc := 56) dX12_comes_56 3 rfl rfl ?_
      refine s_iconst (pc := 57) dX12_comes_57 (v := nI 4) rfl ?_
      refine s_iadd (pc := 58) dX12_comes_58 ?_
      obtain ⟨c167, hf⟩ := p_ckx hf
      refine x_iald (pc := 59) dX12_comes_59 t166 c167 ?_
      refine s_icmp_le (pc := 60) (tgt := 67) dX12_comes_60 rfl (fun hc => ?_) (fun hc => ?_)
      · replace hf := p_ps hf hc
        refine s_iconst (pc := 67) dX12_comes_67 (v := nI 0) rfl ?_
        cases hf
        exact s_lo [0, 2, 3] rfl (k159)
      · replace hf := p_ng hf hc
        refine s_iconst (pc := 63) dX12_comes_63 (v := nI 1) rfl ?_
        refine s_goto (pc := 64) (tgt := 68) dX12_comes_64 rfl ?_
        cases hf
        exact s_lo [0, 2, 3] rfl (k159)
def B_X12_town_52 (n : Nat) (N : pN) (P : pR) (a0 : Nat) (rec0 : pI → Option pI) (s0 : pI) : Option pI :=
  (if (s0 a0 35) = 0 then
    (if (s0 a0 31) = 0 then
      some s0
    else
      Option.bind (f_X12_aTownLine n N s0 P a0) fun q45 =>
      rec0 q45)
  else
    some s0)
def B_X12_town_87 (n : Nat) (N : pN) (P : pR) (a0 : Nat) (rec0 : (Int32 × pI) → Option pI) (s0 : Int32 × pI) : Option pI :=
  (if (s0.2 a0 38) ≤ s0.1 then
    some s0.2
  else
    Option.bind (f_X12_comes n N s0.2 P a0 ((nI 6) * s0.1)) fun q56 =>
    rec0 (s0.1 + nI 1, q56))
def f_X12_town (n : Nat) (N : pN) (I : pI) (P : pR) (a0 : Nat) : Option (Int32 × pI) :=
  Option.bind (f_X12_reads n N I P a0) fun q1 =>
  Option.bind (P a0 37) fun q3 =>
  Option.bind (P a0 0) fun q6 =>
  p_ck (p_ib N q6 (nI 0)) <|
  p_ck (p_ib N q3 (nI 1)) <|
  p_let (p_u q1 q3 (Int32.toNatClampNeg (nI 1)) (q1 q6 (Int32.toNatClampNeg (nI 0)))) fun I11 =>
  Option.bind (P a0 37) fun q13 =>
  Option.bind (P a0 0) fun q16 =>
  p_ck (p_ib N q16 (nI 1)) <|
  p_ck (p_ib N q13 (nI 2)) <|
  p_let (p_u I11 q13 (Int32.toNatClampNeg (nI 2)) (I11 q16 (Int32.toNatClampNeg (nI 1)))) fun I21 =>
  Option.bind (P a0 37) fun q23 =>
  Option.bind (P a0 0) fun q26 =>
  p_ck (p_ib N q26 (nI 3)) <|
  p_ck (p_ib N q23 (nI 3)) <|
  p_let (p_u I21 q23 (Int32.toNatClampNeg (nI 3)) (I21 q26 (Int32.toNatClampNeg (nI 3)))) fun I31 =>
  Option.bind (P a0 37) fun q33 =>
  Option.bind (P a0 0) fun q36 =>
  p_ck (p_ib N q36 (nI 2)) <|
  p_ck (p_ib N q33 (nI 4)) <|
  p_let (p_u I31 q33 (Int32.toNatClampNeg (nI 4)) (I31 q36 (Int32.toNatClampNeg (nI 2)))) fun I41 =>
  Option.bind (p_it (B_X12_town_52 n N P a0) n I41) fun t43 =>
  Option.bind (P a0 0) fun q50 =>
  p_ck (p_ib N q50 (nI 9)) <|
  (if (t43 q50 (Int32.toNatClampNeg (nI 9))) = 0 then
    Option.bind (p_it (B_X12_town_87 n N P a0) n (nI 0, t43)) fun t54 =>
    Option.bind (f_X12_forgets n N t54 P a0) fun q61 =>
    some (q61 a0 38, q61)
  else
    some ((-1), t43))
theorem c_X12_town {G : pG} {d : Nat} {n : Nat} {N : pN} {I : pI} {L : pL} {P : pR} {a0 : Nat} {qq : Int32 × pI} (hd : 6 ≤ d) (hW : WT N P) (ha0 : p_tp N a0 15) (hf : f_X12_town n N I P a0 = some qq) : MT G mX12_town d 0 0 [.ref a0] N I L P (p_R (some (.int qq.1)) N qq.2 L P) := by
  refine MT.of rfl (Nat.le_of_ble_eq_true rfl) ?_
  show SW G mX12_town (p_rm d 0 0) 0 0 0 0 (p_R (some (.int qq.1)) N qq.2 L P) 0 [(0, .ref a0)] [] N I L P
  unfold f_X12_town at hf
  refine s_aload_n (pc := 0) dX12_town_0 0 rfl rfl ?_
  obtain ⟨q1, h2, hf⟩ := p_bd hf
  refine y_callV0 (pc := 1) dX12_town_1 (c_X12_reads (p_dd hd (by decide)) hW ha0 h2) mk_X12_reads mv_X12_reads ml_X12_384 rfl rfl (Nat.le_of_ble_eq_true rfl) ha0 rfl (p_d1 hd (by decide)) (Nat.le_of_ble_eq_true rfl) ?_
  refine s_aload_n (pc := 4) dX12_town_4 0 rfl rfl ?_
  obtain ⟨q3, h4, hf⟩ := p_bd hf
  have t5 : p_tp N q3 0 := WT.get hW ha0 h4
  refine x_getR (pc := 5) dX12_town_5 fl_X12_56 rfl ha0 h4 ?_
  refine s_iconst (pc := 8) dX12_town_8 (v := nI 1) rfl ?_
  refine s_aload_n (pc := 9) dX12_town_9 0 rfl rfl ?_
  obtain ⟨q6, h7, hf⟩ := p_bd hf
  have t8 : p_tp N q6 0 := WT.get hW ha0 h7
  refine x_getR (pc := 10) dX12_town_10 fl_X12_7 rfl ha0 h7 ?_
  refine s_iconst (pc := 13) dX12_town_13 (v := nI 0) rfl ?_
  obtain ⟨c9, hf⟩ := p_ckx hf
  refine x_iald (pc := 14) dX12_town_14 t8 c9 ?_
  obtain ⟨c10, hf⟩ := p_ckx hf
  refine x_iast (pc := 15) dX12_town_15 t5 c10 ?_
  refine s_nmI (fun I11 e12 => ?_)
  replace hf := p_lx hf e12
  refine s_aload_n (pc := 16) dX12_town_16 0 rfl rfl ?_
  obtain ⟨q13, h14, hf⟩ := p_bd hf
  have t15 : p_tp N q13 0 := WT.get hW ha0 h14
  refine x_getR (pc := 17) dX12_town_17 fl_X12_56 rfl ha0 h14 ?_
  refine s_iconst (pc := 20) dX12_town_20 (v := nI 2) rfl ?_
  refine s_aload_n (pc := 21) dX12_town_21 0 rfl rfl ?_
  obtain ⟨q16, h17, hf⟩ := p_bd hf
  have t18 : p_tp N q16 0 := WT.get hW ha0 h17
  refine x_getR (pc := 22) dX12_town_22 fl_X12_7 rfl ha0 h17 ?_
  refine s_iconst (pc := 25) dX12_town_25 (v := nI 1) rfl ?_
  obtain ⟨c19, hf⟩ := p_ckx hf
  refine x_iald (pc := 26) dX12_town_26 t18 c19 ?_
  obtain ⟨c20, hf⟩ := p_ckx hf
  refine x_iast (pc := 27) dX12_town_27 t15 c20 ?_
  refine s_nmI (fun I21 e22 => ?_)
  replace hf := p_lx hf e22
  refine s_aload_n (pc := 28) dX12_town_28 0 rfl rfl ?_
  obtain ⟨q23, h24, hf⟩ := p_bd hf
  have t25 : p_tp N q23 0 := WT.get hW ha0 h24
  refine x_getR (pc := 29) dX12_town_29 fl_X12_56 rfl ha0 h24 ?_
  refine s_iconst (pc := 32) dX12_town_32 (v := nI 3) rfl ?_
  refine s_aload_n (pc := 33) dX12_town_33 0 rfl rfl ?_
  obtain ⟨q26, h27, hf⟩ := p_bd hf
  have t28 : p_tp N q26 0 := WT.get hW ha0 h27
  refine x_getR (pc := 34) dX12_town_34 fl_X12_7 rfl ha0 h27 ?_
  refine s_iconst (pc := 37) dX12_town_37 (v := nI 3) rfl ?_
  obtain ⟨c29, hf⟩ := p_ckx hf
  refine x_iald (pc := 38) dX12_town_38 t28 c29 ?_
  obtain ⟨c30, hf⟩ := p_ckx hf
  refine x_iast (pc := 39) dX12_town_39 t25 c30 ?_
  refine s_nmI (fun I31 e32 => ?_)
  replace hf := p_lx hf e32
  refine s_aload_n (pc := 40) dX12_town_40 0 rfl rfl ?_
  obtain ⟨q33, h34, hf⟩ := p_bd hf
  have t35 : p_tp N q33 0 := WT.get hW ha0 h34
  refine x_getR (pc := 41) dX12_town_41 fl_X12_56 rfl ha0 h34 ?_
  refine s_iconst (pc := 44) dX12_town_44 (v := nI 4) rfl ?_
  refine s_aload_n (pc := 45) dX12_town_45 0 rfl rfl ?_
  obtain ⟨q36, h37, hf⟩ := p_bd hf
  have t38 : p_tp N q36 0 := WT.get hW ha0 h37
  refine x_getR (pc := 46) dX12_town_46 fl_X12_7 rfl ha0 h37 ?_
  refine s_iconst (pc := 49) dX12_town_49 (v := nI 2) rfl ?_
  obtain ⟨c39, hf⟩ := p_ckx hf
  refine x_iald (pc := 50) dX12_town_50 t38 c39 ?_
  obtain ⟨c40, hf⟩ := p_ckx hf
  refine x_iast (pc := 51) dX12_town_51 t35 c40 ?_
  refine s_nmI (fun I41 e42 => ?_)
  replace hf := p_lx hf e42
  obtain ⟨t43, hg, hf⟩ := p_bd hf
  have k44 : SW G mX12_town (p_rm d 0 0) 0 0 0 0 (p_R (some (.int qq.1)) N qq.2 L P) 73 [(0, .ref a0)] [] N t43 L P := by
    refine s_aload_n (pc := 73) dX12_town_73 0 rfl rfl ?_
    obtain ⟨q50, h51, hf⟩ := p_bd hf
    have t52 : p_tp N q50 0 := WT.get hW ha0 h51
    refine x_getR (pc := 74) dX12_town_74 fl_X12_7 rfl ha0 h51 ?_
    refine s_bipush (pc := 77) dX12_town_77 (v := nI 9) rfl ?_
    obtain ⟨c53, hf⟩ := p_ckx hf
    refine x_iald (pc := 79) dX12_town_79 t52 c53 ?_
    refine s_if_eq (pc := 80) (tgt := 85) dX12_town_80 rfl (fun hc => ?_) (fun hc => ?_)
    · replace hf := p_ps hf hc
      refine s_iconst (pc := 85) dX12_town_85 (v := nI 0) rfl ?_
      refine s_istore_n (pc := 86) (lo' := [(1, .int (nI 0)), (0, .ref a0)]) dX12_town_86 rfl (Nat.le_of_ble_eq_true rfl) rfl ?_
      obtain ⟨t54, hg, hf⟩ := p_bd hf
      have k55 : SW G mX12_town (p_rm d 0 0) 0 0 0 0 (p_R (some (.int qq.1)) N qq.2 L P) 109 [(0, .ref a0)] [] N t54 L P := by
        refine s_aload_n (pc := 109) dX12_town_109 0 rfl rfl ?_
        obtain ⟨q61, h62, hf⟩ := p_bd hf
        refine y_callV0 (pc := 110) dX12_town_110 (c_X12_forgets (p_dd hd (by decide)) hW ha0 h62) mk_X12_forgets mv_X12_forgets ml_X12_65 rfl rfl (Nat.le_of_ble_eq_true rfl) ha0 rfl (p_d1 hd (by decide)) (Nat.le_of_ble_eq_true rfl) ?_
        refine s_aload_n (pc := 113) dX12_town_113 0 rfl rfl ?_
        refine x_getI (pc := 114) dX12_town_114 fl_X12_363 rfl ha0 ?_
        cases hf
        exact s_ireturn (pc := 117) dX12_town_117 rfl rfl ⟨rfl, rfl, rfl, rfl, rfl⟩
      replace hf := hg
      have k58 : ∀ (k : Nat) (s0 : Int32 × pI), p_it (B_X12_town_87 n N P a0) k s0 = some t54 → (SW G mX12_town (p_rm d 0 0) 0 0 0 0 (p_R (some (.int qq.1)) N qq.2 L P) 87 [(0, .ref a0), (1, .int s0.1)] [] N s0.2 L P) := p_it_ind (C := fun (s0 : Int32 × pI) => SW G mX12_town (p_rm d 0 0) 0 0 0 0 (p_R (some (.int qq.1)) N qq.2 L P) 87 [(0, .ref a0), (1, .int s0.1)] [] N s0.2 L P) (by
        intro rec0 hrec0 s0 hf
        unfold B_X12_town_87 at hf
        refine s_iload_n (pc := 87) dX12_town_87 1 rfl rfl ?_
        refine s_aload_n (pc := 88) dX12_town_88 0 rfl rfl ?_
        refine x_getI (pc := 89) dX12_town_89 fl_X12_363 rfl ha0 ?_
        refine s_icmp_ge (pc := 92) (tgt := 109) dX12_town_92 rfl (fun hc => ?_) (fun hc => ?_)
        · replace hf := p_ps hf hc
          cases hf
          exact s_lo [0] rfl (k55)
        · replace hf := p_ng hf hc
          refine s_aload_n (pc := 95) dX12_town_95 0 rfl rfl ?_
          refine s_bipush (pc := 96) dX12_town_96 (v := nI 6) rfl ?_
          refine s_iload_n (pc := 98) dX12_town_98 1 rfl rfl ?_
          refine s_imul (pc := 99) dX12_town_99 ?_
          obtain ⟨q59, h60, hf⟩ := p_bd hf
          refine y_callV0 (pc := 100) dX12_town_100 (c_X12_comes (p_dd hd (by decide)) hW ha0 h60) mk_X12_comes mv_X12_comes ml_X12_390 rfl rfl (Nat.le_of_ble_eq_true rfl) ha0 rfl (p_d1 hd (by decide)) (Nat.le_of_ble_eq_true rfl) ?_
          refine s_iinc (pc := 103) (lo' := [(1, .int (s0.1 + nI 1)), (0, .ref a0)]) dX12_town_103 1 rfl (v := s0.1 + nI 1) rfl (Nat.le_of_ble_eq_true rfl) rfl ?_
          refine s_goto (pc := 106) (tgt := 87) dX12_town_106 rfl ?_
          exact s_lo [1, 0] rfl (hrec0 (s0.1 + nI 1, q59) hf))
      exact s_lo [1, 0] rfl (k58 n (nI 0, t43) hf)
    · replace hf := p_ng hf hc
      refine s_iconst (pc := 83) dX12_town_83 (v := (-1)) rfl ?_
      cases hf
      exact s_ireturn (pc := 84) dX12_town_84 rfl rfl ⟨rfl, rfl, rfl, rfl, rfl⟩
  replace hf := hg
  have k47 : ∀ (k : Nat) (s0 : pI), p_it (B_X12_town_52 n N P a0) k s0 = some t43 → (SW G mX12_town (p_rm d 0 0) 0 0 0 0 (p_R (some (.int qq.1)) N qq.2 L P) 52 [(0, .ref a0)] [] N s0 L P) := p_it_ind (C := fun (s0 : pI) => SW G mX12_town (p_rm d 0 0) 0 0 0 0 (p_R (some (.int qq.1)) N qq.2 L P) 52 [(0, .ref a0)] [] N s0 L P) (by
    intro rec0 hrec0 s0 hf
    unfold B_X12_town_52 at hf
    refine s_aload_n (pc := 52) dX12_town_52 0 rfl rfl ?_
    refine x_getI (pc := 53) dX12_town_53 fl_X12_354 rfl ha0 ?_
    refine s_if_ne (pc := 56) (tgt := 73) dX12_town_56 rfl (fun hc => ?_) (fun hc => ?_)
    · replace hf := p_ng hf hc
      cases hf
      exact s_lo [0] rfl (k44)
    · replace hf := p_ps hf hc
      refine s_aload_n (pc := 59) dX12_town_59 0 rfl rfl ?_
      refine x_getI (pc := 60) dX12_town_60 fl_X12_330 rfl ha0 ?_
      refine s_if_eq (pc := 63) (tgt := 73) dX12_town_63 rfl (fun hc => ?_) (fun hc => ?_)
      · replace hf := p_ps hf hc
        cases hf
        exact s_lo [0] rfl (k44)
      · replace hf := p_ng hf hc
        refine s_aload_n (pc := 66) dX12_town_66 0 rfl rfl ?_
        obtain ⟨q48, h49, hf⟩ := p_bd hf
        refine y_callV0 (pc := 67) dX12_town_67 (c_X12_aTownLine (p_dd hd (by decide)) hW ha0 h49) mk_X12_aTownLine mv_X12_aTownLine ml_X12_387 rfl rfl (Nat.le_of_ble_eq_true rfl) ha0 rfl (p_d1 hd (by decide)) (Nat.le_of_ble_eq_true rfl) ?_
        refine s_goto (pc := 70) (tgt := 52) dX12_town_70 rfl ?_
        exact s_lo [0] rfl (hrec0 q48 hf))
  exact s_lo [0] rfl (k47 n I41 hf)
def f_X12_aTest (n : Nat) (N : pN) (I : pI) (P : pR) (a0 : Nat) : Option pI :=
  Option.bind (P a0 40) fun q1 =>
  Option.bind (f_X12_takes n N I P a0 (nI 32)) fun q4 =>
  p_let (α := Int32) ((if q4.1 = 0 then
    nI 0
  else
    nI 1)) fun t6 =>
  p_ck (p_ib N q1 (nI 0)) <|
  p_let (p_u q4.2 q1 (Int32.toNatClampNeg (nI 0)) t6) fun I9 =>
  Option.bind (P a0 40) fun q11 =>
  p_ck (p_ib N q11 (nI 1)) <|
  p_let (p_u I9 q11 (Int32.toNatClampNeg (nI 1)) (I9 a0 34)) fun I15 =>
  Option.bind (P a0 40) fun q17 =>
  p_ck (p_ib N q17 (nI 2)) <|
  p_let (p_u I15 q17 (Int32.toNatClampNeg (nI 2)) (nI 61)) fun I21 =>
  Option.bind (P a0 40) fun q23 =>
  p_ck (p_ib N q23 (nI 3)) <|
  p_let (p_u I21 q23 (Int32.toNatClampNeg (nI 3)) (nI 1)) fun I27 =>
  (if (I27 a0 35) = 0 then
    (if (I27 a0 31) = (nI 3) then
      Option.bind (f_X12_isIn (I27 a0 34) (nI 10) (nI 16)) fun q33 =>
      (if q33 = 0 then
        Option.bind (f_X12_stops N I27 P a0) fun q63 =>
        some q63
      else
        Option.bind (f_X12_advance n N I27 P a0) fun q35 =>
        Option.bind (P a0 40) fun q37 =>
        p_ck (p_ib N q37 (nI 1)) <|
        (if (q35 q37 (Int32.toNatClampNeg (nI 1))) = (nI 10) then
          some q35
        else
          Option.bind (P a0 40) fun q41 =>
          p_ck (p_ib N q41 (nI 2)) <|
          p_let (p_u q35 q41 (Int32.toNatClampNeg (nI 2)) (q35 a0 33)) fun I45 =>
          (if (I45 a0 31) = (nI 2) then
            (if (I45 a0 33) = (nI 58) then
              Option.bind (f_X12_stops N I45 P a0) fun q49 =>
              some q49
            else
              (if (I45 a0 33) = (nI 59) then
                Option.bind (f_X12_stops N I45 P a0) fun q61 =>
                some q61
              else
                Option.bind (f_X12_advance n N I45 P a0) fun q51 =>
                Option.bind (P a0 40) fun q53 =>
                Option.bind (f_X12_numbered n N q51 P a0) fun q56 =>
                p_ck (p_ib N q53 (nI 3)) <|
                p_let (p_u q56.2 q53 (Int32.toNatClampNeg (nI 3)) q56.1) fun I59 =>
                some I59))
          else
            Option.bind (f_X12_stops N I45 P a0) fun q47 =>
            some q47)))
    else
      Option.bind (f_X12_stops N I27 P a0) fun q31 =>
      some q31)
  else
    Option.bind (f_X12_stops N I27 P a0) fun q29 =>
    some q29)
theorem c_X12_aTest {G : pG} {d : Nat} {n : Nat} {N : pN} {I : pI} {L : pL} {P : pR} {a0 : Nat} {qq : pI} (hd : 5 ≤ d) (hW : WT N P) (ha0 : p_tp N a0 15) (hf : f_X12_aTest n N I P a0 = some qq) : MT G mX12_aTest d 0 0 [.ref a0] N I L P (p_R none N qq L P) := by
  refine MT.of rfl (Nat.le_of_ble_eq_true rfl) ?_
  show SW G mX12_aTest (p_rm d 0 0) 0 0 0 0 (p_R none N qq L P) 0 [(0, .ref a0)] [] N I L P
  unfold f_X12_aTest at hf
  refine s_aload_n (pc := 0) dX12_aTest_0 0 rfl rfl ?_
  obtain ⟨q1, h2, hf⟩ := p_bd hf
  have t3 : p_tp N q1 0 := WT.get hW ha0 h2
  refine x_getR (pc := 1) dX12_aTest_1 fl_X12_62 rfl ha0 h2 ?_
  refine s_iconst (pc := 4) dX12_aTest_4 (v := nI 0) rfl ?_
  refine s_aload_n (pc := 5) dX12_aTest_5 0 rfl rfl ?_
  refine s_bipush (pc := 6) dX12_aTest_6 (v := nI 32) rfl ?_
  obtain ⟨q4, h5, hf⟩ := p_bd hf
  refine y_callV1 (pc := 8) dX12_aTest_8 (c_X12_takes (p_dd hd (by decide)) hW ha0 h5) mk_X12_takes mv_X12_takes ml_X12_393 rfl rfl (Nat.le_of_ble_eq_true rfl) ha0 rfl (p_d1 hd (by decide)) (Nat.le_of_ble_eq_true rfl) ?_
  obtain ⟨t6, hg, hf⟩ := p_lx2 hf
  have k7 : SW G mX12_aTest (p_rm d 0 0) 0 0 0 0 (p_R none N qq L P) 19 [(0, .ref a0)] [.int t6, .int (nI 0), .ref q1] N q4.2 L P := by
    obtain ⟨c8, hf⟩ := p_ckx hf
    refine x_iast (pc := 19) dX12_aTest_19 t3 c8 ?_
    refine s_nmI (fun I9 e10 => ?_)
    replace hf := p_lx hf e10
    refine s_aload_n (pc := 20) dX12_aTest_20 0 rfl rfl ?_
    obtain ⟨q11, h12, hf⟩ := p_bd hf
    have t13 : p_tp N q11 0 := WT.get hW ha0 h12
    refine x_getR (pc := 21) dX12_aTest_21 fl_X12_62 rfl ha0 h12 ?_
    refine s_iconst (pc := 24) dX12_aTest_24 (v := nI 1) rfl ?_
    refine s_aload_n (pc := 25) dX12_aTest_25 0 rfl rfl ?_
    refine x_getI (pc := 26) dX12_aTest_26 fl_X12_339 rfl ha0 ?_
    obtain ⟨c14, hf⟩ := p_ckx hf
    refine x_iast (pc := 29) dX12_aTest_29 t13 c14 ?_
    refine s_nmI (fun I15 e16 => ?_)
    replace hf := p_lx hf e16
    refine s_aload_n (pc := 30) dX12_aTest_30 0 rfl rfl ?_
    obtain ⟨q17, h18, hf⟩ := p_bd hf
    have t19 : p_tp N q17 0 := WT.get hW ha0 h18
    refine x_getR (pc := 31) dX12_aTest_31 fl_X12_62 rfl ha0 h18 ?_
    refine s_iconst (pc := 34) dX12_aTest_34 (v := nI 2) rfl ?_
    refine s_bipush (pc := 35) dX12_aTest_35 (v := nI 61) rfl ?_
    obtain ⟨c20, hf⟩ := p_ckx hf
    refine x_iast (pc := 37) dX12_aTest_37 t19 c20 ?_
    refine s_nmI (fun I21 e22 => ?_)
    replace hf := p_lx hf e22
    refine s_aload_n (pc := 38) dX12_aTest_38 0 rfl rfl ?_
    obtain ⟨q23, h24, hf⟩ := p_bd hf
    have t25 : p_tp N q23 0 := WT.get hW ha0 h24
    refine x_getR (pc := 39) dX12_aTest_39 fl_X12_62 rfl ha0 h24 ?_
    refine s_iconst (pc := 42) dX12_aTest_42 (v := nI 3) rfl ?_
    refine s_iconst (pc := 43) dX12_aTest_43 (v := nI 1) rfl ?_
    obtain ⟨c26, hf⟩ := p_ckx hf
    refine x_iast (pc := 44) dX12_aTest_44 t25 c26 ?_
    refine s_nmI (fun I27 e28 => ?_)
    replace hf := p_lx hf e28
    refine s_aload_n (pc := 45) dX12_aTest_45 0 rfl rfl ?_
    refine x_getI (pc := 46) dX12_aTest_46 fl_X12_354 rfl ha0 ?_
    refine s_if_ne (pc := 49) (tgt := 74) dX12_aTest_49 rfl (fun hc => ?_) (fun hc => ?_)
    · replace hf := p_ng hf hc
      refine s_aload_n (pc := 74) dX12_aTest_74 0 rfl rfl ?_
      obtain ⟨q29, h30, hf⟩ := p_bd hf
      refine y_callV0 (pc := 75) dX12_aTest_75 (c_X12_stops (p_dd hd (by decide)) hW ha0 h30) mk_X12_stops mv_X12_stops ml_X12_360 rfl rfl (Nat.le_of_ble_eq_true rfl) ha0 rfl (p_d1 hd (by decide)) (Nat.le_of_ble_eq_true rfl) ?_
      cases hf
      exact s_return (pc := 78) dX12_aTest_78 rfl ⟨rfl, rfl, rfl, rfl, rfl⟩
    · replace hf := p_ps hf hc
      refine s_aload_n (pc := 52) dX12_aTest_52 0 rfl rfl ?_
      refine x_getI (pc := 53) dX12_aTest_53 fl_X12_330 rfl ha0 ?_
      refine s_iconst (pc := 56) dX12_aTest_56 (v := nI 3) rfl ?_
      refine s_icmp_ne (pc := 57) (tgt := 74) dX12_aTest_57 rfl (fun hc => ?_) (fun hc => ?_)
      · replace hf := p_ng hf hc
        refine s_aload_n (pc := 74) dX12_aTest_74 0 rfl rfl ?_
        obtain ⟨q31, h32, hf⟩ := p_bd hf
        refine y_callV0 (pc := 75) dX12_aTest_75 (c_X12_stops (p_dd hd (by decide)) hW ha0 h32) mk_X12_stops mv_X12_stops ml_X12_360 rfl rfl (Nat.le_of_ble_eq_true rfl) ha0 rfl (p_d1 hd (by decide)) (Nat.le_of_ble_eq_true rfl) ?_
        cases hf
        exact s_return (pc := 78) dX12_aTest_78 rfl ⟨rfl, rfl, rfl, rfl, rfl⟩
      · replace hf := p_ps hf hc
        refine s_aload_n (pc := 60) dX12_aTest_60 0 rfl rfl ?_
        refine x_getI (pc := 61) dX12_aTest_61 fl_X12_339 rfl ha0 ?_
        refine s_bipush (pc := 64) dX12_aTest_64 (v := nI 10) rfl ?_
        refine s_bipush (pc := 66) dX12_aTest_66 (v := nI 16) rfl ?_
        obtain ⟨q33, h34, hf⟩ := p_bd hf
        refine y_callS1 (pc := 68) dX12_aTest_68 (c_X12_isIn (p_dd hd (by decide)) hW  h34) mk_X12_isIn mz_X12_isIn ml_X12_68 rfl rfl (Nat.le_of_ble_eq_true rfl) (p_d1 hd (by decide)) (Nat.le_of_ble_eq_true rfl) ?_
        refine s_if_ne (pc := 71) (tgt := 79) dX12_aTest_71 rfl (fun hc => ?_) (fun hc => ?_)
        · replace hf := p_ng hf hc
          refine s_aload_n (pc := 79) dX12_aTest_79 0 rfl rfl ?_
          obtain ⟨q35, h36, hf⟩ := p_bd hf
          refine y_callV0 (pc := 80) dX12_aTest_80 (c_X12_advance (p_dd hd (by decide)) hW ha0 h36) mk_X12_advance mv_X12_advance ml_X12_357 rfl rfl (Nat.le_of_ble_eq_true rfl) ha0 rfl (p_d1 hd (by decide)) (Nat.le_of_ble_eq_true rfl) ?_
          refine s_aload_n (pc := 83) dX12_aTest_83 0 rfl rfl ?_
          obtain ⟨q37, h38, hf⟩ := p_bd hf
          have t39 : p_tp N q37 0 := WT.get hW ha0 h38
          refine x_getR (pc := 84) dX12_aTest_84 fl_X12_62 rfl ha0 h38 ?_
          refine s_iconst (pc := 87) dX12_aTest_87 (v := nI 1) rfl ?_
          obtain ⟨c40, hf⟩ := p_ckx hf
          refine x_iald (pc := 88) dX12_aTest_88 t39 c40 ?_
          refine s_bipush (pc := 89) dX12_aTest_89 (v := nI 10) rfl ?_
          refine s_icmp_ne (pc := 91) (tgt := 95) dX12_aTest_91 rfl (fun hc => ?_) (fun hc => ?_)
          · replace hf := p_ng hf hc
            refine s_aload_n (pc := 95) dX12_aTest_95 0 rfl rfl ?_
            obtain ⟨q41, h42, hf⟩ := p_bd hf
            have t43 : p_tp N q41 0 := WT.get hW ha0 h42
            refine x_getR (pc := 96) dX12_aTest_96 fl_X12_62 rfl ha0 h42 ?_
            refine s_iconst (pc := 99) dX12_aTest_99 (v := nI 2) rfl ?_
            refine s_aload_n (pc := 100) dX12_aTest_100 0 rfl rfl ?_
            refine x_getI (pc := 101) dX12_aTest_101 fl_X12_348 rfl ha0 ?_
            obtain ⟨c44, hf⟩ := p_ckx hf
            refine x_iast (pc := 104) dX12_aTest_104 t43 c44 ?_
            refine s_nmI (fun I45 e46 => ?_)
            replace hf := p_lx hf e46
            refine s_aload_n (pc := 105) dX12_aTest_105 0 rfl rfl ?_
            refine x_getI (pc := 106) dX12_aTest_106 fl_X12_330 rfl ha0 ?_
            refine s_iconst (pc := 109) dX12_aTest_109 (v := nI 2) rfl ?_
            refine s_icmp_ne (pc := 110) (tgt := 131) dX12_aTest_110 rfl (fun hc => ?_) (fun hc => ?_)
            · replace hf := p_ng hf hc
              refine s_aload_n (pc := 131) dX12_aTest_131 0 rfl rfl ?_
              obtain ⟨q47, h48, hf⟩ := p_bd hf
              refine y_callV0 (pc := 132) dX12_aTest_132 (c_X12_stops (p_dd hd (by decide)) hW ha0 h48) mk_X12_stops mv_X12_stops ml_X12_360 rfl rfl (Nat.le_of_ble_eq_true rfl) ha0 rfl (p_d1 hd (by decide)) (Nat.le_of_ble_eq_true rfl) ?_
              cases hf
              exact s_return (pc := 135) dX12_aTest_135 rfl ⟨rfl, rfl, rfl, rfl, rfl⟩
            · replace hf := p_ps hf hc
              refine s_aload_n (pc := 113) dX12_aTest_113 0 rfl rfl ?_
              refine x_getI (pc := 114) dX12_aTest_114 fl_X12_348 rfl ha0 ?_
              refine s_bipush (pc := 117) dX12_aTest_117 (v := nI 58) rfl ?_
              refine s_icmp_eq (pc := 119) (tgt := 131) dX12_aTest_119 rfl (fun hc => ?_) (fun hc => ?_)
              · replace hf := p_ps hf hc
                refine s_aload_n (pc := 131) dX12_aTest_131 0 rfl rfl ?_
                obtain ⟨q49, h50, hf⟩ := p_bd hf
                refine y_callV0 (pc := 132) dX12_aTest_132 (c_X12_stops (p_dd hd (by decide)) hW ha0 h50) mk_X12_stops mv_X12_stops ml_X12_360 rfl rfl (Nat.le_of_ble_eq_true rfl) ha0 rfl (p_d1 hd (by decide)) (Nat.le_of_ble_eq_true rfl) ?_
                cases hf
                exact s_return (pc := 135) dX12_aTest_135 rfl ⟨rfl, rfl, rfl, rfl, rfl⟩
              · replace hf := p_ng hf hc
                refine s_aload_n (pc := 122) dX12_aTest_122 0 rfl rfl ?_
                refine x_getI (pc := 123) dX12_aTest_123 fl_X12_348 rfl ha0 ?_
                refine s_bipush (pc := 126) dX12_aTest_126 (v := nI 59) rfl ?_
                refine s_icmp_ne (pc := 128) (tgt := 136) dX12_aTest_128 rfl (fun hc => ?_) (fun hc => ?_)
                · replace hf := p_ng hf hc
                  refine s_aload_n (pc := 136) dX12_aTest_136 0 rfl rfl ?_
                  obtain ⟨q51, h52, hf⟩ := p_bd hf
                  refine y_callV0 (pc := 137) dX12_aTest_137 (c_X12_advance (p_dd hd (by decide)) hW ha0 h52) mk_X12_advance mv_X12_advance ml_X12_357 rfl rfl (Nat.le_of_ble_eq_true rfl) ha0 rfl (p_d1 hd (by decide)) (Nat.le_of_ble_eq_true rfl) ?_
                  refine s_aload_n (pc := 140) dX12_aTest_140 0 rfl rfl ?_
                  obtain ⟨q53, h54, hf⟩ := p_bd hf
                  have t55 : p_tp N q53 0 := WT.get hW ha0 h54
                  refine x_getR (pc := 141) dX12_aTest_141 fl_X12_62 rfl ha0 h54 ?_
                  refine s_iconst (pc := 144) dX12_aTest_144 (v := nI 3) rfl ?_
                  refine s_aload_n (pc := 145) dX12_aTest_145 0 rfl rfl ?_
                  obtain ⟨q56, h57, hf⟩ := p_bd hf
                  refine y_callV1 (pc := 146) dX12_aTest_146 (c_X12_numbered (p_dd hd (by decide)) hW ha0 h57) mk_X12_numbered mv_X12_numbered ml_X12_369 rfl rfl (Nat.le_of_ble_eq_true rfl) ha0 rfl (p_d1 hd (by decide)) (Nat.le_of_ble_eq_true rfl) ?_
                  obtain ⟨c58, hf⟩ := p_ckx hf
                  refine x_iast (pc := 149) dX12_aTest_149 t55 c58 ?_
                  refine s_nmI (fun I59 e60 => ?_)
                  replace hf := p_lx hf e60
                  cases hf
                  exact s_return (pc := 150) dX12_aTest_150 rfl ⟨rfl, rfl, rfl, rfl, rfl⟩
                · replace hf := p_ps hf hc
                  refine s_aload_n (pc := 131) dX12_aTest_131 0 rfl rfl ?_
                  obtain ⟨q61, h62, hf⟩ := p_bd hf
                  refine y_callV0 (pc := 132) dX12_aTest_132 (c_X12_stops (p_dd hd (by decide)) hW ha0 h62) mk_X12_stops mv_X12_stops ml_X12_360 rfl rfl (Nat.le_of_ble_eq_true rfl) ha0 rfl (p_d1 hd (by decide)) (Nat.le_of_ble_eq_true rfl) ?_
                  cases hf
                  exact s_return (pc := 135) dX12_aTest_135 rfl ⟨rfl, rfl, rfl, rfl, rfl⟩
          · replace hf := p_ps hf hc
            cases hf
            exact s_return (pc := 94) dX12_aTest_94 rfl ⟨rfl, rfl, rfl, rfl, rfl⟩
        · replace hf := p_ps hf hc
          refine s_aload_n (pc := 74) dX12_aTest_74 0 rfl rfl ?_
          obtain ⟨q63, h64, hf⟩ := p_bd hf
          refine y_callV0 (pc := 75) dX12_aTest_75 (c_X12_stops (p_dd hd (by decide)) hW ha0 h64) mk_X12_stops mv_X12_stops ml_X12_360 rfl rfl (Nat.le_of_ble_eq_true rfl) ha0 rfl (p_d1 hd (by decide)) (Nat.le_of_ble_eq_true rfl) ?_
          cases hf
          exact s_return (pc := 78) dX12_aTest_78 rfl ⟨rfl, rfl, rfl, rfl, rfl⟩
  replace hf := hg.symm
  refine s_if_eq (pc := 11) (tgt := 18) dX12_aTest_11 rfl (fun hc => ?_) (fun hc => ?_)
  · replace hf := p_ps hf hc
    refine s_iconst (pc := 18) dX12_aTest_18 (v := nI 0) rfl ?_
    cases hf
    exact s_lo [0] rfl (k7)
  · replace hf := p_ng hf hc
    refine s_iconst (pc := 14) dX12_aTest_14 (v := nI 1) rfl ?_
    refine s_goto (pc := 15) (tgt := 19) dX12_aTest_15 rfl ?_
    cases hf
    exact s_lo [0] rfl (k7)
def f_X12_puts (N : pN) (I : pI) (P : pR) (a0 : Nat) (x1 : Int32) (x2 : Int32) : Option pI :=
  (if (nI 16) ≤ (I a0 38) then
    some I
  else
    Option.bind (P a0 39) fun q1 =>
    p_ck (p_ib N q1 (((nI 20) * (I a0 38)) + x1)) <|
    p_let (p_u I q1 (Int32.toNatClampNeg (((nI 20) * (I a0 38)) + x1)) x2) fun I5 =>
    some I5)
theorem c_X12_puts {G : pG} {d : Nat} {N : pN} {I : pI} {L : pL} {P : pR} {a0 : Nat} {x1 : Int32} {x2 : Int32} {qq : pI} (hd : 0 ≤ d) (hW : WT N P) (ha0 : p_tp N a0 15) (hf : f_X12_puts N I P a0 x1 x2 = some qq) : MT G mX12_puts d 0 0 [.ref a0, .int x1, .int x2] N I L P (p_R none N qq L P) := by
  refine MT.of rfl (Nat.le_of_ble_eq_true rfl) ?_
  show SW G mX12_puts (p_rm d 0 0) 0 0 0 0 (p_R none N qq L P) 0 [(0, .ref a0), (1, .int x1), (2, .int x2)] [] N I L P
  unfold f_X12_puts at hf
  refine s_aload_n (pc := 0) dX12_puts_0 0 rfl rfl ?_
  refine x_getI (pc := 1) dX12_puts_1 fl_X12_363 rfl ha0 ?_
  refine s_bipush (pc := 4) dX12_puts_4 (v := nI 16) rfl ?_
  refine s_icmp_ge (pc := 6) (tgt := 24) dX12_puts_6 rfl (fun hc => ?_) (fun hc => ?_)
  · replace hf := p_ps hf hc
    cases hf
    exact s_return (pc := 24) dX12_puts_24 rfl ⟨rfl, rfl, rfl, rfl, rfl⟩
  · replace hf := p_ng hf hc
    refine s_aload_n (pc := 9) dX12_puts_9 0 rfl rfl ?_
    obtain ⟨q1, h2, hf⟩ := p_bd hf
    have t3 : p_tp N q1 0 := WT.get hW ha0 h2
    refine x_getR (pc := 10) dX12_puts_10 fl_X12_59 rfl ha0 h2 ?_
    refine s_bipush (pc := 13) dX12_puts_13 (v := nI 20) rfl ?_
    refine s_aload_n (pc := 15) dX12_puts_15 0 rfl rfl ?_
    refine x_getI (pc := 16) dX12_puts_16 fl_X12_363 rfl ha0 ?_
    refine s_imul (pc := 19) dX12_puts_19 ?_
    refine s_iload_n (pc := 20) dX12_puts_20 1 rfl rfl ?_
    refine s_iadd (pc := 21) dX12_puts_21 ?_
    refine s_iload_n (pc := 22) dX12_puts_22 2 rfl rfl ?_
    obtain ⟨c4, hf⟩ := p_ckx hf
    refine x_iast (pc := 23) dX12_puts_23 t3 c4 ?_
    refine s_nmI (fun I5 e6 => ?_)
    replace hf := p_lx hf e6
    cases hf
    exact s_return (pc := 24) dX12_puts_24 rfl ⟨rfl, rfl, rfl, rfl, rfl⟩
def B_X12_aLawLine_55 (N : pN) (P : pR) (a0 : Nat) (x1 : Int32) (rec1 : (Int32 × pI) → Option pI) (s1 : Int32 × pI) : Option pI :=
  (if (nI 4) ≤ s1.1 then
    some s1.2
  else
    (if (nI 4) ≤ x1 then
      some s1.2
    else
      Option.bind (P a0 40) fun q19 =>
      p_ck (p_ib N q19 s1.1) <|
      Option.bind (f_X12_puts N s1.2 P a0 (((nI 1) + ((nI 4) * x1)) + s1.1) (s1.2 q19 (Int32.toNatClampNeg s1.1))) fun q23 =>
      rec1 (s1.1 + nI 1, q23)))
def B_X12_aLawLine_31 (n : Nat) (N : pN) (P : pR) (a0 : Nat) (rec0 : (Int32 × Int32 × pI) → Option (Int32 × pI)) (s0 : Int32 × Int32 × pI) : Option (Int32 × pI) :=
  (if s0.2.1 = 0 then
    some (s0.1, s0.2.2)
  else
    Option.bind (α := pI) ((if s0.1 ≤ (nI 3) then
      some s0.2.2
    else
      Option.bind (f_X12_also N s0.2.2 P a0 (nI 5) (s0.2.2 a0 30)) fun q13 =>
      some q13)) fun t11 =>
    Option.bind (f_X12_aTest n N t11 P a0) fun q15 =>
    Option.bind (p_it (B_X12_aLawLine_55 N P a0 s0.1) n (nI 0, q15)) fun t17 =>
    Option.bind (f_X12_takes n N t17 P a0 (nI 31)) fun q32 =>
    rec0 (s0.1 + nI 1, q32.1, q32.2))
def f_X12_aLawLine (n : Nat) (N : pN) (I : pI) (P : pR) (a0 : Nat) : Option pI :=
  Option.bind (α := pI) ((if (I a0 38) < (nI 16) then
    some I
  else
    Option.bind (f_X12_also N I P a0 (nI 5) (I a0 30)) fun q3 =>
    some q3)) fun t1 =>
  Option.bind (f_X12_takes n N t1 P a0 (nI 30)) fun q5 =>
  Option.bind (α := Int32 × pI) ((if q5.1 = 0 then
    some (nI 0, q5.2)
  else
    Option.bind (p_it (B_X12_aLawLine_31 n N P a0) n (nI 0, nI 1, q5.2)) fun t9 =>
    Option.bind (f_X12_must n N t9.2 P a0 (nI 58)) fun q52 =>
    some (t9.1, q52))) fun t7 =>
  (if (t7.2 a0 35) = 0 then
    (if (t7.2 a0 31) = (nI 3) then
      Option.bind (f_X12_isIn (t7.2 a0 34) (nI 20) (nI 21)) fun q58 =>
      (if q58 = 0 then
        Option.bind (f_X12_stops N t7.2 P a0) fun q70 =>
        some q70
      else
        Option.bind (f_X12_puts N t7.2 P a0 (nI 17) (t7.2 a0 34)) fun q60 =>
        Option.bind (f_X12_advance n N q60 P a0) fun q62 =>
        Option.bind (f_X12_must n N q62 P a0 (nI 59)) fun q64 =>
        Option.bind (f_X12_puts N q64 P a0 (nI 0) t7.1) fun q66 =>
        p_let (p_u q66 a0 38 ((q66 a0 38) + (nI 1))) fun I68 =>
        some I68)
    else
      Option.bind (f_X12_stops N t7.2 P a0) fun q56 =>
      some q56)
  else
    Option.bind (f_X12_stops N t7.2 P a0) fun q54 =>
    some q54)
theorem c_X12_aLawLine {G : pG} {d : Nat} {n : Nat} {N : pN} {I : pI} {L : pL} {P : pR} {a0 : Nat} {qq : pI} (hd : 6 ≤ d) (hW : WT N P) (ha0 : p_tp N a0 15) (hf : f_X12_aLawLine n N I P a0 = some qq) : MT G mX12_aLawLine d 0 0 [.ref a0] N I L P (p_R none N qq L P) := by
  refine MT.of rfl (Nat.le_of_ble_eq_true rfl) ?_
  show SW G mX12_aLawLine (p_rm d 0 0) 0 0 0 0 (p_R none N qq L P) 0 [(0, .ref a0)] [] N I L P
  unfold f_X12_aLawLine at hf
  refine s_aload_n (pc := 0) dX12_aLawLine_0 0 rfl rfl ?_
  refine x_getI (pc := 1) dX12_aLawLine_1 fl_X12_363 rfl ha0 ?_
  refine s_bipush (pc := 4) dX12_aLawLine_4 (v := nI 16) rfl ?_
  obtain ⟨t1, hg, hf⟩ := p_bd hf
  have k2 : SW G mX12_aLawLine (p_rm d 0 0) 0 0 0 0 (p_R none N qq L P) 18 [(0, .ref a0)] [] N t1 L P := by
    refine s_iconst (pc := 18) dX12_aLawLine_18 (v := nI 0) rfl ?_
    refine s_istore_n (pc := 19) (lo' := [(1, .int (nI 0)), (0, .ref a0)]) dX12_aLawLine_19 rfl (Nat.le_of_ble_eq_true rfl) rfl ?_
    refine s_aload_n (pc := 20) dX12_aLawLine_20 1 rfl rfl ?_
    refine s_bipush (pc := 21) dX12_aLawLine_21 (v := nI 30) rfl ?_
    obtain ⟨q5, h6, hf⟩ := p_bd hf
    refine y_callV1 (pc := 23) dX12_aLawLine_23 (c_X12_takes (p_dd hd (by decide)) hW ha0 h6) mk_X12_takes mv_X12_takes ml_X12_393 rfl rfl (Nat.le_of_ble_eq_true rfl) ha0 rfl (p_d1 hd (by decide)) (Nat.le_of_ble_eq_true rfl) ?_
    obtain ⟨t7, hg, hf⟩ := p_bd hf
    have k8 : SW G mX12_aLawLine (p_rm d 0 0) 0 0 0 0 (p_R none N qq L P) 107 [(0, .ref a0), (1, .int t7.1)] [] N t7.2 L P := by
      refine s_aload_n (pc := 107) dX12_aLawLine_107 0 rfl rfl ?_
      refine x_getI (pc := 108) dX12_aLawLine_108 fl_X12_354 rfl ha0 ?_
      refine s_if_ne (pc := 111) (tgt := 136) dX12_aLawLine_111 rfl (fun hc => ?_) (fun hc => ?_)
      · replace hf := p_ng hf hc
        refine s_aload_n (pc := 136) dX12_aLawLine_136 0 rfl rfl ?_
        obtain ⟨q54, h55, hf⟩ := p_bd hf
        refine y_callV0 (pc := 137) dX12_aLawLine_137 (c_X12_stops (p_dd hd (by decide)) hW ha0 h55) mk_X12_stops mv_X12_stops ml_X12_360 rfl rfl (Nat.le_of_ble_eq_true rfl) ha0 rfl (p_d1 hd (by decide)) (Nat.le_of_ble_eq_true rfl) ?_
        cases hf
        exact s_return (pc := 140) dX12_aLawLine_140 rfl ⟨rfl, rfl, rfl, rfl, rfl⟩
      · replace hf := p_ps hf hc
        refine s_aload_n (pc := 114) dX12_aLawLine_114 0 rfl rfl ?_
        refine x_getI (pc := 115) dX12_aLawLine_115 fl_X12_330 rfl ha0 ?_
        refine s_iconst (pc := 118) dX12_aLawLine_118 (v := nI 3) rfl ?_
        refine s_icmp_ne (pc := 119) (tgt := 136) dX12_aLawLine_119 rfl (fun hc => ?_) (fun hc => ?_)
        · replace hf := p_ng hf hc
          refine s_aload_n (pc := 136) dX12_aLawLine_136 0 rfl rfl ?_
          obtain ⟨q56, h57, hf⟩ := p_bd hf
          refine y_callV0 (pc := 137) dX12_aLawLine_137 (c_X12_stops (p_dd hd (by decide)) hW ha0 h57) mk_X12_stops mv_X12_stops ml_X12_360 rfl rfl (Nat.le_of_ble_eq_true rfl) ha0 rfl (p_d1 hd (by decide)) (Nat.le_of_ble_eq_true rfl) ?_
          cases hf
          exact s_return (pc := 140) dX12_aLawLine_140 rfl ⟨rfl, rfl, rfl, rfl, rfl⟩
        · replace hf := p_ps hf hc
          refine s_aload_n (pc := 122) dX12_aLawLine_122 0 rfl rfl ?_
          refine x_getI (pc := 123) dX12_aLawLine_123 fl_X12_339 rfl ha0 ?_
          refine s_bipush (pc := 126) dX12_aLawLine_126 (v := nI 20) rfl ?_
          refine s_bipush (pc := 128) dX12_aLawLine_128 (v := nI 21) rfl ?_
          obtain ⟨q58, h59, hf⟩ := p_bd hf
          refine y_callS1 (pc := 130) dX12_aLawLine_130 (c_X12_isIn (p_dd hd (by decide)) hW  h59) mk_X12_isIn mz_X12_isIn ml_X12_68 rfl rfl (Nat.le_of_ble_eq_true rfl) (p_d1 hd (by decide)) (Nat.le_of_ble_eq_true rfl) ?_
          refine s_if_ne (pc := 133) (tgt := 141) dX12_aLawLine_133 rfl (fun hc => ?_) (fun hc => ?_)
          · replace hf := p_ng hf hc
            refine s_aload_n (pc := 141) dX12_aLawLine_141 0 rfl rfl ?_
            refine s_bipush (pc := 142) dX12_aLawLine_142 (v := nI 17) rfl ?_
            refine s_aload_n (pc := 144) dX12_aLawLine_144 0 rfl rfl ?_
            refine x_getI (pc := 145) dX12_aLawLine_145 fl_X12_339 rfl ha0 ?_
            obtain ⟨q60, h61, hf⟩ := p_bd hf
            refine y_callV0 (pc := 148) dX12_aLawLine_148 (c_X12_puts (p_dd hd (by decide)) hW ha0 h61) mk_X12_puts mv_X12_puts ml_X12_399 rfl rfl (Nat.le_of_ble_eq_true rfl) ha0 rfl (p_d1 hd (by decide)) (Nat.le_of_ble_eq_true rfl) ?_
            refine s_aload_n (pc := 151) dX12_aLawLine_151 0 rfl rfl ?_
            obtain ⟨q62, h63, hf⟩ := p_bd hf
            refine y_callV0 (pc := 152) dX12_aLawLine_152 (c_X12_advance (p_dd hd (by decide)) hW ha0 h63) mk_X12_advance mv_X12_advance ml_X12_357 rfl rfl (Nat.le_of_ble_eq_true rfl) ha0 rfl (p_d1 hd (by decide)) (Nat.le_of_ble_eq_true rfl) ?_
            refine s_aload_n (pc := 155) dX12_aLawLine_155 0 rfl rfl ?_
            refine s_bipush (pc := 156) dX12_aLawLine_156 (v := nI 59) rfl ?_
            obtain ⟨q64, h65, hf⟩ := p_bd hf
            refine y_callV0 (pc := 158) dX12_aLawLine_158 (c_X12_must (p_dd hd (by decide)) hW ha0 h65) mk_X12_must mv_X12_must ml_X12_378 rfl rfl (Nat.le_of_ble_eq_true rfl) ha0 rfl (p_d1 hd (by decide)) (Nat.le_of_ble_eq_true rfl) ?_
            refine s_aload_n (pc := 161) dX12_aLawLine_161 0 rfl rfl ?_
            refine s_iconst (pc := 162) dX12_aLawLine_162 (v := nI 0) rfl ?_
            refine s_iload_n (pc := 163) dX12_aLawLine_163 1 rfl rfl ?_
            obtain ⟨q66, h67, hf⟩ := p_bd hf
            refine y_callV0 (pc := 164) dX12_aLawLine_164 (c_X12_puts (p_dd hd (by decide)) hW ha0 h67) mk_X12_puts mv_X12_puts ml_X12_399 rfl rfl (Nat.le_of_ble_eq_true rfl) ha0 rfl (p_d1 hd (by decide)) (Nat.le_of_ble_eq_true rfl) ?_
            refine s_aload_n (pc := 167) dX12_aLawLine_167 0 rfl rfl ?_
            refine s_dup (pc := 168) dX12_aLawLine_168 rfl ?_
            refine x_getI (pc := 169) dX12_aLawLine_169 fl_X12_363 rfl ha0 ?_
            refine s_iconst (pc := 172) dX12_aLawLine_172 (v := nI 1) rfl ?_
            refine s_iadd (pc := 173) dX12_aLawLine_173 ?_
            refine x_putI (pc := 174) dX12_aLawLine_174 fl_X12_363 (Or.inl rfl) rfl ha0 ?_
            refine s_nmI (fun I68 e69 => ?_)
            replace hf := p_lx hf e69
            cases hf
            exact s_return (pc := 177) dX12_aLawLine_177 rfl ⟨rfl, rfl, rfl, rfl, rfl⟩
          · replace hf := p_ps hf hc
            refine s_aload_n (pc := 136) dX12_aLawLine_136 0 rfl rfl ?_
            obtain ⟨q70, h71, hf⟩ := p_bd hf
            refine y_callV0 (pc := 137) dX12_aLawLine_137 (c_X12_stops (p_dd hd (by decide)) hW ha0 h71) mk_X12_stops mv_X12_stops ml_X12_360 rfl rfl (Nat.le_of_ble_eq_true rfl) ha0 rfl (p_d1 hd (by decide)) (Nat.le_of_ble_eq_true rfl) ?_
            cases hf
            exact s_return (pc := 140) dX12_aLawLine_140 rfl ⟨rfl, rfl, rfl, rfl, rfl⟩
    replace hf := hg
    refine s_if_eq (pc := 26) (tgt := 107) dX12_aLawLine_26 rfl (fun hc => ?_) (fun hc => ?_)
    · replace hf := p_ps hf hc
      cases hf
      exact s_lo [1, 0] rfl (k8)
    · replace hf := p_ng hf hc
      refine s_iconst (pc := 29) dX12_aLawLine_29 (v := nI 1) rfl ?_
      refine s_istore_n (pc := 30) (lo' := [(2, .int (nI 1)), (1, .int (nI 0)), (0, .ref a0)]) dX12_aLawLine_30 rfl (Nat.le_of_ble_eq_true rfl) rfl ?_
      obtain ⟨t9, hg, hf⟩ := p_bd hf
      have k10 : SW G mX12_aLawLine (p_rm d 0 0) 0 0 0 0 (p_R none N qq L P) 101 [(0, .ref a0), (1, .int t9.1)] [] N t9.2 L P := by
        refine s_aload_n (pc := 101) dX12_aLawLine_101 0 rfl rfl ?_
        refine s_bipush (pc := 102) dX12_aLawLine_102 (v := nI 58) rfl ?_
        obtain ⟨q52, h53, hf⟩ := p_bd hf
        refine y_callV0 (pc := 104) dX12_aLawLine_104 (c_X12_must (p_dd hd (by decide)) hW ha0 h53) mk_X12_must mv_X12_must ml_X12_378 rfl rfl (Nat.le_of_ble_eq_true rfl) ha0 rfl (p_d1 hd (by decide)) (Nat.le_of_ble_eq_true rfl) ?_
        cases hf
        exact s_lo [0, 1] rfl (k8)
      replace hf := hg
      have k34 : ∀ (k : Nat) (s0 : Int32 × Int32 × pI), p_it (B_X12_aLawLine_31 n N P a0) k s0 = some t9 → (SW G mX12_aLawLine (p_rm d 0 0) 0 0 0 0 (p_R none N qq L P) 31 [(0, .ref a0), (1, .int s0.1), (2, .int s0.2.1)] [] N s0.2.2 L P) := p_it_ind (C := fun (s0 : Int32 × Int32 × pI) => SW G mX12_aLawLine (p_rm d 0 0) 0 0 0 0 (p_R none N qq L P) 31 [(0, .ref a0), (1, .int s0.1), (2, .int s0.2.1)] [] N s0.2.2 L P) (by
        intro rec0 hrec0 s0 hf
        unfold B_X12_aLawLine_31 at hf
        refine s_iload_n (pc := 31) dX12_aLawLine_31 2 rfl rfl ?_
        refine s_if_eq (pc := 32) (tgt := 101) dX12_aLawLine_32 rfl (fun hc => ?_) (fun hc => ?_)
        · replace hf := p_ps hf hc
          cases hf
          exact s_lo [0, 1] rfl (k10)
        · replace hf := p_ng hf hc
          refine s_iload_n (pc := 35) dX12_aLawLine_35 1 rfl rfl ?_
          refine s_iconst (pc := 36) dX12_aLawLine_36 (v := nI 3) rfl ?_
          obtain ⟨t35, hg, hf⟩ := p_bd hf
          have k36 : SW G mX12_aLawLine (p_rm d 0 0) 0 0 0 0 (p_R none N qq L P) 49 [(0, .ref a0), (1, .int s0.1)] [] N t35 L P := by
            refine s_aload_n (pc := 49) dX12_aLawLine_49 0 rfl rfl ?_
            obtain ⟨q39, h40, hf⟩ := p_bd hf
            refine y_callV0 (pc := 50) dX12_aLawLine_50 (c_X12_aTest (p_dd hd (by decide)) hW ha0 h40) mk_X12_aTest mv_X12_aTest ml_X12_396 rfl rfl (Nat.le_of_ble_eq_true rfl) ha0 rfl (p_d1 hd (by decide)) (Nat.le_of_ble_eq_true rfl) ?_
            refine s_iconst (pc := 53) dX12_aLawLine_53 (v := nI 0) rfl ?_
            refine s_istore_n (pc := 54) (lo' := [(3, .int (nI 0)), (0, .ref a0), (1, .int s0.1)]) dX12_aLawLine_54 rfl (Nat.le_of_ble_eq_true rfl) rfl ?_
            obtain ⟨t41, hg, hf⟩ := p_bd hf
            have k42 : SW G mX12_aLawLine (p_rm d 0 0) 0 0 0 0 (p_R none N qq L P) 88 [(0, .ref a0), (1, .int s0.1)] [] N t41 L P := by
              refine s_iinc (pc := 88) (lo' := [(1, .int (s0.1 + nI 1)), (0, .ref a0)]) dX12_aLawLine_88 1 rfl (v := s0.1 + nI 1) rfl (Nat.le_of_ble_eq_true rfl) rfl ?_
              refine s_aload_n (pc := 91) dX12_aLawLine_91 1 rfl rfl ?_
              refine s_bipush (pc := 92) dX12_aLawLine_92 (v := nI 31) rfl ?_
              obtain ⟨q50, h51, hf⟩ := p_bd hf
              refine y_callV1 (pc := 94) dX12_aLawLine_94 (c_X12_takes (p_dd hd (by decide)) hW ha0 h51) mk_X12_takes mv_X12_takes ml_X12_393 rfl rfl (Nat.le_of_ble_eq_true rfl) ha0 rfl (p_d1 hd (by decide)) (Nat.le_of_ble_eq_true rfl) ?_
              refine s_istore_n (pc := 97) (lo' := [(2, .int q50.1), (1, .int (s0.1 + nI 1)), (0, .ref a0)]) dX12_aLawLine_97 rfl (Nat.le_of_ble_eq_true rfl) rfl ?_
              refine s_goto (pc := 98) (tgt := 31) dX12_aLawLine_98 rfl ?_
              exact s_lo [2, 1, 0] rfl (hrec0 (s0.1 + nI 1, q50.1, q50.2) hf)
            replace hf := hg
            have k43 : ∀ (k : Nat) (s1 : Int32 × pI), p_it (B_X12_aLawLine_55 N P a0 s0.1) k s1 = some t41 → (SW G mX12_aLawLine (p_rm d 0 0) 0 0 0 0 (p_R none N qq L P) 55 [(0, .ref a0), (1, .int s0.1), (3, .int s1.1)] [] N s1.2 L P) := p_it_ind (C := fun (s1 : Int32 × pI) => SW G mX12_aLawLine (p_rm d 0 0) 0 0 0 0 (p_R none N qq L P) 55 [(0, .ref a0), (1, .int s0.1), (3, .int s1.1)] [] N s1.2 L P) (by
              intro rec1 hrec1 s1 hf
              unfold B_X12_aLawLine_55 at hf
              refine s_iload_n (pc := 55) dX12_aLawLine_55 2 rfl rfl ?_
              refine s_iconst (pc := 56) dX12_aLawLine_56 (v := nI 4) rfl ?_
              refine s_icmp_ge (pc := 57) (tgt := 88) dX12_aLawLine_57 rfl (fun hc => ?_) (fun hc => ?_)
              · replace hf := p_ps hf hc
                cases hf
                exact s_lo [0, 1] rfl (k42)
              · replace hf := p_ng hf hc
                refine s_iload_n (pc := 60) dX12_aLawLine_60 1 rfl rfl ?_
                refine s_iconst (pc := 61) dX12_aLawLine_61 (v := nI 4) rfl ?_
                refine s_icmp_ge (pc := 62) (tgt := 88) dX12_aLawLine_62 rfl (fun hc => ?_) (fun hc => ?_)
                · replace hf := p_ps hf hc
                  cases hf
                  exact s_lo [0, 1] rfl (k42)
                · replace hf := p_ng hf hc
                  refine s_aload_n (pc := 65) dX12_aLawLine_65 0 rfl rfl ?_
                  refine s_iconst (pc := 66) dX12_aLawLine_66 (v := nI 1) rfl ?_
                  refine s_iconst (pc := 67) dX12_aLawLine_67 (v := nI 4) rfl ?_
                  refine s_iload_n (pc := 68) dX12_aLawLine_68 1 rfl rfl ?_
                  refine s_imul (pc := 69) dX12_aLawLine_69 ?_
                  refine s_iadd (pc := 70) dX12_aLawLine_70 ?_
                  refine s_iload_n (pc := 71) dX12_aLawLine_71 2 rfl rfl ?_
                  refine s_iadd (pc := 72) dX12_aLawLine_72 ?_
                  refine s_aload_n (pc := 73) dX12_aLawLine_73 0 rfl rfl ?_
                  obtain ⟨q44, h45, hf⟩ := p_bd hf
                  have t46 : p_tp N q44 0 := WT.get hW ha0 h45
                  refine x_getR (pc := 74) dX12_aLawLine_74 fl_X12_62 rfl ha0 h45 ?_
                  refine s_iload_n (pc := 77) dX12_aLawLine_77 2 rfl rfl ?_
                  obtain ⟨c47, hf⟩ := p_ckx hf
                  refine x_iald (pc := 78) dX12_aLawLine_78 t46 c47 ?_
                  obtain ⟨q48, h49, hf⟩ := p_bd hf
                  refine y_callV0 (pc := 79) dX12_aLawLine_79 (c_X12_puts (p_dd hd (by decide)) hW ha0 h49) mk_X12_puts mv_X12_puts ml_X12_399 rfl rfl (Nat.le_of_ble_eq_true rfl) ha0 rfl (p_d1 hd (by decide)) (Nat.le_of_ble_eq_true rfl) ?_
                  refine s_iinc (pc := 82) (lo' := [(3, .int (s1.1 + nI 1)), (0, .ref a0), (1, .int s0.1)]) dX12_aLawLine_82 2 rfl (v := s1.1 + nI 1) rfl (Nat.le_of_ble_eq_true rfl) rfl ?_
                  refine s_goto (pc := 85) (tgt := 55) dX12_aLawLine_85 rfl ?_
                  exact s_lo [1, 2, 0] rfl (hrec1 (s1.1 + nI 1, q48) hf))
            exact s_lo [1, 2, 0] rfl (k43 n (nI 0, q39) hf)
          replace hf := hg
          refine s_icmp_le (pc := 37) (tgt := 49) dX12_aLawLine_37 rfl (fun hc => ?_) (fun hc => ?_)
          · replace hf := p_ps hf hc
            cases hf
            exact s_lo [0, 1] rfl (k36)
          · replace hf := p_ng hf hc
            refine s_aload_n (pc := 40) dX12_aLawLine_40 0 rfl rfl ?_
            refine s_iconst (pc := 41) dX12_aLawLine_41 (v := nI 5) rfl ?_
            refine s_aload_n (pc := 42) dX12_aLawLine_42 0 rfl rfl ?_
            refine x_getI (pc := 43) dX12_aLawLine_43 fl_X12_327 rfl ha0 ?_
            obtain ⟨q37, h38, hf⟩ := p_bd hf
            refine y_callV0 (pc := 46) dX12_aLawLine_46 (c_X12_also (p_dd hd (by decide)) hW ha0 h38) mk_X12_also mv_X12_also ml_X12_375 rfl rfl (Nat.le_of_ble_eq_true rfl) ha0 rfl (p_d1 hd (by decide)) (Nat.le_of_ble_eq_true rfl) ?_
            cases hf
            exact s_lo [0, 1] rfl (k36))
      exact s_lo [2, 1, 0] rfl (k34 n (nI 0, nI 1, q5.2) hf)
  replace hf := hg
  refine s_icmp_lt (pc := 6) (tgt := 18) dX12_aLawLine_6 rfl (fun hc => ?_) (fun hc => ?_)
  · replace hf := p_ps hf hc
    cases hf
    exact s_lo [0] rfl (k2)
  · replace hf := p_ng hf hc
    refine s_aload_n (pc := 9) dX12_aLawLine_9 0 rfl rfl ?_
    refine s_iconst (pc := 10) dX12_aLawLine_10 (v := nI 5) rfl ?_
    refine s_aload_n (pc := 11) dX12_aLawLine_11 0 rfl rfl ?_
    refine x_getI (pc := 12) dX12_aLawLine_12 fl_X12_327 rfl ha0 ?_
    obtain ⟨q3, h4, hf⟩ := p_bd hf
    refine y_callV0 (pc := 15) dX12_aLawLine_15 (c_X12_also (p_dd hd (by decide)) hW ha0 h4) mk_X12_also mv_X12_also ml_X12_375 rfl rfl (Nat.le_of_ble_eq_true rfl) ha0 rfl (p_d1 hd (by decide)) (Nat.le_of_ble_eq_true rfl) ?_
    cases hf
    exact s_lo [0] rfl (k2)
def B_X12_law_4 (n : Nat) (N : pN) (P : pR) (a0 : Nat) (rec0 : pI → Option pI) (s0 : pI) : Option pI :=
  (if (s0 a0 35) = 0 then
    (if (s0 a0 31) = 0 then
      some s0
    else
      Option.bind (f_X12_aLawLine n N s0 P a0) fun q5 =>
      rec0 q5)
  else
    some s0)
def B_X12_law_39 (N : pN) (P : pR) (a0 : Nat) (rec0 : (Int32 × pI) → Option pI) (s0 : Int32 × pI) : Option pI :=
  (if (nI 320) ≤ s0.1 then
    some s0.2
  else
    Option.bind (P a0 0) fun q16 =>
    Option.bind (P a0 39) fun q19 =>
    p_ck (p_ib N q19 s0.1) <|
    p_ck (p_ib N q16 ((nI 340) + s0.1)) <|
    p_let (p_u s0.2 q16 (Int32.toNatClampNeg ((nI 340) + s0.1)) (s0.2 q19 (Int32.toNatClampNeg s0.1))) fun I24 =>
    rec0 (s0.1 + nI 1, I24))
def f_X12_law (n : Nat) (N : pN) (I : pI) (P : pR) (a0 : Nat) : Option (Int32 × pI) :=
  Option.bind (f_X12_reads n N I P a0) fun q1 =>
  Option.bind (p_it (B_X12_law_4 n N P a0) n q1) fun t3 =>
  Option.bind (P a0 0) fun q10 =>
  p_ck (p_ib N q10 (nI 9)) <|
  (if (t3 q10 (Int32.toNatClampNeg (nI 9))) = 0 then
    Option.bind (p_it (B_X12_law_39 N P a0) n (nI 0, t3)) fun t14 =>
    Option.bind (P a0 0) fun q37 =>
    p_ck (p_ib N q37 (nI 6)) <|
    p_let (p_u t14 q37 (Int32.toNatClampNeg (nI 6)) (t14 a0 38)) fun I41 =>
    some (I41 a0 38, I41)
  else
    some ((-1), t3))
theorem c_X12_law {G : pG} {d : Nat} {n : Nat} {N : pN} {I : pI} {L : pL} {P : pR} {a0 : Nat} {qq : Int32 × pI} (hd : 7 ≤ d) (hW : WT N P) (ha0 : p_tp N a0 15) (hf : f_X12_law n N I P a0 = some qq) : MT G mX12_law d 0 0 [.ref a0] N I L P (p_R (some (.int qq.1)) N qq.2 L P) := by
  refine MT.of rfl (Nat.le_of_ble_eq_true rfl) ?_
  show SW G mX12_law (p_rm d 0 0) 0 0 0 0 (p_R (some (.int qq.1)) N qq.2 L P) 0 [(0, .ref a0)] [] N I L P
  unfold f_X12_law at hf
  refine s_aload_n (pc := 0) dX12_law_0 0 rfl rfl ?_
  obtain ⟨q1, h2, hf⟩ := p_bd hf
  refine y_callV0 (pc := 1) dX12_law_1 (c_X12_reads (p_dd hd (by decide)) hW ha0 h2) mk_X12_reads mv_X12_reads ml_X12_384 rfl rfl (Nat.le_of_ble_eq_true rfl) ha0 rfl (p_d1 hd (by decide)) (Nat.le_of_ble_eq_true rfl) ?_
  obtain ⟨t3, hg, hf⟩ := p_bd hf
  have k4 : SW G mX12_law (p_rm d 0 0) 0 0 0 0 (p_R (some (.int qq.1)) N qq.2 L P) 25 [(0, .ref a0)] [] N t3 L P := by
    refine s_aload_n (pc := 25) dX12_law_25 0 rfl rfl ?_
    obtain ⟨q10, h11, hf⟩ := p_bd hf
    have t12 : p_tp N q10 0 := WT.get hW ha0 h11
    refine x_getR (pc := 26) dX12_law_26 fl_X12_7 rfl ha0 h11 ?_
    refine s_bipush (pc := 29) dX12_law_29 (v := nI 9) rfl ?_
    obtain ⟨c13, hf⟩ := p_ckx hf
    refine x_iald (pc := 31) dX12_law_31 t12 c13 ?_
    refine s_if_eq (pc := 32) (tgt := 37) dX12_law_32 rfl (fun hc => ?_) (fun hc => ?_)
    · replace hf := p_ps hf hc
      refine s_iconst (pc := 37) dX12_law_37 (v := nI 0) rfl ?_
      refine s_istore_n (pc := 38) (lo' := [(1, .int (nI 0)), (0, .ref a0)]) dX12_law_38 rfl (Nat.le_of_ble_eq_true rfl) rfl ?_
      obtain ⟨t14, hg, hf⟩ := p_bd hf
      have k15 : SW G mX12_law (p_rm d 0 0) 0 0 0 0 (p_R (some (.int qq.1)) N qq.2 L P) 68 [(0, .ref a0)] [] N t14 L P := by
        refine s_aload_n (pc := 68) dX12_law_68 0 rfl rfl ?_
        obtain ⟨q37, h38, hf⟩ := p_bd hf
        have t39 : p_tp N q37 0 := WT.get hW ha0 h38
        refine x_getR (pc := 69) dX12_law_69 fl_X12_7 rfl ha0 h38 ?_
        refine s_bipush (pc := 72) dX12_law_72 (v := nI 6) rfl ?_
        refine s_aload_n (pc := 74) dX12_law_74 0 rfl rfl ?_
        refine x_getI (pc := 75) dX12_law_75 fl_X12_363 rfl ha0 ?_
        obtain ⟨c40, hf⟩ := p_ckx hf
        refine x_iast (pc := 78) dX12_law_78 t39 c40 ?_
        refine s_nmI (fun I41 e42 => ?_)
        replace hf := p_lx hf e42
        refine s_aload_n (pc := 79) dX12_law_79 0 rfl rfl ?_
        refine x_getI (pc := 80) dX12_law_80 fl_X12_363 rfl ha0 ?_
        cases hf
        exact s_ireturn (pc := 83) dX12_law_83 rfl rfl ⟨rfl, rfl, rfl, rfl, rfl⟩
      replace hf := hg
      have k26 : ∀ (k : Nat) (s0 : Int32 × pI), p_it (B_X12_law_39 N P a0) k s0 = some t14 → (SW G mX12_law (p_rm d 0 0) 0 0 0 0 (p_R (some (.int qq.1)) N qq.2 L P) 39 [(0, .ref a0), (1, .int s0.1)] [] N s0.2 L P) := p_it_ind (C := fun (s0 : Int32 × pI) => SW G mX12_law (p_rm d 0 0) 0 0 0 0 (p_R (some (.int qq.1)) N qq.2 L P) 39 [(0, .ref a0), (1, .int s0.1)] [] N s0.2 L P) (by
        intro rec0 hrec0 s0 hf
        unfold B_X12_law_39 at hf
        refine s_iload_n (pc := 39) dX12_law_39 1 rfl rfl ?_
        refine s_sipush (pc := 40) dX12_law_40 (v := nI 320) rfl ?_
        refine s_icmp_ge (pc := 43) (tgt := 68) dX12_law_43 rfl (fun hc => ?_) (fun hc => ?_)
        · replace hf := p_ps hf hc
          cases hf
          exact s_lo [0] rfl (k15)
        · replace hf := p_ng hf hc
          refine s_aload_n (pc := 46) dX12_law_46 0 rfl rfl ?_
          obtain ⟨q27, h28, hf⟩ := p_bd hf
          have t29 : p_tp N q27 0 := WT.get hW ha0 h28
          refine x_getR (pc := 47) dX12_law_47 fl_X12_7 rfl ha0 h28 ?_
          refine s_sipush (pc := 50) dX12_law_50 (v := nI 340) rfl ?_
          refine s_iload_n (pc := 53) dX12_law_53 1 rfl rfl ?_
          refine s_iadd (pc := 54) dX12_law_54 ?_
          refine s_aload_n (pc := 55) dX12_law_55 0 rfl rfl ?_
          obtain ⟨q30, h31, hf⟩ := p_bd hf
          have t32 : p_tp N q30 0 := WT.get hW ha0 h31
          refine x_getR (pc := 56) dX12_law_56 fl_X12_59 rfl ha0 h31 ?_
          refine s_iload_n (pc := 59) dX12_law_59 1 rfl rfl ?_
          obtain ⟨c33, hf⟩ := p_ckx hf
          refine x_iald (pc := 60) dX12_law_60 t32 c33 ?_
          obtain ⟨c34, hf⟩ := p_ckx hf
          refine x_iast (pc := 61) dX12_law_61 t29 c34 ?_
          refine s_nmI (fun I35 e36 => ?_)
          replace hf := p_lx hf e36
          refine s_iinc (pc := 62) (lo' := [(1, .int (s0.1 + nI 1)), (0, .ref a0)]) dX12_law_62 1 rfl (v := s0.1 + nI 1) rfl (Nat.le_of_ble_eq_true rfl) rfl ?_
          refine s_goto (pc := 65) (tgt := 39) dX12_law_65 rfl ?_
          exact s_lo [1, 0] rfl (hrec0 (s0.1 + nI 1, I35) hf))
      exact s_lo [1, 0] rfl (k26 n (nI 0, t3) hf)
    · replace hf := p_ng hf hc
      refine s_iconst (pc := 35) dX12_law_35 (v := (-1)) rfl ?_
      cases hf
      exact s_ireturn (pc := 36) dX12_law_36 rfl rfl ⟨rfl, rfl, rfl, rfl, rfl⟩
  replace hf := hg
  have k7 : ∀ (k : Nat) (s0 : pI), p_it (B_X12_law_4 n N P a0) k s0 = some t3 → (SW G mX12_law (p_rm d 0 0) 0 0 0 0 (p_R (some (.int qq.1)) N qq.2 L P) 4 [(0, .ref a0)] [] N s0 L P) := p_it_ind (C := fun (s0 : pI) => SW G mX12_law (p_rm d 0 0) 0 0 0 0 (p_R (some (.int qq.1)) N qq.2 L P) 4 [(0, .ref a0)] [] N s0 L P) (by
    intro rec0 hrec0 s0 hf
    unfold B_X12_law_4 at hf
    refine s_aload_n (pc := 4) dX12_law_4 0 rfl rfl ?_
    refine x_getI (pc := 5) dX12_law_5 fl_X12_354 rfl ha0 ?_
    refine s_if_ne (pc := 8) (tgt := 25) dX12_law_8 rfl (fun hc => ?_) (fun hc => ?_)
    · replace hf := p_ng hf hc
      cases hf
      exact s_lo [0] rfl (k4)
    · replace hf := p_ps hf hc
      refine s_aload_n (pc := 11) dX12_law_11 0 rfl rfl ?_
      refine x_getI (pc := 12) dX12_law_12 fl_X12_330 rfl ha0 ?_
      refine s_if_eq (pc := 15) (tgt := 25) dX12_law_15 rfl (fun hc => ?_) (fun hc => ?_)
      · replace hf := p_ps hf hc
        cases hf
        exact s_lo [0] rfl (k4)
      · replace hf := p_ng hf hc
        refine s_aload_n (pc := 18) dX12_law_18 0 rfl rfl ?_
        obtain ⟨q8, h9, hf⟩ := p_bd hf
        refine y_callV0 (pc := 19) dX12_law_19 (c_X12_aLawLine (p_dd hd (by decide)) hW ha0 h9) mk_X12_aLawLine mv_X12_aLawLine ml_X12_402 rfl rfl (Nat.le_of_ble_eq_true rfl) ha0 rfl (p_d1 hd (by decide)) (Nat.le_of_ble_eq_true rfl) ?_
        refine s_goto (pc := 22) (tgt := 4) dX12_law_22 rfl ?_
        exact s_lo [0] rfl (hrec0 q8 hf))
  exact s_lo [0] rfl (k7 n q1 hf)
def f_X12_fault (N : pN) (I : pI) (P : pR) (a0 : Nat) (x1 : Int32) : Option Int32 :=
  (if x1 = 0 then
    Option.bind (P a0 0) fun q5 =>
    p_ck (p_ib N q5 (nI 9)) <|
    some (I q5 (Int32.toNatClampNeg (nI 9)))
  else
    (if x1 = (nI 1) then
      Option.bind (P a0 0) fun q1 =>
      p_ck (p_ib N q1 (nI 10)) <|
      some (I q1 (Int32.toNatClampNeg (nI 10)))
    else
      some (-1)))
theorem c_X12_fault {G : pG} {d : Nat} {N : pN} {I : pI} {L : pL} {P : pR} {a0 : Nat} {x1 : Int32} {qq : Int32} (hd : 0 ≤ d) (hW : WT N P) (ha0 : p_tp N a0 15) (hf : f_X12_fault N I P a0 x1 = some qq) : MT G mX12_fault d 0 0 [.ref a0, .int x1] N I L P (p_R (some (.int qq)) N I L P) := by
  refine MT.of rfl (Nat.le_of_ble_eq_true rfl) ?_
  show SW G mX12_fault (p_rm d 0 0) 0 0 0 0 (p_R (some (.int qq)) N I L P) 0 [(0, .ref a0), (1, .int x1)] [] N I L P
  unfold f_X12_fault at hf
  refine s_iload_n (pc := 0) dX12_fault_0 1 rfl rfl ?_
  refine s_if_ne (pc := 1) (tgt := 14) dX12_fault_1 rfl (fun hc => ?_) (fun hc => ?_)
  · replace hf := p_ng hf hc
    refine s_iload_n (pc := 14) dX12_fault_14 1 rfl rfl ?_
    refine s_iconst (pc := 15) dX12_fault_15 (v := nI 1) rfl ?_
    refine s_icmp_ne (pc := 16) (tgt := 29) dX12_fault_16 rfl (fun hc => ?_) (fun hc => ?_)
    · replace hf := p_ng hf hc
      refine s_iconst (pc := 29) dX12_fault_29 (v := (-1)) rfl ?_
      cases hf
      exact s_ireturn (pc := 30) dX12_fault_30 rfl rfl ⟨rfl, rfl, rfl, rfl, rfl⟩
    · replace hf := p_ps hf hc
      refine s_aload_n (pc := 19) dX12_fault_19 0 rfl rfl ?_
      obtain ⟨q1, h2, hf⟩ := p_bd hf
      have t3 : p_tp N q1 0 := WT.get hW ha0 h2
      refine x_getR (pc := 20) dX12_fault_20 fl_X12_7 rfl ha0 h2 ?_
      refine s_bipush (pc := 23) dX12_fault_23 (v := nI 10) rfl ?_
      obtain ⟨c4, hf⟩ := p_ckx hf
      refine x_iald (pc := 25) dX12_fault_25 t3 c4 ?_
      refine s_goto (pc := 26) (tgt := 30) dX12_fault_26 rfl ?_
      cases hf
      exact s_ireturn (pc := 30) dX12_fault_30 rfl rfl ⟨rfl, rfl, rfl, rfl, rfl⟩
  · replace hf := p_ps hf hc
    refine s_aload_n (pc := 4) dX12_fault_4 0 rfl rfl ?_
    obtain ⟨q5, h6, hf⟩ := p_bd hf
    have t7 : p_tp N q5 0 := WT.get hW ha0 h6
    refine x_getR (pc := 5) dX12_fault_5 fl_X12_7 rfl ha0 h6 ?_
    refine s_bipush (pc := 8) dX12_fault_8 (v := nI 9) rfl ?_
    obtain ⟨c8, hf⟩ := p_ckx hf
    refine x_iald (pc := 10) dX12_fault_10 t7 c8 ?_
    refine s_goto (pc := 11) (tgt := 30) dX12_fault_11 rfl ?_
    cases hf
    exact s_ireturn (pc := 30) dX12_fault_30 rfl rfl ⟨rfl, rfl, rfl, rfl, rfl⟩
