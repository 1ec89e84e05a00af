/-! the first heap, with the reference -/
def s_pre (N : pN) (I : pI) (L : pL) (P : pR) (a0 : Nat) : Option (pN × pI × pL × pR) :=
  p_ck (p_sz (nI 4640) 4640) <|
  p_ck (decide (N.1 < 1000000)) <|
  p_let (p_nw N I L P (0, Int32.toNatClampNeg (nI 4640))) fun w1 =>
  p_let (p_u w1.2.2.2 a0 0 (some N.1)) fun P10 =>
  p_ck (p_sz (nI 3) 3) <|
  p_ck (decide (w1.1.1 < 1000000)) <|
  p_let (p_nw w1.1 w1.2.1 w1.2.2.1 P10 (1, Int32.toNatClampNeg (nI 3))) fun w12 =>
  p_let (p_u w12.2.2.2 a0 1 (some w1.1.1)) fun P21 =>
  p_ck (p_sz (nI 200) 200) <|
  p_ck (decide (w12.1.1 < 1000000)) <|
  p_let (p_nw w12.1 w12.2.1 w12.2.2.1 P21 (0, Int32.toNatClampNeg (nI 200))) fun w23 =>
  p_let (p_u w23.2.2.2 a0 7 (some w12.1.1)) fun P32 =>
  p_ck (p_sz (nI 200) 200) <|
  p_ck (decide (w23.1.1 < 1000000)) <|
  p_let (p_nw w23.1 w23.2.1 w23.2.2.1 P32 (0, Int32.toNatClampNeg (nI 200))) fun w34 =>
  p_let (p_u w34.2.2.2 a0 8 (some w23.1.1)) fun P43 =>
  p_ck (p_sz (nI 200) 200) <|
  p_ck (decide (w34.1.1 < 1000000)) <|
  p_let (p_nw w34.1 w34.2.1 w34.2.2.1 P43 (0, Int32.toNatClampNeg (nI 200))) fun w45 =>
  p_let (p_u w45.2.2.2 a0 9 (some w34.1.1)) fun P54 =>
  p_ck (p_sz (nI 200) 200) <|
  p_ck (decide (w45.1.1 < 1000000)) <|
  p_let (p_nw w45.1 w45.2.1 w45.2.2.1 P54 (0, Int32.toNatClampNeg (nI 200))) fun w56 =>
  p_let (p_u w56.2.2.2 a0 10 (some w45.1.1)) fun P65 =>
  p_ck (p_sz (nI 200) 200) <|
  p_ck (decide (w56.1.1 < 1000000)) <|
  p_let (p_nw w56.1 w56.2.1 w56.2.2.1 P65 (0, Int32.toNatClampNeg (nI 200))) fun w67 =>
  p_let (p_u w67.2.2.2 a0 11 (some w56.1.1)) fun P76 =>
  p_ck (p_sz (nI 200) 200) <|
  p_ck (decide (w67.1.1 < 1000000)) <|
  p_let (p_nw w67.1 w67.2.1 w67.2.2.1 P76 (0, Int32.toNatClampNeg (nI 200))) fun w78 =>
  p_let (p_u w78.2.2.2 a0 12 (some w67.1.1)) fun P87 =>
  p_ck (p_sz (nI 200) 200) <|
  p_ck (decide (w78.1.1 < 1000000)) <|
  p_let (p_nw w78.1 w78.2.1 w78.2.2.1 P87 (0, Int32.toNatClampNeg (nI 200))) fun w89 =>
  p_let (p_u w89.2.2.2 a0 19 (some w78.1.1)) fun P98 =>
  p_ck (p_sz (nI 2646) 2646) <|
  p_ck (decide (w89.1.1 < 1000000)) <|
  p_let (p_nw w89.1 w89.2.1 w89.2.2.1 P98 (0, Int32.toNatClampNeg (nI 2646))) fun w100 =>
  p_let (p_u w100.2.2.2 a0 20 (some w89.1.1)) fun P109 =>
  p_ck (p_sz (nI 60) 60) <|
  p_ck (decide (w100.1.1 < 1000000)) <|
  p_let (p_nw w100.1 w100.2.1 w100.2.2.1 P109 (0, Int32.toNatClampNeg (nI 60))) fun w111 =>
  p_let (p_u w111.2.2.2 a0 21 (some w100.1.1)) fun P120 =>
  p_ck (p_sz (nI 8) 8) <|
  p_ck (decide (w111.1.1 < 1000000)) <|
  p_let (p_nw w111.1 w111.2.1 w111.2.2.1 P120 (0, Int32.toNatClampNeg (nI 8))) fun w122 =>
  p_let (p_u w122.2.2.2 a0 22 (some w111.1.1)) fun P131 =>
  p_ck (p_sz (nI 6) 6) <|
  p_ck (decide (w122.1.1 < 1000000)) <|
  p_let (p_nw w122.1 w122.2.1 w122.2.2.1 P131 (0, Int32.toNatClampNeg (nI 6))) fun w133 =>
  p_let (p_u w133.2.2.2 a0 26 (some w122.1.1)) fun P142 =>
  p_ck (p_sz (nI 36) 36) <|
  p_ck (decide (w133.1.1 < 1000000)) <|
  p_let (p_nw w133.1 w133.2.1 w133.2.2.1 P142 (1, Int32.toNatClampNeg (nI 36))) fun w144 =>
  p_let (p_u w144.2.2.2 a0 27 (some w133.1.1)) fun P153 =>
  p_ck (p_sz (nI 390) 390) <|
  p_ck (decide (w144.1.1 < 1000000)) <|
  p_let (p_nw w144.1 w144.2.1 w144.2.2.1 P153 (0, Int32.toNatClampNeg (nI 390))) fun w155 =>
  p_let (p_u w155.2.2.2 a0 36 (some w144.1.1)) fun P164 =>
  p_ck (p_sz (nI 5) 5) <|
  p_ck (decide (w155.1.1 < 1000000)) <|
  p_let (p_nw w155.1 w155.2.1 w155.2.2.1 P164 (0, Int32.toNatClampNeg (nI 5))) fun w166 =>
  p_let (p_u w166.2.2.2 a0 37 (some w155.1.1)) fun P175 =>
  p_ck (p_sz (nI 320) 320) <|
  p_ck (decide (w166.1.1 < 1000000)) <|
  p_let (p_nw w166.1 w166.2.1 w166.2.2.1 P175 (0, Int32.toNatClampNeg (nI 320))) fun w177 =>
  p_let (p_u w177.2.2.2 a0 39 (some w166.1.1)) fun P186 =>
  p_ck (p_sz (nI 4) 4) <|
  p_ck (decide (w177.1.1 < 1000000)) <|
  p_let (p_nw w177.1 w177.2.1 w177.2.2.1 P186 (0, Int32.toNatClampNeg (nI 4))) fun w188 =>
  p_let (p_u w188.2.2.2 a0 40 (some w177.1.1)) fun P197 =>
  Option.bind (P197 a0 0) fun q199 =>
  p_ck (p_ib w188.1 q199 (nI 5)) <|
  p_let (p_u w188.2.1 q199 (Int32.toNatClampNeg (nI 5)) (-1)) fun I203 =>
  Option.bind (P197 a0 0) fun q205 =>
  p_ck (p_ib w188.1 q205 (nI 10)) <|
  p_let (p_u I203 q205 (Int32.toNatClampNeg (nI 10)) (-1)) fun I209 =>
  Option.bind (P197 a0 0) fun q211 =>
  p_ck (p_ib w188.1 q211 (nI 11)) <|
  p_let (p_u I209 q211 (Int32.toNatClampNeg (nI 11)) (nI 1)) fun I215 =>
  Option.bind (P197 a0 0) fun q217 =>
  p_ck (p_ib w188.1 q217 (nI 13)) <|
  p_let (p_u I215 q217 (Int32.toNatClampNeg (nI 13)) (nI 1)) fun I221 =>
  Option.bind (P197 a0 0) fun q223 =>
  p_ck (p_ib w188.1 q223 (nI 14)) <|
  p_let (p_u I221 q223 (Int32.toNatClampNeg (nI 14)) (nI 100)) fun I227 =>
  Option.bind (P197 a0 0) fun q229 =>
  p_ck (p_ib w188.1 q229 (nI 15)) <|
  p_let (p_u I227 q229 (Int32.toNatClampNeg (nI 15)) (nI 10)) fun I233 =>
  Option.bind (P197 a0 0) fun q235 =>
  p_ck (p_ib w188.1 q235 (nI 16)) <|
  p_let (p_u I233 q235 (Int32.toNatClampNeg (nI 16)) (nI 10)) fun I239 =>
  Option.bind (P197 a0 0) fun q241 =>
  p_ck (p_ib w188.1 q241 (nI 17)) <|
  p_let (p_u I239 q241 (Int32.toNatClampNeg (nI 17)) (nI 1)) fun I245 =>
  Option.bind (P197 a0 0) fun q247 =>
  p_ck (p_ib w188.1 q247 ((nI 18) + (nI 0))) <|
  p_let (p_u I245 q247 (Int32.toNatClampNeg ((nI 18) + (nI 0))) (nI 50)) fun I251 =>
  Option.bind (P197 a0 0) fun q253 =>
  p_ck (p_ib w188.1 q253 ((nI 18) + (nI 1))) <|
  p_let (p_u I251 q253 (Int32.toNatClampNeg ((nI 18) + (nI 1))) (nI 50)) fun I257 =>
  Option.bind (P197 a0 0) fun q259 =>
  p_ck (p_ib w188.1 q259 ((nI 18) + (nI 2))) <|
  p_let (p_u I257 q259 (Int32.toNatClampNeg ((nI 18) + (nI 2))) (nI 50)) fun I263 =>
  Option.bind (P197 a0 0) fun q265 =>
  p_ck (p_ib w188.1 q265 ((nI 18) + (nI 3))) <|
  p_let (p_u I263 q265 (Int32.toNatClampNeg ((nI 18) + (nI 3))) (nI 50)) fun I269 =>
  Option.bind (P197 a0 0) fun q271 =>
  p_ck (p_ib w188.1 q271 ((nI 18) + (nI 4))) <|
  p_let (p_u I269 q271 (Int32.toNatClampNeg ((nI 18) + (nI 4))) (nI 50)) fun I275 =>
  some (w188.1, I275, w188.2.2.1, P197)
theorem p_ck_bind {α β : Type} {b : Bool} {x : Option α} {f : α → Option β} : Option.bind (p_ck b x) f = p_ck b (Option.bind x f) := by
  cases b <;> rfl
theorem p_let_bind {α β γ : Type} {x : γ} {g : γ → Option α} {f : α → Option β} : Option.bind (p_let x g) f = p_let x (fun y => Option.bind (g y) f) := rfl
theorem s_init_eq (n : Nat) (N : pN) (I : pI) (L : pL) (P : pR) (a0 : Nat) : f_X12_init n N I L P a0 = Option.bind (s_pre N I L P a0) fun w => Option.bind (f_X12_forgets n w.1 w.2.1 w.2.2.2 a0) fun q => some (w.1, q, w.2.2.1, w.2.2.2) := by
  unfold f_X12_init s_pre
  simp only [p_ck_bind, p_let_bind, Option.bind_assoc, Option.bind_some]
def s_w2 : pN × pI × pL × pR := p_nw s_q1.1 s_q1.2.1 s_q1.2.2.1 s_q1.2.2.2 (15, 0)
def s_o2 : Option (pN × pI × pL × pR) := s_pre s_w2.1 s_w2.2.1 s_w2.2.2.1 s_w2.2.2.2 67
theorem s_o2_is : s_o2.isSome = true := by decide +kernel
def s_p : pN × pI × pL × pR := s_o2.getD (N00, I00, L00, P00)
theorem s_p_ok : s_pre s_w2.1 s_w2.2.1 s_w2.2.2.1 s_w2.2.2.2 67 = some s_p := by
  obtain ⟨q, hq⟩ := Option.isSome_iff_exists.mp s_o2_is
  have h2 : s_p = q := by unfold s_p; rw [hq]; rfl
  rw [h2]
  exact hq
theorem s_46 : ∀ zt, zt < 2710 → s_p.2.1 46 zt = nI 0 := by decide +kernel
theorem s_gN : ∀ q ∈ gw_N, s_p.1.2 q.1 = q.2 := by decide +kernel
theorem s_gP : ∀ q ∈ gw_P, s_p.2.2.2 q.1 q.2.1 = some q.2.2 := by decide +kernel
theorem s_g3 : s_p.1.1 = 86 ∧ s_p.2.2.2 32 1 = none ∧ s_p.2.2.2 56 0 = some 57 ∧ s_p.2.2.2 62 0 = some 63 := by decide +kernel
