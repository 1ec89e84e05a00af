/-! arrays, static rows, what is made, copies -/
def p_z {α : Type} (f : Nat → Nat → α) (a : Nat) (d : α) : Nat → Nat → α := fun x j => if x = a then d else f x j
theorem p_z_ne {α : Type} {f : Nat → Nat → α} {a x : Nat} {d : α} (h : x ≠ a) : p_z f a d x = f x := by
  funext j
  simp [p_z, h]
theorem p_z_self {α : Type} {f : Nat → Nat → α} {a : Nat} {d : α} : p_z f a d a = fun _ => d := by
  funext j
  simp [p_z]
/-- one cell more -/
def p_nx (N : pN) (S : Nat × Nat) : pN := (N.1 + 1, fun x => if x = N.1 then S else N.2 x)
theorem p_dflt {G : pG} {ty : FieldType} (h : p_okt ty = true) : defaultValue ty = p_val G ty 0 0 none := by
  cases ty <;> first | rfl | (exfalso; simp [p_okt] at h)
theorem p_nn {z : Int32} (hz : ¬ z < 0) : z.toInt = ((z.toNatClampNeg : Nat) : Int) := by
  have hz0 : (0 : Int) ≤ z.toInt := by
    have := Int32.not_lt.mp hz
    simpa using Int32.le_iff_toInt_le.mp this
  show z.toInt = ((z.toInt.toNat : Nat) : Int)
  omega
theorem p_cell0 {G : pG} {N : pN} {I : pI} {L : pL} {P : pR} {H : Heap} {a n : Nat} (hH : p_H G N I L P H) (ha : a < N.1) (hs : N.2 a = (0, n)) : H[g_b G + a]? = some (arrV (g_K G 0) n (fun j => .int (I a j))) := by
  have h := hH.2.2 a ha
  rw [hs] at h
  exact h
theorem p_cell1 {G : pG} {N : pN} {I : pI} {L : pL} {P : pR} {H : Heap} {a n : Nat} (hH : p_H G N I L P H) (ha : a < N.1) (hs : N.2 a = (1, n)) : H[g_b G + a]? = some (arrV (g_K G 1) n (fun j => .int (I a j))) := by
  have h := hH.2.2 a ha
  rw [hs] at h
  exact h
theorem p_cell2 {G : pG} {N : pN} {I : pI} {L : pL} {P : pR} {H : Heap} {a n : Nat} (hH : p_H G N I L P H) (ha : a < N.1) (hs : N.2 a = (2, n)) : H[g_b G + a]? = some (arrV (g_K G 2) n (fun j => va_rf ((P a j).map (p_ad G)))) := by
  have h := hH.2.2 a ha
  rw [hs] at h
  exact h
theorem p_inA {cA : ClassId} {n : Nat} {f : Nat → Value} {i : Int32} (h : vp_in i n) : ¬ (i < 0 ∨ (arrV cA n f).slots.size ≤ i.toNatClampNeg) := by
  rw [arrV_size]
  exact h
theorem p_lt {n : Nat} {i : Int32} (h : vp_in i n) : i.toNatClampNeg < n := Nat.not_le.mp fun q => h (Or.inr q)
theorem p_ad_st (G : pG) (j : Nat) : p_ad G (1000000 + j) = g_t G j := by
  unfold p_ad
  rw [if_neg (by omega), Nat.add_sub_cancel_left]
section Arrays
variable {G : pG} {M : pM} {R : Room} {mc ms cs sl : Nat} {Q : pQ} {pc : Nat} {lo lo' : List (Nat × Value)} {st : List Value} {N : pN} {I : pI} {L : pL} {P : pR}
theorem s_iald {a n : Nat} {i : Int32} (hd : decode M.2.1 pc = .ok (.iaload, 1)) (ha : a < N.1) (hs : N.2 a = (0, n)) (hi : vp_in i n) (kk : SW G M R mc ms cs sl Q (pc + 1) lo (.int (I a i.toNatClampNeg) :: st) N I L P) : SW G M R mc ms cs sl Q pc lo (.int i :: .ref a :: st) N I L P := by
  intro p e s m args below meth c H locs ls B hH hS hl
  show W _ _ _ _ _ _ _ _ _ _ _ _ _ _ _ (F0 m pc ls (.int i :: .ref (p_ad G a) :: st.map (p_v G)))
  rw [p_ad_lo (Nat.lt_of_lt_of_le ha hH.2.1)]
  refine W.iald (a := g_b G + a) (v := .int (I a i.toNatClampNeg)) B.1 B.2.1 (p_cell0 hH ha hs) ((B.2.2.2.2.2.2.2.2.1.2 0 _ rfl).1 n _) (fun q => by cases q) (p_inA hi) (by rw [arrV_read _ _ (p_lt hi)]) rfl rfl hd (kk p e s m args below meth c H locs ls B hH hS hl)
theorem s_zald {a n : Nat} {i : Int32} (hd : decode M.2.1 pc = .ok (.baload, 1)) (ha : a < N.1) (hs : N.2 a = (1, n)) (hi : vp_in i n) (kk : SW G M R mc ms cs sl Q (pc + 1) lo (.int (I a i.toNatClampNeg) :: st) N I L P) : SW G M R mc ms cs sl Q pc lo (.int i :: .ref a :: st) N I L P := by
  intro p e s m args below meth c H locs ls B hH hS hl
  show W _ _ _ _ _ _ _ _ _ _ _ _ _ _ _ (F0 m pc ls (.int i :: .ref (p_ad G a) :: st.map (p_v G)))
  rw [p_ad_lo (Nat.lt_of_lt_of_le ha hH.2.1)]
  refine W.zald (a := g_b G + a) (v := .int (I a i.toNatClampNeg)) B.1 B.2.1 (p_cell1 hH ha hs) ((B.2.2.2.2.2.2.2.2.1.2 1 _ rfl).1 n _) (fun q => by cases q) (p_inA hi) (by rw [arrV_read _ _ (p_lt hi)]) rfl rfl hd (kk p e s m args below meth c H locs ls B hH hS hl)
theorem s_aald {a n : Nat} {i : Int32} {v : Value} (hd : decode M.2.1 pc = .ok (.aaload, 1)) (ha : a < N.1) (hs : N.2 a = (2, n)) (hi : vp_in i n) (hv : va_rf (P a i.toNatClampNeg) = v) (kk : SW G M R mc ms cs sl Q (pc + 1) lo (v :: st) N I L P) : SW G M R mc ms cs sl Q pc lo (.int i :: .ref a :: st) N I L P := by
  intro p e s m args below meth c H locs ls B hH hS hl
  have hv2 : va_rf ((P a i.toNatClampNeg).map (p_ad G)) = p_v G v := by
    rw [← hv]
    cases P a i.toNatClampNeg <;> rfl
  show W _ _ _ _ _ _ _ _ _ _ _ _ _ _ _ (F0 m pc ls (.int i :: .ref (p_ad G a) :: st.map (p_v G)))
  rw [p_ad_lo (Nat.lt_of_lt_of_le ha hH.2.1)]
  refine W.aald (a := g_b G + a) (ty := .object RX7) (v := p_v G v) B.1 B.2.1 (p_cell2 hH ha hs) ((B.2.2.2.2.2.2.2.2.1.2 2 _ rfl).1 n _) rfl (fun q => by cases q) (p_inA hi) (by rw [arrV_read _ _ (p_lt hi), hv2]) rfl rfl hd (kk p e s m args below meth c H locs ls B hH hS hl)
theorem s_iast {a n : Nat} {i x : Int32} (hd : decode M.2.1 pc = .ok (.iastore, 1)) (ha : a < N.1) (hs : N.2 a = (0, n)) (hi : vp_in i n) (kk : SW G M R mc ms cs sl Q (pc + 1) lo st N (p_u I a i.toNatClampNeg x) L P) : SW G M R mc ms cs sl Q pc lo (.int x :: .int i :: .ref a :: st) N I L P := by
  intro p e s m args below meth c H locs ls B hH hS hl
  show W _ _ _ _ _ _ _ _ _ _ _ _ _ _ _ (F0 m pc ls (.int x :: .int i :: .ref (p_ad G a) :: st.map (p_v G)))
  rw [p_ad_lo (Nat.lt_of_lt_of_le ha hH.2.1)]
  refine W.iast (a := g_b G + a) B.1 B.2.1 (p_cell0 hH ha hs) ((B.2.2.2.2.2.2.2.2.1.2 0 _ rfl).1 n _) (fun q => by cases q) (p_inA hi) rfl rfl hd fun H1 e1 z oq => ?_
  · refine kk p e s m args below meth c H1 _ ls B (hH.put (a := a) z oq (fun y hy => p_u_ne hy) (fun _ _ => rfl) (fun _ _ => rfl) ?_) (hS.put z oq (Nat.le_add_right _ _)) hl
    rw [hs]
    show H1[g_b G + a]? = some (arrV _ _ _)
    rw [e1, arrV_store]
    congr 2
    funext q
    by_cases hq : q = i.toNatClampNeg
    · subst hq; simp [updV, p_u]
    · simp [updV, p_u, hq]
theorem s_zast {a n : Nat} {i x : Int32} (hd : decode M.2.1 pc = .ok (.bastore, 1)) (ha : a < N.1) (hs : N.2 a = (1, n)) (hi : vp_in i n) (hx : x = 0 ∨ x = 1) (kk : SW G M R mc ms cs sl Q (pc + 1) lo st N (p_u I a i.toNatClampNeg x) L P) : SW G M R mc ms cs sl Q pc lo (.int x :: .int i :: .ref a :: st) N I L P := by
  intro p e s m args below meth c H locs ls B hH hS hl
  have hn : narrow .boolean (.int x) = .int x := by rcases hx with h | h <;> subst h <;> rfl
  show W _ _ _ _ _ _ _ _ _ _ _ _ _ _ _ (F0 m pc ls (.int x :: .int i :: .ref (p_ad G a) :: st.map (p_v G)))
  rw [p_ad_lo (Nat.lt_of_lt_of_le ha hH.2.1)]
  refine W.zast (a := g_b G + a) B.1 B.2.1 (p_cell1 hH ha hs) ((B.2.2.2.2.2.2.2.2.1.2 1 _ rfl).1 n _) (fun q => by cases q) (p_inA hi) rfl rfl hd fun H1 e1 z oq => ?_
  · rw [hn] at e1
    refine kk p e s m args below meth c H1 _ ls B (hH.put (a := a) z oq (fun y hy => p_u_ne hy) (fun _ _ => rfl) (fun _ _ => rfl) ?_) (hS.put z oq (Nat.le_add_right _ _)) hl
    rw [hs]
    show H1[g_b G + a]? = some (arrV _ _ _)
    rw [e1, arrV_store]
    congr 2
    funext q
    by_cases hq : q = i.toNatClampNeg
    · subst hq; simp [updV, p_u]
    · simp [updV, p_u, hq]
/-- a State into a row of States -/
theorem s_aast {a n v z0 : Nat} {i : Int32} (hd : decode M.2.1 pc = .ok (.aastore, 1)) (ha : a < N.1) (hs : N.2 a = (2, n)) (hv : v < N.1) (hsv : N.2 v = (10, z0)) (hi : vp_in i n) (kk : SW G M R mc ms cs sl Q (pc + 1) lo st N I L (p_u P a i.toNatClampNeg (some v))) : SW G M R mc ms cs sl Q pc lo (.ref v :: .int i :: .ref a :: st) N I L P := by
  intro p e s m args below meth c H locs ls B hH hS hl
  have hK := B.2.2.2.2.2.2.2.2.1
  have hcv := hH.2.2 v hv
  rw [hsv] at hcv
  obtain ⟨r', hr', cellV, g1, g2, g3, -⟩ := hcv
  have hr7 : p_cls[7]? = some (RX7, TX7, 13) := rfl
  have hcls := (hK.1 7 _ hr7).2
  obtain ⟨kA, comp, k1, k2, k3, -⟩ := (hK.2 2 _ rfl).2
  have hcomp : comp = (g_D G).1 7 := Option.some.inj (k3.symm.trans hcls.1)
  subst hcomp
  obtain ⟨kC, hkC, -⟩ := hcls.2
  show W _ _ _ _ _ _ _ _ _ _ _ _ _ _ _ (F0 m pc ls (.ref (p_ad G v) :: .int i :: .ref (p_ad G a) :: st.map (p_v G)))
  rw [p_ad_lo (Nat.lt_of_lt_of_le ha hH.2.1), p_ad_lo (Nat.lt_of_lt_of_le hv hH.2.1)]
  refine W.aast (a := g_b G + a) (v := g_b G + v) B.1 B.2.1 (p_cell2 hH ha hs) (fun q h => by cases h) (fun h => by cases h) k1 k2 rfl hkC ⟨fun q => hi (Or.inl q), by rw [arrV_size]; exact p_lt hi⟩ g1 (fun q h => by rw [g3] at h; cases h) (by rw [g2]; exact hkC) (by rw [g2]; exact va_assign hcls) rfl rfl hd fun H1 e1 z oq => ?_
  · refine kk p e s m args below meth c H1 _ ls B (hH.put (a := a) z oq (fun _ _ => rfl) (fun _ _ => rfl) (fun y hy => p_u_ne hy) ?_) (hS.put z oq (Nat.le_add_right _ _)) hl
    rw [hs]
    show H1[g_b G + a]? = some (arrV _ _ _)
    rw [e1, arrV_store]
    congr 2
    funext q
    by_cases hq : q = i.toNatClampNeg
    · subst hq; simp [updV, p_u, va_rf, p_ad_lo (G := G) (Nat.lt_of_lt_of_le hv hH.2.1)]
    · simp [updV, p_u, hq]
theorem s_alen {a n : Nat} {v : Int32} (hd : decode M.2.1 pc = .ok (.arraylength, 1)) (ha : a < N.1) (hs : N.2 a = (0, n) ∨ N.2 a = (1, n) ∨ N.2 a = (2, n)) (hv : Int32.ofNat n = v) (kk : SW G M R mc ms cs sl Q (pc + 1) lo (.int v :: st) N I L P) : SW G M R mc ms cs sl Q pc lo (.ref a :: st) N I L P := by
  intro p e s m args below meth c H locs ls B hH hS hl
  show W _ _ _ _ _ _ _ _ _ _ _ _ _ _ _ (F0 m pc ls (.ref (p_ad G a) :: st.map (p_v G)))
  rw [p_ad_lo (Nat.lt_of_lt_of_le ha hH.2.1)]
  have hK := B.2.2.2.2.2.2.2.2.1
  rcases hs with hs | hs | hs
  · exact W.alen (a := g_b G + a) (n := v) B.1 B.2.1 (p_cell0 hH ha hs) ((hK.2 0 _ rfl).1 n _) (by rw [arrV_size]; exact hv) rfl rfl hd (kk p e s m args below meth c H locs ls B hH hS hl)
  · exact W.alen (a := g_b G + a) (n := v) B.1 B.2.1 (p_cell1 hH ha hs) ((hK.2 1 _ rfl).1 n _) (by rw [arrV_size]; exact hv) rfl rfl hd (kk p e s m args below meth c H locs ls B hH hS hl)
  · exact W.alen (a := g_b G + a) (n := v) B.1 B.2.1 (p_cell2 hH ha hs) ((hK.2 2 _ rfl).1 n _) (by rw [arrV_size]; exact hv) rfl rfl hd (kk p e s m args below meth c H locs ls B hH hS hl)
/-- static rows of numbers -/
theorem s_tld {j : Nat} {q : String × String × List Int32} {i : Int32} (hq : p_st[j]? = some q) (hj : j < 50) (hd : decode M.2.1 pc = .ok (.iaload, 1)) (hi : vp_in i q.2.2.length) (kk : SW G M R mc ms cs sl Q (pc + 1) lo (.int (q.2.2.getD i.toNatClampNeg 0) :: st) N I L P) : SW G M R mc ms cs sl Q pc lo (.int i :: .ref (1000000 + j) :: st) N I L P := by
  intro p e s m args below meth c H locs ls B hH hS hl
  have ht := (B.2.2.2.2.2.2.2.2.2.2.1 j q hq).2
  have e1 : p_ad G (1000000 + j) = g_t G j := p_ad_st G j
  show W _ _ _ _ _ _ _ _ _ _ _ _ _ _ _ (F0 m pc ls (.int i :: .ref (p_ad G (1000000 + j)) :: st.map (p_v G)))
  rw [e1]
  exact va_ti B.1 B.2.1 ht hS hi rfl hd (kk p e s m args below meth c H locs ls B hH hS hl)
theorem s_tlen {j : Nat} {q : String × String × List Int32} {v : Int32} (hq : p_st[j]? = some q) (hd : decode M.2.1 pc = .ok (.arraylength, 1)) (hv : Int32.ofNat q.2.2.length = v) (kk : SW G M R mc ms cs sl Q (pc + 1) lo (.int v :: st) N I L P) : SW G M R mc ms cs sl Q pc lo (.ref (1000000 + j) :: st) N I L P := by
  intro p e s m args below meth c H locs ls B hH hS hl
  have ht := (B.2.2.2.2.2.2.2.2.2.2.1 j q hq).2
  have e1 : p_ad G (1000000 + j) = g_t G j := p_ad_st G j
  show W _ _ _ _ _ _ _ _ _ _ _ _ _ _ _ (F0 m pc ls (.ref (p_ad G (1000000 + j)) :: st.map (p_v G)))
  rw [e1]
  exact va_tlen B.1 B.2.1 ht hS hv hd (kk p e s m args below meth c H locs ls B hH hS hl)
theorem s_gets {idx j : Nat} {q : String × String × List Int32} (hq : p_st[j]? = some q) (hlk : Cond.fieldLink M.1.cls idx q.1 q.2.1 "[I" ∈ p_tbl) (hd : decode M.2.1 pc = .ok (.getstatic idx, 3)) (kk : SW G M R mc ms cs sl Q (pc + 3) lo (.ref (1000000 + j) :: st) N I L P) : SW G M R mc ms cs sl Q pc lo st N I L P := by
  intro p e s m args below meth c H locs ls B hH hS hl
  have e1 : p_ad G (1000000 + j) = g_t G j := p_ad_st G j
  refine va_gets B.1 B.2.1 (B.2.2.2.2.2.2.2.2.2.2.1 j q hq).1 hS B.2.2.2.2.2.1 (B.2.2.2.2.2.2.2.1 _ hlk) (fun _ h => h) hd ?_
  rw [← e1]
  exact kk p e s m args below meth c H locs ls B hH hS hl
theorem s_getsN (hM : M.1.cls = "StreetWaves$State") (hd : decode M.2.1 pc = .ok (.getstatic 35, 3)) (kk : SW G M R mc ms cs sl Q (pc + 3) lo (.ref (1000000 + 0) :: st) N I L P) : SW G M R mc ms cs sl Q pc lo st N I L P := by
  intro p e s m args below meth c H locs ls B hH hS hl
  have e1 : p_ad G (1000000 + 0) = g_t G 0 := p_ad_st G 0
  have hN := B.2.2.2.2.2.2.2.2.2.2.2.2.2.2.2.2.2.1
  refine va_getsN B.1 B.2.1 (B.2.2.2.2.2.2.2.2.2.2.1 0 _ rfl).1 hS B.2.2.2.2.2.1 (by rw [hM]; exact va_Nw.use rfl hN) (fun _ h => h) hd ?_
  rw [← e1]
  exact kk p e s m args below meth c H locs ls B hH hS hl
/-- the script -/
theorem s_xld {i : Int32} (hd : decode M.2.1 pc = .ok (.iaload, 1)) (hi : vp_in i (g_n G)) (kk : SW G M R mc ms cs sl Q (pc + 1) lo (.int (g_x G i.toNatClampNeg) :: st) N I L P) : SW G M R mc ms cs sl Q pc lo (.int i :: .ref 1000050 :: st) N I L P := by
  intro p e s m args below meth c H locs ls B hH hS hl
  have e1 : p_ad G 1000050 = g_t G 50 := p_ad_st G 50
  show W _ _ _ _ _ _ _ _ _ _ _ _ _ _ _ (F0 m pc ls (.int i :: .ref (p_ad G 1000050) :: st.map (p_v G)))
  rw [e1]
  exact va_ti B.1 B.2.1 B.2.2.2.2.2.2.2.2.2.2.2.1 hS hi rfl hd (kk p e s m args below meth c H locs ls B hH hS hl)
theorem s_xlen {v : Int32} (hd : decode M.2.1 pc = .ok (.arraylength, 1)) (hv : Int32.ofNat (g_n G) = v) (kk : SW G M R mc ms cs sl Q (pc + 1) lo (.int v :: st) N I L P) : SW G M R mc ms cs sl Q pc lo (.ref 1000050 :: st) N I L P := by
  intro p e s m args below meth c H locs ls B hH hS hl
  have e1 : p_ad G 1000050 = g_t G 50 := p_ad_st G 50
  show W _ _ _ _ _ _ _ _ _ _ _ _ _ _ _ (F0 m pc ls (.ref (p_ad G 1000050) :: st.map (p_v G)))
  rw [e1]
  exact va_tlen B.1 B.2.1 B.2.2.2.2.2.2.2.2.2.2.2.1 hS hv hd (kk p e s m args below meth c H locs ls B hH hS hl)
/-- a text's constant -/
theorem s_ldcS {idx j : Nat} {q : String × Nat × String} (hq : p_str[j]? = some q) (h1 : q.1 = M.1.cls) (h2 : q.2.1 = idx) (hd : decode M.2.1 pc = .ok (.ldc idx, 2)) (kk : SW G M R mc ms cs sl Q (pc + 2) lo (.ref (1000100 + j) :: st) N I L P) : SW G M R mc ms cs sl Q pc lo st N I L P := by
  intro p e s m args below meth c H locs ls B hH hS hl
  have e1 : p_ad G (1000100 + j) = g_t G (100 + j) := by
    rw [show 1000100 + j = 1000000 + (100 + j) by omega]
    exact p_ad_st G (100 + j)
  have hr := B.2.2.2.2.2.2.2.2.2.2.2.2.2.2.1 j q hq
  rw [h1, h2, ← e1] at hr
  exact va_ldcS B.1 B.2.1 B.2.2.2.2.2.1 hr hd (kk p e s m args below meth c H locs ls B hH hS hl)
/-- an object is made -/
theorem s_new {idx ci : Nat} {q : vw_C} (hq : p_cls[ci]? = some q) (hlk : Cond.classLink M.1.cls idx q.1 ∈ p_tbl) (hcs : cs + 1 ≤ R.cells) (hsl : sl + q.2.2 ≤ R.slots) (hn : N.1 < 1000000) (hd : decode M.2.1 pc = .ok (.new idx, 3))
    (kk : SW G M R mc ms (cs + 1) (sl + q.2.2) Q (pc + 3) lo (.ref N.1 :: st) (p_nx N (ci + 3, 0)) (p_z I N.1 0) (p_z L N.1 0) (p_z P N.1 none)) : SW G M R mc ms cs sl Q pc lo st N I L P := by
  intro p e s m args below meth c H locs ls B hH hS hl
  have hts := B.2.2.2.2.2.2.2.1
  have hKn := B.2.2.2.2.2.2.2.2.1.1 ci q hq
  refine W.newcK (h := g_b G + N.1) B.1 B.2.1 B.2.2.2.2.2.1 (hts _ hlk) (hts _ (p_instk ci q hq).1) (hts _ (p_instk ci q hq).2) rfl hd hcs hsl hKn.2.1 hH.1 fun H1 kC hkC e1 z1 o1 => ?_
  rw [← p_ad_lo (G := G) hn]
  refine kk p e s m args below meth c H1 locs ls B (hH.add hn (by rw [z1, hH.1]) (fun x hx => o1 x (by rw [← hH.1]; exact hx)) (fun x hx => p_z_ne hx) (fun x hx => p_z_ne hx) (fun x hx => p_z_ne hx) ?_) ⟨Nat.le_trans hS.1 (by rw [z1, hH.1]; omega), fun x h1 h2 => (o1 x (by rw [← hH.1]; exact Nat.lt_of_lt_of_le h1 hS.1)).trans (hS.2.1 x h1 h2), hS.2.2⟩ hl
  refine ⟨q, hq, (u_born (p_ty ci) hts (p_in ci q hq) hKn hkC e1 (p_tyk ci q hq)).to (fun k hk => ?_)⟩
  rw [p_z_self, p_z_self, p_z_self]
  exact p_dflt (p_okk ci q hq k hk)
/-- a row of ints, of booleans is made -/
theorem s_newI {n : Int32} {n' : Nat} (hw : Cond.arrayClass .int ∈ p_tbl) (h0 : ¬ n < 0) (hn' : n.toNatClampNeg = n') (hb : n' ≤ 100000) (hcs : cs + 1 ≤ R.cells) (hsl : sl + n' ≤ R.slots) (hn : N.1 < 1000000) (hd : decode M.2.1 pc = .ok (.newarray .int, 2))
    (kk : SW G M R mc ms (cs + 1) (sl + n') Q (pc + 2) lo (.ref N.1 :: st) (p_nx N (0, n')) (p_z I N.1 0) (p_z L N.1 0) (p_z P N.1 none)) : SW G M R mc ms cs sl Q pc lo (.int n :: st) N I L P := by
  intro p e s m args below meth c H locs ls B hH hS hl
  have hts := B.2.2.2.2.2.2.2.1
  refine va_newaK (h := g_b G + N.1) (atype := .int) B.1 B.2.1 (hts _ hw) rfl hd rfl h0 hn' (by show n' * 4 ≤ _; omega) hcs hsl hH.1 fun H1 cA e1 z1 o1 hAr hNm => ?_
  have hcA : cA = g_K G 0 := Option.some.inj (hNm.symm.trans (B.2.2.2.2.2.2.2.2.1.2 0 _ rfl).2)
  rw [← p_ad_lo (G := G) hn]
  refine kk p e s m args below meth c H1 locs ls B (hH.add (S := (0, n')) hn (by rw [z1, hH.1]) (fun x hx => o1 x (by rw [← hH.1]; exact hx)) (fun x hx => p_z_ne hx) (fun x hx => p_z_ne hx) (fun x hx => p_z_ne hx) ?_) ⟨Nat.le_trans hS.1 (by rw [z1, hH.1]; omega), fun x h1 h2 => (o1 x (by rw [← hH.1]; exact Nat.lt_of_lt_of_le h1 hS.1)).trans (hS.2.1 x h1 h2), hS.2.2⟩ hl
  show H1[g_b G + N.1]? = some (arrV _ _ _)
  rw [e1, hcA, p_z_self]
  rfl
theorem s_newZ {n : Int32} {n' : Nat} (hw : Cond.arrayClass .boolean ∈ p_tbl) (h0 : ¬ n < 0) (hn' : n.toNatClampNeg = n') (hb : n' ≤ 100000) (hcs : cs + 1 ≤ R.cells) (hsl : sl + n' ≤ R.slots) (hn : N.1 < 1000000) (hd : decode M.2.1 pc = .ok (.newarray .boolean, 2))
    (kk : SW G M R mc ms (cs + 1) (sl + n') Q (pc + 2) lo (.ref N.1 :: st) (p_nx N (1, n')) (p_z I N.1 0) (p_z L N.1 0) (p_z P N.1 none)) : SW G M R mc ms cs sl Q pc lo (.int n :: st) N I L P := by
  intro p e s m args below meth c H locs ls B hH hS hl
  have hts := B.2.2.2.2.2.2.2.1
  refine va_newaK (h := g_b G + N.1) (atype := .boolean) B.1 B.2.1 (hts _ hw) rfl hd rfl h0 hn' (by show n' * 1 ≤ _; omega) hcs hsl hH.1 fun H1 cA e1 z1 o1 hAr hNm => ?_
  have hcA : cA = g_K G 1 := Option.some.inj (hNm.symm.trans (B.2.2.2.2.2.2.2.2.1.2 1 _ rfl).2)
  rw [← p_ad_lo (G := G) hn]
  refine kk p e s m args below meth c H1 locs ls B (hH.add (S := (1, n')) hn (by rw [z1, hH.1]) (fun x hx => o1 x (by rw [← hH.1]; exact hx)) (fun x hx => p_z_ne hx) (fun x hx => p_z_ne hx) (fun x hx => p_z_ne hx) ?_) ⟨Nat.le_trans hS.1 (by rw [z1, hH.1]; omega), fun x h1 h2 => (o1 x (by rw [← hH.1]; exact Nat.lt_of_lt_of_le h1 hS.1)).trans (hS.2.1 x h1 h2), hS.2.2⟩ hl
  show H1[g_b G + N.1]? = some (arrV _ _ _)
  rw [e1, hcA, p_z_self]
  rfl
/-- a row of States is made -/
theorem s_anew {idx : Nat} {n : Int32} {n' : Nat} (hlk : Cond.classLink M.1.cls idx RX7 ∈ p_tbl) (h0 : ¬ n < 0) (hn' : n.toNatClampNeg = n') (hb : n' ≤ 100000) (hcs : cs + 1 ≤ R.cells) (hsl : sl + n' ≤ R.slots) (hn : N.1 < 1000000) (hd : decode M.2.1 pc = .ok (.anewarray idx, 3))
    (kk : SW G M R mc ms (cs + 1) (sl + n') Q (pc + 3) lo (.ref N.1 :: st) (p_nx N (2, n')) (p_z I N.1 0) (p_z L N.1 0) (p_z P N.1 none)) : SW G M R mc ms cs sl Q pc lo (.int n :: st) N I L P := by
  intro p e s m args below meth c H locs ls B hH hS hl
  have hts := B.2.2.2.2.2.2.2.1
  subst hn'
  refine W.anew B.1 B.2.1 B.2.2.2.2.2.1 (hts _ hlk) (va_AO.use B.2.2.2.2.2.2.2.2.2.2.2.2.2.2.2.2.2.2) rfl hd rfl h0 (by omega) hcs hsl fun cA kA comp f1 f2 f3 f4 => ?_
  generalize hH1 : H.push ({ cls := cA, slots := Array.replicate n.toNatClampNeg .null, vm := .none } : Cell) = H1
  have z1 : H1.size = H.size + 1 := by rw [← hH1, Array.size_push]
  have e1 : H1[H.size]? = some (arrV cA n.toNatClampNeg (fun _ => .null)) := by rw [← hH1, Array.getElem?_push_size, ← arrV_new]
  have o1 : ∀ q : Nat, q < H.size → H1[q]? = H[q]? := fun q hq => by rw [← hH1, Array.getElem?_push, if_neg (Nat.ne_of_lt hq)]
  obtain ⟨_, _, _, _, _, hNm⟩ := (B.2.2.2.2.2.2.2.2.1.2 2 _ rfl).2
  have hcA : cA = g_K G 2 := Option.some.inj (f1.symm.trans hNm)
  rw [hH.1, ← p_ad_lo (G := G) hn]
  refine kk p e s m args below meth c H1 locs ls B (hH.add (S := (2, n.toNatClampNeg)) hn z1 o1 (fun x hx => p_z_ne hx) (fun x hx => p_z_ne hx) (fun x hx => p_z_ne hx) ?_) ⟨Nat.le_trans hS.1 (by omega), fun x h1 h2 => (o1 x (Nat.lt_of_lt_of_le h1 hS.1)).trans (hS.2.1 x h1 h2), hS.2.2⟩ hl
  show H1[g_b G + N.1]? = some (arrV _ _ _)
  rw [← hH.1, e1, hcA, p_z_self]
  rfl
/-- System.arraycopy of ints -/
theorem s_copy {idx a0 a1 n0 n1 : Nat} {sp dp n : Int32} (hlk : Cond.methodLink M.1.cls idx arraycopyName ∈ p_tbl) (hw : Cond.native arraycopyName ∈ p_tbl ∧ Cond.static arraycopyName ∈ p_tbl ∧ Cond.initialized "java/lang/System" ∈ p_tbl) (hd : decode M.2.1 pc = .ok (.invokestatic idx, 3)) (ha0 : a0 < N.1) (hs0 : N.2 a0 = (0, n0)) (ha1 : a1 < N.1) (hs1 : N.2 a1 = (0, n1)) (h1 : ¬ sp < 0) (h2 : ¬ dp < 0) (h3 : ¬ n < 0) (h4 : sp.toNatClampNeg + n.toNatClampNeg ≤ n0) (h5 : dp.toNatClampNeg + n.toNatClampNeg ≤ n1) (hfr : 1 ≤ R.frames) (hlo : (st.map fun v => v.category).sum + 18 ≤ R.locals)
    (kk : SW G M R mc ms cs sl Q (pc + 3) lo st N (fun x => if x = a1 then va_cpy (I a0) (I a1) sp.toNatClampNeg dp.toNatClampNeg n.toNatClampNeg else I x) L P) : SW G M R mc ms cs sl Q pc lo (.int n :: .int dp :: .ref a1 :: .int sp :: .ref a0 :: st) N I L P := by
  intro p e s m args below meth c H locs ls B hH hS hl
  have hts := B.2.2.2.2.2.2.2.1
  have hK := B.2.2.2.2.2.2.2.2.1
  have hc0 := p_cell0 hH ha0 hs0
  have hc1 := p_cell0 hH ha1 hs1
  have hcat : ((st.map (p_v G)).map fun v => v.category).sum = (st.map fun v => v.category).sum := by
    rw [List.map_map]
    congr 1
    exact List.map_congr_left (fun v _ => p_v_cat G v)
  intro T hT X
  obtain ⟨-, k0, hk0, cm0, hkk0⟩ := (hK.2 0 _ rfl).1 n0 (fun j => .int (I a0 j))
  obtain ⟨-, k1, hk1, cm1, hkk1⟩ := (hK.2 0 _ rfl).1 n1 (fun j => .int (I a1 j))
  obtain ⟨vm', X', step⟩ := X.arraycopy B.1 B.2.2.2.2.2.1 (hts _ hlk) (hts _ hw.1) (hts _ hw.2.1) (hts _ hw.2.2) (src := g_b G + a0) (dst := g_b G + a1) (cs := arrV (g_K G 0) n0 (fun j => .int (I a0 j))) (cd := arrV (g_K G 0) n1 (fun j => .int (I a1 j))) (srcPos := sp) (destPos := dp) (n := n) (by rw [hT]; exact hc0) (by rw [hT]; exact hc1)
    (fun _ h => by cases h) (fun _ h => by cases h) (fun h => by cases h) (fun h => by cases h) hk0 hk1 hkk0 hkk1 (by rfl) h1 h2 h3
    (by rw [p_nn h1, p_nn h3, arrV_size]; omega)
    (by rw [p_nn h2, p_nn h3, arrV_size]; omega)
    (fun vm₁ _ i hi => by
      have e : (arrV (g_K G 0) n0 (fun j => .int (I a0 j))).slots.getD (sp.toNatClampNeg + i) .null = .int (I a0 (sp.toNatClampNeg + i)) := by
        rw [Array.getD_eq_getD_getElem?, arrV_read _ _ (by omega)]
        rfl
      rw [e]
      exact ⟨rfl, trivial⟩)
    (g := F0 m pc ls ((Value.int n :: .int dp :: .ref a1 :: .int sp :: .ref a0 :: st).map (p_v G))) rfl (by rw [B.2.2.1]; exact hl.1) (rest := st.map (p_v G)) (by
      rw [← p_ad_lo (Nat.lt_of_lt_of_le ha0 hH.2.1), ← p_ad_lo (Nat.lt_of_lt_of_le ha1 hH.2.1)]
      rfl) (by rw [B.2.1]; exact hd) hfr (by
      show 2 * 0 + _ + _ ≤ _
      rw [hcat]
      have e7 : nativeFrameWords "java/lang/System" "arraycopy" 5 + 11 = 18 := by decide
      omega)
  have e1 : copied (arrV (g_K G 0) n0 (fun j => .int (I a0 j))) (arrV (g_K G 0) n1 (fun j => .int (I a1 j))) sp dp n = arrV (g_K G 0) n1 (fun j => .int (va_cpy (I a0) (I a1) sp.toNatClampNeg dp.toNatClampNeg n.toNatClampNeg j)) := va_copied (fun z => .int z) (g_K G 0) (g_K G 0) (I a0) (I a1) h4
  rw [e1] at X' step
  have hlt : g_b G + a1 < H.size := (Array.getElem?_eq_some_iff.mp hc1).1
  generalize hcell : arrV (g_K G 0) n1 (fun j => .int (va_cpy (I a0) (I a1) sp.toNatClampNeg dp.toNatClampNeg n.toNatClampNeg j)) = cell at X' step
  have hheap : ((T.setVm vm').setCell (g_b G + a1) cell).heap = H.setIfInBounds (g_b G + a1) cell := by rw [← hT]; rfl
  have oq : ∀ q : Nat, q ≠ g_b G + a1 → (H.setIfInBounds (g_b G + a1) cell)[q]? = H[q]? := fun q hq => by simp [Array.getElem?_setIfInBounds, Ne.symm hq]
  have hz : (H.setIfInBounds (g_b G + a1) cell).size = H.size := by simp
  obtain ⟨t, r1, r2⟩ := kk p e s m args below meth c _ _ ls B (hH.put (a := a1) hz oq (fun x hx => by simp [hx]) (fun _ _ => rfl) (fun _ _ => rfl) (by
      rw [hs1]
      show (H.setIfInBounds (g_b G + a1) cell)[g_b G + a1]? = some (arrV _ _ _)
      simp only [if_true]
      rw [hcell]
      simp [Array.getElem?_setIfInBounds, hlt])) ⟨by rw [hz]; exact hS.1, fun q g1 g2 => by
      rw [oq q (fun e => g2 (by rw [e]; exact Nat.le_add_right _ _))]
      exact hS.2.1 q g1 g2, fun q hq => by
      rcases List.mem_append.mp hq with h | h
      · exact hS.2.2 q h
      · obtain ⟨z, -, hz⟩ := List.mem_map.mp h
        rw [← hz]
        exact Nat.le_add_right _ _⟩ hl _ hheap X'
  exact ⟨t, step t r1, r2⟩
end Arrays
