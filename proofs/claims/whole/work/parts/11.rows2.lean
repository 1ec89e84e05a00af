def p_ft (ci k : Nat) : Nat := match ci, k with
  | 0, 1 => 3
  | 1, 0 => 10
  | 1, 1 => 6
  | 1, 2 => 0
  | 2, 0 => 3
  | 2, 1 => 9
  | 2, 2 => 9
  | 2, 3 => 9
  | 2, 4 => 9
  | 2, 5 => 9
  | 2, 6 => 9
  | 2, 7 => 9
  | 2, 8 => 11
  | 2, 9 => 0
  | 3, 0 => 10
  | 3, 1 => 5
  | 3, 2 => 0
  | 3, 3 => 0
  | 3, 4 => 0
  | 3, 5 => 0
  | 4, 0 => 12
  | 4, 1 => 11
  | 5, 0 => 10
  | 5, 1 => 6
  | 5, 2 => 0
  | 5, 3 => 0
  | 5, 4 => 0
  | 7, 0 => 11
  | 7, 1 => 11
  | 7, 2 => 11
  | 7, 3 => 11
  | 7, 4 => 11
  | 7, 5 => 11
  | 7, 6 => 11
  | 7, 7 => 11
  | 7, 8 => 11
  | 8, 2 => 0
  | 9, 0 => 11
  | 10, 0 => 12
  | 10, 1 => 0
  | 10, 2 => 0
  | 11, 0 => 10
  | 11, 1 => 2
  | 11, 2 => 5
  | 11, 3 => 6
  | 11, 4 => 8
  | 11, 5 => 4
  | 11, 6 => 13
  | 11, 7 => 7
  | 12, 0 => 0
  | 12, 1 => 1
  | 12, 7 => 0
  | 12, 8 => 0
  | 12, 9 => 0
  | 12, 10 => 0
  | 12, 11 => 0
  | 12, 12 => 0
  | 12, 19 => 0
  | 12, 20 => 0
  | 12, 21 => 0
  | 12, 22 => 0
  | 12, 26 => 0
  | 12, 27 => 1
  | 12, 36 => 0
  | 12, 37 => 0
  | 12, 39 => 0
  | 12, 40 => 0
  | _, _ => 99
def p_tp (N : pN) (q t : Nat) : Prop := q < N.1 ∧ (N.2 q).1 = t
/-- references are of the kinds that their places have -/
def WT (N : pN) (P : pR) : Prop := ∀ a, a < N.1 → (∀ ci, (N.2 a).1 = ci + 3 → ∀ k q, P a k = some q → p_tp N q (p_ft ci k)) ∧ ((N.2 a).1 = 2 → ∀ k q, P a k = some q → p_tp N q 10)
theorem WT.get {N : pN} {P : pR} (h : WT N P) {a ci k q : Nat} (ha : p_tp N a (ci + 3)) (hq : P a k = some q) : p_tp N q (p_ft ci k) := (h a ha.1).1 ci ha.2 k q hq
theorem WT.elt {N : pN} {P : pR} (h : WT N P) {a k q : Nat} (ha : p_tp N a 2) (hq : P a k = some q) : p_tp N q 10 := (h a ha.1).2 ha.2 k q hq
theorem WT.put {N : pN} {P : pR} (h : WT N P) {a ci k : Nat} {r : Option Nat} (ha : p_tp N a (ci + 3)) (hr : ∀ q, r = some q → p_tp N q (p_ft ci k)) : WT N (p_u P a k r) := by
  intro x hx
  by_cases e : x = a
  · subst e
    refine ⟨fun cj hj j q hq => ?_, fun h2 => ?_⟩
    · have : cj = ci := by have := ha.2; omega
      subst this
      by_cases ej : j = k
      · subst ej
        rw [p_u_self] at hq
        exact hr q hq
      · rw [p_u_nk ej] at hq
        exact (h x hx).1 cj hj j q hq
    · exfalso
      have := ha.2
      omega
  · rw [p_u_ne e]
    exact h x hx
theorem p_sh {N : pN} {a t : Nat} (h : p_tp N a t) : N.2 a = (t, (N.2 a).2) := Prod.ext h.2 rfl
/-- an index within a row -/
def p_ib (N : pN) (a : Nat) (i : Int32) : Bool := !decide (i < 0) && decide (i.toNatClampNeg < (N.2 a).2)
theorem p_ib_in {N : pN} {a : Nat} {i : Int32} (h : p_ib N a i = true) : vp_in i (N.2 a).2 := by
  unfold p_ib at h
  simp only [Bool.and_eq_true, Bool.not_eq_true', decide_eq_false_iff_not, decide_eq_true_eq] at h
  intro h2
  rcases h2 with h2 | h2
  · exact h.1 h2
  · exact absurd h.2 (Nat.not_lt.mpr h2)
theorem p_if {α : Type} {c : Prop} [Decidable c] {x : Option α} {r : α} (h : (if c then x else none) = some r) : c ∧ x = some r := by
  by_cases hc : c
  · rw [if_pos hc] at h
    exact ⟨hc, h⟩
  · rw [if_neg hc] at h
    cases h
theorem p_bd {α β : Type} {x : Option α} {f : α → Option β} {r : β} (h : x.bind f = some r) : ∃ a, x = some a ∧ f a = some r := Option.bind_eq_some_iff.mp h
def p_R (r : Option Value) (N : pN) (I : pI) (L : pL) (P : pR) : pQ := fun r' N' I' L' P' => r' = r ∧ N' = N ∧ I' = I ∧ L' = L ∧ P' = P
theorem p_v_rf (G : pG) (r : Option Nat) : p_v G (va_rf r) = va_rf (r.map (p_ad G)) := by cases r <;> rfl
theorem p_st_ok : ∀ (j : Nat) (q : String × String × List Int32), p_st[j]? = some q → j < 50 := by
  intro j q h
  have : j < p_st.length := (List.getElem?_eq_some_iff.mp h).1
  have e : p_st.length = 5 := rfl
  omega
section Rows2
variable {G : pG} {M M' : pM} {R : Room} {mc ms cs sl mc' ms' d n : Nat} {Q Q' : pQ} {pc : Nat} {lo lo' : List (Nat × Value)} {st st0 as : List Value} {N N' : pN} {I I' : pI} {L L' : pL} {P P' : pR}
theorem x_getI {idx ci k a : Nat} (hd : decode M.2.1 pc = .ok (.getfield idx, 3)) (hf : p_FL M.1.cls idx ci k) (hk : p_kd ci k = 0) (ha : p_tp N a (ci + 3)) (kk : SW G M R mc ms cs sl Q (pc + 3) lo (.int (I a k) :: st) N I L P) : SW G M R mc ms cs sl Q pc lo (.ref a :: st) N I L P := s_getI hf hk hd ha.1 (p_sh ha) kk
theorem x_getL {idx ci k a : Nat} (hd : decode M.2.1 pc = .ok (.getfield idx, 3)) (hf : p_FL M.1.cls idx ci k) (hk : p_kd ci k = 1) (ha : p_tp N a (ci + 3)) (kk : SW G M R mc ms cs sl Q (pc + 3) lo (.long (L a k) :: st) N I L P) : SW G M R mc ms cs sl Q pc lo (.ref a :: st) N I L P := s_getL hf hk hd ha.1 (p_sh ha) kk
theorem x_getR {idx ci k a q : Nat} (hd : decode M.2.1 pc = .ok (.getfield idx, 3)) (hf : p_FL M.1.cls idx ci k) (hk : p_kd ci k = 2) (ha : p_tp N a (ci + 3)) (hq : P a k = some q) (kk : SW G M R mc ms cs sl Q (pc + 3) lo (.ref q :: st) N I L P) : SW G M R mc ms cs sl Q pc lo (.ref a :: st) N I L P := s_getR hf hk hd ha.1 (p_sh ha) hq kk
theorem x_getQ {idx ci k a : Nat} (hd : decode M.2.1 pc = .ok (.getfield idx, 3)) (hf : p_FL M.1.cls idx ci k) (hk : p_kd ci k = 2) (ha : p_tp N a (ci + 3)) (kk : SW G M R mc ms cs sl Q (pc + 3) lo (va_rf (P a k) :: st) N I L P) : SW G M R mc ms cs sl Q pc lo (.ref a :: st) N I L P := by
  cases hq : P a k with
  | none => rw [hq] at kk; exact s_getN hf hk hd ha.1 (p_sh ha) hq kk
  | some q => rw [hq] at kk; exact s_getR hf hk hd ha.1 (p_sh ha) hq kk
theorem x_putI {idx ci k a : Nat} {x : Int32} (hd : decode M.2.1 pc = .ok (.putfield idx, 3)) (hf : p_FL M.1.cls idx ci k) (hfn : p_fin ci k = false ∨ (M.1.name = "<init>" ∧ p_nm ci = M.1.cls)) (hk : p_ty ci k = .int) (ha : p_tp N a (ci + 3)) (kk : SW G M R mc ms cs sl Q (pc + 3) lo st N (p_u I a k x) L P) : SW G M R mc ms cs sl Q pc lo (.int x :: .ref a :: st) N I L P := s_putI hf hfn hk hd ha.1 (p_sh ha) kk
theorem x_putZ {idx ci k a : Nat} {x : Int32} (hd : decode M.2.1 pc = .ok (.putfield idx, 3)) (hf : p_FL M.1.cls idx ci k) (hfn : p_fin ci k = false ∨ (M.1.name = "<init>" ∧ p_nm ci = M.1.cls)) (hk : p_ty ci k = .boolean) (hx : x = 0 ∨ x = 1) (ha : p_tp N a (ci + 3)) (kk : SW G M R mc ms cs sl Q (pc + 3) lo st N (p_u I a k x) L P) : SW G M R mc ms cs sl Q pc lo (.int x :: .ref a :: st) N I L P := s_putZ hf hfn hk hx hd ha.1 (p_sh ha) kk
theorem x_putL {idx ci k a : Nat} {x : Int64} (hd : decode M.2.1 pc = .ok (.putfield idx, 3)) (hf : p_FL M.1.cls idx ci k) (hfn : p_fin ci k = false ∨ (M.1.name = "<init>" ∧ p_nm ci = M.1.cls)) (hk : p_ty ci k = .long) (ha : p_tp N a (ci + 3)) (kk : SW G M R mc ms cs sl Q (pc + 3) lo st N I (p_u L a k x) P) : SW G M R mc ms cs sl Q pc lo (.long x :: .ref a :: st) N I L P := s_putL hf hfn hk hd ha.1 (p_sh ha) kk
theorem x_putR {idx ci k a q : Nat} (hd : decode M.2.1 pc = .ok (.putfield idx, 3)) (hf : p_FL M.1.cls idx ci k) (hfn : p_fin ci k = false ∨ (M.1.name = "<init>" ∧ p_nm ci = M.1.cls)) (hk : p_kd ci k = 2) (ha : p_tp N a (ci + 3)) (kk : SW G M R mc ms cs sl Q (pc + 3) lo st N I L (p_u P a k (some q))) : SW G M R mc ms cs sl Q pc lo (.ref q :: .ref a :: st) N I L P := s_putR hf hfn hk hd ha.1 (p_sh ha) kk
theorem x_putQ {idx ci k a : Nat} {r : Option Nat} (hd : decode M.2.1 pc = .ok (.putfield idx, 3)) (hf : p_FL M.1.cls idx ci k) (hfn : p_fin ci k = false ∨ (M.1.name = "<init>" ∧ p_nm ci = M.1.cls)) (hk : p_kd ci k = 2) (ha : p_tp N a (ci + 3)) (kk : SW G M R mc ms cs sl Q (pc + 3) lo st N I L (p_u P a k r)) : SW G M R mc ms cs sl Q pc lo (va_rf r :: .ref a :: st) N I L P := by
  cases r with
  | none => exact s_putN hf hfn hk hd ha.1 (p_sh ha) kk
  | some q => exact s_putR hf hfn hk hd ha.1 (p_sh ha) kk
theorem x_iald {a : Nat} {i : Int32} (hd : decode M.2.1 pc = .ok (.iaload, 1)) (ha : p_tp N a 0) (hi : p_ib N a i = true) (kk : SW G M R mc ms cs sl Q (pc + 1) lo (.int (I a i.toNatClampNeg) :: st) N I L P) : SW G M R mc ms cs sl Q pc lo (.int i :: .ref a :: st) N I L P := s_iald hd ha.1 (p_sh ha) (p_ib_in hi) kk
theorem x_zald {a : Nat} {i : Int32} (hd : decode M.2.1 pc = .ok (.baload, 1)) (ha : p_tp N a 1) (hi : p_ib N a i = true) (kk : SW G M R mc ms cs sl Q (pc + 1) lo (.int (I a i.toNatClampNeg) :: st) N I L P) : SW G M R mc ms cs sl Q pc lo (.int i :: .ref a :: st) N I L P := s_zald hd ha.1 (p_sh ha) (p_ib_in hi) kk
theorem x_aald {a : Nat} {i : Int32} (hd : decode M.2.1 pc = .ok (.aaload, 1)) (ha : p_tp N a 2) (hi : p_ib N a i = true) (kk : SW G M R mc ms cs sl Q (pc + 1) lo (va_rf (P a i.toNatClampNeg) :: st) N I L P) : SW G M R mc ms cs sl Q pc lo (.int i :: .ref a :: st) N I L P := s_aald hd ha.1 (p_sh ha) (p_ib_in hi) rfl kk
theorem x_iast {a : Nat} {i x : Int32} (hd : decode M.2.1 pc = .ok (.iastore, 1)) (ha : p_tp N a 0) (hi : p_ib N a i = true) (kk : SW G M R mc ms cs sl Q (pc + 1) lo st N (p_u I a i.toNatClampNeg x) L P) : SW G M R mc ms cs sl Q pc lo (.int x :: .int i :: .ref a :: st) N I L P := s_iast hd ha.1 (p_sh ha) (p_ib_in hi) kk
theorem x_zast {a : Nat} {i x : Int32} (hd : decode M.2.1 pc = .ok (.bastore, 1)) (ha : p_tp N a 1) (hi : p_ib N a i = true) (hx : x = 0 ∨ x = 1) (kk : SW G M R mc ms cs sl Q (pc + 1) lo st N (p_u I a i.toNatClampNeg x) L P) : SW G M R mc ms cs sl Q pc lo (.int x :: .int i :: .ref a :: st) N I L P := s_zast hd ha.1 (p_sh ha) (p_ib_in hi) hx kk
theorem x_aast {a v : Nat} {i : Int32} (hd : decode M.2.1 pc = .ok (.aastore, 1)) (ha : p_tp N a 2) (hv : p_tp N v 10) (hi : p_ib N a i = true) (kk : SW G M R mc ms cs sl Q (pc + 1) lo st N I L (p_u P a i.toNatClampNeg (some v))) : SW G M R mc ms cs sl Q pc lo (.ref v :: .int i :: .ref a :: st) N I L P := s_aast hd ha.1 (p_sh ha) hv.1 (p_sh hv) (p_ib_in hi) kk
theorem x_alen {a t : Nat} (hd : decode M.2.1 pc = .ok (.arraylength, 1)) (ha : p_tp N a t) (ht : t < 3) (kk : SW G M R mc ms cs sl Q (pc + 1) lo (.int (nI (N.2 a).2) :: st) N I L P) : SW G M R mc ms cs sl Q pc lo (.ref a :: st) N I L P := s_alen hd ha.1 (by
  have h := p_sh ha
  rcases (show t = 0 ∨ t = 1 ∨ t = 2 by omega) with e | e | e
  · subst e; exact Or.inl h
  · subst e; exact Or.inr (Or.inl h)
  · subst e; exact Or.inr (Or.inr h)) rfl kk
/-- may be null -/
theorem x_aloadQ_n {q : Fin 4} {r : Option Nat} (hd : decode M.2.1 pc = .ok (.aload_n q, 1)) (j : Nat) {i : Nat} (hi : (q : Nat) = i) (hj : lo[j]? = some (i, va_rf r)) (k : SW G M R mc ms cs sl Q (pc + 1) lo (va_rf r :: st) N I L P) : SW G M R mc ms cs sl Q pc lo st N I L P := by
  cases r with
  | none => exact s_aload_nN hd j hi hj k
  | some x => exact s_aload_n hd j hi hj k
theorem x_aloadQ {i : Nat} {r : Option Nat} (hd : decode M.2.1 pc = .ok (.aload i, 2)) (j : Nat) (hj : lo[j]? = some (i, va_rf r)) (k : SW G M R mc ms cs sl Q (pc + 2) lo (va_rf r :: st) N I L P) : SW G M R mc ms cs sl Q pc lo st N I L P := by
  cases r with
  | none => exact s_aloadN hd j hj k
  | some x => exact s_aload hd j hj k
theorem x_astoreQ_n {q : Fin 4} {i : Nat} {r : Option Nat} (hd : decode M.2.1 pc = .ok (.astore_n q, 1)) (hi : (q : Nat) = i) (hn : i < M.2.2.1) (hl2 : p_s1 i (va_rf r) lo = lo') (k : SW G M R mc ms cs sl Q (pc + 1) lo' st N I L P) : SW G M R mc ms cs sl Q pc lo (va_rf r :: st) N I L P := by
  cases r with
  | none => exact s_astore_nN hd hi hn hl2 k
  | some x => exact s_astore_n hd hi hn hl2 k
theorem x_astoreQ {i : Nat} {r : Option Nat} (hd : decode M.2.1 pc = .ok (.astore i, 2)) (hn : i < M.2.2.1) (hl2 : p_s1 i (va_rf r) lo = lo') (k : SW G M R mc ms cs sl Q (pc + 2) lo' st N I L P) : SW G M R mc ms cs sl Q pc lo (va_rf r :: st) N I L P := by
  cases r with
  | none => exact s_astoreN hd hn hl2 k
  | some x => exact s_astore hd hn hl2 k
theorem p_lc_lt {x y : Int64} : lg_cmp x y < 0 ↔ x < y := by
  unfold lg_cmp
  by_cases h : y < x
  · have h0 := Int64.lt_iff_toInt_lt.mp h
    have h1 : ¬ x < y := fun g => by have := Int64.lt_iff_toInt_lt.mp g; omega
    have h2 : ¬ x = y := fun g => by subst g; omega
    have h3 : ¬ x ≤ y := fun g => by have := Int64.le_iff_toInt_le.mp g; omega
    have h4 : y ≤ x := Int64.le_iff_toInt_le.mpr (by omega)
    simp [h, h1, h2, h3, h4]
  · have h0 : ¬ y.toInt < x.toInt := fun g => h (Int64.lt_iff_toInt_lt.mpr g)
    by_cases e : x = y
    · subst e
      have h4 : x ≤ x := Int64.le_iff_toInt_le.mpr (by omega)
      simp [h, h4]
    · have e0 : ¬ x.toInt = y.toInt := fun g => e (Int64.toInt_inj.mp g)
      have h1 : x < y := Int64.lt_iff_toInt_lt.mpr (by omega)
      have h3 : ¬ y ≤ x := fun g => by have := Int64.le_iff_toInt_le.mp g; omega
      have h4 : x ≤ y := Int64.le_iff_toInt_le.mpr (by omega)
      simp [h, h1, h3, h4, e]
theorem x_lcmp_lt {x y : Int64} {off : Int} {tgt : Nat} (hd : decode M.2.1 pc = .ok (.lcmp, 1)) (hd2 : decode M.2.1 (pc + 1) = .ok (.ifCond .lt off, 3)) (ht : ((pc + 1 : Nat) : Int) + off = (tgt : Int)) (kt : x < y → SW G M R mc ms cs sl Q tgt lo st N I L P) (kf : ¬ x < y → SW G M R mc ms cs sl Q (pc + 1 + 3) lo st N I L P) : SW G M R mc ms cs sl Q pc lo (.long y :: .long x :: st) N I L P :=
  s_lcmp hd (s_if_lt hd2 ht (fun hc => kt (p_lc_lt.mp hc)) (fun hc => kf (fun h => hc (p_lc_lt.mpr h))))
theorem p_lc_ge {x y : Int64} : 0 ≤ lg_cmp x y ↔ y ≤ x := by
  unfold lg_cmp
  by_cases h : y < x
  · have h0 := Int64.lt_iff_toInt_lt.mp h
    have h1 : ¬ x < y := fun g => by have := Int64.lt_iff_toInt_lt.mp g; omega
    have h2 : ¬ x = y := fun g => by subst g; omega
    have h3 : ¬ x ≤ y := fun g => by have := Int64.le_iff_toInt_le.mp g; omega
    have h4 : y ≤ x := Int64.le_iff_toInt_le.mpr (by omega)
    simp [h, h1, h2, h3, h4]
  · have h0 : ¬ y.toInt < x.toInt := fun g => h (Int64.lt_iff_toInt_lt.mpr g)
    by_cases e : x = y
    · subst e
      have h4 : x ≤ x := Int64.le_iff_toInt_le.mpr (by omega)
      simp [h, h4]
    · have e0 : ¬ x.toInt = y.toInt := fun g => e (Int64.toInt_inj.mp g)
      have h1 : x < y := Int64.lt_iff_toInt_lt.mpr (by omega)
      have h3 : ¬ y ≤ x := fun g => by have := Int64.le_iff_toInt_le.mp g; omega
      have h4 : x ≤ y := Int64.le_iff_toInt_le.mpr (by omega)
      simp [h, h1, h3, h4, e]
theorem x_lcmp_ge {x y : Int64} {off : Int} {tgt : Nat} (hd : decode M.2.1 pc = .ok (.lcmp, 1)) (hd2 : decode M.2.1 (pc + 1) = .ok (.ifCond .ge off, 3)) (ht : ((pc + 1 : Nat) : Int) + off = (tgt : Int)) (kt : y ≤ x → SW G M R mc ms cs sl Q tgt lo st N I L P) (kf : ¬ y ≤ x → SW G M R mc ms cs sl Q (pc + 1 + 3) lo st N I L P) : SW G M R mc ms cs sl Q pc lo (.long y :: .long x :: st) N I L P :=
  s_lcmp hd (s_if_ge hd2 ht (fun hc => kt (p_lc_ge.mp hc)) (fun hc => kf (fun h => hc (p_lc_ge.mpr h))))
theorem p_lc_gt {x y : Int64} : 0 < lg_cmp x y ↔ y < x := by
  unfold lg_cmp
  by_cases h : y < x
  · have h0 := Int64.lt_iff_toInt_lt.mp h
    have h1 : ¬ x < y := fun g => by have := Int64.lt_iff_toInt_lt.mp g; omega
    have h2 : ¬ x = y := fun g => by subst g; omega
    have h3 : ¬ x ≤ y := fun g => by have := Int64.le_iff_toInt_le.mp g; omega
    have h4 : y ≤ x := Int64.le_iff_toInt_le.mpr (by omega)
    simp [h, h1, h2, h3, h4]
  · have h0 : ¬ y.toInt < x.toInt := fun g => h (Int64.lt_iff_toInt_lt.mpr g)
    by_cases e : x = y
    · subst e
      have h4 : x ≤ x := Int64.le_iff_toInt_le.mpr (by omega)
      simp [h, h4]
    · have e0 : ¬ x.toInt = y.toInt := fun g => e (Int64.toInt_inj.mp g)
      have h1 : x < y := Int64.lt_iff_toInt_lt.mpr (by omega)
      have h3 : ¬ y ≤ x := fun g => by have := Int64.le_iff_toInt_le.mp g; omega
      have h4 : x ≤ y := Int64.le_iff_toInt_le.mpr (by omega)
      simp [h, h1, h3, h4, e]
theorem x_lcmp_gt {x y : Int64} {off : Int} {tgt : Nat} (hd : decode M.2.1 pc = .ok (.lcmp, 1)) (hd2 : decode M.2.1 (pc + 1) = .ok (.ifCond .gt off, 3)) (ht : ((pc + 1 : Nat) : Int) + off = (tgt : Int)) (kt : y < x → SW G M R mc ms cs sl Q tgt lo st N I L P) (kf : ¬ y < x → SW G M R mc ms cs sl Q (pc + 1 + 3) lo st N I L P) : SW G M R mc ms cs sl Q pc lo (.long y :: .long x :: st) N I L P :=
  s_lcmp hd (s_if_gt hd2 ht (fun hc => kt (p_lc_gt.mp hc)) (fun hc => kf (fun h => hc (p_lc_gt.mpr h))))
theorem p_lc_le {x y : Int64} : lg_cmp x y ≤ 0 ↔ x ≤ y := by
  unfold lg_cmp
  by_cases h : y < x
  · have h0 := Int64.lt_iff_toInt_lt.mp h
    have h1 : ¬ x < y := fun g => by have := Int64.lt_iff_toInt_lt.mp g; omega
    have h2 : ¬ x = y := fun g => by subst g; omega
    have h3 : ¬ x ≤ y := fun g => by have := Int64.le_iff_toInt_le.mp g; omega
    have h4 : y ≤ x := Int64.le_iff_toInt_le.mpr (by omega)
    simp [h, h1, h2, h3, h4]
  · have h0 : ¬ y.toInt < x.toInt := fun g => h (Int64.lt_iff_toInt_lt.mpr g)
    by_cases e : x = y
    · subst e
      have h4 : x ≤ x := Int64.le_iff_toInt_le.mpr (by omega)
      simp [h, h4]
    · have e0 : ¬ x.toInt = y.toInt := fun g => e (Int64.toInt_inj.mp g)
      have h1 : x < y := Int64.lt_iff_toInt_lt.mpr (by omega)
      have h3 : ¬ y ≤ x := fun g => by have := Int64.le_iff_toInt_le.mp g; omega
      have h4 : x ≤ y := Int64.le_iff_toInt_le.mpr (by omega)
      simp [h, h1, h3, h4, e]
theorem x_lcmp_le {x y : Int64} {off : Int} {tgt : Nat} (hd : decode M.2.1 pc = .ok (.lcmp, 1)) (hd2 : decode M.2.1 (pc + 1) = .ok (.ifCond .le off, 3)) (ht : ((pc + 1 : Nat) : Int) + off = (tgt : Int)) (kt : x ≤ y → SW G M R mc ms cs sl Q tgt lo st N I L P) (kf : ¬ x ≤ y → SW G M R mc ms cs sl Q (pc + 1 + 3) lo st N I L P) : SW G M R mc ms cs sl Q pc lo (.long y :: .long x :: st) N I L P :=
  s_lcmp hd (s_if_le hd2 ht (fun hc => kt (p_lc_le.mp hc)) (fun hc => kf (fun h => hc (p_lc_le.mpr h))))
theorem p_lc_eq {x y : Int64} : lg_cmp x y = 0 ↔ x = y := by
  unfold lg_cmp
  by_cases h : y < x
  · have h0 := Int64.lt_iff_toInt_lt.mp h
    have h1 : ¬ x < y := fun g => by have := Int64.lt_iff_toInt_lt.mp g; omega
    have h2 : ¬ x = y := fun g => by subst g; omega
    have h3 : ¬ x ≤ y := fun g => by have := Int64.le_iff_toInt_le.mp g; omega
    have h4 : y ≤ x := Int64.le_iff_toInt_le.mpr (by omega)
    simp [h, h1, h2, h3, h4]
  · have h0 : ¬ y.toInt < x.toInt := fun g => h (Int64.lt_iff_toInt_lt.mpr g)
    by_cases e : x = y
    · subst e
      have h4 : x ≤ x := Int64.le_iff_toInt_le.mpr (by omega)
      simp [h, h4]
    · have e0 : ¬ x.toInt = y.toInt := fun g => e (Int64.toInt_inj.mp g)
      have h1 : x < y := Int64.lt_iff_toInt_lt.mpr (by omega)
      have h3 : ¬ y ≤ x := fun g => by have := Int64.le_iff_toInt_le.mp g; omega
      have h4 : x ≤ y := Int64.le_iff_toInt_le.mpr (by omega)
      simp [h, h1, h3, h4, e]
theorem x_lcmp_eq {x y : Int64} {off : Int} {tgt : Nat} (hd : decode M.2.1 pc = .ok (.lcmp, 1)) (hd2 : decode M.2.1 (pc + 1) = .ok (.ifCond .eq off, 3)) (ht : ((pc + 1 : Nat) : Int) + off = (tgt : Int)) (kt : x = y → SW G M R mc ms cs sl Q tgt lo st N I L P) (kf : ¬ x = y → SW G M R mc ms cs sl Q (pc + 1 + 3) lo st N I L P) : SW G M R mc ms cs sl Q pc lo (.long y :: .long x :: st) N I L P :=
  s_lcmp hd (s_if_eq hd2 ht (fun hc => kt (p_lc_eq.mp hc)) (fun hc => kf (fun h => hc (p_lc_eq.mpr h))))
theorem x_lcmp_ne {x y : Int64} {off : Int} {tgt : Nat} (hd : decode M.2.1 pc = .ok (.lcmp, 1)) (hd2 : decode M.2.1 (pc + 1) = .ok (.ifCond .ne off, 3)) (ht : ((pc + 1 : Nat) : Int) + off = (tgt : Int)) (kt : ¬ x = y → SW G M R mc ms cs sl Q tgt lo st N I L P) (kf : x = y → SW G M R mc ms cs sl Q (pc + 1 + 3) lo st N I L P) : SW G M R mc ms cs sl Q pc lo (.long y :: .long x :: st) N I L P :=
  s_lcmp hd (s_if_ne hd2 ht (fun hc => kt (fun h => hc (p_lc_eq.mpr h))) (fun hc => kf (p_lc_eq.mp hc)))
theorem x_callV {idx a ci : Nat} {r : Option Value} (hd : decode M.2.1 pc = .ok (.invokevirtual idx, 3)) (hM : MT G M' d mc' ms' (.ref a :: as) N I L P (p_R r N' I' L' P')) (hk : p_MK M' n) (hv : p_MV M') (hlk : Cond.methodLink M.1.cls idx M'.1 ∈ p_tbl) (hn : as.length = n) (hst : st0 = as.reverse ++ .ref a :: st) (hcat : (st.map fun v => v.category).sum ≤ 8) (ha : p_tp N a (ci + 3)) (hcn : p_nm ci = M'.1.cls) (hR : d + 1 ≤ R.frames ∧ 19 + M'.2.2.1 + 100 * d ≤ R.locals) (hf : cs + mc' ≤ R.cells ∧ sl + ms' ≤ R.slots)
    (kk : SW G M R mc ms (cs + mc') (sl + ms') Q (pc + 3) lo (r.toList ++ st) N' I' L' P') : SW G M R mc ms cs sl Q pc lo st0 N I L P :=
  s_callV hM hk hv hlk hd hn hst hcat ha.1 (p_sh ha) hcn hR hf (fun _ _ _ _ _ h => by obtain ⟨rfl, rfl, rfl, rfl, rfl⟩ := h; exact kk)
theorem x_callS {idx : Nat} {r : Option Value} (hd : decode M.2.1 pc = .ok (.invokestatic idx, 3)) (hM : MT G M' d mc' ms' as N I L P (p_R r N' I' L' P')) (hk : p_MK M' n) (hv : Cond.static M'.1 ∈ p_tbl) (hlk : Cond.methodLink M.1.cls idx M'.1 ∈ p_tbl) (hn : as.length = n) (hst : st0 = as.reverse ++ st) (hcat : (st.map fun v => v.category).sum ≤ 8) (hR : d + 1 ≤ R.frames ∧ 19 + M'.2.2.1 + 100 * d ≤ R.locals) (hf : cs + mc' ≤ R.cells ∧ sl + ms' ≤ R.slots)
    (kk : SW G M R mc ms (cs + mc') (sl + ms') Q (pc + 3) lo (r.toList ++ st) N' I' L' P') : SW G M R mc ms cs sl Q pc lo st0 N I L P :=
  s_callS hM hk hv hlk hd hn hst hcat hR hf (fun _ _ _ _ _ h => by obtain ⟨rfl, rfl, rfl, rfl, rfl⟩ := h; exact kk)
theorem x_callSN {idx : Nat} {r : Option Value} (hd : decode M.2.1 pc = .ok (.invokestatic idx, 3)) (hM : MT G M' d mc' ms' as N I L P (p_R r N' I' L' P')) (hk : p_MK M' n) (hv : Cond.static M'.1 ∈ p_tbl) (hlk : (M.1.cls, idx, M'.1) ∈ p_nst) (hn : as.length = n) (hst : st0 = as.reverse ++ st) (hcat : (st.map fun v => v.category).sum ≤ 8) (hR : d + 1 ≤ R.frames ∧ 19 + M'.2.2.1 + 100 * d ≤ R.locals) (hf : cs + mc' ≤ R.cells ∧ sl + ms' ≤ R.slots)
    (kk : SW G M R mc ms (cs + mc') (sl + ms') Q (pc + 3) lo (r.toList ++ st) N' I' L' P') : SW G M R mc ms cs sl Q pc lo st0 N I L P :=
  s_callSN hM hk hv hlk hd hn hst hcat hR hf (fun _ _ _ _ _ h => by obtain ⟨rfl, rfl, rfl, rfl, rfl⟩ := h; exact kk)
theorem x_callI {idx a : Nat} {r : Option Value} (hd : decode M.2.1 pc = .ok (.invokespecial idx, 3)) (hM : MT G M' d mc' ms' (.ref a :: as) N I L P (p_R r N' I' L' P')) (hk : p_MK M' n) (hi : Cond.instanceMethod M'.1 ∈ p_tbl) (hy : M'.1.name = "<init>") (hr : M'.2.2.2 = none) (hlk : Cond.methodLink M.1.cls idx M'.1 ∈ p_tbl) (hn : as.length = n) (hst : st0 = as.reverse ++ .ref a :: st) (hcat : (st.map fun v => v.category).sum ≤ 8) (ha : a < N.1) (hR : d + 1 ≤ R.frames ∧ 19 + M'.2.2.1 + 100 * d ≤ R.locals) (hf : cs + mc' ≤ R.cells ∧ sl + ms' ≤ R.slots)
    (kk : SW G M R mc ms (cs + mc') (sl + ms') Q (pc + 3) lo (r.toList ++ st) N' I' L' P') : SW G M R mc ms cs sl Q pc lo st0 N I L P :=
  s_callI hM hk hi hy hr hlk hd hn hst hcat ha hR hf (fun _ _ _ _ _ h => by obtain ⟨rfl, rfl, rfl, rfl, rfl⟩ := h; exact kk)
theorem x_callIN {idx a : Nat} {r : Option Value} (hd : decode M.2.1 pc = .ok (.invokespecial idx, 3)) (hM : MT G M' d mc' ms' (.ref a :: as) N I L P (p_R r N' I' L' P')) (hk : p_MK M' n) (hi : Cond.instanceMethod M'.1 ∈ p_tbl) (hy : M'.1.name = "<init>") (hr : M'.2.2.2 = none) (hlk : (M.1.cls, idx, M'.1) ∈ p_nst) (hn : as.length = n) (hst : st0 = as.reverse ++ .ref a :: st) (hcat : (st.map fun v => v.category).sum ≤ 8) (ha : a < N.1) (hR : d + 1 ≤ R.frames ∧ 19 + M'.2.2.1 + 100 * d ≤ R.locals) (hf : cs + mc' ≤ R.cells ∧ sl + ms' ≤ R.slots)
    (kk : SW G M R mc ms (cs + mc') (sl + ms') Q (pc + 3) lo (r.toList ++ st) N' I' L' P') : SW G M R mc ms cs sl Q pc lo st0 N I L P :=
  s_callIN hM hk hi hy hr hlk hd hn hst hcat ha hR hf (fun _ _ _ _ _ h => by obtain ⟨rfl, rfl, rfl, rfl, rfl⟩ := h; exact kk)
end Rows2
/-- a value outside a table switch -/
theorem p_out {x : Int32} {a b : Int} (h : ∀ i : Int, a ≤ i → i ≤ b → x.toInt ≠ i) : x.toInt < a ∨ b < x.toInt := by
  by_cases h1 : x.toInt < a
  · exact Or.inl h1
  · by_cases h2 : b < x.toInt
    · exact Or.inr h2
    · exact absurd rfl (h _ (by omega) (by omega))
theorem p_ne {x : Int32} {i : Int} {y : Int32} (h : ¬ x = y) (e : y.toInt = i) : x.toInt ≠ i := fun g => h (Int32.toInt_inj.mp (g.trans e.symm))
