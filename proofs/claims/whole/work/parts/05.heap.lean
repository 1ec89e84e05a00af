/-! rows that read and write the pure heap -/
def p_okt (t : FieldType) : Bool := match t with
  | .int => true
  | .boolean => true
  | .long => true
  | .object _ => true
  | .array _ => true
  | _ => false
theorem p_cases {Pq : Nat → vw_C → Prop} (h0 : Pq 0 (RX0, TX0, 9)) (h1 : Pq 1 (RX1, TX1, 5)) (h2 : Pq 2 (RX2, TX2, 14)) (h3 : Pq 3 (RX3, TX3, 8)) (h4 : Pq 4 (RX4, TX4, 2)) (h5 : Pq 5 (RX5, TX5, 9)) (h6 : Pq 6 (RX6, TX6, 3)) (h7 : Pq 7 (RX7, TX7, 13)) (h8 : Pq 8 (RX8, TX8, 4)) (h9 : Pq 9 (RX9, TX9, 6)) (h10 : Pq 10 (RX10, TX10, 3)) (h11 : Pq 11 (RX11, TX11, 8)) (h12 : Pq 12 (RX12, TX12, 41)) : ∀ (ci : Nat) (q : vw_C), p_cls[ci]? = some q → Pq ci q := by
  intro ci q h
  match ci, h with
  | 0, h => cases h; exact h0
  | 1, h => cases h; exact h1
  | 2, h => cases h; exact h2
  | 3, h => cases h; exact h3
  | 4, h => cases h; exact h4
  | 5, h => cases h; exact h5
  | 6, h => cases h; exact h6
  | 7, h => cases h; exact h7
  | 8, h => cases h; exact h8
  | 9, h => cases h; exact h9
  | 10, h => cases h; exact h10
  | 11, h => cases h; exact h11
  | 12, h => cases h; exact h12
  | n + 13, h => simp [p_cls] at h
theorem p_in0 : ∀ (ci : Nat) (q : vw_C), p_cls[ci]? = some q → ∀ w ∈ u_ws q.1 q.2.1 q.2.2, w ∈ lw_tbl :=
  p_cases (Pq := fun _ q => ∀ w ∈ u_ws q.1 q.2.1 q.2.2, w ∈ lw_tbl) (by decide +kernel) (by decide +kernel) (by decide +kernel) (by decide +kernel) (by decide +kernel) (by decide +kernel) (by decide +kernel) (by decide +kernel) (by decide +kernel) (by decide +kernel) (by decide +kernel) (by decide +kernel) (by decide +kernel)
theorem p_in1 : ∀ (ci : Nat) (q : vw_C), p_cls[ci]? = some q → ∀ w ∈ u_ws q.1 q.2.1 q.2.2, goodWord w = true :=
  p_cases (Pq := fun _ q => ∀ w ∈ u_ws q.1 q.2.1 q.2.2, goodWord w = true) (by decide +kernel) (by decide +kernel) (by decide +kernel) (by decide +kernel) (by decide +kernel) (by decide +kernel) (by decide +kernel) (by decide +kernel) (by decide +kernel) (by decide +kernel) (by decide +kernel) (by decide +kernel) (by decide +kernel)
theorem p_in (ci : Nat) (q : vw_C) (h : p_cls[ci]? = some q) : ∀ w ∈ u_ws q.1 q.2.1 q.2.2, w ∈ p_tbl := fun w hw => p_mem (p_in0 ci q h w hw) (p_in1 ci q h w hw)
theorem p_tyk : ∀ (ci : Nat) (q : vw_C), p_cls[ci]? = some q → ∀ k, k < q.2.2 → parseFieldDescriptor (q.2.1 k).2.2.1 = some (p_ty ci k) :=
  p_cases (Pq := fun ci q => ∀ k, k < q.2.2 → parseFieldDescriptor (q.2.1 k).2.2.1 = some (p_ty ci k)) tyX0_ok tyX1_ok tyX2_ok tyX3_ok tyX4_ok tyX5_ok tyX6_ok tyX7_ok tyX8_ok tyX9_ok tyX10_ok tyX11_ok tyX12_ok
theorem p_nmk : ∀ (ci : Nat) (q : vw_C), p_cls[ci]? = some q → ∀ a, a < q.2.2 → ∀ b, b < q.2.2 → a ≠ b → (q.2.1 a).2.1 ≠ (q.2.1 b).2.1 :=
  p_cases (Pq := fun _ q => ∀ a, a < q.2.2 → ∀ b, b < q.2.2 → a ≠ b → (q.2.1 a).2.1 ≠ (q.2.1 b).2.1) nmX0 nmX1 nmX2 nmX3 nmX4 nmX5 nmX6 nmX7 nmX8 nmX9 nmX10 nmX11 nmX12
theorem p_okk : ∀ (ci : Nat) (q : vw_C), p_cls[ci]? = some q → ∀ k, k < q.2.2 → p_okt (p_ty ci k) = true :=
  p_cases (Pq := fun ci q => ∀ k, k < q.2.2 → p_okt (p_ty ci k) = true) (by decide +kernel) (by decide +kernel) (by decide +kernel) (by decide +kernel) (by decide +kernel) (by decide +kernel) (by decide +kernel) (by decide +kernel) (by decide +kernel) (by decide +kernel) (by decide +kernel) (by decide +kernel) (by decide +kernel)
theorem p_instk0 : ∀ (ci : Nat) (q : vw_C), p_cls[ci]? = some q → Cond.instantiable q.1 q.2.2 ∈ lw_tbl ∧ Cond.initialized q.1 ∈ lw_tbl :=
  p_cases (Pq := fun _ q => Cond.instantiable q.1 q.2.2 ∈ lw_tbl ∧ Cond.initialized q.1 ∈ lw_tbl) (by decide +kernel) (by decide +kernel) (by decide +kernel) (by decide +kernel) (by decide +kernel) (by decide +kernel) (by decide +kernel) (by decide +kernel) (by decide +kernel) (by decide +kernel) (by decide +kernel) (by decide +kernel) (by decide +kernel)
theorem p_instk (ci : Nat) (q : vw_C) (h : p_cls[ci]? = some q) : Cond.instantiable q.1 q.2.2 ∈ p_tbl ∧ Cond.initialized q.1 ∈ p_tbl := ⟨p_mem (p_instk0 ci q h).1 rfl, p_mem (p_instk0 ci q h).2 rfl⟩
/-- entry idx of own's pool is field k of class ci -/
def p_FL (own : String) (idx ci k : Nat) : Prop := ∃ q : vw_C, p_cls[ci]? = some q ∧ k < q.2.2 ∧ (q.2.1 k).1 = q.1 ∧ Cond.fieldLink own idx q.1 (q.2.1 k).2.1 (q.2.1 k).2.2.1 ∈ p_tbl
def p_fin (ci k : Nat) : Bool := match p_cls[ci]? with
  | some q => (q.2.1 k).2.2.2
  | none => true
def p_nm (ci : Nat) : String := match p_cls[ci]? with
  | some q => q.1
  | none => ""
section HeapW
variable {G : pG} {M : pM} {R : Room} {cs sl : Nat} {pc : Nat} {N : pN} {I I' : pI} {L L' : pL} {P P' : pR} {p : Program} {e : Env} {s : State} {m : MethodId} {args : Array Value} {below : List Frame} {meth : Method} {c : Code} {H : Heap} {locs : List Loc} {ls : Array Slot} {Qw : State → Prop} {rest : List Value}
theorem p_get {idx ci k a z : Nat} (B : p_B G M p s m args meth c) (hH : p_H G N I L P H) (hf : p_FL M.1.cls idx ci k) (hd : decode M.2.1 pc = .ok (.getfield idx, 3)) (ha : a < N.1) (hs : N.2 a = (ci + 3, z))
    (kk : W p G.1 e R s m args below meth c H locs cs sl Qw (F0 m (pc + 3) ls (p_val G (p_ty ci k) (I a k) (L a k) (P a k) :: rest))) : W p G.1 e R s m args below meth c H locs cs sl Qw (F0 m pc ls (.ref (p_ad G a) :: rest)) := by
  obtain ⟨q, hq, hk, ho, hl⟩ := hf
  have hc := hH.2.2 a ha
  rw [hs] at hc
  obtain ⟨c0, hc0, hob⟩ := hc
  have e0 : c0 = q := Option.some.inj (hc0.symm.trans hq)
  subst e0
  rw [p_ad_lo (Nat.lt_of_lt_of_le ha hH.2.1)]
  have hP : va_P (g_D G) p_cls [(g_b G + a, .inr (ci, (List.range c0.2.2).map (fun k => p_val G (p_ty ci k) (I a k) (L a k) (P a k))))] H := by
    intro j x hx
    have hz : j < 1 := (List.getElem?_eq_some_iff.mp hx).1
    rw [show j = 0 by omega] at hx
    cases hx
    exact ⟨c0, hc0, hob.to (fun k hk => by simp [vp_V, hk])⟩
  exact va_get (Ts := p_tbl) B.1 B.2.1 B.2.2.2.2.2.2.2.1 (p_in ci c0 hq) B.2.2.2.2.2.1 B.2.2.2.2.2.2.2.2.1 hP 0 rfl hq k hk (B.2.2.2.2.2.2.2.1 _ hl) (by rw [ho]; exact fun _ h => h) (by simp [hk]) hd kk
theorem p_put {idx ci k a z : Nat} {v : Value} (B : p_B G M p s m args meth c) (hH : p_H G N I L P H) (hS : va_S (p_A G) s.heap H locs) (hf : p_FL M.1.cls idx ci k) (hfn : p_fin ci k = false ∨ (M.1.name = "<init>" ∧ p_nm ci = M.1.cls)) (hn : narrow (p_ty ci k) v = v) (hfit : fits (p_ty ci k) v = true) (hd : decode M.2.1 pc = .ok (.putfield idx, 3)) (ha : a < N.1) (hs : N.2 a = (ci + 3, z))
    (hI : ∀ x, x ≠ a → I' x = I x) (hL : ∀ x, x ≠ a → L' x = L x) (hP : ∀ x, x ≠ a → P' x = P x) (hv : ∀ j, p_val G (p_ty ci j) (I' a j) (L' a j) (P' a j) = if j = k then v else p_val G (p_ty ci j) (I a j) (L a j) (P a j))
    (kk : ∀ (H1 : Heap) (locs1 : List Loc), p_H G N I' L' P' H1 → va_S (p_A G) s.heap H1 locs1 → W p G.1 e R s m args below meth c H1 locs1 cs sl Qw (F0 m (pc + 3) ls rest)) : W p G.1 e R s m args below meth c H locs cs sl Qw (F0 m pc ls (v :: .ref (p_ad G a) :: rest)) := by
  obtain ⟨q, hq, hk, ho, hl⟩ := hf
  obtain ⟨hx, hb, hml, hr, hlk, hown, hnm, hts, hE⟩ := B
  have hc := hH.2.2 a ha
  rw [hs] at hc
  obtain ⟨c0, hc0, cell, q1, q2, q3, q4⟩ := hc
  have e0 : c0 = q := Option.some.inj (hc0.symm.trans hq)
  subst e0
  rw [p_ad_lo (Nat.lt_of_lt_of_le ha hH.2.1)]
  have hap := va_apart (own := M.1.cls) hts (p_in ci c0 hq) (p_ty ci) (p_tyk ci c0 hq) (p_nmk ci c0 hq) hE.1 hq
  obtain ⟨hSl, hfc, kC, hkC, hkind⟩ := hE.1.1 ci _ hq
  obtain ⟨cf, kf, fi, f, hi, hsl⟩ := hSl k hk
  have hty := p_tyk ci c0 hq k hk
  have hst := (u_facts hfc hkC (u_lays hts (p_in ci c0 hq) hk) hi).1
  have hlay := hts _ (p_in ci c0 hq _ (u_in_lay hk))
  have fine : ∀ H' : Heap, H'[g_b G + a]? = some (cell.setSlot (((g_D G).2 ci) k) v) → H'.size = H.size → (∀ x, x ≠ g_b G + a → H'[x]? = H[x]?) → p_H G N I' L' P' H' := by
    intro H' e1 e2 e3
    refine hH.put (a := a) e2 e3 hI hL hP ?_
    rw [hs]
    refine ⟨c0, hc0, t_OB.to (V := updV (fun k => p_val G (p_ty ci k) (I a k) (L a k) (P a k)) k v) ⟨_, e1, q2, q3, t_set q4 hap hk v⟩ (fun j _ => ?_)⟩
    rw [hv j]
    rfl
  have hA : p_A G (g_b G + a) := Nat.le_add_right _ _
  unfold u_lay at hlay
  have hfe : p_fin ci k = (c0.2.1 k).2.2.2 := by simp [p_fin, hq]
  by_cases hft : (c0.2.1 k).2.2.2 = true
  · rw [if_pos hft] at hlay
    have hin2 : M.1.name = "<init>" ∧ p_nm ci = M.1.cls := by
      rcases hfn with h | h
      · rw [hfe, hft] at h; cases h
      · exact h
    have hcn : c0.1 = M.1.cls := by
      have h := hin2.2
      simp only [p_nm, hq] at h
      exact h
    have hcf : m.cls = cf := by
      obtain ⟨_, _, c', _, _, _, -, -, hf', -, -, -, hown2, -⟩ := Cond.laysFinal_spec hlay
      have e1 : c' = cf := by have := hi.symm.trans hf'; simp at this; exact this.1.symm
      rw [ho, hcn] at hown2
      rw [← e1]; exact Option.some.inj (hown.symm.trans hown2)
    have h6 := u_fits hfc hkC hkind (Or.inr hlay) hi hty hn hfit
    refine W.putFinK hx hb hown (hts _ hl) (by rw [ho] at hi; exact hi) hst hcf (hnm.trans hin2.1) (by rw [q2]; exact h6) q1 q3 (by rw [hsl]; exact k2_hasslot (q4 k hk)) rfl rfl hd fun H' e1 e2 e3 => ?_
    rw [hsl] at e1 ⊢
    exact kk H' _ (fine H' e1 e2 e3) (hS.put e2 e3 hA)
  · rw [if_neg hft] at hlay
    have h6 := u_store hfc hkC hkind hlay hi hty hn hfit
    refine W.putK hx hb (f := f) ⟨hown, hts _ hl, ⟨_, _, _, by rw [ho] at hi; exact hi⟩, hst⟩ (by rw [q2]; exact h6) q1 q3 (by rw [hsl]; exact k2_hasslot (q4 k hk)) rfl rfl hd fun H' e1 e2 e3 => ?_
    rw [hsl] at e1 ⊢
    exact kk H' _ (fine H' e1 e2 e3) (hS.put e2 e3 hA)
end HeapW
section Heap
variable {G : pG} {M : pM} {R : Room} {mc ms cs sl : Nat} {Q : pQ} {pc : Nat} {lo lo' : List (Nat × Value)} {st : List Value} {N : pN} {I : pI} {L : pL} {P : pR}
theorem s_getI {idx ci k a z : Nat} (hf : p_FL M.1.cls idx ci k) (hk : p_kd ci k = 0) (hd : decode M.2.1 pc = .ok (.getfield idx, 3)) (ha : a < N.1) (hs : N.2 a = (ci + 3, z)) (kk : SW G M R mc ms cs sl Q (pc + 3) lo (.int (I a k) :: st) N I L P) : SW G M R mc ms cs sl Q pc lo (.ref a :: st) N I L P :=
  fun p e s m args below meth c H locs ls B hH hS hl => p_get B hH hf hd ha hs (by rw [p_val_i hk]; exact kk p e s m args below meth c H locs ls B hH hS hl)
theorem s_getL {idx ci k a z : Nat} (hf : p_FL M.1.cls idx ci k) (hk : p_kd ci k = 1) (hd : decode M.2.1 pc = .ok (.getfield idx, 3)) (ha : a < N.1) (hs : N.2 a = (ci + 3, z)) (kk : SW G M R mc ms cs sl Q (pc + 3) lo (.long (L a k) :: st) N I L P) : SW G M R mc ms cs sl Q pc lo (.ref a :: st) N I L P :=
  fun p e s m args below meth c H locs ls B hH hS hl => p_get B hH hf hd ha hs (by rw [p_val_l hk]; exact kk p e s m args below meth c H locs ls B hH hS hl)
theorem s_getR {idx ci k a z q : Nat} (hf : p_FL M.1.cls idx ci k) (hk : p_kd ci k = 2) (hd : decode M.2.1 pc = .ok (.getfield idx, 3)) (ha : a < N.1) (hs : N.2 a = (ci + 3, z)) (hq : P a k = some q) (kk : SW G M R mc ms cs sl Q (pc + 3) lo (.ref q :: st) N I L P) : SW G M R mc ms cs sl Q pc lo (.ref a :: st) N I L P :=
  fun p e s m args below meth c H locs ls B hH hS hl => p_get B hH hf hd ha hs (by rw [p_val_r hk, hq]; exact kk p e s m args below meth c H locs ls B hH hS hl)
theorem s_getN {idx ci k a z : Nat} (hf : p_FL M.1.cls idx ci k) (hk : p_kd ci k = 2) (hd : decode M.2.1 pc = .ok (.getfield idx, 3)) (ha : a < N.1) (hs : N.2 a = (ci + 3, z)) (hq : P a k = none) (kk : SW G M R mc ms cs sl Q (pc + 3) lo (.null :: st) N I L P) : SW G M R mc ms cs sl Q pc lo (.ref a :: st) N I L P :=
  fun p e s m args below meth c H locs ls B hH hS hl => p_get B hH hf hd ha hs (by rw [p_val_r hk, hq]; exact kk p e s m args below meth c H locs ls B hH hS hl)
theorem s_putI {idx ci k a z : Nat} {x : Int32} (hf : p_FL M.1.cls idx ci k) (hfn : p_fin ci k = false ∨ (M.1.name = "<init>" ∧ p_nm ci = M.1.cls)) (hk : p_ty ci k = .int) (hd : decode M.2.1 pc = .ok (.putfield idx, 3)) (ha : a < N.1) (hs : N.2 a = (ci + 3, z)) (kk : SW G M R mc ms cs sl Q (pc + 3) lo st N (p_u I a k x) L P) : SW G M R mc ms cs sl Q pc lo (.int x :: .ref a :: st) N I L P :=
  fun p e s m args below meth c H locs ls B hH hS hl => p_put (v := .int x) B hH hS hf hfn (by rw [hk]; rfl) (by rw [hk]; rfl) hd ha hs (fun y hy => p_u_ne hy) (fun _ _ => rfl) (fun _ _ => rfl) (fun j => by
    by_cases e : j = k
    · subst e; rw [if_pos rfl, p_u_self, hk]; rfl
    · rw [if_neg e, p_u_nk e]) (fun H1 locs1 hH1 hS1 => kk p e s m args below meth c H1 locs1 ls B hH1 hS1 hl)
theorem s_putZ {idx ci k a z : Nat} {x : Int32} (hf : p_FL M.1.cls idx ci k) (hfn : p_fin ci k = false ∨ (M.1.name = "<init>" ∧ p_nm ci = M.1.cls)) (hk : p_ty ci k = .boolean) (hx : x = 0 ∨ x = 1) (hd : decode M.2.1 pc = .ok (.putfield idx, 3)) (ha : a < N.1) (hs : N.2 a = (ci + 3, z)) (kk : SW G M R mc ms cs sl Q (pc + 3) lo st N (p_u I a k x) L P) : SW G M R mc ms cs sl Q pc lo (.int x :: .ref a :: st) N I L P :=
  fun p e s m args below meth c H locs ls B hH hS hl => p_put (v := .int x) B hH hS hf hfn (by rw [hk]; rcases hx with h | h <;> subst h <;> rfl) (by rw [hk]; rcases hx with h | h <;> subst h <;> rfl) hd ha hs (fun y hy => p_u_ne hy) (fun _ _ => rfl) (fun _ _ => rfl) (fun j => by
    by_cases e : j = k
    · subst e; rw [if_pos rfl, p_u_self, hk]; rfl
    · rw [if_neg e, p_u_nk e]) (fun H1 locs1 hH1 hS1 => kk p e s m args below meth c H1 locs1 ls B hH1 hS1 hl)
theorem s_putL {idx ci k a z : Nat} {x : Int64} (hf : p_FL M.1.cls idx ci k) (hfn : p_fin ci k = false ∨ (M.1.name = "<init>" ∧ p_nm ci = M.1.cls)) (hk : p_ty ci k = .long) (hd : decode M.2.1 pc = .ok (.putfield idx, 3)) (ha : a < N.1) (hs : N.2 a = (ci + 3, z)) (kk : SW G M R mc ms cs sl Q (pc + 3) lo st N I (p_u L a k x) P) : SW G M R mc ms cs sl Q pc lo (.long x :: .ref a :: st) N I L P :=
  fun p e s m args below meth c H locs ls B hH hS hl => p_put (v := .long x) B hH hS hf hfn (by rw [hk]; rfl) (by rw [hk]; rfl) hd ha hs (fun _ _ => rfl) (fun y hy => p_u_ne hy) (fun _ _ => rfl) (fun j => by
    by_cases e : j = k
    · subst e; rw [if_pos rfl, p_u_self, hk]; rfl
    · rw [if_neg e, p_u_nk e]) (fun H1 locs1 hH1 hS1 => kk p e s m args below meth c H1 locs1 ls B hH1 hS1 hl)
theorem p_kd2 {ci k : Nat} (h : p_kd ci k = 2) : (∃ n, p_ty ci k = .object n) ∨ ∃ t, p_ty ci k = .array t := by
  unfold p_kd at h
  cases hty : p_ty ci k <;> rw [hty] at h <;> first | exact Or.inl ⟨_, rfl⟩ | exact Or.inr ⟨_, rfl⟩ | (exfalso; simp at h)
theorem s_putR {idx ci k a z q : Nat} (hf : p_FL M.1.cls idx ci k) (hfn : p_fin ci k = false ∨ (M.1.name = "<init>" ∧ p_nm ci = M.1.cls)) (hk : p_kd ci k = 2) (hd : decode M.2.1 pc = .ok (.putfield idx, 3)) (ha : a < N.1) (hs : N.2 a = (ci + 3, z)) (kk : SW G M R mc ms cs sl Q (pc + 3) lo st N I L (p_u P a k (some q))) : SW G M R mc ms cs sl Q pc lo (.ref q :: .ref a :: st) N I L P :=
  fun p e s m args below meth c H locs ls B hH hS hl => p_put (v := .ref (p_ad G q)) B hH hS hf hfn (by rcases p_kd2 hk with ⟨n, h⟩ | ⟨n, h⟩ <;> rw [h] <;> rfl) (by rcases p_kd2 hk with ⟨n, h⟩ | ⟨n, h⟩ <;> rw [h] <;> rfl) hd ha hs (fun _ _ => rfl) (fun _ _ => rfl) (fun y hy => p_u_ne hy) (fun j => by
    by_cases e : j = k
    · subst e; rw [if_pos rfl, p_u_self, p_val_r hk]; rfl
    · rw [if_neg e, p_u_nk e]) (fun H1 locs1 hH1 hS1 => kk p e s m args below meth c H1 locs1 ls B hH1 hS1 hl)
theorem s_putN {idx ci k a z : Nat} (hf : p_FL M.1.cls idx ci k) (hfn : p_fin ci k = false ∨ (M.1.name = "<init>" ∧ p_nm ci = M.1.cls)) (hk : p_kd ci k = 2) (hd : decode M.2.1 pc = .ok (.putfield idx, 3)) (ha : a < N.1) (hs : N.2 a = (ci + 3, z)) (kk : SW G M R mc ms cs sl Q (pc + 3) lo st N I L (p_u P a k none)) : SW G M R mc ms cs sl Q pc lo (.null :: .ref a :: st) N I L P :=
  fun p e s m args below meth c H locs ls B hH hS hl => p_put (v := .null) B hH hS hf hfn (by rcases p_kd2 hk with ⟨n, h⟩ | ⟨n, h⟩ <;> rw [h] <;> rfl) (by rcases p_kd2 hk with ⟨n, h⟩ | ⟨n, h⟩ <;> rw [h] <;> rfl) hd ha hs (fun _ _ => rfl) (fun _ _ => rfl) (fun y hy => p_u_ne hy) (fun j => by
    by_cases e : j = k
    · subst e; rw [if_pos rfl, p_u_self, p_val_r hk]; rfl
    · rw [if_neg e, p_u_nk e]) (fun H1 locs1 hH1 hS1 => kk p e s m args below meth c H1 locs1 ls B hH1 hS1 hl)
end Heap
