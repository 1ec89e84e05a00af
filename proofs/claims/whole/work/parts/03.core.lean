/-! THE PURE HEAP: cells 0, 1, 2 .. made behind the law's entry; ints, longs and references apart; a shape a cell -/
abbrev pI : Type := Nat → Nat → Int32
abbrev pL : Type := Nat → Nat → Int64
abbrev pR : Type := Nat → Nat → Option Nat
/-- how many cells there are; the shape of each: (0, n) int[n], (1, n) boolean[n], (2, n) State[n], (ci + 3, _) an object of class ci -/
abbrev pN : Type := Nat × (Nat → Nat × Nat)
/-- launch, first own address, array classes, class table, addresses of what is older, the script -/
abbrev pG : Type := Launch × Nat × (Nat → ClassId) × va_G × (Nat → Nat) × Nat × (Nat → Int32)
abbrev pM : Type := MethodName × ByteArray × Nat × Option FieldType
abbrev pQ : Type := Option Value → pN → pI → pL → pR → Prop
def g_b (G : pG) : Nat := G.2.1
def g_K (G : pG) : Nat → ClassId := G.2.2.1
def g_D (G : pG) : va_G := G.2.2.2.1
def g_t (G : pG) : Nat → Nat := G.2.2.2.2.1
def g_n (G : pG) : Nat := G.2.2.2.2.2.1
def g_x (G : pG) : Nat → Int32 := G.2.2.2.2.2.2
def p_cls : List vw_C := [(RX0, TX0, 9), (RX1, TX1, 5), (RX2, TX2, 14), (RX3, TX3, 8), (RX4, TX4, 2), (RX5, TX5, 9), (RX6, TX6, 3), (RX7, TX7, 13), (RX8, TX8, 4), (RX9, TX9, 6), (RX10, TX10, 3), (RX11, TX11, 8), (RX12, TX12, 41)]
def p_ty (ci : Nat) : Nat → FieldType := match ci with
  | 0 => tyX0
  | 1 => tyX1
  | 2 => tyX2
  | 3 => tyX3
  | 4 => tyX4
  | 5 => tyX5
  | 6 => tyX6
  | 7 => tyX7
  | 8 => tyX8
  | 9 => tyX9
  | 10 => tyX10
  | 11 => tyX11
  | _ => tyX12
def p_u {α : Type} (f : Nat → Nat → α) (a k : Nat) (v : α) : Nat → Nat → α := fun x j => if x = a then (if j = k then v else f x j) else f x j
theorem p_u_ne {α : Type} {f : Nat → Nat → α} {a k x : Nat} {v : α} (h : x ≠ a) : p_u f a k v x = f x := by
  funext j
  simp [p_u, h]
theorem p_u_self {α : Type} {f : Nat → Nat → α} {a k : Nat} {v : α} : p_u f a k v a k = v := by simp [p_u]
theorem p_u_nk {α : Type} {f : Nat → Nat → α} {a k j : Nat} {v : α} (h : j ≠ k) : p_u f a k v a j = f a j := by simp [p_u, h]
def p_A (G : pG) : Nat → Prop := fun q => g_b G ≤ q
def p_ad (G : pG) (a : Nat) : Nat := if a < 1000000 then g_b G + a else g_t G (a - 1000000)
theorem p_ad_lo {G : pG} {a : Nat} (h : a < 1000000) : p_ad G a = g_b G + a := by simp [p_ad, h]
def p_v (G : pG) (v : Value) : Value := match v with
  | .ref a => .ref (p_ad G a)
  | w => w
theorem p_v_cat (G : pG) (v : Value) : (p_v G v).category = v.category := by cases v <;> rfl
def p_l (G : pG) (q : Nat × Value) : Nat × Value := (q.1, p_v G q.2)
/-- what a slot of a field's type holds -/
def p_val (G : pG) (ty : FieldType) (i : Int32) (l : Int64) (r : Option Nat) : Value := match ty with
  | .long => .long l
  | .object _ => va_rf (r.map (p_ad G))
  | .array _ => va_rf (r.map (p_ad G))
  | _ => .int i
/-- 0 a number of int's kind, 1 a long, 2 a reference -/
def p_kd (ci k : Nat) : Nat := match p_ty ci k with
  | .long => 1
  | .object _ => 2
  | .array _ => 2
  | _ => 0
theorem p_val_i {G : pG} {ci k : Nat} {i : Int32} {l : Int64} {r : Option Nat} (h : p_kd ci k = 0) : p_val G (p_ty ci k) i l r = .int i := by
  unfold p_kd at h
  unfold p_val
  cases hty : p_ty ci k <;> rw [hty] at h <;> first | rfl | (exfalso; simp at h)
theorem p_val_l {G : pG} {ci k : Nat} {i : Int32} {l : Int64} {r : Option Nat} (h : p_kd ci k = 1) : p_val G (p_ty ci k) i l r = .long l := by
  unfold p_kd at h
  unfold p_val
  cases hty : p_ty ci k <;> rw [hty] at h <;> first | rfl | (exfalso; simp at h)
theorem p_val_r {G : pG} {ci k : Nat} {i : Int32} {l : Int64} {r : Option Nat} (h : p_kd ci k = 2) : p_val G (p_ty ci k) i l r = va_rf (r.map (p_ad G)) := by
  unfold p_kd at h
  unfold p_val
  cases hty : p_ty ci k <;> rw [hty] at h <;> first | rfl | (exfalso; simp at h)
def p_c (G : pG) (S : Nat × Nat) (i : Nat → Int32) (l : Nat → Int64) (r : Nat → Option Nat) (q : Nat) (H : Heap) : Prop := match S.1 with
  | 0 => H[q]? = some (arrV (g_K G 0) S.2 (fun j => .int (i j)))
  | 1 => H[q]? = some (arrV (g_K G 1) S.2 (fun j => .int (i j)))
  | 2 => H[q]? = some (arrV (g_K G 2) S.2 (fun j => va_rf ((r j).map (p_ad G))))
  | ci + 3 => ∃ c : vw_C, p_cls[ci]? = some c ∧ t_OB q ((g_D G).1 ci) c.2.2 ((g_D G).2 ci) H (fun k => p_val G (p_ty ci k) (i k) (l k) (r k))
def p_H (G : pG) (N : pN) (I : pI) (L : pL) (P : pR) (H : Heap) : Prop := H.size = g_b G + N.1 ∧ N.1 ≤ 1000000 ∧ ∀ a, a < N.1 → p_c G (N.2 a) (I a) (L a) (P a) (g_b G + a) H
theorem p_c.kept {G : pG} {S : Nat × Nat} {i : Nat → Int32} {l : Nat → Int64} {r : Nat → Option Nat} {q : Nat} {H H1 : Heap} (h : p_c G S i l r q H) (hq : H1[q]? = H[q]?) : p_c G S i l r q H1 := by
  obtain ⟨k, z⟩ := S
  rcases k with _ | _ | _ | k
  · exact hq.trans h
  · exact hq.trans h
  · exact hq.trans h
  · obtain ⟨c, h1, h2⟩ := h
    exact ⟨c, h1, h2.kept hq⟩
theorem p_H.put {G : pG} {N : pN} {I I' : pI} {L L' : pL} {P P' : pR} {H H1 : Heap} {a : Nat} (h : p_H G N I L P H) (z : H1.size = H.size) (oq : ∀ q, q ≠ g_b G + a → H1[q]? = H[q]?) (hI : ∀ x, x ≠ a → I' x = I x) (hL : ∀ x, x ≠ a → L' x = L x) (hP : ∀ x, x ≠ a → P' x = P x) (hc : p_c G (N.2 a) (I' a) (L' a) (P' a) (g_b G + a) H1) : p_H G N I' L' P' H1 := by
  refine ⟨z.trans h.1, h.2.1, fun x hx => ?_⟩
  by_cases e : x = a
  · subst e
    exact hc
  · rw [hI x e, hL x e, hP x e]
    exact (h.2.2 x hx).kept (oq _ (by omega))
theorem p_H.add {G : pG} {N : pN} {I I' : pI} {L L' : pL} {P P' : pR} {H H1 : Heap} {S : Nat × Nat} (h : p_H G N I L P H) (hn : N.1 < 1000000) (z : H1.size = H.size + 1) (oq : ∀ q, q < H.size → H1[q]? = H[q]?) (hI : ∀ x, x ≠ N.1 → I' x = I x) (hL : ∀ x, x ≠ N.1 → L' x = L x) (hP : ∀ x, x ≠ N.1 → P' x = P x) (hc : p_c G S (I' N.1) (L' N.1) (P' N.1) (g_b G + N.1) H1) : p_H G (N.1 + 1, fun x => if x = N.1 then S else N.2 x) I' L' P' H1 := by
  refine ⟨by rw [z, h.1]; rfl, hn, fun x hx => ?_⟩
  by_cases e : x = N.1
  · subst e
    simpa using hc
  · have hx' : x < N.1 := by
      have : x < N.1 + 1 := hx
      omega
    rw [hI x e, hL x e, hP x e]
    simp only [if_neg e]
    exact (h.2.2 x hx').kept (oq _ (by rw [h.1]; omega))
/-- the static rows of numbers, as the Statement gives them -/
def p_st : List (String × String × List Int32) := [("StreetWaves", "SETTING_FIRST", [1, 0, 1, 100, 10, 10, 1]), ("StreetWaves", "SETTING_LOW", [0, 0, 0, 0, 1, 0, 1]), ("StreetWaves", "SETTING_HIGH", [2, 100, 9999, 9999, 9999, 999, 9]), ("StreetWaves$TownText", "LOW", [0, 0, 0, 0, 0, 0, 0, 0, 1, 0, 0, 0, 0, 0, 0, 0, 0, 1, 1, 0]), ("StreetWaves$TownText", "HIGH", [20, 20, 20, 20, 4, 20, 20, 5, 9999, 0, 20, 20, 0, 0, 0, 20, 20, 9999, 999, 0])]
/-- the texts: whose constant, its place, the text -/
def p_str : List (String × Nat × String) := [("StreetWaves$TownText", 75, "wall"), ("StreetWaves$TownText", 81, "sender"), ("StreetWaves$TownText", 83, "need"), ("StreetWaves$TownText", 85, "site"), ("StreetWaves$LawText", 71, "if"), ("StreetWaves$LawText", 101, "not"), ("StreetWaves$LawText", 119, "alone"), ("StreetWaves$LawText", 121, "colour"), ("StreetWaves$LawText", 123, "power"), ("StreetWaves$LawText", 125, "x"), ("StreetWaves$LawText", 127, "y"), ("StreetWaves$LawText", 129, "hour"), ("StreetWaves$LawText", 131, "heard"), ("StreetWaves$LawText", 84, "and"), ("StreetWaves$LawText", 93, "bar"), ("StreetWaves$LawText", 99, "may")]
def p_byt : List (List Int32) := p_str.map (fun q => q.2.2.toList.map (fun ch => Int32.ofNat ch.toNat))
def p_len : List Nat := p_byt.map List.length
/-- the words that last -/
def p_tbl : List Cond := lw_tbl.filter goodWord
theorem p_mem {w : Cond} (h : w ∈ lw_tbl) (g : goodWord w = true) : w ∈ p_tbl := List.mem_filter.mpr ⟨h, g⟩
/-- calls of nest mates' private members -/
def p_nst : List (String × Nat × MethodName) := [(RX2, 11, yX6_init), (RX11, 54, yX10_init), (RX11, 61, yX4_init), (RX3, 45, yX11_isPoint)]
def p_E (G : pG) (s : State) : Prop :=
  va_K (g_D G) p_cls [(g_K G 0, .int), (g_K G 1, .boolean), (g_K G 2, .object RX7)] s ∧ g_b G ≤ s.heap.size ∧
  (∀ (j : Nat) (q : String × String × List Int32), p_st[j]? = some q → va_Z q.1 q.2.1 "[I" (.ref (g_t G j)) (p_A G) s s.heap ∧ va_T .int (g_t G j) q.2.2.length (fun i => .int (q.2.2.getD i 0)) (p_A G) s s.heap) ∧
  va_T .int (g_t G 50) (g_n G) (fun i => .int (g_x G i)) (p_A G) s s.heap ∧ g_n G < 2 ^ 31 ∧
  (va_Z "java/lang/String" "COMPACT_STRINGS" "Z" (.int 1) (p_A G) s s.heap ∧ (va_Z "jdk/internal/util/Preconditions" "SIOOBE_FORMATTER" "Ljava/util/function/BiFunction;" .null (p_A G) s s.heap ∨ va_Z "jdk/internal/util/Preconditions" "SIOOBE_FORMATTER" "Ljava/util/function/BiFunction;" (.ref (g_t G 60)) (p_A G) s s.heap)) ∧
  (∀ (j : Nat) (q : String × Nat × String), p_str[j]? = some q → vk_R q.1 q.2.1 q.2.2 (g_t G (100 + j)) s) ∧
  vk_S 16 p_len p_byt (fun j => g_t G (100 + j)) (fun j => g_t G (200 + j)) (p_A G) s s.heap ∧
  (∀ q ∈ p_nst, va_Nw (.methodLinkNest q.1 q.2.1 q.2.2 "StreetWaves") s) ∧ va_Nw (.fieldLinkNest "StreetWaves$State" 35 "StreetWaves" "SETTING_FIRST" "[I" "StreetWaves") s ∧ va_AO RX7 s
theorem p_E.to {G : pG} {s U : State} (h : p_E G s) (hW : s.WarmedH U.vm) (hz : g_b G ≤ U.heap.size) (hq : ∀ q, q < g_b G → U.heap[q]? = s.heap[q]?) : p_E G U := by
  obtain ⟨h1, h2, h3, h4, h5, h6, h7, h8, h9, h10, h11⟩ := h
  have hq' : ∀ a : Nat, a < s.heap.size → ¬ p_A G a → U.heap[a]? = s.heap[a]? := fun a _ h => hq a (Nat.lt_of_not_le h)
  exact ⟨h1.moved hW.alike, hz, fun j q e => ⟨((h3 j q e).1.moved hW.alike).kept hq', ((h3 j q e).2.moved hW.alike).kept hq'⟩, (h4.moved hW.alike).kept hq', h5, ⟨(h6.1.moved hW.alike).kept hq', h6.2.imp (fun h => (h.moved hW.alike).kept hq') (fun h => (h.moved hW.alike).kept hq')⟩, fun j q e => (h7 j q e).warm hW, (h8.moved hW.alike).kept hq', fun q hq => (h9 q hq).warmM hW, h10.warmF hW, h11.moved hW.alike⟩
/-- a method's end: its answer, the pure heap behind it; nothing older has changed -/
def p_Qc (G : pG) (Q : pQ) : Array Value → State → Outcome → State → Prop := fun _ st o t => (∃ (r : Option Value) (N : pN) (I : pI) (L : pL) (P : pR), o = .returned (r.map (p_v G)) ∧ Q r N I L P ∧ p_H G N I L P t.heap) ∧ ∀ q, q < g_b G → t.heap[q]? = st.heap[q]?
def p_B (G : pG) (M : pM) (p : Program) (s : State) (m : MethodId) (args : Array Value) (meth : Method) (c : Code) : Prop :=
  p.tables.exec = Jvm.exec ∧ c.code = M.2.1 ∧ c.maxLocals = M.2.2.1 ∧ meth.sig.returnType = M.2.2.2 ∧ meth.locks = false ∧ s.vm.findClass M.1.cls = some m.cls ∧ meth.name = M.1.name ∧ (∀ w ∈ p_tbl, w.before args s = true) ∧ p_E G s
/-- from here the method comes to its end, with Q -/
def SW (G : pG) (M : pM) (R : Room) (mc ms cells slots : Nat) (Q : pQ) (pc : Nat) (lo : List (Nat × Value)) (st : List Value) (N : pN) (I : pI) (L : pL) (P : pR) : Prop :=
  ∀ (p : Program) (e : Env) (s : State) (m : MethodId) (args : Array Value) (below : List Frame) (meth : Method) (c : Code) (H : Heap) (locs : List Loc) (ls : Array Slot),
    p_B G M p s m args meth c → p_H G N I L P H → va_S (p_A G) s.heap H locs → lv_has ls M.2.2.1 (lo.map (p_l G)) →
    W p G.1 e R s m args below meth c H locs cells slots (MQ below (p_Qc G Q) args s mc ms (p_A G)) (F0 m pc ls (st.map (p_v G)))
/-- locals: a value of one word, of two words is put -/
def p_s1 (i : Nat) (v : Value) (lo : List (Nat × Value)) : List (Nat × Value) := (i, v) :: lo.filter (fun q => !(q.1 == i) && !(q.1 + 1 == i && q.2.category == 2))
def p_s2 (i : Nat) (v : Value) (lo : List (Nat × Value)) : List (Nat × Value) := (i, v) :: lo.filter (fun q => !(q.1 == i) && (!(q.1 == i + 1) && !(q.1 + 1 == i && q.2.category == 2)))
theorem p_s1_map (G : pG) (i : Nat) (v : Value) (lo : List (Nat × Value)) : (i, p_v G v) :: (lo.map (p_l G)).filter (fun q => !(q.1 == i) && !(q.1 + 1 == i && q.2.category == 2)) = (p_s1 i v lo).map (p_l G) := by
  unfold p_s1
  rw [List.map_cons, List.filter_map]
  congr 3
  funext q
  simp [Function.comp, p_l, p_v_cat]
theorem p_s2_map (G : pG) (i : Nat) (v : Value) (lo : List (Nat × Value)) : (i, p_v G v) :: (lo.map (p_l G)).filter (fun q => !(q.1 == i) && (!(q.1 == i + 1) && !(q.1 + 1 == i && q.2.category == 2))) = (p_s2 i v lo).map (p_l G) := by
  unfold p_s2
  rw [List.map_cons, List.filter_map]
  congr 3
  funext q
  simp [Function.comp, p_l, p_v_cat]
theorem p_at {G : pG} {ls : Array Slot} {nL : Nat} {lo : List (Nat × Value)} (h : lv_has ls nL (lo.map (p_l G))) (k : Nat) {i : Nat} {v : Value} (hk : lo[k]? = some (i, v)) : ls[i]? = some (.val (p_v G v)) := by
  refine lv_at h k (i := i) ?_
  rw [List.getElem?_map, hk]
  rfl
