def R_law : String := "StreetWavesLaw"
def lw_P (b : Addr) (xs : List Int32) (args : Array Value) (s : State) : Prop := args = #[.ref b] ∧ s.IntsAt b xs ∧ xs.length ≤ 3584 ∧ (Jvm.Cond.and given_1 narrow_1).before args s = true
def lw_Q (_ : Array Value) (s : State) (o : Outcome) (t : State) : Prop := o = .returned (some (.int 1)) ∧ Framed s o t [] 600000 7302250
def lw_Z (below : List Frame) (a : Array Value) (s : State) : State → Prop := fun t => ∃ o, t.status = .running ∧ Ended t below o ∧ lw_Q a s o t
/-- the law's own end, with 1 on the stack, nothing written that was there before, its room as the claim has it -/
theorem lw_ret {p : Program} {l : Launch} {e : Env} {s : State} {m : MethodId} {below : List Frame} {meth : Method} {c : Code} {b : Nat} (hx : p.tables.exec = Jvm.exec) (hb : c.code = code) (hr : meth.sig.returnType = ret) (hlocks : meth.locks = false) {pc : Nat} {H : Heap} {ls : Array Slot} (hdg : decode code pc = .ok (.ireturn, 1)) : W p l e room_1 s m #[Value.ref b] below meth c H [] 600000 7302250 (lw_Z below #[Value.ref b] s) (F0 m pc ls [.int 1]) := by
  intro T hT X
  obtain ⟨fs, hret, hrun, hended, hW, hframe⟩ := X.leave (v := some (.int 1)) (hlocks := hlocks) (fun h => by rw [hr] at h; cases h)
  have hmeth' : T.vm.method? m = some meth := X.method'
  refine ⟨T.setFrames fs, ?_, .returned (some (.int 1)), hrun, hended, rfl, ⟨_, rfl⟩, hW, hframe⟩
  jvm_step X.here [X.here.top, hx, hb, hdg, hmeth', hr, ret, narrow_b1]
  (try refine ⟨rfl, ?_⟩); (try refine ⟨rfl, ?_⟩)
  first | (intro acts; rw [hret _ acts rfl rfl rfl]) | rw [hret _ _ rfl rfl rfl]
  exact Steps.refl _
/-- what holds at the law's entry: the machine, the code, the tables' words (any of lw_tbl by 'hts w (by decide +kernel)'), the script of L ints xs at the cell b, what the Statement gives of the start (any of its parts by flat_of_before) -/
def lw_At (p : Program) (s : State) (m : MethodId) (meth : Method) (c : Code) (b L : Nat) (xs : Nat → Int32) : Prop :=
  p.tables.exec = Jvm.exec ∧ c.code = code ∧ meth.sig.returnType = ret ∧ c.maxLocals = 4 ∧ s.vm.findClass R_law = some m.cls ∧ (∀ w ∈ lw_tbl, w.before #[Value.ref b] s = true) ∧ va_X b L xs s s.heap ∧ b < s.heap.size ∧ meth.locks = false ∧ (Jvm.Cond.and given_1 narrow_1).before #[Value.ref b] s = true
theorem st_cls {s : State} {args : Array Value} (hts : ∀ w ∈ lw_tbl, w.before args s = true) : ∃ D : va_G, ∀ (c : Nat) (q : vw_C), p_cls[c]? = some q → u_Kn s q.1 q.2.1 q.2.2 (D.1 c) (D.2 c) := by
  have h1 : ∀ c : Nat, ∃ cd : ClassId × (Nat → Nat), ∀ q : vw_C, p_cls[c]? = some q → u_Kn s q.1 q.2.1 q.2.2 cd.1 cd.2 := by
    intro c
    cases hq : p_cls[c]? with
    | none => exact ⟨((0 : Nat), fun _ => 0), fun q hq2 => by cases hq2⟩
    | some q1 =>
      obtain ⟨c1, i1, h2⟩ := u_known (C := q1.1) (T := q1.2.1) (N := q1.2.2) (n := q1.2.2) hts (p_in0 c q1 hq) (hts _ (p_instk0 c q1 hq).1)
      exact ⟨(c1, i1), fun q hq2 => by cases hq2; exact h2⟩
  exact ⟨(fun c => (Classical.choose (h1 c)).1, fun c => (Classical.choose (h1 c)).2), fun c q hq => Classical.choose_spec (h1 c) q hq⟩
theorem st_arr {s : State} {args : Array Value} (hts : ∀ w ∈ lw_tbl, w.before args s = true) : ∃ K : Nat → ClassId, ∀ (k : Nat) (q : ClassId × FieldType), ([(K 0, .int), (K 1, .boolean), (K 2, .object RX7)] : List (ClassId × FieldType))[k]? = some q → ArrOfT s q.1 q.2 ∧ va_RA s q.1 q.2 := by
  obtain ⟨c0, k0, m0, a1, a2, a3⟩ := Cond.arrayClass_spec (hts (.arrayClass .int) (by decide +kernel))
  obtain ⟨c1, k1, m1, b1, b2, b3⟩ := Cond.arrayClass_spec (hts (.arrayClass .boolean) (by decide +kernel))
  obtain ⟨m2, c2, k2, d1, d2, d3, d4, d5⟩ := Cond.arrayOver_spec (hts (.arrayOver (.object RX7)) (by decide +kernel))
  refine ⟨fun k => if k = 0 then c0 else if k = 1 then c1 else c2, ?_⟩
  intro k q hq
  match k, hq with
  | 0, hq => cases hq; exact ⟨fun n z => ⟨fun k h => (by cases h), k0, a2, m0, a3⟩, a1⟩
  | 1, hq => cases hq; exact ⟨fun n z => ⟨fun k h => (by cases h), k1, b2, m1, b3⟩, b1⟩
  | 2, hq => cases hq; exact ⟨fun n z => ⟨fun k h => (by cases h), k2, d3, m2, d4⟩, ⟨k2, m2, d3, d4, d1, d5⟩⟩
  | k + 3, hq => simp at hq
theorem st_row {s : State} {args : Array Value} (hs : ∀ w ∈ flatC (Jvm.Cond.and given_1 narrow_1), w.before args s = true) {C nm : String} {row : List Int32} (hz : row.length < 2 ^ 31) (h1 : Cond.arrayOf (.static C nm "[I") .int ∈ flatC (Jvm.Cond.and given_1 narrow_1)) (h2 : Cond.eq (.length (.static C nm "[I")) (.int (Int32.ofNat row.length)) ∈ flatC (Jvm.Cond.and given_1 narrow_1)) (h3 : ∀ j, j < row.length → Cond.eq (.elem (.static C nm "[I") (.int (Int32.ofNat j))) (.int (row.getD j 0)) ∈ flatC (Jvm.Cond.and given_1 narrow_1)) (hl : (Cond.laysStatic C nm "[I").before args s = true) (hini : (Cond.initialized C).before args s = true) {A : Nat → Prop} (hA : ∀ a : Nat, a < s.heap.size → ¬ A a) : ∃ t : Nat, va_Z C nm "[I" (.ref t) A s s.heap ∧ va_T .int t row.length (fun i => .int (row.getD i 0)) A s s.heap := by
  obtain ⟨t, ht, hT⟩ := va_Tof (N := row.length) (f := fun i => .int (row.getD i 0)) hz (hs _ h1) (va_eqt (hs _ h2)) (fun j hj => va_eqt (hs _ (h3 j hj))) hA
  exact ⟨t, va_Zref hl hini ht hA, hT⟩
def st_tm (j : Nat) : Term := match p_str[j]? with
  | some q => .string q.1 q.2.1
  | none => .int 0
theorem st_m1 : ∀ zi, zi < 16 → Cond.exactly (st_tm zi) "java/lang/String" ∈ flatC (Jvm.Cond.and given_1 narrow_1) := by decide +kernel
theorem st_m2 : ∀ zi, zi < 16 → Cond.eq (.field (st_tm zi) "java/lang/String" "coder" "B") (.int 0) ∈ flatC (Jvm.Cond.and given_1 narrow_1) := by decide +kernel
theorem st_m3 : ∀ zi, zi < 16 → Cond.arrayOf (.field (st_tm zi) "java/lang/String" "value" "[B") .byte ∈ flatC (Jvm.Cond.and given_1 narrow_1) := by decide +kernel
theorem st_m4 : ∀ zi, zi < 16 → Cond.eq (.length (.field (st_tm zi) "java/lang/String" "value" "[B")) (.int (Int32.ofNat (p_len.getD zi 0))) ∈ flatC (Jvm.Cond.and given_1 narrow_1) := by decide +kernel
theorem st_m5 : ∀ zi, zi < 16 → ∀ zj, zj < 7 → zj < p_len.getD zi 0 → Cond.eq (.elem (.field (st_tm zi) "java/lang/String" "value" "[B") (.int (Int32.ofNat zj))) (.int ((p_byt.getD zi []).getD zj 0)) ∈ flatC (Jvm.Cond.and given_1 narrow_1) := by decide +kernel
theorem st_m6_0 : ∀ zj, zj < 16 → 0 ≠ zj → Cond.not (Cond.eq (st_tm 0) (st_tm zj)) ∈ flatC (Jvm.Cond.and given_1 narrow_1) ∨ Cond.not (Cond.eq (st_tm zj) (st_tm 0)) ∈ flatC (Jvm.Cond.and given_1 narrow_1) := by decide +kernel
theorem st_m6_1 : ∀ zj, zj < 16 → 1 ≠ zj → Cond.not (Cond.eq (st_tm 1) (st_tm zj)) ∈ flatC (Jvm.Cond.and given_1 narrow_1) ∨ Cond.not (Cond.eq (st_tm zj) (st_tm 1)) ∈ flatC (Jvm.Cond.and given_1 narrow_1) := by decide +kernel
theorem st_m6_2 : ∀ zj, zj < 16 → 2 ≠ zj → Cond.not (Cond.eq (st_tm 2) (st_tm zj)) ∈ flatC (Jvm.Cond.and given_1 narrow_1) ∨ Cond.not (Cond.eq (st_tm zj) (st_tm 2)) ∈ flatC (Jvm.Cond.and given_1 narrow_1) := by decide +kernel
theorem st_m6_3 : ∀ zj, zj < 16 → 3 ≠ zj → Cond.not (Cond.eq (st_tm 3) (st_tm zj)) ∈ flatC (Jvm.Cond.and given_1 narrow_1) ∨ Cond.not (Cond.eq (st_tm zj) (st_tm 3)) ∈ flatC (Jvm.Cond.and given_1 narrow_1) := by decide +kernel
theorem st_m6_4 : ∀ zj, zj < 16 → 4 ≠ zj → Cond.not (Cond.eq (st_tm 4) (st_tm zj)) ∈ flatC (Jvm.Cond.and given_1 narrow_1) ∨ Cond.not (Cond.eq (st_tm zj) (st_tm 4)) ∈ flatC (Jvm.Cond.and given_1 narrow_1) := by decide +kernel
theorem st_m6_5 : ∀ zj, zj < 16 → 5 ≠ zj → Cond.not (Cond.eq (st_tm 5) (st_tm zj)) ∈ flatC (Jvm.Cond.and given_1 narrow_1) ∨ Cond.not (Cond.eq (st_tm zj) (st_tm 5)) ∈ flatC (Jvm.Cond.and given_1 narrow_1) := by decide +kernel
theorem st_m6_6 : ∀ zj, zj < 16 → 6 ≠ zj → Cond.not (Cond.eq (st_tm 6) (st_tm zj)) ∈ flatC (Jvm.Cond.and given_1 narrow_1) ∨ Cond.not (Cond.eq (st_tm zj) (st_tm 6)) ∈ flatC (Jvm.Cond.and given_1 narrow_1) := by decide +kernel
theorem st_m6_7 : ∀ zj, zj < 16 → 7 ≠ zj → Cond.not (Cond.eq (st_tm 7) (st_tm zj)) ∈ flatC (Jvm.Cond.and given_1 narrow_1) ∨ Cond.not (Cond.eq (st_tm zj) (st_tm 7)) ∈ flatC (Jvm.Cond.and given_1 narrow_1) := by decide +kernel
theorem st_m6_8 : ∀ zj, zj < 16 → 8 ≠ zj → Cond.not (Cond.eq (st_tm 8) (st_tm zj)) ∈ flatC (Jvm.Cond.and given_1 narrow_1) ∨ Cond.not (Cond.eq (st_tm zj) (st_tm 8)) ∈ flatC (Jvm.Cond.and given_1 narrow_1) := by decide +kernel
theorem st_m6_9 : ∀ zj, zj < 16 → 9 ≠ zj → Cond.not (Cond.eq (st_tm 9) (st_tm zj)) ∈ flatC (Jvm.Cond.and given_1 narrow_1) ∨ Cond.not (Cond.eq (st_tm zj) (st_tm 9)) ∈ flatC (Jvm.Cond.and given_1 narrow_1) := by decide +kernel
theorem st_m6_10 : ∀ zj, zj < 16 → 10 ≠ zj → Cond.not (Cond.eq (st_tm 10) (st_tm zj)) ∈ flatC (Jvm.Cond.and given_1 narrow_1) ∨ Cond.not (Cond.eq (st_tm zj) (st_tm 10)) ∈ flatC (Jvm.Cond.and given_1 narrow_1) := by decide +kernel
theorem st_m6_11 : ∀ zj, zj < 16 → 11 ≠ zj → Cond.not (Cond.eq (st_tm 11) (st_tm zj)) ∈ flatC (Jvm.Cond.and given_1 narrow_1) ∨ Cond.not (Cond.eq (st_tm zj) (st_tm 11)) ∈ flatC (Jvm.Cond.and given_1 narrow_1) := by decide +kernel
theorem st_m6_12 : ∀ zj, zj < 16 → 12 ≠ zj → Cond.not (Cond.eq (st_tm 12) (st_tm zj)) ∈ flatC (Jvm.Cond.and given_1 narrow_1) ∨ Cond.not (Cond.eq (st_tm zj) (st_tm 12)) ∈ flatC (Jvm.Cond.and given_1 narrow_1) := by decide +kernel
theorem st_m6_13 : ∀ zj, zj < 16 → 13 ≠ zj → Cond.not (Cond.eq (st_tm 13) (st_tm zj)) ∈ flatC (Jvm.Cond.and given_1 narrow_1) ∨ Cond.not (Cond.eq (st_tm zj) (st_tm 13)) ∈ flatC (Jvm.Cond.and given_1 narrow_1) := by decide +kernel
theorem st_m6_14 : ∀ zj, zj < 16 → 14 ≠ zj → Cond.not (Cond.eq (st_tm 14) (st_tm zj)) ∈ flatC (Jvm.Cond.and given_1 narrow_1) ∨ Cond.not (Cond.eq (st_tm zj) (st_tm 14)) ∈ flatC (Jvm.Cond.and given_1 narrow_1) := by decide +kernel
theorem st_m6_15 : ∀ zj, zj < 16 → 15 ≠ zj → Cond.not (Cond.eq (st_tm 15) (st_tm zj)) ∈ flatC (Jvm.Cond.and given_1 narrow_1) ∨ Cond.not (Cond.eq (st_tm zj) (st_tm 15)) ∈ flatC (Jvm.Cond.and given_1 narrow_1) := by decide +kernel
theorem st_m6 : ∀ zi, zi < 16 → ∀ zj, zj < 16 → zi ≠ zj → Cond.not (Cond.eq (st_tm zi) (st_tm zj)) ∈ flatC (Jvm.Cond.and given_1 narrow_1) ∨ Cond.not (Cond.eq (st_tm zj) (st_tm zi)) ∈ flatC (Jvm.Cond.and given_1 narrow_1) := by
  intro zi hi
  rcases (show zi = 0 ∨ zi = 1 ∨ zi = 2 ∨ zi = 3 ∨ zi = 4 ∨ zi = 5 ∨ zi = 6 ∨ zi = 7 ∨ zi = 8 ∨ zi = 9 ∨ zi = 10 ∨ zi = 11 ∨ zi = 12 ∨ zi = 13 ∨ zi = 14 ∨ zi = 15 by omega) with rfl | rfl | rfl | rfl | rfl | rfl | rfl | rfl | rfl | rfl | rfl | rfl | rfl | rfl | rfl | rfl
  · exact st_m6_0
  · exact st_m6_1
  · exact st_m6_2
  · exact st_m6_3
  · exact st_m6_4
  · exact st_m6_5
  · exact st_m6_6
  · exact st_m6_7
  · exact st_m6_8
  · exact st_m6_9
  · exact st_m6_10
  · exact st_m6_11
  · exact st_m6_12
  · exact st_m6_13
  · exact st_m6_14
  · exact st_m6_15
theorem st_m7 : ∀ zi, zi < 16 → ∃ q, p_str[zi]? = some q ∧ st_tm zi = .string q.1 q.2.1 ∧ Cond.stringRef q.1 q.2.1 q.2.2 ∈ lw_tbl := by
  have hm : ∀ q ∈ p_str, Cond.stringRef q.1 q.2.1 q.2.2 ∈ lw_tbl := by decide +kernel
  intro zi hz1
  have hl1 : zi < p_str.length := hz1
  refine ⟨p_str[zi], List.getElem?_eq_getElem hl1, ?_, hm _ (List.getElem_mem hl1)⟩
  unfold st_tm
  rw [List.getElem?_eq_getElem hl1]
theorem st_E {p : Program} {s : State} {m : MethodId} {meth : Method} {c : Code} (l : Launch) {b L : Nat} {xs : Nat → Int32} (hL : L ≤ 3584) (C0 : lw_At p s m meth c b L xs) : ∃ G : pG, G.1 = l ∧ g_b G = s.heap.size ∧ g_n G = L ∧ g_t G 50 = b ∧ p_E G s := by
  obtain ⟨hx, hb, hr, hml, hown, hts, hX, hbl, hlocks, hgv⟩ := C0
  have hs := flat_of_before _ hgv
  have hA : ∀ a : Nat, a < s.heap.size → ¬ (fun q : Nat => s.heap.size ≤ q) a := fun a h1 h2 => absurd h1 (Nat.not_lt.mpr h2)
  obtain ⟨zD, hD1⟩ := st_cls hts
  obtain ⟨zK, hK1⟩ := st_arr hts
  obtain ⟨t0, z0, v0⟩ := st_row (C := "StreetWaves") (nm := "SETTING_FIRST") (row := [1, 0, 1, 100, 10, 10, 1]) hs (by decide) (by decide +kernel) (by decide +kernel) (by decide +kernel) (hts _ (by decide +kernel)) (hts _ (by decide +kernel)) hA
  obtain ⟨t1, z1, v1⟩ := st_row (C := "StreetWaves") (nm := "SETTING_LOW") (row := [0, 0, 0, 0, 1, 0, 1]) hs (by decide) (by decide +kernel) (by decide +kernel) (by decide +kernel) (hts _ (by decide +kernel)) (hts _ (by decide +kernel)) hA
  obtain ⟨t2, z2, v2⟩ := st_row (C := "StreetWaves") (nm := "SETTING_HIGH") (row := [2, 100, 9999, 9999, 9999, 999, 9]) hs (by decide) (by decide +kernel) (by decide +kernel) (by decide +kernel) (hts _ (by decide +kernel)) (hts _ (by decide +kernel)) hA
  obtain ⟨t3, z3, v3⟩ := st_row (C := "StreetWaves$TownText") (nm := "LOW") (row := [0, 0, 0, 0, 0, 0, 0, 0, 1, 0, 0, 0, 0, 0, 0, 0, 0, 1, 1, 0]) hs (by decide) (by decide +kernel) (by decide +kernel) (by decide +kernel) (hts _ (by decide +kernel)) (hts _ (by decide +kernel)) hA
  obtain ⟨t4, z4, v4⟩ := st_row (C := "StreetWaves$TownText") (nm := "HIGH") (row := [20, 20, 20, 20, 4, 20, 20, 5, 9999, 0, 20, 20, 0, 0, 0, 20, 20, 9999, 999, 0]) hs (by decide) (by decide +kernel) (by decide +kernel) (by decide +kernel) (hts _ (by decide +kernel)) (hts _ (by decide +kernel)) hA
  have hlt7 : ∀ zi, zi < 16 → p_len.getD zi 0 < 7 := p_len7
  obtain ⟨adK, adV, hS16, hev⟩ := vk_Sof (args := #[Value.ref b]) (s := s) (N := 16) (tm := st_tm) (len := p_len) (byt := p_byt) (fun zi hi => Nat.lt_trans (hlt7 zi hi) (by decide)) (fun zi hi => hs _ (st_m1 zi hi)) (fun zi hi => hs _ (st_m2 zi hi)) (fun zi hi => hs _ (st_m3 zi hi)) (fun zi hi => hs _ (st_m4 zi hi)) (fun zi hi zj hj => hs _ (st_m5 zi hi zj (Nat.lt_trans hj (hlt7 zi hi)) hj)) (fun zi zj hi hj hne => (st_m6 zi hi zj hj hne).imp (fun h => hs _ h) (fun h => hs _ h)) hA
  have hco := va_Zof (C := "java/lang/String") (n := "COMPACT_STRINGS") (d := "Z") (v := .int 1) (hts _ (by decide +kernel)) (hts _ (by decide +kernel)) (va_eqt (hs (.eq (.static "java/lang/String" "COMPACT_STRINGS" "Z") (.int 1)) (by decide +kernel))) hA
  have hfo := va_Zqof (C := "jdk/internal/util/Preconditions") (n := "SIOOBE_FORMATTER") (d := "Ljava/util/function/BiFunction;") (hts _ (by decide +kernel)) (hts _ (by decide +kernel)) (hs (.isRef (.static "jdk/internal/util/Preconditions" "SIOOBE_FORMATTER" "Ljava/util/function/BiFunction;")) (by decide +kernel)) hA
  obtain ⟨tf, htf⟩ : ∃ tf : Nat, va_Z "jdk/internal/util/Preconditions" "SIOOBE_FORMATTER" "Ljava/util/function/BiFunction;" .null (fun q : Nat => s.heap.size ≤ q) s s.heap ∨ va_Z "jdk/internal/util/Preconditions" "SIOOBE_FORMATTER" "Ljava/util/function/BiFunction;" (.ref tf) (fun q : Nat => s.heap.size ≤ q) s s.heap := by
    rcases hfo with hz1 | ⟨tz, hz1⟩
    · exact ⟨0, Or.inl hz1⟩
    · exact ⟨tz, Or.inr hz1⟩
  have hT50 : va_T .int b L (fun i => .int (xs i)) (fun q : Nat => s.heap.size ≤ q) s s.heap := by
    obtain ⟨scr, x1, x2, x3, x4, x5⟩ := hX
    exact ⟨scr, x1, x2, x3, by omega, by rw [x4], x5, Nat.not_le.mpr hbl⟩
  refine ⟨(l, s.heap.size, zK, zD, fun j => if j < 50 then (if j = 0 then t0 else if j = 1 then t1 else if j = 2 then t2 else if j = 3 then t3 else t4) else if j = 50 then b else if j = 60 then tf else if j < 200 then adK (j - 100) else adV (j - 200), L, xs), rfl, rfl, rfl, rfl, ?_⟩
  generalize hG : ((l, s.heap.size, zK, zD, fun j => if j < 50 then (if j = 0 then t0 else if j = 1 then t1 else if j = 2 then t2 else if j = 3 then t3 else t4) else if j = 50 then b else if j = 60 then tf else if j < 200 then adK (j - 100) else adV (j - 200), L, xs) : pG) = zG
  have eA : p_A zG = fun q : Nat => s.heap.size ≤ q := by rw [← hG]; rfl
  have eK : ∀ zj, zj < 16 → g_t zG (100 + zj) = adK zj := by
    intro zj hj
    rw [← hG]
    show (if 100 + zj < 50 then _ else if 100 + zj = 50 then _ else if 100 + zj = 60 then _ else if 100 + zj < 200 then adK (100 + zj - 100) else _) = _
    rw [if_neg (by omega), if_neg (by omega), if_neg (by omega), if_pos (by omega), Nat.add_sub_cancel_left]
  have eV : ∀ zj, zj < 16 → g_t zG (200 + zj) = adV zj := by
    intro zj hj
    rw [← hG]
    show (if 200 + zj < 50 then _ else if 200 + zj = 50 then _ else if 200 + zj = 60 then _ else if 200 + zj < 200 then _ else adV (200 + zj - 200)) = _
    rw [if_neg (by omega), if_neg (by omega), if_neg (by omega), if_neg (by omega), Nat.add_sub_cancel_left]
  have e0 : g_t zG 0 = t0 := by rw [← hG]; rfl
  have e1 : g_t zG 1 = t1 := by rw [← hG]; rfl
  have e2 : g_t zG 2 = t2 := by rw [← hG]; rfl
  have e3 : g_t zG 3 = t3 := by rw [← hG]; rfl
  have e4 : g_t zG 4 = t4 := by rw [← hG]; rfl
  have e50 : g_t zG 50 = b := by rw [← hG]; rfl
  have e60 : g_t zG 60 = tf := by rw [← hG]; rfl
  have eD : g_D zG = zD := by rw [← hG]; rfl
  have eKK : g_K zG = zK := by rw [← hG]; rfl
  have en : g_n zG = L := by rw [← hG]; rfl
  have ex : g_x zG = xs := by rw [← hG]; rfl
  have eb : g_b zG = s.heap.size := by rw [← hG]; rfl
  unfold p_E
  rw [eA, eD, eKK, en, ex, eb, e50, e60]
  refine ⟨⟨hD1, hK1⟩, Nat.le_refl _, ?_, hT50, by omega, ⟨hco, htf⟩, ?_, ⟨fun zi hi => ?_, fun zi zj hi hj he => hS16.2 zi zj hi hj ?_⟩, ?_, ?_, ?_⟩
  · intro zj zq hq
    match zj, hq with
    | 0, hq => cases hq; rw [e0]; exact ⟨z0, v0⟩
    | 1, hq => cases hq; rw [e1]; exact ⟨z1, v1⟩
    | 2, hq => cases hq; rw [e2]; exact ⟨z2, v2⟩
    | 3, hq => cases hq; rw [e3]; exact ⟨z3, v3⟩
    | 4, hq => cases hq; rw [e4]; exact ⟨z4, v4⟩
    | zn + 5, hq => simp [p_st] at hq
  · intro zj zq hq
    have hj : zj < 16 := (List.getElem?_eq_some_iff.mp hq).1
    obtain ⟨q1, y1, y2, y3⟩ := st_m7 zj hj
    rw [hq] at y1
    cases y1
    rw [eK zj hj]
    exact vk_R.of (hts _ y3) (by rw [← y2]; exact hev zj hj)
  · show va_O "java/lang/String" (g_t zG (100 + zi)) _ _ _ ∧ va_OF "java/lang/String" "coder" "B" (.int 0) (g_t zG (100 + zi)) _ _ _ ∧ va_OF "java/lang/String" "value" "[B" (.ref (g_t zG (200 + zi))) (g_t zG (100 + zi)) _ _ _ ∧ va_T .byte (g_t zG (200 + zi)) _ _ _ _ _
    rw [eK zi hi, eV zi hi]
    exact hS16.1 zi hi
  · have he2 : g_t zG (100 + zi) = g_t zG (100 + zj) := he
    rw [eK zi hi, eK zj hj] at he2
    exact he2
  · have hm : ∀ q ∈ p_nst, Cond.methodLinkNest q.1 q.2.1 q.2.2 "StreetWaves" ∈ lw_tbl := by decide +kernel
    intro zq hq
    exact va_Nw.of rfl (hts _ (hm zq hq))
  · exact va_Nw.of rfl (hts (.fieldLinkNest "StreetWaves$State" 35 "StreetWaves" "SETTING_FIRST" "[I" "StreetWaves") (by decide +kernel))
  · exact va_AO.of (hts (.arrayOver (.object RX7)) (by decide +kernel))
