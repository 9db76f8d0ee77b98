theorem tr1 {w : Cond} (i : Nat) (h : tables_1_1[i]? = some w) : w ∈ lw_tbl := List.mem_append_right _ (show w ∈ tables_1 from List.mem_append_left _ (List.mem_of_getElem? h))
theorem tr2 {w : Cond} (i : Nat) (h : tables_1_2[i]? = some w) : w ∈ lw_tbl := List.mem_append_right _ (show w ∈ tables_1 from List.mem_append_right _ (List.mem_append_left _ (List.mem_of_getElem? h)))
theorem tr3 {w : Cond} (i : Nat) (h : tables_1_3[i]? = some w) : w ∈ lw_tbl := List.mem_append_right _ (show w ∈ tables_1 from List.mem_append_right _ (List.mem_append_right _ (List.mem_of_getElem? h)))
def st_tm (i : Nat) : Term := match i with
  | 0 => .string "WornSums$NumberWords" 23
  | 1 => .string "WornSums$NumberWords" 29
  | 2 => .string "WornSums$NumberWords" 37
  | 3 => .string "WornSums$NumberWords" 47
  | 4 => .string "WornSums$NumberWords" 53
  | _ => .string "WornSums$Figures" 38
def st_len : List Nat := [49, 79, 53, 8, 5, 14]
def st_blk (i : Nat) : List Cond := [Cond.exactly (st_tm i) "java/lang/String", Cond.eq (.field (st_tm i) "java/lang/String" "coder" "B") (.int 0), Cond.arrayOf (.field (st_tm i) "java/lang/String" "value" "[B") .byte, Cond.eq (.length (.field (st_tm i) "java/lang/String" "value" "[B")) (.int (Int32.ofNat (st_len.getD i 0)))] ++ (List.range (st_len.getD i 0)).map fun j => Cond.eq (.elem (.field (st_tm i) "java/lang/String" "value" "[B") (.int (Int32.ofNat j))) (.int ((pp_st.getD i []).getD j 0))
def st_cs : List Cond := (List.range 6).flatMap fun i => st_blk i ++ (List.range i).map fun j => Cond.not (Cond.eq (st_tm j) (st_tm i))
def st_pre : List Cond := [(Jvm.Cond.count (1 : Nat)), (Jvm.Cond.isRef (Jvm.Term.arg (0 : Nat))), (Jvm.Cond.arrayOf (Jvm.Term.arg (0 : Nat)) Jvm.ClassFile.FieldType.int), (Jvm.Cond.le (Jvm.Term.length (Jvm.Term.arg (0 : Nat))) (Jvm.Term.int (260 : Int32))), (Jvm.Cond.eq (Jvm.Term.static "java/lang/String" "COMPACT_STRINGS" "Z") (Jvm.Term.int (1 : Int32))), (Jvm.Cond.isRef (Jvm.Term.static "jdk/internal/util/Preconditions" "SIOOBE_FORMATTER" "Ljava/util/function/BiFunction;")), (Jvm.Cond.eq (Jvm.Term.static "java/lang/StringUTF16" "$assertionsDisabled" "Z") (Jvm.Term.int (1 : Int32))), (Jvm.Cond.eq (Jvm.Term.static "java/lang/StringUTF16" "HI_BYTE_SHIFT" "I") (Jvm.Term.int (0 : Int32))), (Jvm.Cond.eq (Jvm.Term.static "java/lang/StringUTF16" "LO_BYTE_SHIFT" "I") (Jvm.Term.int (8 : Int32)))]
set_option maxRecDepth 100000 in
theorem st_flat : flatC (Jvm.Cond.and given_1 narrow_1) = st_pre ++ st_cs := by decide +kernel
theorem st_hs {args : Array Value} {s : State} (h : (Jvm.Cond.and given_1 narrow_1).before args s = true) : ∀ w ∈ st_cs, w.before args s = true := fun w hw => flat_of_before _ h w (by rw [st_flat]; exact List.mem_append_right _ hw)
theorem st_m {i : Nat} {w : Cond} (hi : i < 6) (h : w ∈ st_blk i) : w ∈ st_cs := List.mem_flatMap.mpr ⟨i, List.mem_range.mpr hi, List.mem_append_left _ h⟩
theorem st_n {i j : Nat} (hi : i < 6) (hj : j < i) : Cond.not (Cond.eq (st_tm j) (st_tm i)) ∈ st_cs := List.mem_flatMap.mpr ⟨i, List.mem_range.mpr hi, List.mem_append_right _ (List.mem_map.mpr ⟨j, List.mem_range.mpr hj, rfl⟩)⟩
def st_x : List Cond := [Cond.eq (.static "java/lang/String" "COMPACT_STRINGS" "Z") (.int 1), Cond.isRef (.static "jdk/internal/util/Preconditions" "SIOOBE_FORMATTER" "Ljava/util/function/BiFunction;")]
theorem st_xs {args : Array Value} {s : State} (h : (Jvm.Cond.and given_1 narrow_1).before args s = true) : ∀ w ∈ st_x, w.before args s = true := fun w hw => flat_of_before _ h w (by
  rw [st_flat]
  refine List.mem_append_left _ ?_
  rcases List.mem_cons.mp hw with rfl | hw
  · exact List.mem_of_getElem? (i := 4) rfl
  · rcases List.mem_cons.mp hw with rfl | hw
    · exact List.mem_of_getElem? (i := 5) rfl
    · cases hw)
/-- what the tags stand for at the law's entry -/
def st_av (adK adV : Nat → Nat) (b : Nat) (v0 : Value) (t : Nat) : Value := if t < 6 then .ref (adK t) else if 16 ≤ t ∧ t < 22 then .ref (adV (t - 16)) else if t = 40 then .ref b else v0
theorem st_nw {s : State} {b : Nat} (hts : ∀ w ∈ lw_tbl, w.before #[Value.ref b] s = true) : ∀ w ∈ pp_nw, va_Nw w s := List.forall_mem_cons.mpr ⟨va_Nw.of rfl (hts _ (tr1 26 rfl)), List.forall_mem_cons.mpr ⟨va_Nw.of rfl (hts _ (tr1 32 rfl)), List.forall_mem_cons.mpr ⟨va_Nw.of rfl (hts _ (tr1 33 rfl)), List.forall_mem_cons.mpr ⟨va_Nw.of rfl (hts _ (tr1 42 rfl)), List.forall_mem_cons.mpr ⟨va_Nw.of rfl (hts _ (tr1 61 rfl)), List.forall_mem_cons.mpr ⟨va_Nw.of rfl (hts _ (tr1 62 rfl)), List.forall_mem_cons.mpr ⟨va_Nw.of rfl (hts _ (tr1 63 rfl)), List.forall_mem_cons.mpr ⟨va_Nw.of rfl (hts _ (tr1 64 rfl)), List.forall_mem_cons.mpr ⟨va_Nw.of rfl (hts _ (tr1 71 rfl)), List.forall_mem_cons.mpr ⟨va_Nw.of rfl (hts _ (tr1 73 rfl)), List.forall_mem_cons.mpr ⟨va_Nw.of rfl (hts _ (tr1 75 rfl)), List.forall_mem_cons.mpr ⟨va_Nw.of rfl (hts _ (tr1 76 rfl)), List.forall_mem_cons.mpr ⟨va_Nw.of rfl (hts _ (tr1 78 rfl)), List.forall_mem_cons.mpr ⟨va_Nw.of rfl (hts _ (tr1 79 rfl)), List.forall_mem_cons.mpr ⟨va_Nw.of rfl (hts _ (tr1 81 rfl)), List.forall_mem_cons.mpr ⟨va_Nw.of rfl (hts _ (tr1 82 rfl)), List.forall_mem_cons.mpr ⟨va_Nw.of rfl (hts _ (tr1 96 rfl)), List.forall_mem_cons.mpr ⟨va_Nw.of rfl (hts _ (tr1 100 rfl)), List.forall_mem_cons.mpr ⟨va_Nw.of rfl (hts _ (tr1 108 rfl)), List.forall_mem_cons.mpr ⟨va_Nw.of rfl (hts _ (tr1 184 rfl)), List.forall_mem_cons.mpr ⟨va_Nw.of rfl (hts _ (tr1 236 rfl)), List.forall_mem_cons.mpr ⟨va_Nw.of rfl (hts _ (tr2 3 rfl)), List.forall_mem_cons.mpr ⟨va_Nw.of rfl (hts _ (tr2 4 rfl)), List.forall_mem_cons.mpr ⟨va_Nw.of rfl (hts _ (tr2 6 rfl)), List.forall_mem_cons.mpr ⟨va_Nw.of rfl (hts _ (tr2 8 rfl)), List.forall_mem_cons.mpr ⟨va_Nw.of rfl (hts _ (tr2 25 rfl)), List.forall_mem_cons.mpr ⟨va_Nw.of rfl (hts _ (tr3 135 rfl)), List.forall_mem_cons.mpr ⟨va_Nw.of rfl (hts _ (tr3 141 rfl)), List.forall_mem_cons.mpr ⟨va_AO.of (hts _ (tr1 50 rfl)), List.forall_mem_cons.mpr ⟨va_AO.of (hts _ (tr1 104 rfl)), List.forall_mem_cons.mpr ⟨va_AO.of (hts _ (tr1 232 rfl)), List.forall_mem_cons.mpr ⟨hts _ (tr1 234 rfl), fun _ h => absurd h List.not_mem_nil⟩⟩⟩⟩⟩⟩⟩⟩⟩⟩⟩⟩⟩⟩⟩⟩⟩⟩⟩⟩⟩⟩⟩⟩⟩⟩⟩⟩⟩⟩⟩⟩
theorem st_cls {s : State} {b : Nat} (hts : ∀ w ∈ lw_tbl, w.before #[Value.ref b] s = true) : ∃ D : va_G, ∀ (k : Nat) (q : vw_C), pp_cl[k]? = some q → u_Kn s q.1 q.2.1 q.2.2 (D.1 k) (D.2 k) := by
  obtain ⟨k0, j0, hk0⟩ := u_known (C := "WornSums$Agreeing") (T := uT_0) (N := 5) (n := 5) hts (fun w hw => (List.mem_filter.mp (okc_0.1 w hw)).1) (hts _ (tr1 235 rfl))
  obtain ⟨k1, j1, hk1⟩ := u_known (C := "WornSums$Findings") (T := uT_1) (N := 8) (n := 8) hts (fun w hw => (List.mem_filter.mp (okc_1.1 w hw)).1) (hts _ (tr1 226 rfl))
  obtain ⟨k2, j2, hk2⟩ := u_known (C := "WornSums$History") (T := uT_2) (N := 3) (n := 3) hts (fun w hw => (List.mem_filter.mp (okc_2.1 w hw)).1) (hts _ (tr1 95 rfl))
  obtain ⟨k3, j3, hk3⟩ := u_known (C := "WornSums$NumberWords") (T := uT_3) (N := 2) (n := 2) hts (fun w hw => (List.mem_filter.mp (okc_3.1 w hw)).1) (hts _ (tr1 118 rfl))
  obtain ⟨k4, j4, hk4⟩ := u_known (C := "WornSums$Row") (T := uT_4) (N := 2) (n := 2) hts (fun w hw => (List.mem_filter.mp (okc_4.1 w hw)).1) (hts _ (tr1 51 rfl))
  obtain ⟨k5, j5, hk5⟩ := u_known (C := "WornSums$Sheet") (T := uT_5) (N := 5) (n := 5) hts (fun w hw => (List.mem_filter.mp (okc_5.1 w hw)).1) (hts _ (tr1 41 rfl))
  obtain ⟨k6, j6, hk6⟩ := u_known (C := "WornSums$Text") (T := uT_6) (N := 2) (n := 2) hts (fun w hw => (List.mem_filter.mp (okc_6.1 w hw)).1) (hts _ (tr1 25 rfl))
  obtain ⟨k7, j7, hk7⟩ := u_known (C := "WornSums") (T := uT_7) (N := 7) (n := 7) hts (fun w hw => (List.mem_filter.mp (okc_7.1 w hw)).1) (hts _ (tr1 17 rfl))
  refine ⟨(fun k => if k = 0 then k0 else if k = 1 then k1 else if k = 2 then k2 else if k = 3 then k3 else if k = 4 then k4 else if k = 5 then k5 else if k = 6 then k6 else k7, fun k => if k = 0 then j0 else if k = 1 then j1 else if k = 2 then j2 else if k = 3 then j3 else if k = 4 then j4 else if k = 5 then j5 else if k = 6 then j6 else j7), ?_⟩
  intro k q hq
  match k, hq with
  | 0, hq =>
    obtain rfl : (("WornSums$Agreeing", uT_0, 5) : vw_C) = q := Option.some.inj hq
    exact hk0
  | 1, hq =>
    obtain rfl : (("WornSums$Findings", uT_1, 8) : vw_C) = q := Option.some.inj hq
    exact hk1
  | 2, hq =>
    obtain rfl : (("WornSums$History", uT_2, 3) : vw_C) = q := Option.some.inj hq
    exact hk2
  | 3, hq =>
    obtain rfl : (("WornSums$NumberWords", uT_3, 2) : vw_C) = q := Option.some.inj hq
    exact hk3
  | 4, hq =>
    obtain rfl : (("WornSums$Row", uT_4, 2) : vw_C) = q := Option.some.inj hq
    exact hk4
  | 5, hq =>
    obtain rfl : (("WornSums$Sheet", uT_5, 5) : vw_C) = q := Option.some.inj hq
    exact hk5
  | 6, hq =>
    obtain rfl : (("WornSums$Text", uT_6, 2) : vw_C) = q := Option.some.inj hq
    exact hk6
  | 7, hq =>
    obtain rfl : (("WornSums", uT_7, 7) : vw_C) = q := Option.some.inj hq
    exact hk7
  | k + 8, hq => cases hq
/-! THE CLAIM OUT OF ONE WALK OF THE LAW'S BODY. Your part is whole_start (and what it stands on); all else here is the same for every law, but numbers. -/
def R_law : String := "WornSumsLaw"
def lw_P (b : Addr) (xs : List Int32) (args : Array Value) (s : State) : Prop := args = #[.ref b] ∧ s.IntsAt b xs ∧ xs.length ≤ 260 ∧ (Jvm.Cond.and given_1 narrow_1).before args s = true
def lw_Q (_ : Array Value) (s : State) (o : Outcome) (t : State) : Prop := o = .returned (some (.int 1)) ∧ Framed s o t [] 600000 7302250
def lw_Z (below : List Frame) (a : Array Value) (s : State) : State → Prop := fun t => ∃ o, t.status = .running ∧ Ended t below o ∧ lw_Q a s o t
/-- the law's own end, with 1 on the stack, nothing written that was there before, its room as the claim has it -/
theorem lw_ret {p : Program} {l : Launch} {e : Env} {s : State} {m : MethodId} {below : List Frame} {meth : Method} {c : Code} {b : Nat} (hx : p.tables.exec = Jvm.exec) (hb : c.code = code) (hr : meth.sig.returnType = ret) (hlocks : meth.locks = false) {pc : Nat} {H : Heap} {ls : Array Slot} (hdg : decode code pc = .ok (.ireturn, 1)) : W p l e room_1 s m #[Value.ref b] below meth c H [] 600000 7302250 (lw_Z below #[Value.ref b] s) (F0 m pc ls [.int 1]) := by
  intro T hT X
  obtain ⟨fs, hret, hrun, hended, hW, hframe⟩ := X.leave (v := some (.int 1)) (hlocks := hlocks) (fun h => by rw [hr] at h; cases h)
  have hmeth' : T.vm.method? m = some meth := X.method'
  refine ⟨T.setFrames fs, ?_, .returned (some (.int 1)), hrun, hended, rfl, ⟨_, rfl⟩, hW, hframe⟩
  jvm_step X.here [X.here.top, hx, hb, hdg, hmeth', hr, ret, narrow_b1]
  (try refine ⟨rfl, ?_⟩); (try refine ⟨rfl, ?_⟩)
  first | (intro acts; rw [hret _ acts rfl rfl rfl]) | rw [hret _ _ rfl rfl rfl]
  exact Steps.refl _
/-- what holds at the law's entry: the machine, the code, the tables' words (any of lw_tbl by 'hts w (by decide +kernel)'), the script of L ints xs at the cell b, what the Statement gives of the start (any of its parts by flat_of_before) -/
def lw_At (p : Program) (s : State) (m : MethodId) (meth : Method) (c : Code) (b L : Nat) (xs : Nat → Int32) : Prop :=
  p.tables.exec = Jvm.exec ∧ c.code = code ∧ meth.sig.returnType = ret ∧ c.maxLocals = 15 ∧ s.vm.findClass R_law = some m.cls ∧ (∀ w ∈ lw_tbl, w.before #[Value.ref b] s = true) ∧ va_X b L xs s s.heap ∧ b < s.heap.size ∧ meth.locks = false ∧ meth.name = "law" ∧ (Jvm.Cond.and given_1 narrow_1).before #[Value.ref b] s = true
set_option maxHeartbeats 4000000 in
theorem whole_start {p : Program} {e : Env} {s : State} {m : MethodId} {below : List Frame} {meth : Method} {c : Code} (l : Launch) (hflags : l.flags = flags0) {b L : Nat} {xs : Nat → Int32} (hL : L ≤ 260) (C0 : lw_At p s m meth c b L xs) : W p l e room_1 s m #[Value.ref b] below meth c s.heap [] 0 0 (lw_Z below #[Value.ref b] s) (entryFrame m ([Value.ref b] : List Value).toArray 15) := by
  obtain ⟨hx, hb, hr, hml, hown, hts, hX, hbl, hlocks, hnm, hgv⟩ := id C0
  have hA0 : ∀ a : Nat, a < s.heap.size → ¬ (fun q : Nat => s.heap.size ≤ q) a := fun a h1 h2 => absurd h1 (Nat.not_lt.mpr h2)
  have hs := st_hs hgv
  have hxs := st_xs hgv
  obtain ⟨D, hD⟩ := st_cls hts
  obtain ⟨adK, adV, hS, hE⟩ := vk_Sof (args := #[Value.ref b]) (s := s) (N := 6) (tm := st_tm) (len := st_len) (byt := pp_st) (A := fun q : Nat => s.heap.size ≤ q) (by decide +kernel) (fun i hi => hs _ (st_m hi (by simp [st_blk]))) (fun i hi => hs _ (st_m hi (by simp [st_blk]))) (fun i hi => hs _ (st_m hi (by simp [st_blk]))) (fun i hi => hs _ (st_m hi (by simp [st_blk]))) (fun i hi j hj => hs _ (st_m hi (List.mem_append_right _ (List.mem_map.mpr ⟨j, List.mem_range.mpr hj, rfl⟩)))) (fun i j hi hj hne => by
    rcases Nat.lt_or_gt_of_ne hne with h | h
    · exact Or.inl (hs _ (st_n hj h))
    · exact Or.inr (hs _ (st_n hi h))) hA0
  have hCS : va_Z "java/lang/String" "COMPACT_STRINGS" "Z" (.int 1) (fun q : Nat => s.heap.size ≤ q) s s.heap := va_Zof (hts _ (tr1 141 rfl)) (hts _ (tr1 8 rfl)) (va_eqi (hxs _ List.mem_cons_self)) hA0
  obtain ⟨v0, hv0, hFM⟩ : ∃ v0 : Value, (v0 = .null ∨ ∃ t, v0 = .ref t) ∧ va_Z "jdk/internal/util/Preconditions" "SIOOBE_FORMATTER" "Ljava/util/function/BiFunction;" v0 (fun q : Nat => s.heap.size ≤ q) s s.heap := by
    rcases va_Zqof (hts _ (tr1 157 rfl)) (hts _ (tr1 10 rfl)) (hxs _ (List.mem_cons_of_mem _ List.mem_cons_self)) hA0 with h | ⟨t, h⟩
    · exact ⟨_, Or.inl rfl, h⟩
    · exact ⟨_, Or.inr ⟨t, rfl⟩, h⟩
  have hav : ∀ t, st_av adK adV b v0 t = .null ∨ ∃ a, st_av adK adV b v0 t = .ref a := by
    intro t
    unfold st_av
    split
    · exact Or.inr ⟨_, rfl⟩
    · split
      · exact Or.inr ⟨_, rfl⟩
      · split
        · exact Or.inr ⟨_, rfl⟩
        · exact hv0
  have hVC : sm_VC PZ (D, fun q : Nat => s.heap.size ≤ q, st_av adK adV b v0) s := by
    refine ⟨hD, st_nw hts, ?_⟩
    show ∀ q ∈ pp_SC, _
    exact List.forall_mem_cons.mpr ⟨⟨adK 0, rfl, vk_R.of (hts _ (tr1 127 rfl)) (hE 0 (by decide))⟩, List.forall_mem_cons.mpr ⟨⟨adK 1, rfl, vk_R.of (hts _ (tr1 187 rfl)) (hE 1 (by decide))⟩, List.forall_mem_cons.mpr ⟨⟨adK 2, rfl, vk_R.of (hts _ (tr1 192 rfl)) (hE 2 (by decide))⟩, List.forall_mem_cons.mpr ⟨⟨adK 3, rfl, vk_R.of (hts _ (tr1 209 rfl)) (hE 3 (by decide))⟩, List.forall_mem_cons.mpr ⟨⟨adK 4, rfl, vk_R.of (hts _ (tr1 214 rfl)) (hE 4 (by decide))⟩, List.forall_mem_cons.mpr ⟨⟨adK 5, rfl, vk_R.of (hts _ (tr2 148 rfl)) (hE 5 (by decide))⟩, fun _ h => absurd h List.not_mem_nil⟩⟩⟩⟩⟩⟩
  have hHC : sm_HC PZ PP (L, xs) (D, fun q : Nat => s.heap.size ≤ q, st_av adK adV b v0) s s.heap := by
    refine ⟨?_, ?_, ?_, hav⟩
    · show ∀ q ∈ pp_ST, _
      exact List.forall_mem_cons.mpr ⟨hCS, List.forall_mem_cons.mpr ⟨hFM, fun _ h => absurd h List.not_mem_nil⟩⟩
    · intro t ht
      have ht : t < 6 := ht
      obtain ⟨q1, q2, q3, q4⟩ := hS.1 t ht
      refine ⟨adK t, adV t, if_pos ht, ?_, q1, q2, q3⟩
      show st_av adK adV b v0 (t + 16) = _
      unfold st_av
      rw [if_neg (by omega), if_pos (by omega), Nat.add_sub_cancel]
    · intro t ty n f he
      unfold sm_oA at he
      cases h1 : Nat.beq t 40 with
      | true =>
        simp only [h1, cond_true] at he
        obtain rfl := Nat.eq_of_beq_eq_true h1
        cases he
        obtain ⟨scr, g1, g2, g3, g4, g5⟩ := hX
        exact ⟨b, rfl, scr, g1, g2, g3, by rw [g4]; exact Nat.le_refl _, by rw [g4], g5, hA0 b hbl⟩
      | false =>
        simp only [h1, cond_false] at he
        cases h2 : (Nat.blt t 40 && Nat.blt 15 t) with
        | false => simp only [h2, cond_false] at he; cases he
        | true =>
          simp only [h2, cond_true] at he
          rw [Bool.and_eq_true] at h2
          have h3 : t < 40 := by have h3 := h2.1; unfold Nat.blt at h3; exact Nat.le_of_ble_eq_true h3
          have h4 : 15 < t := by have h4 := h2.2; unfold Nat.blt at h4; exact Nat.le_of_ble_eq_true h4
          have hP : PP.2.2.2.2.1 = pp_st := rfl
          rw [hP] at he
          cases hg : pp_st[t - 16]? with
          | none => rw [hg] at he; cases he
          | some l0 =>
            rw [hg] at he
            cases he
            have hlt : t - 16 < 6 := (List.getElem?_eq_some_iff.mp hg).1
            obtain ⟨q1, q2, q3, q4⟩ := hS.1 (t - 16) hlt
            refine ⟨adV (t - 16), ?_, ?_⟩
            · show st_av adK adV b v0 t = _
              unfold st_av
              rw [if_neg (by omega), if_pos (by omega)]
            · have e1 : pp_st.getD (t - 16) [] = l0 := by rw [List.getD_eq_getElem?_getD, hg]; rfl
              have e2 : st_len.getD (t - 16) 0 = l0.length := by
                rw [← e1]
                exact (by decide +kernel : ∀ i, i < 6 → st_len.getD i 0 = (pp_st.getD i []).length) (t - 16) hlt
              rw [e1, e2] at q4
              exact q4
  have htb : ∀ w ∈ zTB PZ, w.before #[Value.ref b] s = true := fun w hw => hts w (List.mem_filter.mp hw).1
  have F : sm_Fx PZ PP (L, xs) (D, fun q : Nat => s.heap.size ≤ q, st_av adK adV b v0) p room_1 s m #[Value.ref b] meth c 116 := ⟨hx, hb, hml, hown, htb, hVC, hHC, hnm, fun _ h => h, okZ.1, rfl, rfl⟩
  obtain ⟨h', hrun, hc1, hc2⟩ := law_sm (L, xs) hL s.heap.size
  obtain ⟨n, hrun⟩ := (sm_E_iff _ _ _ _ _ _ _ _).mp hrun
  have hle := sm_X_grow _ _ _ _ _ _ _ _ _ hrun
  have hl := lv_entry ([.ref b]) (n := 15) (Nat.le_of_ble_eq_true rfl)
  rw [lg_entry_eq]
  generalize (lg_sl ([.ref b]) ++ List.replicate (15 - (lg_sl ([.ref b])).length) Slot.unset).toArray = ls at hl ⊢
  refine sm_walk (l := l) (r := (some (.int 1), h')) (Cf := h'.2.1 - s.heap.size) (Sf := h'.2.2) okZ (Nat.le_of_ble_eq_true rfl) F ⟨by show _ ≤ 600000; omega, hc2⟩ n (fun k _ => sm_met okZ k) ?_ 0 [(0, .retAddr 40)] [] (fun _ => none, s.heap.size, 0) hrun s.heap [] 0 0 ls ⟨rfl, fun a e he => by cases he⟩ va_S.rf hl (by have h1 : s.heap.size ≤ h'.2.1 := hle.1; show 0 + h'.2.1 = (h'.2.1 - s.heap.size) + s.heap.size; omega) (by show 0 + h'.2.2 = h'.2.2 + 0; omega)
  intro C K i len x y z pc ls st h1 hok hi hs1 H locs cells slots la1 hRel1 hS1 hL1 g1 g2
  obtain ⟨hd, ha, hlk⟩ := hok
  have h1le : cells ≤ h'.2.1 - s.heap.size ∧ slots ≤ h'.2.2 ∨ True := Or.inr trivial
  unfold sm_s6 at hs1
  unfold sm_isR at hi
  split at hi
  · simp only at hs1
    obtain rfl : len = 1 := by simpa [sm_okA] using ha
    obtain ⟨x0, t0, rfl, hs2⟩ := sm_pI_e hs1
    split at hs2
    · have hfin : x0 = 1 ∧ h1 = h' := by
        split at hs2
        · cases hs2; exact ⟨rfl, rfl⟩
        · rcases sm_ite_e hs2 with ⟨-, hs3⟩ | ⟨-, hs3⟩
          · cases hs3; exact ⟨rfl, rfl⟩
          · cases hs3
      obtain ⟨rfl, rfl⟩ := hfin
      have g1' : cells + h1.2.1 = (h1.2.1 - s.heap.size) + h1.2.1 := g1
      have g2' : slots + h1.2.2 = h1.2.2 + h1.2.2 := g2
      refine va_forget (fun q hq => hS1.2.2 q hq) ?_
      refine W.widen (k := 600000) (n := 7302250) (by omega) (by omega) ?_
      exact lw_ret hx hb hr hlocks hd
    · cases hs2
  · have hlk : (some FieldType.boolean : Option FieldType) = some .long := hlk
    cases hlk
  · obtain ⟨rt, hrt, hrt2⟩ := hlk
    have hrt : some FieldType.boolean = some rt := hrt
    cases hrt
    rcases hrt2 with ⟨n, h⟩ | ⟨t, h⟩ <;> cases h
  · have hlk : (some FieldType.boolean : Option FieldType) = none := hlk
    cases hlk
  · cases hi
