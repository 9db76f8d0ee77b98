/-! calls: a method's contract in the small machine's words; what its caller gets -/
def sm_Pc (Z : smZ) (P : smP) (X : smX) (Y : smY) (as : List Value) (h : smH) : Array Value → State → Prop := fun a U => a = (as.map (sm_v Y)).toArray ∧ sm_VC Z Y U ∧ sm_HC Z P X Y U U.heap ∧ sm_Rel Z Y U h U.heap ∧ ∀ a, U.heap.size ≤ a → Y.2.1 a
def sm_Qc (Z : smZ) (Y : smY) (v : Option Value) (h : smH) : Array Value → State → Outcome → State → Prop := fun _ st o t => (o = .returned (v.map (sm_v Y)) ∧ sm_Rel Z Y t h t.heap) ∧ va_F Y.2.1 st t
def sm_ws (Z : smZ) (m : Nat) : List Cond := Cond.code (znm Z m) (zby Z m) (zmL Z m) (zrt Z m) :: zTB Z
def sm_rm (Z : smZ) (m : Nat) (h h' : smH) : Room := { frames := zfr Z m, cells := h'.2.1 - h.2.1, slots := h'.2.2 - h.2.2, locals := zlo Z m }
def sm_CC (Z : smZ) (P : smP) (X : smX) (Y : smY) (l : Launch) (C : smCT) : Prop := ∀ (m : Nat) (as : List Value) (h : smH) (v : Option Value) (h' : smH), m < znM Z → as.length ≤ zmL Z m → as.all sm_cat1 = true → C m as h = some (v, h') →
  sm_le h h' ∧ Met l (znm Z m) (sm_ws Z m) (sm_rm Z m h h') (sm_Pc Z P X Y as h) (sm_Qc Z Y v h') (h'.2.1 - h.2.1) (h'.2.2 - h.2.2) Y.2.1
theorem sm_VC.warm {Z : smZ} {P : smP} {Y : smY} {s U : State} (hZ : sm_okC Z P) (hW : s.WarmedH U.vm) (h : sm_VC Z Y s) : sm_VC Z Y U :=
  ⟨fun k q hq => u_Kn_moved hW.alike (h.1 k q hq), fun w hw => (hZ.2.2 w hw).1 s U hW (h.2.1 w hw), fun q hq => by
    obtain ⟨a, h1, h2⟩ := h.2.2 q hq
    exact ⟨a, h1, h2.warm hW⟩⟩
theorem sm_VC.same {Z : smZ} {P : smP} {Y : smY} {s U : State} (hZ : sm_okC Z P) (hv : U.vm = s.vm) (h : sm_VC Z Y s) : sm_VC Z Y U :=
  ⟨fun k q hq => u_Kn_moved (by rw [hv]; exact Vm.Alike.refl s.vm) (h.1 k q hq), fun w hw => (hZ.2.2 w hw).2.1 s U hv.symm (h.2.1 w hw), fun q hq => by
    obtain ⟨a, h1, h2⟩ := h.2.2 q hq
    exact ⟨a, h1, h2.same hv⟩⟩
theorem sm_HC.to {Z : smZ} {P : smP} {X : smX} {Y : smY} {s U : State} {H H1 : Heap} (hvm : s.vm.Alike U.vm) (hq : ∀ a : Nat, a < H.size → ¬ Y.2.1 a → H1[a]? = H[a]?) (h : sm_HC Z P X Y s H) : sm_HC Z P X Y U H1 := by
  refine ⟨fun q hq' => va_Z.moved hvm ((h.1 q hq').kept hq), fun t ht => ?_, fun t ty n f e => ?_, h.2.2.2⟩
  · obtain ⟨a, b, h1, h2, h3, h4, h5⟩ := h.2.1 t ht
    exact ⟨a, b, h1, h2, va_O.moved hvm (h3.kept hq), va_OF.moved hvm (h4.kept hq), va_OF.moved hvm (h5.kept hq)⟩
  · obtain ⟨b, h1, h2⟩ := h.2.2.1 t ty n f e
    exact ⟨b, h1, va_T.moved hvm (h2.kept hq)⟩
theorem sm_Pc.blind {Z : smZ} {P : smP} {X : smX} {Y : smY} {as : List Value} {h : smH} (hZ : sm_okC Z P) : FrameBlind (sm_Pc Z P X Y as h) := by
  intro a U g mk q
  obtain ⟨q0, q1, q2, q3, q4⟩ := q
  exact ⟨q0, sm_VC.same (s := U) (U := U.calling g mk a) hZ rfl q1, sm_HC.to (U := U.calling g mk a) (Vm.Alike.refl U.vm) (fun _ _ _ => rfl) q2, sm_Rel.moved (U := U.calling g mk a) (Vm.Alike.refl U.vm) q3, q4⟩
section SMCALL
variable {Z : smZ} {P : smP} {X : smX} {Y : smY} {p : Program} {l : Launch} {e : Env} {R : Room} {s : State} {mid : MethodId} {args : Array Value} {below : List Frame} {meth : Method} {c : Code} {Q : State → Prop} {m : Nat}
theorem sm_PcU {H : Heap} {as : List Value} {h : smH} {locs : List Loc} (hZ : sm_okC Z P) (hVC : sm_VC Z Y s) (hHC : sm_HC Z P X Y s s.heap) (hA : ∀ a, s.heap.size ≤ a → Y.2.1 a) (hRel : sm_Rel Z Y s h H) (hS : va_S Y.2.1 s.heap H locs) {U : State} (hU : U.heap = H) (hW : s.WarmedH U.vm) : sm_Pc Z P X Y as h (as.map (sm_v Y)).toArray U := by
  subst hU
  exact ⟨rfl, hVC.warm hZ hW, hHC.to hW.alike (fun a h1 h2 => hS.2.1 a h1 h2), hRel.moved hW.alike, fun a ha => hA a (Nat.le_trans hS.1 ha)⟩
theorem sm_call {pc : Nat} {la : Array Slot} {st0 rest : List Value} {H : Heap} {locs : List Loc} {cells slots mc ms : Nat} {v : Option Value} {h' : smH} {a : Array Value} (hr : va_Run p l e R s mid args below meth c H locs cells slots mc ms (F0 mid pc la st0) rest (sm_Qc Z Y v h' a) Y.2.1) (hS : va_S Y.2.1 s.heap H locs)
    (kk : ∀ (H1 : Heap) (locs1 : List Loc), sm_Rel Z Y s h' H1 → va_S Y.2.1 s.heap H1 locs1 → W p l e R s mid args below meth c H1 locs1 (cells + mc) (slots + ms) Q (F0 mid (pc + 3) la ((v.map (sm_v Y)).toList ++ rest))) : W p l e R s mid args below meth c H locs cells slots Q (F0 mid pc la st0) := by
  intro T hT Xs
  obtain ⟨v0, st₀, t, T', L, h0, X', hL, e1, e2, ⟨⟨hv, hrel⟩, hz, hk⟩, st⟩ := hr T hT Xs
  cases hv
  rw [h0] at hz hk
  have hrel1 : sm_Rel Z Y s h' T'.heap := by
    rw [e1]
    refine hrel.moved ?_
    rw [← e2]
    exact X'.warmed.alike.symm
  have hS1 : va_S Y.2.1 s.heap T'.heap (locs ++ L) := ⟨Nat.le_trans hS.1 (by rw [e1]; exact hz), fun q h1 h2 => by rw [e1, hk q (Nat.lt_of_lt_of_le h1 hS.1) h2]; exact hS.2.1 q h1 h2, fun q hq => by
    rcases List.mem_append.mp hq with h | h
    · exact hS.2.2 q h
    · exact hL q h⟩
  obtain ⟨t2, a1, b1⟩ := kk T'.heap (locs ++ L) hrel1 hS1 T' rfl X'
  exact ⟨t2, st t2 a1, b1⟩
end SMCALL
theorem sm_pN_e {n : Nat} {st : List Value} {κ : List Value → List Value → smR} {r : Option Value × smH} (h : sm_pN n st κ = some r) : ∃ as t, st = as.reverse ++ t ∧ as.length = n ∧ as.all sm_cat1 = true ∧ (t.map (fun v => v.category)).sum ≤ 8 ∧ κ as t = some r := by
  unfold sm_pN at h
  obtain ⟨h1, h2⟩ := sm_bif_e h
  rw [Bool.and_eq_true, Bool.and_eq_true] at h1
  obtain ⟨⟨h3, h4⟩, h5⟩ := h1
  have h3 := Nat.le_of_ble_eq_true h3
  refine ⟨(st.take n).reverse, st.drop n, ?_, ?_, ?_, Nat.le_of_ble_eq_true h5, h2⟩
  · rw [List.reverse_reverse, List.take_append_drop]
  · rw [List.length_reverse, List.length_take]; omega
  · rw [List.all_reverse]; exact h4
theorem sm_cats {Y : smY} (hY : ∀ t, Y.2.2 t = .null ∨ ∃ a, Y.2.2 t = .ref a) (t : List Value) : ((t.map (sm_v Y)).map (fun v => v.category)) = t.map (fun v => v.category) := by
  rw [List.map_map]
  apply List.map_congr_left
  intro v _
  exact sm_v_cat hY v
theorem sm_vc_e {h : smH} {a c : Nat} {o : smR} {r : Option Value × smH} (e : sm_vc h a c o = some r) : ∃ fs, h.1 a = some (.inr (c, fs)) ∧ o = some r := by
  unfold sm_vc at e; split at e
  · rename_i d fs hh
    obtain ⟨h1, h2⟩ := sm_bif_e e
    exact ⟨fs, by rw [hh, Nat.eq_of_beq_eq_true h1], h2⟩
  · cases e
theorem sm_al_e {o : Option (FieldType × vp_A)} {κ : Nat → smR} {r : Option Value × smH} (e : sm_al o κ = some r) : ∃ t n g, o = some (t, n, g) ∧ κ n = some r := by
  unfold sm_al at e; split at e
  · exact ⟨_, _, _, rfl, e⟩
  · cases e
theorem sm_sw_e {o : Option Int} {κ : Int → smR} {r : Option Value × smH} (e : sm_sw o κ = some r) : ∃ i, o = some i ∧ κ i = some r := by
  unfold sm_sw at e; split at e
  · exact ⟨_, rfl, e⟩
  · cases e
def sm_isR (i : Instr) : Bool := match i with
  | .ireturn => true
  | .lreturn => true
  | .areturn => true
  | .return_ => true
  | _ => false
theorem sm_good {Z : smZ} {P : smP} (hZ : sm_okC Z P) {ws : List Cond} (h : ∀ w ∈ ws, w ∈ zTB Z) : GoodIn (zTB Z) ws := fun w hw => ⟨h w hw, good_of_word (hZ.2.1 w (h w hw))⟩
section SM6
variable {Z : smZ} {P : smP} {X : smX} {Y : smY} {p : Program} {l : Launch} {e : Env} {R : Room} {s : State} {mid : MethodId} {args : Array Value} {below : List Frame} {meth : Method} {c : Code} {Q : State → Prop} {m : Nat} {r : Option Value × smH} {Cf Sf : Nat} {C : smCT} {K : smK}
/-- what a walk is given: the frame, the rest's walks, the callees' contracts, its own end, room enough -/
def sm_Gv (Z : smZ) (P : smP) (X : smX) (Y : smY) (p : Program) (l : Launch) (e : Env) (R : Room) (s : State) (mid : MethodId) (args : Array Value) (below : List Frame) (meth : Method) (c : Code) (Q : State → Prop) (m : Nat) (r : Option Value × smH) (Cf Sf : Nat) (C : smCT) (K : smK) : Prop :=
  sm_Fx Z P X Y p R s mid args meth c m ∧ (∀ pc ls st h, K pc ls st h = some r → sm_le h r.2 ∧ sm_G Z Y p l e R s mid args below meth c Q m r.2 Cf Sf pc ls st h) ∧ sm_CC Z P X Y l C ∧
  (∀ (i : Instr) (len x y z pc : Nat) (ls : smL) (st : List Value) (h : smH), sm_okI Z P m pc i len x y z → sm_isR i = true → sm_s6 P C K i x y z pc ls st h = some r → sm_G Z Y p l e R s mid args below meth c Q m r.2 Cf Sf pc ls st h) ∧ Cf ≤ R.cells ∧ Sf ≤ R.slots
theorem sm_room {h h1 hf : smH} {cells slots : Nat} (hl1 : sm_le h h1) (hl2 : sm_le h1 hf) (h1c : cells + hf.2.1 = Cf + h.2.1) (h2c : slots + hf.2.2 = Sf + h.2.2) (hC : Cf ≤ R.cells) (hS : Sf ≤ R.slots) : (cells + (h1.2.1 - h.2.1) ≤ R.cells ∧ slots + (h1.2.2 - h.2.2) ≤ R.slots) ∧ cells + (h1.2.1 - h.2.1) + hf.2.1 = Cf + h1.2.1 ∧ slots + (h1.2.2 - h.2.2) + hf.2.2 = Sf + h1.2.2 := by
  obtain ⟨a1, a2⟩ := hl1
  obtain ⟨b1, b2⟩ := hl2
  omega
theorem sm_kk {h1 : smH} {cells slots pc : Nat} {la : Array Slot} {ls : smL} {t : List Value} {v : Option Value} (hg : sm_G Z Y p l e R s mid args below meth c Q m r.2 Cf Sf (pc + 3) ls (v.toList ++ t) h1) (hL : lv_has la (zmL Z m) (sm_ml Y ls)) (g3 : cells + r.2.2.1 = Cf + h1.2.1) (g4 : slots + r.2.2.2 = Sf + h1.2.2) : ∀ (H1 : Heap) (locs1 : List Loc), sm_Rel Z Y s h1 H1 → va_S Y.2.1 s.heap H1 locs1 → W p l e R s mid args below meth c H1 locs1 cells slots Q (F0 mid (pc + 3) la ((v.map (sm_v Y)).toList ++ t.map (sm_v Y))) := fun H1 locs1 hR1 hS1 => by
  have hg1 := hg H1 locs1 _ _ la hR1 hS1 hL g3 g4
  rw [List.map_append] at hg1
  cases v <;> exact hg1
theorem sm_wsin {x : Nat} (hcode : Cond.code (znm Z x) (zby Z x) (zmL Z x) (zrt Z x) ∈ zTB Z) : ∀ w ∈ sm_ws Z x, w ∈ zTB Z := fun w hw => by
  rcases List.mem_cons.mp hw with h | h
  · rw [h]; exact hcode
  · exact h
set_option maxHeartbeats 4000000 in
/-- a virtual call, of the method of the receiver's class -/
theorem sm_gV (V : sm_Gv Z P X Y p l e R s mid args below meth c Q m r Cf Sf C K) {idx x y pc : Nat} {ls : smL} {as t : List Value} {h h1 : smH} {rv : Value} {v : Option Value} {b : Nat} (hb0 : sm_v Y rv = .ref b) (hc1 : sm_cat1 rv = true) (hd : decode (zby Z m) pc = .ok (.invokevirtual idx, 3)) (hok : sm_okM Z m idx x y) (hmL : y + 1 ≤ zmL Z x) (hin : Cond.instanceMethod (znm Z x) ∈ zTB Z) (hsel : Cond.selects (znm Z x).cls (znm Z x) (znm Z x) ∈ zTB Z)
    (hn : as.length = y) (hall : as.all sm_cat1 = true) (hcat : (t.map (fun v => v.category)).sum ≤ 8) (hc : C x (rv :: as) h = some (v, h1)) (hs2 : K (pc + 3) ls (v.toList ++ t) h1 = some r)
    {H : Heap} {locs : List Loc} {cells slots : Nat} {la : Array Slot} (hcell : ∃ cell : Cell, H[b]? = some cell ∧ cell.vm.isStatics = false ∧ s.vm.findClass (znm Z x).cls = some cell.cls) (hRel : sm_Rel Z Y s h H) (hS : va_S Y.2.1 s.heap H locs) (hL : lv_has la (zmL Z m) (sm_ml Y ls)) (g1 : cells + r.2.2.1 = Cf + h.2.1) (g2 : slots + r.2.2.2 = Sf + h.2.2) :
    W p l e R s mid args below meth c H locs cells slots Q (F0 mid pc la ((as.reverse ++ rv :: t).map (sm_v Y))) := by
  obtain ⟨F, hK, hC, hret, hCc, hCs⟩ := id V
  obtain ⟨hx, hb, hml, hown, hts, hVC, hHC, hnm, hA, hZ, hRf, hRl⟩ := id F
  obtain ⟨hxM, hdd, hcode, hini, hfr, hlo, hlink⟩ := hok
  obtain ⟨hle1, hM⟩ := hC x (rv :: as) h v h1 hxM (by rw [List.length_cons]; omega) (by rw [List.all_cons, hall, hc1]; rfl) hc
  obtain ⟨hle2, hg⟩ := hK _ _ _ _ hs2
  obtain ⟨hf, g3, g4⟩ := sm_room (R := R) hle1 hle2 g1 g2 hCc hCs
  have hstk : ((as.reverse ++ rv :: t).map (sm_v Y)) = (as.map (sm_v Y)).reverse ++ .ref b :: t.map (sm_v Y) := by rw [List.map_append, List.map_reverse, List.map_cons, hb0]
  have hroom : 2 * (F0 mid pc la ((as.reverse ++ rv :: t).map (sm_v Y))).monitorRoom + ((t.map (sm_v Y)).map fun v => v.category).sum ≤ 8 := lv_room (by rw [sm_cats hHC.2.2.2]; exact hcat)
  have hR2 : (sm_rm Z x h h1).frames + 1 ≤ R.frames ∧ 8 + (zmL Z x + 11) + (sm_rm Z x h h1).locals ≤ R.locals := by rw [hRf, hRl]; exact ⟨hfr, hlo⟩
  have hargs : Value.ref b :: as.map (sm_v Y) = (rv :: as).map (sm_v Y) := by rw [List.map_cons, hb0]
  have hpre : PreV s H (znm Z x).cls b (sm_Pc Z P X Y (rv :: as) h) (as.map (sm_v Y)) := ⟨sm_Pc.blind hZ, hcell, fun U hU hW => by rw [hargs]; exact sm_PcU hZ hVC hHC hA hRel hS hU hW⟩
  have hwsin := sm_wsin hcode
  rcases hlink with hlink | ⟨host, hlink⟩
  · exact sm_call (va_runV (C := (znm Z x).cls) (As := as.map (sm_v Y)) (rest := t.map (sm_v Y)) ⟨hx, hb, hml, hown, hts⟩ hM (cwV y hts (sm_good hZ (fun w hw => by
      rcases List.mem_append.mp hw with h | h
      · simp only [List.mem_cons, List.not_mem_nil, or_false] at h
        rcases h with rfl | rfl | rfl | rfl
        · exact hlink
        · exact hin
        · exact hsel
        · exact hini
      · exact hwsin w h)) rfl rfl rfl ⟨rfl, hdd⟩ hR2) hpre rfl (by rw [List.length_map]; exact hn) hL.1 hstk hroom hd hf) hS (sm_kk hg hL g3 g4)
  · exact sm_call (va_runVN (C := (znm Z x).cls) (As := as.map (sm_v Y)) (rest := t.map (sm_v Y)) ⟨hx, hb, hml, hown, hts⟩ hM ⟨va_cnB y hts (sm_good hZ hwsin) rfl rfl rfl (hVC.2.1 _ hlink) (hts _ hini) hdd hR2, hts _ hin, hts _ hsel⟩ hpre rfl (by rw [List.length_map]; exact hn) hL.1 hstk hroom hd hf) hS (sm_kk hg hL g3 g4)
set_option maxHeartbeats 4000000 in
theorem sm_g6 (V : sm_Gv Z P X Y p l e R s mid args below meth c Q m r Cf Sf C K) {i : Instr} {len x y z pc : Nat} {ls : smL} {st : List Value} {h : smH} (hok : sm_okI Z P m pc i len x y z) (hs : sm_s6 P C K i x y z pc ls st h = some r) : sm_G Z Y p l e R s mid args below meth c Q m r.2 Cf Sf pc ls st h := by
  obtain ⟨F, hK, hC, hret, hCc, hCs⟩ := id V
  obtain ⟨hx, hb, hml, hown, hts, hVC, hHC, hnm, hA, hZ, hRf, hRl⟩ := id F
  obtain ⟨hd, ha, hl⟩ := id hok
  have hs0 := hs
  unfold sm_s6 at hs
  split at hs
  · -- invokestatic
    rename_i idx
    split at hs
    · obtain ⟨as, t, rfl, hn, hall, hcat, hs1⟩ := sm_pN_e hs
      obtain ⟨v, h1, hc, hs2⟩ := sm_cR_e hs1
      obtain rfl : len = 3 := by simpa [sm_okA] using ha
      obtain ⟨⟨hxM, hdd, hcode, hini, hfr, hlo, hlink⟩, hmL, hst⟩ := hl
      obtain ⟨hle1, hM⟩ := hC x as h v h1 hxM (by omega) hall hc
      obtain ⟨hle2, hg⟩ := hK _ _ _ _ hs2
      intro H locs cells slots la hRel hS hL g1 g2
      obtain ⟨hf, g3, g4⟩ := sm_room (R := R) hle1 hle2 g1 g2 hCc hCs
      have hstk : ((as.reverse ++ t).map (sm_v Y)) = (as.map (sm_v Y)).reverse ++ t.map (sm_v Y) := by rw [List.map_append, List.map_reverse]
      have hroom : 2 * (F0 mid pc la ((as.reverse ++ t).map (sm_v Y))).monitorRoom + ((t.map (sm_v Y)).map fun v => v.category).sum ≤ 8 := lv_room (by rw [sm_cats hHC.2.2.2]; exact hcat)
      have hR2 : (sm_rm Z x h h1).frames + 1 ≤ R.frames ∧ 8 + (zmL Z x + 11) + (sm_rm Z x h h1).locals ≤ R.locals := by rw [hRf, hRl]; exact ⟨hfr, hlo⟩
      have hwsin := sm_wsin hcode
      have hpre : PreS s H (sm_Pc Z P X Y as h) (as.map (sm_v Y)) := ⟨sm_Pc.blind hZ, fun U hU hW => sm_PcU hZ hVC hHC hA hRel hS hU hW⟩
      rcases hlink with hlink | ⟨host, hlink⟩
      · exact sm_call (va_runS (As := as.map (sm_v Y)) (rest := t.map (sm_v Y)) ⟨hx, hb, hml, hown, hts⟩ hM (va_cwS y hts (sm_good hZ (fun w hw => by
          rcases List.mem_append.mp hw with h | h
          · simp only [List.mem_cons, List.not_mem_nil, or_false] at h
            rcases h with rfl | rfl | rfl
            · exact hlink
            · exact hst
            · exact hini
          · exact hwsin w h)) rfl rfl rfl hdd hR2) hpre rfl (by rw [List.length_map]; exact hn) hL.1 hstk hroom hd hf) hS (sm_kk hg hL g3 g4)
      · exact sm_call (va_runSN (As := as.map (sm_v Y)) (rest := t.map (sm_v Y)) ⟨hx, hb, hml, hown, hts⟩ hM ⟨va_cnB y hts (sm_good hZ hwsin) rfl rfl rfl (hVC.2.1 _ hlink) (hts _ hini) hdd hR2, hts _ hst, trivial⟩ hpre rfl (by rw [List.length_map]; exact hn) hL.1 hstk hroom hd hf) hS (sm_kk hg hL g3 g4)
    · obtain ⟨b, t1, rfl, hs1⟩ := sm_pI_e hs
      obtain ⟨a, t, rfl, hs2⟩ := sm_pI_e hs1
      obtain ⟨hcat, hs3⟩ := sm_bif_e hs2
      obtain rfl : len = 3 := by simpa [sm_okA] using ha
      obtain ⟨q1, q2, q3, q4, q5, q6⟩ := hl
      obtain ⟨hle2, hg⟩ := hK _ _ _ _ hs3
      intro H locs cells slots la hRel hS hL g1 g2
      have hc : cells ≤ R.cells ∧ slots ≤ R.slots := by
        obtain ⟨b1, b2⟩ := hle2
        omega
      refine va_mmax hx hb (hml.trans hL.1.symm) hown (hts _ q1) (hts _ q2) (hts _ q3) (hts _ q4) (by rw [hRf]; exact q5) ?_ hc.1 hc.2 (rest := t.map (sm_v Y)) hd (hg H locs cells slots la hRel hS hL g1 g2)
      have h8 : (t.map (fun v => v.category)).sum ≤ 8 := Nat.le_of_ble_eq_true hcat
      rw [sm_cats hHC.2.2.2, hRl]
      omega
    · rename_i hz0 hz1
      obtain ⟨b, t1, rfl, hs1⟩ := sm_pI_e hs
      obtain ⟨a, t, rfl, hs2⟩ := sm_pI_e hs1
      obtain ⟨hcat, hs3⟩ := sm_bif_e hs2
      obtain rfl : len = 3 := by simpa [sm_okA] using ha
      obtain ⟨q1, q2, q3, q4, q5, q6⟩ := (sm_okS2 hz0 hz1 hl)
      obtain ⟨hle2, hg⟩ := hK _ _ _ _ hs3
      intro H locs cells slots la hRel hS hL g1 g2
      have hc : cells ≤ R.cells ∧ slots ≤ R.slots := by
        obtain ⟨b1, b2⟩ := hle2
        omega
      refine va_mmin hx hb (hml.trans hL.1.symm) hown (hts _ q1) (hts _ q2) (hts _ q3) (hts _ q4) (by rw [hRf]; exact q5) ?_ hc.1 hc.2 (rest := t.map (sm_v Y)) hd (hg H locs cells slots la hRel hS hL g1 g2)
      have h8 : (t.map (fun v => v.category)).sum ≤ 8 := Nat.le_of_ble_eq_true hcat
      rw [sm_cats hHC.2.2.2, hRl]
      omega
  · -- invokevirtual
    rename_i idx
    split at hs
    · -- on a tag
      obtain ⟨as, t0, rfl, hn, hall, hcat, hs1⟩ := sm_pN_e hs
      obtain ⟨tg, t, rfl, hs3⟩ := sm_pT_e hs1
      obtain ⟨hlt, hs4⟩ := sm_bif_e hs3
      obtain ⟨v, h1, hc, hs2⟩ := sm_cR_e hs4
      obtain rfl : len = 3 := by simpa [sm_okA] using ha
      obtain ⟨hM, hmL, hin, hsel, hcls⟩ := hl
      obtain ⟨a0, b0, q1, q2, q3, -⟩ := hHC.2.1 tg (by unfold Nat.blt at hlt; exact Nat.le_of_ble_eq_true hlt)
      intro H locs cells slots la hRel hS hL g1 g2
      refine sm_gV V (rv := .retAddr tg) (b := a0) (show sm_v Y (.retAddr tg) = .ref a0 from q1) rfl hd hM hmL hin hsel hn hall (by rw [List.map_cons, List.sum_cons] at hcat; omega) hc hs2 ?_ hRel hS hL g1 g2
      rw [show (znm Z x).cls = "java/lang/String" from hcls]
      exact va_Orecv q3 hS
    · -- on an object
      rename_i z'
      obtain ⟨as, t0, rfl, hn, hall, hcat, hs1⟩ := sm_pN_e hs
      obtain ⟨a, t, rfl, hs3⟩ := sm_pR_e hs1
      obtain ⟨fs, hh, hs4⟩ := sm_vc_e hs3
      obtain ⟨v, h1, hc, hs2⟩ := sm_cR_e hs4
      obtain rfl : len = 3 := by simpa [sm_okA] using ha
      obtain ⟨hM, hmL, hin, hsel, q, hq, hqc⟩ := hl
      intro H locs cells slots la hRel hS hL g1 g2
      refine sm_gV V (b := a) rfl rfl hd hM hmL hin hsel hn hall (by rw [List.map_cons, List.sum_cons] at hcat; omega) hc hs2 ?_ hRel hS hL g1 g2
      rw [← hqc]
      exact va_recv (tys := []) (ws := [(a, .inr (z', fs))]) (q0 := 0) (sm_K0 hVC) (sm_one (hRel.2 a _ hh).2) hq rfl
  · -- invokespecial
    rename_i idx
    split at hs
    · obtain ⟨a, t, rfl, hs1⟩ := sm_pR_e hs
      obtain ⟨hcat, hs2⟩ := sm_bif_e hs1
      obtain rfl : len = 3 := by simpa [sm_okA] using ha
      obtain ⟨q1, q2, q3, q4, q5⟩ := hl
      obtain ⟨-, hg⟩ := hK _ _ _ _ hs2
      intro H locs cells slots la hRel hS hL g1 g2
      refine W.objInit hx hb hown (hts _ q1) (hts _ q2) (hts _ q3) rfl (by rw [hml]; exact hL.1) (rest := t.map (sm_v Y)) rfl hd (by rw [hRf]; exact q4) ?_ (hg H locs cells slots la hRel hS hL g1 g2)
      have h8 : 2 * (F0 mid pc la ((.ref a :: t).map (sm_v Y))).monitorRoom + ((t.map (sm_v Y)).map fun v => v.category).sum ≤ 8 := lv_room (by rw [sm_cats hHC.2.2.2]; exact Nat.le_of_ble_eq_true hcat)
      rw [hRl]
      omega
    · obtain ⟨as, t0, rfl, hn, hall, hcat, hs1⟩ := sm_pN_e hs
      obtain ⟨a, t, rfl, hs3⟩ := sm_pR_e hs1
      obtain ⟨v, h1, hc, hs2⟩ := sm_cR_e hs3
      obtain rfl : len = 3 := by simpa [sm_okA] using ha
      obtain ⟨⟨hxM, hdd, hcode, hini, hfr, hlo, hlink⟩, hmL, hin, hname, hrt⟩ := hl
      obtain ⟨hle1, hM⟩ := hC x (.ref a :: as) h v h1 hxM (by rw [List.length_cons]; omega) (by rw [List.all_cons, hall]; rfl) hc
      obtain ⟨hle2, hg⟩ := hK _ _ _ _ hs2
      intro H locs cells slots la hRel hS hL g1 g2
      obtain ⟨hf, g3, g4⟩ := sm_room (R := R) hle1 hle2 g1 g2 hCc hCs
      have hcat2 : (t.map (fun v => v.category)).sum ≤ 8 := by rw [List.map_cons, List.sum_cons] at hcat; omega
      have hstk : ((as.reverse ++ .ref a :: t).map (sm_v Y)) = (as.map (sm_v Y)).reverse ++ .ref a :: t.map (sm_v Y) := by rw [List.map_append, List.map_reverse, List.map_cons]; rfl
      have hroom : 2 * (F0 mid pc la ((as.reverse ++ .ref a :: t).map (sm_v Y))).monitorRoom + ((t.map (sm_v Y)).map fun v => v.category).sum ≤ 8 := lv_room (by rw [sm_cats hHC.2.2.2]; exact hcat2)
      have hR2 : (sm_rm Z x h h1).frames + 1 ≤ R.frames ∧ 8 + (zmL Z x + 11) + (sm_rm Z x h h1).locals ≤ R.locals := by rw [hRf, hRl]; exact ⟨hfr, hlo⟩
      have hwsin := sm_wsin hcode
      have hpre : PreS s H (sm_Pc Z P X Y (.ref a :: as) h) (.ref a :: as.map (sm_v Y)) := ⟨sm_Pc.blind hZ, fun U hU hW => sm_PcU (as := .ref a :: as) hZ hVC hHC hA hRel hS hU hW⟩
      have hw : sm_ws Z x = Cond.code (znm Z x) (zby Z x) (zmL Z x) none :: zTB Z := by unfold sm_ws; rw [hrt]
      rcases hlink with hlink | ⟨host, hlink⟩
      · exact sm_call (va_runI (As := as.map (sm_v Y)) (rest := t.map (sm_v Y)) ⟨hx, hb, hml, hown, hts⟩ hM (cwI y hts (sm_good hZ hwsin) hw rfl rfl (hts _ hini) (hts _ hlink) (hts _ hin) hname hdd hR2) hpre rfl (by rw [List.length_map]; exact hn) hL.1 hstk hroom hd hf) hS (sm_kk hg hL g3 g4)
      · exact sm_call (va_runIN (As := as.map (sm_v Y)) (rest := t.map (sm_v Y)) ⟨hx, hb, hml, hown, hts⟩ hM ⟨va_cnB y hts (sm_good hZ hwsin) hw rfl rfl (hVC.2.1 _ hlink) (hts _ hini) hdd hR2, hname, hts _ hin⟩ hpre rfl (by rw [List.length_map]; exact hn) hL.1 hstk hroom hd hf) hS (sm_kk hg hL g3 g4)
  · -- getstatic
    rename_i idx
    obtain rfl : len = 3 := by simpa [sm_okA] using ha
    obtain ⟨C0, n0, d0, hlink, hst⟩ := hl
    split at hs
    · intro H locs cells slots la hRel hS hL g1 g2
      exact va_gets hx hb (hHC.1 _ hst) hS hown (hts _ hlink) (fun _ h9 => h9) hd ((hK _ _ _ _ hs).2 H locs cells slots la hRel hS hL g1 g2)
    · intro H locs cells slots la hRel hS hL g1 g2
      exact va_gets hx hb (hHC.1 _ hst) hS hown (hts _ hlink) (fun _ h9 => h9) hd ((hK _ _ _ _ hs).2 H locs cells slots la hRel hS hL g1 g2)
  · exact hret _ len x y z _ _ _ _ hok rfl hs0
  · exact hret _ len x y z _ _ _ _ hok rfl hs0
  · exact hret _ len x y z _ _ _ _ hok rfl hs0
  · exact hret _ len x y z _ _ _ _ hok rfl hs0
  · cases hs
end SM6
