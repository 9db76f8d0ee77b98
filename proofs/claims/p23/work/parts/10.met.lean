/-- a method whose bytecode is run as it stands, whatever the name of its class -/
theorem sm_ofW {l : Launch} {y : MethodName} {ws ws' : List Cond} {rm : Room} {Pc : Array Value → State → Prop} {Qc : Array Value → State → Outcome → State → Prop} {mc ms : Nat} {free : Addr → Prop} {cc : ByteArray} {maxL : Nat} {ret : Option FieldType} (hy : plainFor y = true) (hw : ws = Cond.code y cc maxL ret :: ws')
    (body : ∀ p e s m args below meth c s₁, BodyLoose p l y (headSpec ws rm) cc maxL ret e s m args below meth c s₁ → c.maxLocals = maxL → Pc args s →
      W p l e (headSpec ws rm).room s m args below meth c s.heap [] 0 0 (MQ below Qc args s mc ms free) (entryFrame m args maxL)) : Met l y ws rm Pc Qc mc ms free := by
  refine MetFree.of_bodySF (code := cc) (maxLocals := maxL) (ret := ret) hy (fun args s m h hn => ?_) (fun p e s m args below meth c s₁ B hml hP _ => ?_)
  · have hc := atoms_spec (ws := ws) h (Cond.code y cc maxL ret) (by rw [hw]; exact List.mem_cons_self)
    obtain ⟨meth, c, g1, g2, g3, g4, g5, g6, -, -⟩ := Cond.code_spec hn hc
    exact ⟨meth, c, g1, g2, g3, g4, g5, g6⟩
  · have hh : s₁.heap = s.heap := by rw [B.state]; rfl
    obtain ⟨t, ht, o, h1, h2, h3⟩ := body p e s m args below meth c s₁ B hml hP s₁ hh (Stand.of_body B)
    exact ⟨t, o, ht, h1, h2, h3⟩
section SMM
variable {Z : smZ} {P : smP} {X : smX} {Y : smY} {l : Launch}
/-- what the tables must say of every instruction of every method -/
def sm_okZ (Z : smZ) (P : smP) : Prop := sm_okC Z P ∧ (∀ (m pc : Nat) (i : Instr) (len x y z : Nat), m < znM Z → sm_code P m pc = some (i, len, x, y, z) → sm_okI Z P m pc i len x y z) ∧ ∀ m, m < znM Z → plainFor (znm Z m) = true ∧ zow Z m = (znm Z m).cls
theorem sm_tr_in {P : smP} {m pc : Nat} {ls : smL} {q : Nat × Value} (h : q ∈ sm_tr P m pc ls) : q ∈ ls := by
  unfold sm_tr at h; split at h
  · exact (List.mem_filter.mp h).1
  · exact h
theorem sm_G_tr {p : Program} {e : Env} {R : Room} {s : State} {mid : MethodId} {args : Array Value} {below : List Frame} {meth : Method} {c : Code} {Q : State → Prop} {m : Nat} {hf : smH} {Cf Sf pc : Nat} {ls : smL} {st : List Value} {h : smH} (g : sm_G Z Y p l e R s mid args below meth c Q m hf Cf Sf pc (sm_tr P m pc ls) st h) : sm_G Z Y p l e R s mid args below meth c Q m hf Cf Sf pc ls st h :=
  fun H locs cells slots la hRel hS hL g1 g2 => g H locs cells slots la hRel hS ⟨hL.1, hL.2.1, fun q hq => by
    obtain ⟨q0, h0, rfl⟩ := List.mem_map.mp hq
    exact hL.2.2 _ (List.mem_map.mpr ⟨q0, sm_tr_in h0, rfl⟩)⟩ g1 g2
theorem sm_walk {p : Program} {e : Env} {R : Room} {s : State} {mid : MethodId} {args : Array Value} {below : List Frame} {meth : Method} {c : Code} {Q : State → Prop} {m : Nat} {r : Option Value × smH} {Cf Sf : Nat} (hZ : sm_okZ Z P) (hm : m < znM Z) (F : sm_Fx Z P X Y p R s mid args meth c m) (hCS : Cf ≤ R.cells ∧ Sf ≤ R.slots) : ∀ (n : Nat), (∀ k, k < n → sm_CC Z P X Y l (fun m' as h => sm_X P X k m' 0 (lv_args 0 as) [] h)) →
    (∀ (C : smCT) (K : smK) (i : Instr) (len x y z pc : Nat) (ls : smL) (st : List Value) (h : smH), sm_okI Z P m pc i len x y z → sm_isR i = true → sm_s6 P C K i x y z pc ls st h = some r → sm_G Z Y p l e R s mid args below meth c Q m r.2 Cf Sf pc ls st h) →
    ∀ (pc : Nat) (ls : smL) (st : List Value) (h : smH), sm_X P X n m pc ls st h = some r → sm_G Z Y p l e R s mid args below meth c Q m r.2 Cf Sf pc ls st h
  | 0, _, _, _, _, _, _, hs => by cases hs
  | n + 1, hCC, hret, pc, ls, st, h, hs => by
    have hs' : sm_step P X (fun m' as h => sm_X P X n m' 0 (lv_args 0 as) [] h) (sm_X P X n m) m pc ls st h = some r := hs
    unfold sm_step at hs'
    split at hs'
    · rename_i i len x y z hcode
      exact sm_g1 ⟨F, fun pc' ls' st' h' hk => ⟨sm_X_grow P X n m pc' _ st' h' r hk, sm_G_tr (sm_walk hZ hm F hCS n (fun k hk => hCC k (Nat.lt_succ_of_lt hk)) hret pc' (sm_tr P m pc' ls') st' h' hk)⟩, hCC n (Nat.lt_succ_self n), hret _ _, hCS.1, hCS.2⟩ (hZ.2.1 m pc i len x y z hm hcode) hs'
    · cases hs'
theorem sm_lv_args (hY : ∀ t, Y.2.2 t = .null ∨ ∃ a, Y.2.2 t = .ref a) : ∀ (as : List Value) (i : Nat), sm_ml Y (lv_args i as) = lv_args i (as.map (sm_v Y))
  | [], _ => rfl
  | v :: vs, i => by
    show (i, sm_v Y v) :: sm_ml Y (lv_args _ vs) = (i, sm_v Y v) :: lv_args _ (vs.map (sm_v Y))
    rw [sm_lv_args hY vs, sm_v_cat hY v]
theorem sm_lgsl (hY : ∀ t, Y.2.2 t = .null ∨ ∃ a, Y.2.2 t = .ref a) : ∀ (as : List Value), as.all sm_cat1 = true → (lg_sl (as.map (sm_v Y))).length = as.length
  | [], _ => rfl
  | v :: vs, h => by
    rw [List.all_cons, Bool.and_eq_true] at h
    have h1 : (sm_v Y v).category = 1 := sm_cat1_v hY h.1
    have ih := sm_lgsl hY vs h.2
    unfold lg_sl at ih ⊢
    rw [List.map_cons, List.flatMap_cons, List.length_append, ih, h1]
    simp
    omega
/-- every method's contract, of every run of the small machine -/
theorem sm_met (hZ : sm_okZ Z P) : ∀ n, sm_CC Z P X Y l (fun m' as h => sm_X P X n m' 0 (lv_args 0 as) [] h) := by
  intro n
  induction n using Nat.strongRecOn with
  | ind n ih =>
    intro m as h v h' hm hlen hall hrun
    have hle := sm_X_grow P X n m 0 (lv_args 0 as) [] h (v, h') hrun
    refine ⟨hle, ?_⟩
    have hle1 : h.2.1 ≤ h'.2.1 := hle.1
    have hle2 : h.2.2 ≤ h'.2.2 := hle.2
    refine sm_ofW (cc := zby Z m) (maxL := zmL Z m) (ret := zrt Z m) (hZ.2.2 m hm).1 rfl ?_
    intro p e s mid args below meth c s₁ B hml hv
    obtain ⟨rfl, hVC, hHC, hRel, hA⟩ := hv
    have hts0 := atoms_spec (ws := sm_ws Z m) B.pre
    have hts : ∀ w ∈ zTB Z, w.before (as.map (sm_v Y)).toArray s = true := fun w hw => hts0 w (List.mem_cons_of_mem _ hw)
    have hown : s.vm.findClass (zow Z m) = some mid.cls := by rw [(hZ.2.2 m hm).2]; exact findClass_of_methodNamed B.named
    have hnm : meth.name = (znm Z m).name := (name_of_methodNamed B.named B.method).1
    have hlocks := B.notSynchronized
    have hx := B.exec
    have hb := B.bytes
    have hr := B.returns
    have F : sm_Fx Z P X Y p (headSpec (sm_ws Z m) (sm_rm Z m h h')).room s mid (as.map (sm_v Y)).toArray meth c m := ⟨hx, hb, hml, hown, hts, hVC, hHC, hnm, hA, hZ.1, rfl, rfl⟩
    have hl := lv_entry (as.map (sm_v Y)) (n := zmL Z m) (by rw [sm_lgsl hHC.2.2.2 as hall]; exact hlen)
    rw [lg_entry_eq]
    generalize (lg_sl (as.map (sm_v Y)) ++ List.replicate (zmL Z m - (lg_sl (as.map (sm_v Y))).length) Slot.unset).toArray = la at hl ⊢
    rw [← sm_lv_args hHC.2.2.2] at hl
    refine sm_walk (r := (v, h')) (Cf := h'.2.1 - h.2.1) (Sf := h'.2.2 - h.2.2) hZ hm F ⟨Nat.le_refl _, Nat.le_refl _⟩ n ih ?_ 0 (lv_args 0 as) [] h hrun s.heap [] 0 0 la hRel va_S.rf hl (by show 0 + h'.2.1 = _; omega) (by show 0 + h'.2.2 = _; omega)
    intro C K i len x y z pc ls st h1 hok hi hs H locs cells slots la1 hRel1 hS1 hL1 g1 g2
    obtain ⟨hd, ha, hlk⟩ := hok
    have hq : ∀ (w : Option Value), v = w → h1 = h' → ∀ t : State, t.heap = H → s.WarmedH t.vm → sm_Qc Z Y v h' (as.map (sm_v Y)).toArray s (.returned (w.map (sm_v Y))) t := by
      intro w hw hh t ht hW
      subst hw; subst hh
      exact ⟨⟨rfl, by rw [ht]; exact hRel1.moved hW.alike⟩, hS1.F ht⟩
    have hcs : ∀ hh : h1 = h', cells = h'.2.1 - h.2.1 ∧ slots = h'.2.2 - h.2.2 := by
      intro hh
      subst hh
      have g1' : cells + h1.2.1 = (h1.2.1 - h.2.1) + h1.2.1 := g1
      have g2' : slots + h1.2.2 = (h1.2.2 - h.2.2) + h1.2.2 := g2
      omega
    unfold sm_s6 at hs
    unfold sm_isR at hi
    split at hi
    · -- ireturn
      simp only at hs
      obtain rfl : len = 1 := by simpa [sm_okA] using ha
      obtain ⟨x0, t0, rfl, hs1⟩ := sm_pI_e hs
      split at hs1
      · split at hs1
        · cases hs1
          obtain ⟨rfl, rfl⟩ := hcs rfl
          exact W.iret (v := x0) hx hb (hr.trans hlk) (hq (some (.int x0)) rfl rfl) hS1.2.2 hd
        · rcases sm_ite_e hs1 with ⟨hn, hs2⟩ | ⟨-, hs2⟩
          · cases hs2
            obtain ⟨rfl, rfl⟩ := hcs rfl
            exact W.zret (v := x0) hx hb (hr.trans hlk) hn (hq (some (.int x0)) rfl rfl) hS1.2.2 hd
          · cases hs2
      · cases hs1
    · -- lreturn
      simp only at hs
      obtain rfl : len = 1 := by simpa [sm_okA] using ha
      obtain ⟨x0, t0, rfl, hs1⟩ := sm_pJ_e hs
      split at hs1
      · cases hs1
        obtain ⟨rfl, rfl⟩ := hcs rfl
        exact W.lret (v := x0) hx hb (hr.trans hlk) (hq (some (.long x0)) rfl rfl) hS1.2.2 hd
      · cases hs1
    · -- areturn
      simp only at hs
      obtain rfl : len = 1 := by simpa [sm_okA] using ha
      obtain ⟨rt, hrt, hrt2⟩ := hlk
      obtain ⟨v0, hv0, hiA, hs1⟩ := sm_gA_e hs
      split at hs1
      · rename_i w
        obtain rfl : w = v0 := Option.some.inj hv0
        cases hs1
        obtain ⟨rfl, rfl⟩ := hcs rfl
        exact W.aret (v := sm_v Y w) hx hb (hr.trans hrt) hrt2 (sm_isA_v hHC.2.2.2 hiA) (hq (some w) rfl rfl) hS1.2.2 hd
      · cases hs1
    · -- return
      simp only at hs
      obtain rfl : len = 1 := by simpa [sm_okA] using ha
      split at hs
      · cases hs
        obtain ⟨rfl, rfl⟩ := hcs rfl
        exact W.vret hx hb (hr.trans hlk) (hq none rfl rfl) hS1.2.2 hd
      · cases hs
    · cases hi
end SMM
