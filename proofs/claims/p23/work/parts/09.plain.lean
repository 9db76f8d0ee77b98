section SMG
variable {Z : smZ} {P : smP} {X : smX} {Y : smY} {p : Program} {l : Launch} {e : Env} {R : Room} {s : State} {mid : MethodId} {args : Array Value} {below : List Frame} {meth : Method} {c : Code} {Q : State → Prop} {m : Nat} {r : Option Value × smH} {Cf Sf : Nat} {C : smCT} {K : smK}
set_option maxHeartbeats 4000000 in
theorem sm_g2 (V : sm_Gv Z P X Y p l e R s mid args below meth c Q m r Cf Sf C K) {i : Instr} {len x y z pc : Nat} {ls : smL} {st : List Value} {h : smH} (hok : sm_okI Z P m pc i len x y z) (hs : sm_s2 P X C K i x y z pc ls st h = some r) : sm_G Z Y p l e R s mid args below meth c Q m r.2 Cf Sf pc ls st h := by
  obtain ⟨F, hK, hC, hret, hCc, hCs⟩ := id V
  obtain ⟨hx, hb, hml, hown, hts, hVC, hHC, hnm, hA, hZ, hRf, hRl⟩ := id F
  obtain ⟨hd, ha, hl⟩ := id hok
  unfold sm_s2 at hs
  split at hs
  · obtain ⟨b, r1, rfl, hs1⟩ := sm_pI_e hs
    obtain ⟨a, r2, rfl, hs2⟩ := sm_pI_e hs1
    obtain rfl : len = 1 := by simpa [sm_okA] using ha
    intro H locs cells slots la hRel hS hL h1 h2
    exact lv_iadd hx hb hd ((hK _ _ _ _ hs2).2 H locs cells slots la hRel hS hL h1 h2)
  · obtain ⟨b, r1, rfl, hs1⟩ := sm_pI_e hs
    obtain ⟨a, r2, rfl, hs2⟩ := sm_pI_e hs1
    obtain rfl : len = 1 := by simpa [sm_okA] using ha
    intro H locs cells slots la hRel hS hL h1 h2
    exact lv_isub hx hb hd ((hK _ _ _ _ hs2).2 H locs cells slots la hRel hS hL h1 h2)
  · obtain ⟨b, r1, rfl, hs1⟩ := sm_pI_e hs
    obtain ⟨a, r2, rfl, hs2⟩ := sm_pI_e hs1
    obtain rfl : len = 1 := by simpa [sm_okA] using ha
    intro H locs cells slots la hRel hS hL h1 h2
    exact lv_imul hx hb hd ((hK _ _ _ _ hs2).2 H locs cells slots la hRel hS hL h1 h2)
  · obtain ⟨b, r1, rfl, hs1⟩ := sm_pI_e hs
    obtain ⟨a, r2, rfl, hs2⟩ := sm_pI_e hs1
    obtain rfl : len = 1 := by simpa [sm_okA] using ha
    intro H locs cells slots la hRel hS hL h1 h2
    exact lv_iand hx hb hd ((hK _ _ _ _ hs2).2 H locs cells slots la hRel hS hL h1 h2)
  · obtain ⟨b, r1, rfl, hs1⟩ := sm_pI_e hs
    obtain ⟨a, r2, rfl, hs2⟩ := sm_pI_e hs1
    obtain rfl : len = 1 := by simpa [sm_okA] using ha
    intro H locs cells slots la hRel hS hL h1 h2
    exact lv_ishr hx hb hd ((hK _ _ _ _ hs2).2 H locs cells slots la hRel hS hL h1 h2)
  · obtain ⟨b, r1, rfl, hs1⟩ := sm_pI_e hs
    obtain ⟨a, r2, rfl, hs2⟩ := sm_pI_e hs1
    obtain rfl : len = 1 := by simpa [sm_okA] using ha
    intro H locs cells slots la hRel hS hL h1 h2
    exact lv_ixor hx hb hd ((hK _ _ _ _ hs2).2 H locs cells slots la hRel hS hL h1 h2)
  · obtain ⟨b, r1, rfl, hs1⟩ := sm_pI_e hs
    obtain ⟨a, r2, rfl, hs2⟩ := sm_pI_e hs1
    obtain rfl : len = 1 := by simpa [sm_okA] using ha
    intro H locs cells slots la hRel hS hL h1 h2
    exact lv_ior hx hb hd ((hK _ _ _ _ hs2).2 H locs cells slots la hRel hS hL h1 h2)
  · obtain ⟨b, r1, rfl, hs1⟩ := sm_pI_e hs
    obtain ⟨a, r2, rfl, hs2⟩ := sm_pI_e hs1
    rcases sm_ite_e hs2 with ⟨-, hs3⟩ | ⟨hne, hs3⟩
    · cases hs3
    obtain rfl : len = 1 := by simpa [sm_okA] using ha
    intro H locs cells slots la hRel hS hL h1 h2
    exact lv_idiv hx hb hd hne ((hK _ _ _ _ hs3).2 H locs cells slots la hRel hS hL h1 h2)
  · obtain ⟨b, r1, rfl, hs1⟩ := sm_pI_e hs
    obtain ⟨a, r2, rfl, hs2⟩ := sm_pI_e hs1
    rcases sm_ite_e hs2 with ⟨-, hs3⟩ | ⟨hne, hs3⟩
    · cases hs3
    obtain rfl : len = 1 := by simpa [sm_okA] using ha
    intro H locs cells slots la hRel hS hL h1 h2
    exact lv_irem hx hb hd hne ((hK _ _ _ _ hs3).2 H locs cells slots la hRel hS hL h1 h2)
  · obtain ⟨a, r1, rfl, hs1⟩ := sm_pV_e hs
    obtain ⟨hc1, hs2⟩ := sm_bif_e hs1
    obtain rfl : len = 1 := by simpa [sm_okA] using ha
    intro H locs cells slots la hRel hS hL h1 h2
    exact lv_dup hx hb hd (sm_cat1_v hHC.2.2.2 hc1) ((hK _ _ _ _ hs2).2 H locs cells slots la hRel hS hL h1 h2)
  · obtain ⟨a, r1, rfl, hs1⟩ := sm_pV_e hs
    obtain ⟨hc1, hs2⟩ := sm_bif_e hs1
    obtain rfl : len = 1 := by simpa [sm_okA] using ha
    intro H locs cells slots la hRel hS hL h1 h2
    exact lv_pop hx hb hd (sm_cat1_v hHC.2.2.2 hc1) ((hK _ _ _ _ hs2).2 H locs cells slots la hRel hS hL h1 h2)
  · obtain ⟨a, r1, rfl, hs1⟩ := sm_pV_e hs
    obtain ⟨b, r2, rfl, hs2⟩ := sm_pV_e hs1
    obtain ⟨hc1, hs3⟩ := sm_bif_e hs2
    rw [Bool.and_eq_true] at hc1
    obtain rfl : len = 1 := by simpa [sm_okA] using ha
    intro H locs cells slots la hRel hS hL h1 h2
    exact lv_dup2_11 hx hb hd (sm_cat1_v hHC.2.2.2 hc1.1) (sm_cat1_v hHC.2.2.2 hc1.2) ((hK _ _ _ _ hs3).2 H locs cells slots la hRel hS hL h1 h2)
  · exact sm_g3 V hok hs
set_option maxHeartbeats 4000000 in
theorem sm_g1 (V : sm_Gv Z P X Y p l e R s mid args below meth c Q m r Cf Sf C K) {i : Instr} {len x y z pc : Nat} {ls : smL} {st : List Value} {h : smH} (hok : sm_okI Z P m pc i len x y z) (hs : sm_s1 P X C K i x y z pc ls st h = some r) : sm_G Z Y p l e R s mid args below meth c Q m r.2 Cf Sf pc ls st h := by
  obtain ⟨F, hK, hC, hret, hCc, hCs⟩ := id V
  obtain ⟨hx, hb, hml, hown, hts, hVC, hHC, hnm, hA, hZ, hRf, hRl⟩ := id F
  obtain ⟨hd, ha, hl⟩ := id hok
  unfold sm_s1 at hs
  split at hs
  · obtain ⟨v, hv, hs1⟩ := sm_gI_e hs
    obtain rfl : len = 1 := by simpa [sm_okA] using ha
    intro H locs cells slots la hRel hS hL h1 h2
    exact lv_iload_n hx hb hd rfl (sm_at_la hL hv) ((hK _ _ _ _ hs1).2 H locs cells slots la hRel hS hL h1 h2)
  · obtain ⟨v, hv, hs1⟩ := sm_gI_e hs
    obtain rfl : len = 2 := by simpa [sm_okA] using ha
    intro H locs cells slots la hRel hS hL h1 h2
    exact lv_iload hx hb hd (sm_at_la hL hv) ((hK _ _ _ _ hs1).2 H locs cells slots la hRel hS hL h1 h2)
  · obtain ⟨v, hv, hi, hs1⟩ := sm_gA_e hs
    obtain rfl : len = 1 := by simpa [sm_okA] using ha
    intro H locs cells slots la hRel hS hL h1 h2
    have hla := sm_at_la hL hv
    have hk := (hK _ _ _ _ hs1).2 H locs cells slots la hRel hS hL h1 h2
    change W p l e R s mid args below meth c H locs cells slots Q (F0 mid _ la (sm_v Y v :: _)) at hk
    rcases sm_isA_v hHC.2.2.2 hi with h0 | ⟨a, h0⟩
    · rw [h0] at hla hk
      exact lv_aload_nN hx hb hd rfl hla hk
    · rw [h0] at hla hk
      exact lv_aload_n hx hb hd rfl hla hk
  · obtain ⟨v, hv, hi, hs1⟩ := sm_gA_e hs
    obtain rfl : len = 2 := by simpa [sm_okA] using ha
    intro H locs cells slots la hRel hS hL h1 h2
    have hla := sm_at_la hL hv
    have hk := (hK _ _ _ _ hs1).2 H locs cells slots la hRel hS hL h1 h2
    change W p l e R s mid args below meth c H locs cells slots Q (F0 mid _ la (sm_v Y v :: _)) at hk
    rcases sm_isA_v hHC.2.2.2 hi with h0 | ⟨a, h0⟩
    · rw [h0] at hla hk
      exact lv_aloadN hx hb hd hla hk
    · rw [h0] at hla hk
      exact lv_aload hx hb hd hla hk
  · obtain ⟨v, hv, hs1⟩ := sm_gJ_e hs
    obtain rfl : len = 1 := by simpa [sm_okA] using ha
    intro H locs cells slots la hRel hS hL h1 h2
    exact lv_lload_n hx hb hd rfl (sm_at_la hL hv) ((hK _ _ _ _ hs1).2 H locs cells slots la hRel hS hL h1 h2)
  · obtain ⟨v, hv, hs1⟩ := sm_gJ_e hs
    obtain rfl : len = 2 := by simpa [sm_okA] using ha
    intro H locs cells slots la hRel hS hL h1 h2
    exact lv_lload hx hb hd (sm_at_la hL hv) ((hK _ _ _ _ hs1).2 H locs cells slots la hRel hS hL h1 h2)
  · rename_i k
    obtain ⟨v, r1, rfl, hs1⟩ := sm_pI_e hs
    have ha' : len = 1 ∧ k.val < zmL Z m := by simpa [sm_okA] using ha
    obtain ⟨rfl, hk⟩ := ha'
    intro H locs cells slots la hRel hS hL h1 h2
    exact lv_istore_n hx hb hd rfl hL hk rfl (fun la hL => (hK _ _ _ _ hs1).2 H locs cells slots la hRel hS (sm_l1_has hHC.2.2.2 rfl hL) h1 h2)
  · rename_i k
    obtain ⟨v, r1, rfl, hs1⟩ := sm_pI_e hs
    have ha' : len = 2 ∧ k < zmL Z m := by simpa [sm_okA] using ha
    obtain ⟨rfl, hk⟩ := ha'
    intro H locs cells slots la hRel hS hL h1 h2
    exact lv_istore hx hb hd hL hk rfl (fun la hL => (hK _ _ _ _ hs1).2 H locs cells slots la hRel hS (sm_l1_has hHC.2.2.2 rfl hL) h1 h2)
  · rename_i k
    obtain ⟨v, hv, hi, hs1⟩ := sm_gA_e hs
    have ha' : len = 1 ∧ k.val < zmL Z m := by simpa [sm_okA] using ha
    obtain ⟨rfl, hk⟩ := ha'
    cases st with
    | nil => cases hv
    | cons w r1 =>
      obtain rfl : w = v := Option.some.inj hv
      intro H locs cells slots la hRel hS hL h1 h2
      have hk2 := fun (la : Array Slot) (hL : lv_has la (zmL Z m) (sm_ml Y _)) => (hK _ _ _ _ hs1).2 H locs cells slots la hRel hS hL h1 h2
      show W p l e R s mid args below meth c H locs cells slots Q (F0 mid pc la (sm_v Y w :: r1.map (sm_v Y)))
      rcases sm_isA_v hHC.2.2.2 hi with h0 | ⟨a, h0⟩
      · rw [h0]
        exact lv_astore_nN hx hb hd rfl hL hk rfl (fun la hL => hk2 la (sm_l1_has hHC.2.2.2 h0 hL))
      · rw [h0]
        exact lv_astore_n hx hb hd rfl hL hk rfl (fun la hL => hk2 la (sm_l1_has hHC.2.2.2 h0 hL))
  · rename_i k
    obtain ⟨v, hv, hi, hs1⟩ := sm_gA_e hs
    have ha' : len = 2 ∧ k < zmL Z m := by simpa [sm_okA] using ha
    obtain ⟨rfl, hk⟩ := ha'
    cases st with
    | nil => cases hv
    | cons w r1 =>
      obtain rfl : w = v := Option.some.inj hv
      intro H locs cells slots la hRel hS hL h1 h2
      have hk2 := fun (la : Array Slot) (hL : lv_has la (zmL Z m) (sm_ml Y _)) => (hK _ _ _ _ hs1).2 H locs cells slots la hRel hS hL h1 h2
      show W p l e R s mid args below meth c H locs cells slots Q (F0 mid pc la (sm_v Y w :: r1.map (sm_v Y)))
      rcases sm_isA_v hHC.2.2.2 hi with h0 | ⟨a, h0⟩
      · rw [h0]
        exact lv_astoreN hx hb hd hL hk rfl (fun la hL => hk2 la (sm_l1_has hHC.2.2.2 h0 hL))
      · rw [h0]
        exact lv_astore hx hb hd hL hk rfl (fun la hL => hk2 la (sm_l1_has hHC.2.2.2 h0 hL))
  · rename_i k
    obtain ⟨v, r1, rfl, hs1⟩ := sm_pJ_e hs
    have ha' : len = 1 ∧ k.val + 1 < zmL Z m := by simpa [sm_okA] using ha
    obtain ⟨rfl, hk⟩ := ha'
    intro H locs cells slots la hRel hS hL h1 h2
    exact lv_lstore_n hx hb hd rfl hL hk rfl (fun la hL => (hK _ _ _ _ hs1).2 H locs cells slots la hRel hS (sm_l2_has hHC.2.2.2 rfl hL) h1 h2)
  · rename_i k
    obtain ⟨v, r1, rfl, hs1⟩ := sm_pJ_e hs
    have ha' : len = 2 ∧ k + 1 < zmL Z m := by simpa [sm_okA] using ha
    obtain ⟨rfl, hk⟩ := ha'
    intro H locs cells slots la hRel hS hL h1 h2
    exact lv_lstore hx hb hd hL hk rfl (fun la hL => (hK _ _ _ _ hs1).2 H locs cells slots la hRel hS (sm_l2_has hHC.2.2.2 rfl hL) h1 h2)
  · rename_i n
    have ha' : len = 1 ∧ Int32.ofInt n = sm_k x y := by simpa [sm_okA] using ha
    obtain ⟨rfl, hn9⟩ := ha'
    intro H locs cells slots la hRel hS hL h1 h2
    exact lv_iconst hx hb hd hn9 ((hK _ _ _ _ hs).2 H locs cells slots la hRel hS hL h1 h2)
  · rename_i n
    have ha' : len = 2 ∧ (Int8.ofInt n).toInt32 = sm_k x y := by simpa [sm_okA] using ha
    obtain ⟨rfl, hn9⟩ := ha'
    intro H locs cells slots la hRel hS hL h1 h2
    exact lv_bipush hx hb hd hn9 ((hK _ _ _ _ hs).2 H locs cells slots la hRel hS hL h1 h2)
  · rename_i n
    have ha' : len = 3 ∧ (Int16.ofInt n).toInt32 = sm_k x y := by simpa [sm_okA] using ha
    obtain ⟨rfl, hn9⟩ := ha'
    intro H locs cells slots la hRel hS hL h1 h2
    exact lv_sipush hx hb hd hn9 ((hK _ _ _ _ hs).2 H locs cells slots la hRel hS hL h1 h2)
  · obtain rfl : len = 1 := by simpa [sm_okA] using ha
    intro H locs cells slots la hRel hS hL h1 h2
    exact lv_null hx hb hd ((hK _ _ _ _ hs).2 H locs cells slots la hRel hS hL h1 h2)
  · exact sm_g2 V hok hs
end SMG
