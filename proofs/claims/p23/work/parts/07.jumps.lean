section SMG
variable {Z : smZ} {P : smP} {X : smX} {Y : smY} {p : Program} {l : Launch} {e : Env} {R : Room} {s : State} {mid : MethodId} {args : Array Value} {below : List Frame} {meth : Method} {c : Code} {Q : State → Prop} {m : Nat} {r : Option Value × smH} {Cf Sf : Nat} {C : smCT} {K : smK}
set_option maxHeartbeats 4000000 in
theorem sm_g4 (V : sm_Gv Z P X Y p l e R s mid args below meth c Q m r Cf Sf C K) {i : Instr} {len x y z pc : Nat} {ls : smL} {st : List Value} {h : smH} (hok : sm_okI Z P m pc i len x y z) (hs : sm_s4 P C K i x y z pc ls st h = some r) : sm_G Z Y p l e R s mid args below meth c Q m r.2 Cf Sf pc ls st h := by
  obtain ⟨F, hK, hC, hret, hCc, hCs⟩ := id V
  obtain ⟨hx, hb, hml, hown, hts, hVC, hHC, hnm, hA, hZ, hRf, hRl⟩ := id F
  obtain ⟨hd, ha, hl⟩ := id hok
  unfold sm_s4 at hs
  split at hs
  · rename_i o
    have ha' : len = 3 ∧ 0 ≤ (pc : Int) + o := by simpa [sm_okA] using ha
    obtain ⟨rfl, ho⟩ := ha'
    intro H locs cells slots la hRel hS hL h1 h2
    exact lv_goto hx hb hd (sm_tg_e ho) ((hK _ _ _ _ hs).2 H locs cells slots la hRel hS hL h1 h2)
  · rename_i o
    have ha' : len = 3 ∧ 0 ≤ (pc : Int) + o := by simpa [sm_okA] using ha
    obtain ⟨rfl, ho⟩ := ha'
    obtain ⟨b, r1, rfl, hs1⟩ := sm_pI_e hs
    intro H locs cells slots la hRel hS hL h1 h2
    split at hs1
    · exact lv_if_eq hx hb hd (sm_tg_e ho) (fun hc => (hK _ _ _ _ ((if_pos hc).symm.trans hs1)).2 H locs cells slots la hRel hS hL h1 h2) (fun hc => (hK _ _ _ _ ((if_neg hc).symm.trans hs1)).2 H locs cells slots la hRel hS hL h1 h2)
    · exact lv_if_ne hx hb hd (sm_tg_e ho) (fun hc => (hK _ _ _ _ ((if_neg hc).symm.trans hs1)).2 H locs cells slots la hRel hS hL h1 h2) (fun hc => (hK _ _ _ _ ((if_pos hc).symm.trans hs1)).2 H locs cells slots la hRel hS hL h1 h2)
    · exact lv_if_lt hx hb hd (sm_tg_e ho) (fun hc => (hK _ _ _ _ ((if_pos hc).symm.trans hs1)).2 H locs cells slots la hRel hS hL h1 h2) (fun hc => (hK _ _ _ _ ((if_neg hc).symm.trans hs1)).2 H locs cells slots la hRel hS hL h1 h2)
    · exact lv_if_ge hx hb hd (sm_tg_e ho) (fun hc => (hK _ _ _ _ ((if_pos hc).symm.trans hs1)).2 H locs cells slots la hRel hS hL h1 h2) (fun hc => (hK _ _ _ _ ((if_neg hc).symm.trans hs1)).2 H locs cells slots la hRel hS hL h1 h2)
    · exact lv_if_gt hx hb hd (sm_tg_e ho) (fun hc => (hK _ _ _ _ ((if_pos hc).symm.trans hs1)).2 H locs cells slots la hRel hS hL h1 h2) (fun hc => (hK _ _ _ _ ((if_neg hc).symm.trans hs1)).2 H locs cells slots la hRel hS hL h1 h2)
    · exact lv_if_le hx hb hd (sm_tg_e ho) (fun hc => (hK _ _ _ _ ((if_pos hc).symm.trans hs1)).2 H locs cells slots la hRel hS hL h1 h2) (fun hc => (hK _ _ _ _ ((if_neg hc).symm.trans hs1)).2 H locs cells slots la hRel hS hL h1 h2)
  · rename_i o
    have ha' : len = 3 ∧ 0 ≤ (pc : Int) + o := by simpa [sm_okA] using ha
    obtain ⟨rfl, ho⟩ := ha'
    obtain ⟨b, r1, rfl, hs1⟩ := sm_pI_e hs
    obtain ⟨a, r2, rfl, hs2⟩ := sm_pI_e hs1
    intro H locs cells slots la hRel hS hL h1 h2
    split at hs2
    · exact lv_icmp_eq hx hb hd (sm_tg_e ho) (fun hc => (hK _ _ _ _ ((if_pos hc).symm.trans hs2)).2 H locs cells slots la hRel hS hL h1 h2) (fun hc => (hK _ _ _ _ ((if_neg hc).symm.trans hs2)).2 H locs cells slots la hRel hS hL h1 h2)
    · exact lv_icmp_ne hx hb hd (sm_tg_e ho) (fun hc => (hK _ _ _ _ ((if_neg hc).symm.trans hs2)).2 H locs cells slots la hRel hS hL h1 h2) (fun hc => (hK _ _ _ _ ((if_pos hc).symm.trans hs2)).2 H locs cells slots la hRel hS hL h1 h2)
    · exact lv_icmp_lt hx hb hd (sm_tg_e ho) (fun hc => (hK _ _ _ _ ((if_pos hc).symm.trans hs2)).2 H locs cells slots la hRel hS hL h1 h2) (fun hc => (hK _ _ _ _ ((if_neg hc).symm.trans hs2)).2 H locs cells slots la hRel hS hL h1 h2)
    · exact lv_icmp_ge hx hb hd (sm_tg_e ho) (fun hc => (hK _ _ _ _ ((if_pos hc).symm.trans hs2)).2 H locs cells slots la hRel hS hL h1 h2) (fun hc => (hK _ _ _ _ ((if_neg hc).symm.trans hs2)).2 H locs cells slots la hRel hS hL h1 h2)
    · exact lv_icmp_gt hx hb hd (sm_tg_e ho) (fun hc => (hK _ _ _ _ ((if_pos hc).symm.trans hs2)).2 H locs cells slots la hRel hS hL h1 h2) (fun hc => (hK _ _ _ _ ((if_neg hc).symm.trans hs2)).2 H locs cells slots la hRel hS hL h1 h2)
    · exact lv_icmp_le hx hb hd (sm_tg_e ho) (fun hc => (hK _ _ _ _ ((if_pos hc).symm.trans hs2)).2 H locs cells slots la hRel hS hL h1 h2) (fun hc => (hK _ _ _ _ ((if_neg hc).symm.trans hs2)).2 H locs cells slots la hRel hS hL h1 h2)
  · rename_i o
    have ha' : len = 3 ∧ 0 ≤ (pc : Int) + o := by simpa [sm_okA] using ha
    obtain ⟨rfl, ho⟩ := ha'
    intro H locs cells slots la hRel hS hL h1 h2
    split at hs
    · exact lv_ifnull hx hb hd ((hK _ _ _ _ hs).2 H locs cells slots la hRel hS hL h1 h2)
    · exact lv_ifnullN hx hb hd (sm_tg_e ho) ((hK _ _ _ _ hs).2 H locs cells slots la hRel hS hL h1 h2)
    · cases hs
  · rename_i o
    have ha' : len = 3 ∧ 0 ≤ (pc : Int) + o := by simpa [sm_okA] using ha
    obtain ⟨rfl, ho⟩ := ha'
    intro H locs cells slots la hRel hS hL h1 h2
    split at hs
    · exact lv_ifnonnull hx hb hd (sm_tg_e ho) ((hK _ _ _ _ hs).2 H locs cells slots la hRel hS hL h1 h2)
    · exact lv_ifnonnullN hx hb hd ((hK _ _ _ _ hs).2 H locs cells slots la hRel hS hL h1 h2)
    · cases hs
  · rename_i k n
    obtain ⟨v, hv, hs1⟩ := sm_gI_e hs
    have ha' : (len = 3 ∧ k < zmL Z m) ∧ Int32.ofInt n = sm_k x y := by simpa [sm_okA] using ha
    obtain ⟨⟨rfl, hk⟩, hn9⟩ := ha'
    intro H locs cells slots la hRel hS hL h1 h2
    obtain ⟨j, hj⟩ := List.getElem?_of_mem (List.mem_map.mpr ⟨(k, Value.int v), sm_lg_mem hv, rfl⟩ : (k, sm_v Y (.int v)) ∈ sm_ml Y ls)
    exact lv_iinc hx hb hd hL hj (by rw [hn9]) hk rfl (fun la hL => (hK _ _ _ _ hs1).2 H locs cells slots la hRel hS (sm_l1_has hHC.2.2.2 rfl hL) h1 h2)
  · exact sm_g5 V hok hs
end SMG
