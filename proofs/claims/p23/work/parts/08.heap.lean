section SMG
variable {Z : smZ} {P : smP} {X : smX} {Y : smY} {p : Program} {l : Launch} {e : Env} {R : Room} {s : State} {mid : MethodId} {args : Array Value} {below : List Frame} {meth : Method} {c : Code} {Q : State → Prop} {m : Nat} {r : Option Value × smH} {Cf Sf : Nat} {C : smCT} {K : smK}
theorem sm_getL {q : vw_C} {idx y : Nat} {H : Heap} {locs : List Loc} {cells slots pc x a : Nat} {la : Array Slot} {rest : List Value} {v : Value} {fs : List Value} (F : sm_Fx Z P X Y p R s mid args meth c m) (hq : (zcl Z)[x]? = some q) (hy : y < q.2.2) (hlink : Cond.fieldLink (zow Z m) idx (q.2.1 y).1 (q.2.1 y).2.1 (q.2.1 y).2.2.1 ∈ zTB Z ∨ ∃ host, Cond.fieldLinkNest (zow Z m) idx (q.2.1 y).1 (q.2.1 y).2.1 (q.2.1 y).2.2.1 host ∈ zNW Z)
    (hcell : va_at Y.1 (zcl Z) (a, .inr (x, fs)) H) (hv : fs[y]? = some v) (hd : decode (zby Z m) pc = .ok (.getfield idx, 3)) (kk : W p l e R s mid args below meth c H locs cells slots Q (F0 mid (pc + 3) la (v :: rest))) : W p l e R s mid args below meth c H locs cells slots Q (F0 mid pc la (.ref a :: rest)) := by
  obtain ⟨hx, hb, hml, hown, hts, hVC, hHC, hnm, hA, hZ, hRf, hRl⟩ := id F
  obtain ⟨z1, -⟩ := hZ.1 x q hq
  rcases hlink with hlink | ⟨host, hlink⟩
  · exact va_get (D := Y.1) (C := q.1) (T := q.2.1) (N := q.2.2) (ci := x) hx hb hts z1 hown (sm_K0 hVC) (sm_one hcell) 0 rfl hq y hy (hts _ hlink) (fun _ h9 => h9) hv hd kk
  · exact va_getN (D := Y.1) (C := q.1) (T := q.2.1) (N := q.2.2) (ci := x) hx hb hts z1 hown (sm_K0 hVC) (sm_one hcell) 0 rfl hq y hy ((hZ.2.2 _ hlink).2.2 args s (hVC.2.1 _ hlink)) (fun _ h9 => h9) hv hd kk
/-- a field's store -/
theorem sm_putL {idx x y z : Nat} {H : Heap} {locs : List Loc} {cells slots pc a : Nat} {la : Array Slot} {rest : List Value} {v : Value} {fs : List Value} {h : smH} (F : sm_Fx Z P X Y p R s mid args meth c m) (hok : sm_okP Z P (zow Z m) (znm Z m).name idx x y z)
    (hv : ∀ ty, sm_pTy P x y z ty → narrow ty v = v ∧ fits ty v = true)
    (hRel : sm_Rel Z Y s h H) (hS : va_S Y.2.1 s.heap H locs) (hh : h.1 a = some (.inr (x, fs))) (hlen : y < fs.length) (hd : decode (zby Z m) pc = .ok (.putfield idx, 3))
    (kk : ∀ (H1 : Heap) (locs1 : List Loc), sm_Rel Z Y s (sm_w h a (.inr (x, fs.set y v))) H1 → va_S Y.2.1 s.heap H1 locs1 → W p l e R s mid args below meth c H1 locs1 cells slots Q (F0 mid (pc + 3) la rest)) : W p l e R s mid args below meth c H locs cells slots Q (F0 mid pc la (v :: .ref a :: rest)) := by
  obtain ⟨hx, hb, hml, hown, hts, hVC, hHC, hnm, hA, hZ, hRf, hRl⟩ := id F
  obtain ⟨q, hq, hy, ⟨ty, hty, htyz⟩, hlink⟩ := hok
  obtain ⟨hn, hfit⟩ := hv ty htyz
  obtain ⟨z1, ⟨ty0, z2, -⟩, -, z5, -⟩ := hZ.1 x q hq
  have hap := va_apart (own := zow Z m) (C := q.1) (T := q.2.1) (N := q.2.2) (ci := x) hts z1 ty0 z2 z5 (sm_K0 hVC) hq
  obtain ⟨ha, q', h1, cell, c1, c2, c3, c4⟩ := hRel.2 a _ hh
  obtain rfl : q' = q := Option.some.inj (h1.symm.trans hq)
  obtain ⟨hSl, hfc, kC, hkC, hkind⟩ := hVC.1 x _ hq
  obtain ⟨cf, kf, fi, f, hi, hsl⟩ := hSl y hy
  have hst := (u_facts hfc hkC (u_lays hts z1 hy) hi).1
  have fin : ∀ H1 : Heap, H1[a]? = some (cell.setSlot f.slot v) → H1.size = H.size → (∀ q : Nat, q ≠ a → H1[q]? = H[q]?) → W p l e R s mid args below meth c H1 (locs ++ [⟨a, f.slot⟩]) cells slots Q (F0 mid (pc + 3) la rest) := fun H1 e1 e2 e3 => by
    rw [hsl] at e1 ⊢
    exact kk H1 _ (hRel.w e2 e3 ha ⟨_, hq, t_OB.to (V := updV (vp_V fs) y v) ⟨_, e1, c2, c3, t_set c4 hap hy v⟩ (fun j _ => vp_updV_set hlen v j)⟩) (hS.put e2 e3 ha)
  rcases hlink with ⟨hf0, hlink⟩ | ⟨hf1, hnmI, hdecl, hlink⟩
  · have hlay := hts _ (z1 _ (u_in_lay hy))
    unfold u_lay at hlay
    rw [if_neg (by rw [hf0]; decide)] at hlay
    have h6 := u_store hfc hkC hkind hlay hi hty hn hfit
    rcases hlink with hlink | ⟨host, hlink⟩
    · exact W.putK hx hb (f := f) ⟨hown, hts _ hlink, ⟨_, _, _, hi⟩, hst⟩ (by rw [c2]; exact h6) c1 c3 (by rw [hsl]; exact k2_hasslot (c4 y hy)) rfl rfl hd fin
    · exact va_WputK hx hb (f := f) hown ((hZ.2.2 _ hlink).2.2 args s (hVC.2.1 _ hlink)) hi hst (by rw [c2]; exact h6) c1 c3 (by rw [hsl]; exact k2_hasslot (c4 y hy)) rfl rfl hd fin
  · have hcf : mid.cls = cf := by
      have hlay := hts _ (z1 _ (u_in_lay hy))
      unfold u_lay at hlay
      rw [if_pos hf1] at hlay
      obtain ⟨_, _, c', _, _, _, -, -, hf', -, -, -, hown2, -⟩ := Cond.laysFinal_spec hlay
      have e1 : cf = c' := congrArg (fun z => z.1) (Option.some.inj (hi.symm.trans hf'))
      rw [hdecl] at hown2
      rw [e1]
      exact Option.some.inj (hown.symm.trans hown2)
    exact W.putFinK hx hb hown (hts _ hlink) hi hst hcf (by rw [hnm]; exact hnmI) (by rw [c2]; exact u_fits hfc hkC hkind (u_lays hts z1 hy) hi hty hn hfit) c1 c3 (by rw [hsl]; exact k2_hasslot (c4 y hy)) rfl rfl hd fin
theorem sm_ldJ_e {o : Option (FieldType × vp_A)} {i : Int32} {κ : Int64 → smR} {r : Option Value × smH} (e : sm_ldJ o i κ = some r) : ∃ n f, o = some (.long, n, .inr (.inl f)) ∧ vp_in i n ∧ κ (f i.toNatClampNeg) = some r := by
  unfold sm_ldJ at e; split at e
  · rename_i t n f
    rcases sm_ite_e e with ⟨h1, e1⟩ | ⟨-, e1⟩
    · rcases sm_ite_e e1 with ⟨-, e2⟩ | ⟨h2, e2⟩
      · cases e2
      · exact ⟨n, f, by rw [h1], h2, e2⟩
    · cases e1
  · cases e
theorem sm_stJ_e {h : smH} {a : Nat} {i : Int32} {x : Int64} {κ : smH → smR} {r : Option Value × smH} (e : sm_stJ h a i x κ = some r) : ∃ n f, h.1 a = some (.inl (.long, n, .inr (.inl f))) ∧ vp_in i n ∧ κ (sm_w h a (.inl (.long, n, .inr (.inl (fun j => if j = i.toNatClampNeg then x else f j))))) = some r := by
  unfold sm_stJ at e; split at e
  · rename_i t n f hh
    rcases sm_ite_e e with ⟨h1, e1⟩ | ⟨-, e1⟩
    · rcases sm_ite_e e1 with ⟨-, e2⟩ | ⟨h2, e2⟩
      · cases e2
      · exact ⟨n, f, by rw [hh, h1], h2, e2⟩
    · cases e1
  · cases e
set_option maxHeartbeats 4000000 in
theorem sm_g3 (V : sm_Gv Z P X Y p l e R s mid args below meth c Q m r Cf Sf C K) {i : Instr} {len x y z pc : Nat} {ls : smL} {st : List Value} {h : smH} (hok : sm_okI Z P m pc i len x y z) (hs : sm_s3 P X C K i x y z pc ls st h = some r) : sm_G Z Y p l e R s mid args below meth c Q m r.2 Cf Sf pc ls st h := by
  obtain ⟨F, hK, hC, hret, hCc, hCs⟩ := id V
  obtain ⟨hx, hb, hml, hown, hts, hVC, hHC, hnm, hA, hZ, hRf, hRl⟩ := id F
  obtain ⟨hd, ha, hl⟩ := id hok
  unfold sm_s3 at hs
  split at hs
  · -- getfield
    rename_i idx
    obtain rfl : len = 3 := by simpa [sm_okA] using ha
    split at hs
    · obtain ⟨a, t, rfl, hs1⟩ := sm_pR_e hs
      obtain ⟨v, hv, hs2⟩ := sm_gI_e hs1
      obtain ⟨fs, hh, hf⟩ := sm_f_e hv
      obtain ⟨q, hq, hy, hlink⟩ := hl
      intro H locs cells slots la hRel hS hL g1 g2
      exact sm_getL F hq hy hlink (hRel.2 a _ hh).2 hf hd ((hK _ _ _ _ hs2).2 H locs cells slots la hRel hS hL g1 g2)
    · obtain ⟨a, t, rfl, hs1⟩ := sm_pR_e hs
      obtain ⟨v, hv, hs2⟩ := sm_gR_e hs1
      obtain ⟨fs, hh, hf⟩ := sm_f_e hv
      obtain ⟨q, hq, hy, hlink⟩ := hl
      intro H locs cells slots la hRel hS hL g1 g2
      exact sm_getL F hq hy hlink (hRel.2 a _ hh).2 hf hd ((hK _ _ _ _ hs2).2 H locs cells slots la hRel hS hL g1 g2)
    · obtain ⟨tg, t, rfl, hs1⟩ := sm_pT_e hs
      obtain ⟨hlt, hs2⟩ := sm_bif_e hs1
      obtain ⟨a0, b0, q1, q2, q3, q4, q5⟩ := hHC.2.1 tg (by unfold Nat.blt at hlt; exact Nat.le_of_ble_eq_true hlt)
      intro H locs cells slots la hRel hS hL g1 g2
      have hfin := (hK _ _ _ _ hs2).2 H locs cells slots la hRel hS hL g1 g2
      rw [List.map_cons, show sm_v Y (.retAddr (tg + 16)) = .ref b0 from q2] at hfin
      rw [List.map_cons, show sm_v Y (.retAddr tg) = .ref a0 from q1]
      exact vk_getf hx hb q5 hS hown (hts _ hl) (fun _ h9 => h9) hd hfin
    · rename_i hz0 hz1 hz2
      obtain ⟨tg, t, rfl, hs1⟩ := sm_pT_e hs
      obtain ⟨hlt, hs2⟩ := sm_bif_e hs1
      obtain ⟨a0, b0, q1, q2, q3, q4, q5⟩ := hHC.2.1 tg (by unfold Nat.blt at hlt; exact Nat.le_of_ble_eq_true hlt)
      intro H locs cells slots la hRel hS hL g1 g2
      have hfin := (hK _ _ _ _ hs2).2 H locs cells slots la hRel hS hL g1 g2
      rw [List.map_cons, show sm_v Y (.retAddr tg) = .ref a0 from q1]
      have hl' := sm_okF3 hz0 hz1 hz2 hl
      exact vk_getf hx hb q4 hS hown (hts _ hl') (fun _ h9 => h9) hd hfin
  · -- putfield
    rename_i idx
    obtain rfl : len = 3 := by simpa [sm_okA] using ha
    split at hs
    · obtain ⟨v, t1, rfl, hs1⟩ := sm_pI_e hs
      obtain ⟨a, t, rfl, hs2⟩ := sm_pR_e hs1
      obtain ⟨fs, hh, hlen, hs3⟩ := sm_fP_e hs2
      intro H locs cells slots la hRel hS hL g1 g2
      exact sm_putL (z := 0) F hl (fun ty h9 => by rw [show ty = .int from h9]; exact ⟨rfl, rfl⟩) hRel hS hh hlen hd (fun H1 locs1 hR1 hS1 => (hK _ _ _ _ hs3).2 H1 locs1 cells slots la hR1 hS1 hL g1 g2)
    · obtain ⟨v, t1, rfl, hs1⟩ := sm_pR_e hs
      obtain ⟨a, t, rfl, hs2⟩ := sm_pR_e hs1
      obtain ⟨fs, hh, hlen, hs3⟩ := sm_fP_e hs2
      intro H locs cells slots la hRel hS hL g1 g2
      exact sm_putL (z := 1) F hl (fun ty h9 => by rcases h9 with ⟨n, rfl⟩ | ⟨t, rfl⟩ <;> exact ⟨rfl, rfl⟩) hRel hS hh hlen hd (fun H1 locs1 hR1 hS1 => (hK _ _ _ _ hs3).2 H1 locs1 cells slots la hR1 hS1 hL g1 g2)
    · rename_i hz0 hz1
      obtain ⟨v, t1, rfl, hs1⟩ := sm_pI_e hs
      obtain ⟨a, t, rfl, hs2⟩ := sm_pR_e hs1
      rcases sm_ite_e hs2 with ⟨hc, hs4⟩ | ⟨-, hs4⟩
      · obtain ⟨fs, hh, hlen, hs3⟩ := sm_fP_e hs4
        intro H locs cells slots la hRel hS hL g1 g2
        exact sm_putL F hl (fun ty h9 => by rw [sm_pTy2 hz0 hz1 h9]; exact hc) hRel hS hh hlen hd (fun H1 locs1 hR1 hS1 => (hK _ _ _ _ hs3).2 H1 locs1 cells slots la hR1 hS1 hL g1 g2)
      · cases hs4
  · -- iaload
    obtain rfl : len = 1 := by simpa [sm_okA] using ha
    obtain ⟨i, t1, rfl, hs1⟩ := sm_pI_e hs
    obtain ⟨a, t, rfl, hs2⟩ := sm_pV_e hs1
    obtain ⟨n, f, hh, hin, hs3⟩ := sm_ld_e hs2
    intro H locs cells slots la hRel hS hL g1 g2
    have hfin := (hK _ _ _ _ hs3).2 H locs cells slots la hRel hS hL g1 g2
    rcases sm_ar_e hh with ⟨b, rfl, hh2⟩ | ⟨tg, rfl, hh2⟩
    · obtain ⟨-, cA, hcA, hcell⟩ := hRel.2 b _ hh2
      exact va_iald (D := Y.1) (cl := zcl Z) (tys := [(cA, .int)]) (ws := [(b, .inl (cA, n, .inl f))]) hx hb (sm_K1 hVC hcA) (sm_one hcell) 0 0 rfl rfl hin hd hfin
    · obtain ⟨b, q1, q2⟩ := hHC.2.2.1 tg _ _ _ hh2
      rw [List.map_cons, List.map_cons, show sm_v Y (.retAddr tg) = .ref b from q1]
      exact va_ti hx hb q2 hS hin rfl hd hfin
  · -- caload
    obtain rfl : len = 1 := by simpa [sm_okA] using ha
    obtain ⟨i, t1, rfl, hs1⟩ := sm_pI_e hs
    obtain ⟨a, t, rfl, hs2⟩ := sm_pV_e hs1
    obtain ⟨n, f, hh, hin, hs3⟩ := sm_ld_e hs2
    intro H locs cells slots la hRel hS hL g1 g2
    have hfin := (hK _ _ _ _ hs3).2 H locs cells slots la hRel hS hL g1 g2
    rcases sm_ar_e hh with ⟨b, rfl, hh2⟩ | ⟨tg, rfl, hh2⟩
    · obtain ⟨-, cA, hcA, hcell⟩ := hRel.2 b _ hh2
      exact va_cald (D := Y.1) (cl := zcl Z) (tys := [(cA, .char)]) (ws := [(b, .inl (cA, n, .inl f))]) hx hb (sm_K1 hVC hcA) (sm_one hcell) 0 0 rfl rfl hin hd hfin
    · obtain ⟨b, q1, q2⟩ := hHC.2.2.1 tg _ _ _ hh2
      rw [List.map_cons, List.map_cons, show sm_v Y (.retAddr tg) = .ref b from q1]
      exact va_tc hx hb q2 hS hin rfl hd hfin
  · -- baload
    obtain rfl : len = 1 := by simpa [sm_okA] using ha
    split at hs
    · obtain ⟨i, t1, rfl, hs1⟩ := sm_pI_e hs
      obtain ⟨a, t, rfl, hs2⟩ := sm_pV_e hs1
      obtain ⟨n, f, hh, hin, hs3⟩ := sm_ld_e hs2
      intro H locs cells slots la hRel hS hL g1 g2
      have hfin := (hK _ _ _ _ hs3).2 H locs cells slots la hRel hS hL g1 g2
      rcases sm_ar_e hh with ⟨b, rfl, hh2⟩ | ⟨tg, rfl, hh2⟩
      · obtain ⟨-, cA, hcA, hcell⟩ := hRel.2 b _ hh2
        exact va_zald (D := Y.1) (cl := zcl Z) (tys := [(cA, .boolean)]) (ws := [(b, .inl (cA, n, .inl f))]) hx hb (sm_K1 hVC hcA) (sm_one hcell) 0 0 rfl rfl hin hd hfin
      · obtain ⟨b, q1, q2⟩ := hHC.2.2.1 tg _ _ _ hh2
        rw [List.map_cons, List.map_cons, show sm_v Y (.retAddr tg) = .ref b from q1]
        exact va_tz hx hb q2 hS hin rfl hd hfin
    · obtain ⟨i, t1, rfl, hs1⟩ := sm_pI_e hs
      obtain ⟨a, t, rfl, hs2⟩ := sm_pV_e hs1
      obtain ⟨n, f, hh, hin, hs3⟩ := sm_ld_e hs2
      intro H locs cells slots la hRel hS hL g1 g2
      have hfin := (hK _ _ _ _ hs3).2 H locs cells slots la hRel hS hL g1 g2
      rcases sm_ar_e hh with ⟨b, rfl, hh2⟩ | ⟨tg, rfl, hh2⟩
      · obtain ⟨-, cA, hcA, hcell⟩ := hRel.2 b _ hh2
        exact va_bald (D := Y.1) (cl := zcl Z) (tys := [(cA, .byte)]) (ws := [(b, .inl (cA, n, .inl f))]) hx hb (sm_K1 hVC hcA) (sm_one hcell) 0 0 rfl rfl hin hd hfin
      · obtain ⟨b, q1, q2⟩ := hHC.2.2.1 tg _ _ _ hh2
        rw [List.map_cons, List.map_cons, show sm_v Y (.retAddr tg) = .ref b from q1]
        exact va_tb hx hb q2 hS hin rfl hd hfin
  · -- aaload
    obtain rfl : len = 1 := by simpa [sm_okA] using ha
    obtain ⟨i, t1, rfl, hs1⟩ := sm_pI_e hs
    obtain ⟨a, t, rfl, hs2⟩ := sm_pR_e hs1
    obtain ⟨ty, n, f, b, hh, hty, hin, hf, hs3⟩ := sm_ldR_e hs2
    intro H locs cells slots la hRel hS hL g1 g2
    have hfin := (hK _ _ _ _ hs3).2 H locs cells slots la hRel hS hL g1 g2
    obtain ⟨-, cA, hcA, hcell⟩ := hRel.2 a _ (sm_ar_ref hh)
    have hlt : i.toNatClampNeg < n := Nat.not_le.mp fun q => hin (Or.inr q)
    exact W.aald (v := .ref b) (ty := ty) hx hb hcell (hcA.1 n (fun j => va_rf (f j))) hty (fun q => by cases q) (by show ¬ (i < 0 ∨ (arrV _ _ _).slots.size ≤ _); rw [arrV_size]; exact hin) (by show (arrV _ _ _).slots[_]? = _; rw [arrV_read _ _ hlt, hf]; rfl) rfl rfl hd hfin
  · -- iastore
    obtain rfl : len = 1 := by simpa [sm_okA] using ha
    obtain ⟨v, t2, rfl, hs0⟩ := sm_pI_e hs
    obtain ⟨i, t1, rfl, hs1⟩ := sm_pI_e hs0
    obtain ⟨a, t, rfl, hs2⟩ := sm_pR_e hs1
    obtain ⟨n, f, hh, hin, hs3⟩ := sm_st_e hs2
    intro H locs cells slots la hRel hS hL g1 g2
    obtain ⟨hAa, cA, hcA, hcell⟩ := hRel.2 a _ hh
    refine W.iast hx hb hcell (hcA.1 n (fun j => .int (f j))) (fun q => by cases q) (by show ¬ (i < 0 ∨ (arrV _ _ _).slots.size ≤ _); rw [arrV_size]; exact hin) rfl rfl hd fun H1 e1 z1 o1 => ?_
    refine (hK _ _ _ _ hs3).2 H1 _ cells slots la (hRel.w z1 o1 hAa ⟨cA, hcA, ?_⟩) (hS.put z1 o1 hAa) hL g1 g2
    rw [e1]
    rw [vp_cell_i, vp_cell_i, arrV_store]
    congr 2
    funext q
    by_cases hq : q = i.toNatClampNeg
    · subst hq
      simp [updV, upd]
      try rfl
    · simp [updV, upd, hq]
  · -- castore
    obtain rfl : len = 1 := by simpa [sm_okA] using ha
    obtain ⟨v, t2, rfl, hs0⟩ := sm_pI_e hs
    obtain ⟨i, t1, rfl, hs1⟩ := sm_pI_e hs0
    obtain ⟨a, t, rfl, hs2⟩ := sm_pR_e hs1
    obtain ⟨n, f, hh, hin, hs3⟩ := sm_st_e hs2
    intro H locs cells slots la hRel hS hL g1 g2
    obtain ⟨hAa, cA, hcA, hcell⟩ := hRel.2 a _ hh
    refine W.cast hx hb hcell (hcA.1 n (fun j => .int (f j))) (fun q => by cases q) (by show ¬ (i < 0 ∨ (arrV _ _ _).slots.size ≤ _); rw [arrV_size]; exact hin) rfl rfl hd fun H1 e1 z1 o1 => ?_
    refine (hK _ _ _ _ hs3).2 H1 _ cells slots la (hRel.w z1 o1 hAa ⟨cA, hcA, ?_⟩) (hS.put z1 o1 hAa) hL g1 g2
    rw [e1]
    rw [vp_cell_i, vp_cell_i, arrV_store]
    congr 2
    funext q
    by_cases hq : q = i.toNatClampNeg
    · subst hq
      simp [updV, upd, vp_nar]
      try rfl
    · simp [updV, upd, hq]
  · -- bastore
    obtain rfl : len = 1 := by simpa [sm_okA] using ha
    obtain ⟨v, t2, rfl, hs0⟩ := sm_pI_e hs
    obtain ⟨i, t1, rfl, hs1⟩ := sm_pI_e hs0
    obtain ⟨a, t, rfl, hs2⟩ := sm_pR_e hs1
    obtain ⟨n, f, hh, hin, hs3⟩ := sm_st_e hs2
    intro H locs cells slots la hRel hS hL g1 g2
    obtain ⟨hAa, cA, hcA, hcell⟩ := hRel.2 a _ hh
    refine W.zast hx hb hcell (hcA.1 n (fun j => .int (f j))) (fun q => by cases q) (by show ¬ (i < 0 ∨ (arrV _ _ _).slots.size ≤ _); rw [arrV_size]; exact hin) rfl rfl hd fun H1 e1 z1 o1 => ?_
    refine (hK _ _ _ _ hs3).2 H1 _ cells slots la (hRel.w z1 o1 hAa ⟨cA, hcA, ?_⟩) (hS.put z1 o1 hAa) hL g1 g2
    rw [e1]
    rw [vp_cell_i, vp_cell_i, arrV_store]
    congr 2
    funext q
    by_cases hq : q = i.toNatClampNeg
    · subst hq
      simp [updV, upd, vp_nar]
      try rfl
    · simp [updV, upd, hq]
  · -- laload
    obtain rfl : len = 1 := by simpa [sm_okA] using ha
    obtain ⟨i, t1, rfl, hs1⟩ := sm_pI_e hs
    obtain ⟨a, t, rfl, hs2⟩ := sm_pR_e hs1
    obtain ⟨n, f, hh, hin, hs3⟩ := sm_ldJ_e hs2
    intro H locs cells slots la hRel hS hL g1 g2
    have hfin := (hK _ _ _ _ hs3).2 H locs cells slots la hRel hS hL g1 g2
    obtain ⟨-, cA, hcA, hcell⟩ := hRel.2 a _ (sm_ar_ref hh)
    exact va_lald (D := Y.1) (cl := zcl Z) (tys := [(cA, .long)]) (ws := [(a, .inl (cA, n, .inr (.inl f)))]) hx hb (sm_K1 hVC hcA) (sm_one hcell) 0 0 rfl rfl hin hd hfin
  · -- lastore
    obtain rfl : len = 1 := by simpa [sm_okA] using ha
    obtain ⟨v, t2, rfl, hs0⟩ := sm_pJ_e hs
    obtain ⟨i, t1, rfl, hs1⟩ := sm_pI_e hs0
    obtain ⟨a, t, rfl, hs2⟩ := sm_pR_e hs1
    obtain ⟨n, f, hh, hin, hs3⟩ := sm_stJ_e hs2
    intro H locs cells slots la hRel hS hL g1 g2
    obtain ⟨hAa, cA, hcA, hcell⟩ := hRel.2 a _ hh
    refine W.last hx hb hcell (hcA.1 n (fun j => .long (f j))) (fun q => by cases q) (by show ¬ (i < 0 ∨ (arrV _ _ _).slots.size ≤ _); rw [arrV_size]; exact hin) rfl rfl hd fun H1 e1 z1 o1 => ?_
    refine (hK _ _ _ _ hs3).2 H1 _ cells slots la (hRel.w z1 o1 hAa ⟨cA, hcA, ?_⟩) (hS.put z1 o1 hAa) hL g1 g2
    rw [e1]
    rw [vp_cell_l, vp_cell_l, arrV_store]
    congr 2
    funext q
    by_cases hq : q = i.toNatClampNeg
    · subst hq
      simp [updV]
      try rfl
    · simp [updV, hq]
  · -- aastore
    obtain rfl : len = 1 := by simpa [sm_okA] using ha
    obtain ⟨v, t2, rfl, hs0⟩ := sm_pR_e hs
    obtain ⟨i, t1, rfl, hs1⟩ := sm_pI_e hs0
    obtain ⟨a, t, rfl, hs2⟩ := sm_pR_e hs1
    obtain ⟨ty, n, f, ci, vs, hh, hhv, hty, hin, hs3⟩ := sm_stR_e hs2
    intro H locs cells slots la hRel hS hL g1 g2
    obtain ⟨hAa, cA, hcA, hcell⟩ := hRel.2 a _ hh
    obtain ⟨hAv, q, hq, cellV, c1, c2, c3, -⟩ := hRel.2 v _ hhv
    have hlt : i.toNatClampNeg < n := Nat.not_le.mp fun q => hin (Or.inr q)
    have h0 : ¬ i < 0 := fun q => hin (Or.inl q)
    have hcls := (hVC.1 ci q hq).2
    obtain ⟨-, -, -, -, hro⟩ := hZ.1 ci q hq
    rw [hro] at hty
    subst hty
    obtain ⟨hAr, kA, comp, k1, k2, k3, k4⟩ := hcA
    have hcomp : comp = Y.1.1 ci := Option.some.inj (k3.symm.trans hcls.1)
    subst hcomp
    obtain ⟨kC, hkC, hkk⟩ := id hcls.2
    refine W.aast hx hb hcell (fun q h => by cases h) (fun h => by cases h) k1 k2 rfl hkC ⟨h0, by show _ < (arrV _ _ _).slots.size; rw [arrV_size]; exact hlt⟩ c1 (fun q h => by rw [c3] at h; cases h) (by rw [c2]; exact hkC) (by rw [c2]; exact va_assign hcls) rfl rfl hd fun H1 e1 z1 o1 => ?_
    refine (hK _ _ _ _ hs3).2 H1 _ cells slots la (hRel.w z1 o1 hAa ⟨cA, ⟨hAr, kA, _, k1, k2, k3, k4⟩, ?_⟩) (hS.put z1 o1 hAa) hL g1 g2
    rw [e1]
    rw [vp_cell_q, vp_cell_q, arrV_store]
    congr 2
    funext q
    by_cases hq : q = i.toNatClampNeg
    · subst hq
      simp [updV, va_up, va_rf]
    · simp [updV, va_up, hq]
  · -- arraylength
    obtain rfl : len = 1 := by simpa [sm_okA] using ha
    obtain ⟨a, t, rfl, hs1⟩ := sm_pV_e hs
    obtain ⟨ty, n, g0, hh, hs2⟩ := sm_al_e hs1
    intro H locs cells slots la hRel hS hL g1 g2
    have hfin := (hK _ _ _ _ hs2).2 H locs cells slots la hRel hS hL g1 g2
    rcases sm_ar_e hh with ⟨b, rfl, hh2⟩ | ⟨tg, rfl, hh2⟩
    · obtain ⟨-, cA, hcA, hcell⟩ := hRel.2 b _ hh2
      exact va_alen (D := Y.1) (cl := zcl Z) (tys := [(cA, ty)]) (ws := [(b, .inl (cA, n, g0))]) hx hb (sm_K1 hVC hcA) (sm_one hcell) 0 0 rfl (ty := ty) rfl rfl hd hfin
    · obtain ⟨ty', n', f', he⟩ := sm_oA_i hh2
      cases he
      obtain ⟨b, q1, q2⟩ := hHC.2.2.1 tg _ _ _ hh2
      rw [List.map_cons, show sm_v Y (.retAddr tg) = .ref b from q1]
      exact va_tlen hx hb q2 hS rfl hd hfin
  · exact sm_g4 V hok hs
end SMG
