theorem vr_outer (c : ClassId) (N h0 : Nat) : ∀ i : Nat, Jvm.Free.Multi.outerC c N h0 i = arrV c N (fun j => va_rf (if j < i then some (h0 + 1 + j) else none))
  | 0 => by
    show ({ cls := c, slots := Array.replicate N .null, vm := .none } : Cell) = _
    rw [arrV_new]
    refine congrArg (arrV c N) (funext fun j => ?_)
    simp [va_rf]
  | i + 1 => by
    show (Jvm.Free.Multi.outerC c N h0 i).setSlot i (.ref (h0 + 1 + i)) = _
    rw [vr_outer c N h0 i, arrV_store]
    refine congrArg (arrV c N) (funext fun j => ?_)
    by_cases e : j = i
    · subst e
      simp [updV, va_rf]
    · by_cases h : j < i
      · simp [updV, e, h, Nat.lt_succ_of_lt h]
      · simp [updV, e, h, show ¬ j < i + 1 by omega]
section SMG
variable {Z : smZ} {P : smP} {X : smX} {Y : smY} {p : Program} {l : Launch} {e : Env} {R : Room} {s : State} {mid : MethodId} {args : Array Value} {below : List Frame} {meth : Method} {c : Code} {Q : State → Prop} {m : Nat} {r : Option Value × smH} {Cf Sf : Nat} {C : smCT} {K : smK}
theorem sm_new_S {H0 H H1 : Heap} {A : Nat → Prop} {locs : List Loc} {n : Nat} (hS : va_S A H0 H locs) (hn : n = H.size) (z : n ≤ H1.size) (oq : ∀ q : Nat, q < n → H1[q]? = H[q]?) : va_S A H0 H1 locs :=
  ⟨Nat.le_trans hS.1 (by omega), fun q h1 h2 => (oq q (by have := hS.1; omega)).trans (hS.2.1 q h1 h2), hS.2.2⟩
theorem sm_bytes {t : ArrayType} {N : Nat} (h : ¬ 1000000 < N) : N * componentBytes (newarray.typeOf t) ≤ 536870912 := by
  have h8 : componentBytes (newarray.typeOf t) ≤ 8 := by cases t <;> decide
  have := Nat.mul_le_mul_left N h8
  omega
theorem sm_bif2_e {c : Bool} {a b : smR} {r : Option Value × smH} (h : (bif c then a else b) = some r) : (c = true ∧ a = some r) ∨ (c = false ∧ b = some r) := by
  cases c
  · exact Or.inr ⟨rfl, h⟩
  · exact Or.inl ⟨rfl, h⟩
set_option maxHeartbeats 4000000 in
theorem sm_g5 (V : sm_Gv Z P X Y p l e R s mid args below meth c Q m r Cf Sf C K) {i : Instr} {len x y z pc : Nat} {ls : smL} {st : List Value} {h : smH} (hok : sm_okI Z P m pc i len x y z) (hs : sm_s5 P C K i x y z pc ls st h = some r) : sm_G Z Y p l e R s mid args below meth c Q m r.2 Cf Sf pc ls st h := by
  obtain ⟨F, hK, hC, hret, hCc, hCs⟩ := id V
  obtain ⟨hx, hb, hml, hown, hts, hVC, hHC, hnm, hA, hZ, hRf, hRl⟩ := id F
  obtain ⟨hd, ha, hl⟩ := id hok
  unfold sm_s5 at hs
  split at hs
  · -- new
    obtain rfl : len = 3 := by simpa [sm_okA] using ha
    obtain ⟨q, hq, q1, q2, q3⟩ := hl
    obtain ⟨z1, ⟨ty, z2, z3⟩, z4, -⟩ := hZ.1 x q hq
    obtain ⟨hle, hg⟩ := hK _ _ _ _ hs
    have hle1 : sm_le h (sm_n h (.inr (x, P.2.2.1 x)) (P.2.2.1 x).length) := sm_le.n
    intro H locs cells slots la hRel hS hL g1 g2
    obtain ⟨hf, g3, g4⟩ := sm_room (R := R) hle1 hle g1 g2 hCc hCs
    have e1 : (sm_n h (.inr (x, P.2.2.1 x)) (P.2.2.1 x).length).2.1 - h.2.1 = 1 := by show h.2.1 + 1 - h.2.1 = 1; omega
    have e2 : (sm_n h (.inr (x, P.2.2.1 x)) (P.2.2.1 x).length).2.2 - h.2.2 = q.2.2 := by show h.2.2 + (P.2.2.1 x).length - h.2.2 = _; rw [z4]; omega
    rw [e1, e2] at hf
    rw [e1] at g3
    rw [e2] at g4
    have hKn := hVC.1 x q hq
    refine W.newcK hx hb hown (hts _ q1) (hts _ q2) (hts _ q3) rfl hd hf.1 hf.2 hKn.2.1 hRel.1.symm fun H1 kC hkC e1 z1' o1 => ?_
    exact hg H1 locs _ _ la (hRel.n z1' o1 (hA _ (by rw [hRel.1]; exact hS.1)) ⟨q, hq, (u_born ty hts z1 hKn hkC e1 z2).to z3⟩) (sm_new_S hS hRel.1 (by omega) o1) hL g3 g4
  · -- newarray
    rename_i t
    obtain ⟨n, t0, rfl, hs1⟩ := sm_pI_e hs
    rcases sm_ite_e hs1 with ⟨-, hs2⟩ | ⟨hn, hs2⟩
    · cases hs2
    obtain rfl : len = 2 := by simpa [sm_okA] using ha
    rcases sm_bif2_e hs2 with ⟨hdf, hs3⟩ | ⟨-, hs4⟩
    · have hn1 : ¬ n < 0 := fun q => hn (Or.inl q)
      have hn2 : ¬ 1000000 < n.toNatClampNeg := fun q => hn (Or.inr q)
      obtain ⟨hle, hg⟩ := hK _ _ _ _ hs3
      generalize hce : (Sum.inl (newarray.typeOf t, n.toNatClampNeg, Sum.inl (fun _ => 0)) : smC) = ce at hs3 hle hg
      have hle1 : sm_le h (sm_n h ce n.toNatClampNeg) := sm_le.n
      intro H locs cells slots la hRel hS hL g1 g2
      obtain ⟨hf, g3, g4⟩ := sm_room (R := R) hle1 hle g1 g2 hCc hCs
      have e1 : (sm_n h ce n.toNatClampNeg).2.1 - h.2.1 = 1 := by show h.2.1 + 1 - h.2.1 = 1; omega
      have e2 : (sm_n h ce n.toNatClampNeg).2.2 - h.2.2 = n.toNatClampNeg := by show h.2.2 + n.toNatClampNeg - h.2.2 = _; omega
      rw [e1, e2] at hf
      rw [e1] at g3
      rw [e2] at g4
      refine va_newaK hx hb (hts _ hl) rfl hd rfl hn1 rfl (sm_bytes hn2) hf.1 hf.2 hRel.1.symm fun H1 cA e1 z1 o1 hAr hNm => ?_
      refine hg H1 locs _ _ la (hRel.n z1 o1 (hA _ (by rw [hRel.1]; exact hS.1)) ?_) (sm_new_S hS hRel.1 (by omega) o1) hL g3 g4
      rw [← hce]
      refine ⟨cA, ⟨hAr, by cases t <;> exact hNm⟩, ?_⟩
      rw [e1, vp_cell_i]
      cases t <;> first | rfl | cases hdf
    · obtain ⟨hdf, hs3⟩ := sm_bif_e hs4
      have hn1 : ¬ n < 0 := fun q => hn (Or.inl q)
      have hn2 : ¬ 1000000 < n.toNatClampNeg := fun q => hn (Or.inr q)
      obtain ⟨hle, hg⟩ := hK _ _ _ _ hs3
      generalize hce : (Sum.inl (newarray.typeOf t, n.toNatClampNeg, Sum.inr (Sum.inl (fun _ => 0))) : smC) = ce at hs3 hle hg
      have hle1 : sm_le h (sm_n h ce n.toNatClampNeg) := sm_le.n
      intro H locs cells slots la hRel hS hL g1 g2
      obtain ⟨hf, g3, g4⟩ := sm_room (R := R) hle1 hle g1 g2 hCc hCs
      have e1 : (sm_n h ce n.toNatClampNeg).2.1 - h.2.1 = 1 := by show h.2.1 + 1 - h.2.1 = 1; omega
      have e2 : (sm_n h ce n.toNatClampNeg).2.2 - h.2.2 = n.toNatClampNeg := by show h.2.2 + n.toNatClampNeg - h.2.2 = _; omega
      rw [e1, e2] at hf
      rw [e1] at g3
      rw [e2] at g4
      refine va_newaK hx hb (hts _ hl) rfl hd rfl hn1 rfl (sm_bytes hn2) hf.1 hf.2 hRel.1.symm fun H1 cA e1 z1 o1 hAr hNm => ?_
      refine hg H1 locs _ _ la (hRel.n z1 o1 (hA _ (by rw [hRel.1]; exact hS.1)) ?_) (sm_new_S hS hRel.1 (by omega) o1) hL g3 g4
      rw [← hce]
      refine ⟨cA, ⟨hAr, by cases t <;> exact hNm⟩, ?_⟩
      rw [e1, vp_cell_l]
      cases t <;> first | rfl | cases hdf
  · -- anewarray
    rename_i idx
    obtain ⟨n, t0, rfl, hs1⟩ := sm_pI_e hs
    rcases sm_ite_e hs1 with ⟨-, hs3⟩ | ⟨hn, hs3⟩
    · cases hs3
    obtain rfl : len = 3 := by simpa [sm_okA] using ha
    obtain ⟨C0, q0, q1, q2⟩ := hl
    have hn1 : ¬ n < 0 := fun q => hn (Or.inl q)
    have hn2 : ¬ 1000000 < n.toNatClampNeg := fun q => hn (Or.inr q)
    obtain ⟨hle, hg⟩ := hK _ _ _ _ hs3
    rw [q0] at hg hle
    generalize hce : (Sum.inl (FieldType.object C0, n.toNatClampNeg, Sum.inr (Sum.inr (Sum.inr (Sum.inr (fun _ => none))))) : smC) = ce at hle hg
    have hle1 : sm_le h (sm_n h ce n.toNatClampNeg) := sm_le.n
    intro H locs cells slots la hRel hS hL g1 g2
    obtain ⟨hf, g3, g4⟩ := sm_room (R := R) hle1 hle g1 g2 hCc hCs
    have e1 : (sm_n h ce n.toNatClampNeg).2.1 - h.2.1 = 1 := by show h.2.1 + 1 - h.2.1 = 1; omega
    have e2 : (sm_n h ce n.toNatClampNeg).2.2 - h.2.2 = n.toNatClampNeg := by show h.2.2 + n.toNatClampNeg - h.2.2 = _; omega
    rw [e1, e2] at hf
    rw [e1] at g3
    rw [e2] at g4
    refine W.anew hx hb hown (hts _ q1) ((hZ.2.2 _ q2).2.2 args s (hVC.2.1 _ q2)) rfl hd rfl hn1 (by omega) hf.1 hf.2 fun cA kA comp f1 f2 f3 f4 => ?_
    generalize hH1 : H.push ({ cls := cA, slots := Array.replicate n.toNatClampNeg .null, vm := .none } : Cell) = H1
    have z1 : H1.size = h.2.1 + 1 := by rw [← hH1, Array.size_push, hRel.1]
    have e1 : H1[h.2.1]? = some (arrV cA n.toNatClampNeg (fun _ => .null)) := by rw [← hH1, hRel.1, Array.getElem?_push_size, ← arrV_new]
    have o1 : ∀ q : Nat, q < h.2.1 → H1[q]? = H[q]? := fun q hq => by rw [← hH1, Array.getElem?_push, if_neg (by rw [← hRel.1]; exact Nat.ne_of_lt hq)]
    have hfin := hg H1 locs _ _ la (hRel.n z1 o1 (hA _ (by rw [hRel.1]; exact hS.1)) (by
      rw [← hce]
      exact ⟨cA, ⟨fun N z => ⟨(fun k h => by cases h), kA, f2, comp, f3⟩, kA, comp, f2, f3, f4, f1⟩, e1⟩)) (sm_new_S hS hRel.1 (by omega) o1) hL g3 g4
    rw [List.map_cons, show sm_v Y (.ref h.2.1) = .ref H.size from by rw [← hRel.1]; rfl] at hfin
    exact hfin
  · -- multianewarray
    rename_i idx dd
    obtain ⟨k, t0, rfl, hs1⟩ := sm_pI_e hs
    obtain ⟨n, t1, rfl, hs2⟩ := sm_pI_e hs1
    rcases sm_ite_e hs2 with ⟨-, hs3⟩ | ⟨hn, hs3⟩
    · cases hs3
    have ha' : len = 4 ∧ dd = 2 := by simpa [sm_okA] using ha
    obtain ⟨rfl, rfl⟩ := ha'
    obtain ⟨q0, q1, q2⟩ := hl
    obtain ⟨hle, hg⟩ := hK _ _ _ _ hs3
    have hn1 : ¬ n < 0 := fun q => hn (Or.inl (Or.inl q))
    have hn2 : ¬ 1000000 < n.toNatClampNeg := fun q => hn (Or.inl (Or.inr q))
    have hk1 : ¬ k < 0 := fun q => hn (Or.inr (Or.inl q))
    have hk2 : ¬ 1000000 < k.toNatClampNeg := fun q => hn (Or.inr (Or.inr q))
    have hle1 : sm_le h (sm_mn h n.toNatClampNeg k.toNatClampNeg) := sm_le.mn
    intro H locs cells slots la hRel hS hL g1 g2
    obtain ⟨hf, g3, g4⟩ := sm_room (R := R) hle1 hle g1 g2 hCc hCs
    have e1 : (sm_mn h n.toNatClampNeg k.toNatClampNeg).2.1 - h.2.1 = 1 + n.toNatClampNeg := by show h.2.1 + 1 + n.toNatClampNeg - h.2.1 = _; omega
    have e2 : (sm_mn h n.toNatClampNeg k.toNatClampNeg).2.2 - h.2.2 = n.toNatClampNeg + n.toNatClampNeg * k.toNatClampNeg := by show h.2.2 + (n.toNatClampNeg + n.toNatClampNeg * k.toNatClampNeg) - h.2.2 = _; omega
    rw [e1, e2] at hf
    rw [e1] at g3
    rw [e2] at g4
    have hnm : "[" ++ (FieldType.array .int).toString = "[[I" := by decide
    intro T hT Xs
    obtain ⟨vm₁, cA, comp, -, fA, fC, hO, hI, X', step⟩ := Stand.multianewarray2F Xs hx hown (ty := .int) (by rw [hnm]; exact hts _ q0) ((hZ.2.2 _ q1).2.2 args s (hVC.2.1 _ q1)) (hts _ q2) (g := F0 mid pc la (.int k :: .int n :: t1.map (sm_v Y))) rfl (by rw [hb]; exact hd) rfl hn1 hk1 (by omega) (by show k.toNatClampNeg * 4 ≤ _; omega) (by omega) rfl rfl hf.1 hf.2
    generalize hF : Jvm.Free.Multi.fill (T.setVm vm₁) cA comp n.toNatClampNeg k.toNatClampNeg (defaultValue .int) n.toNatClampNeg = F1 at X' step
    have hTh : (T.setVm vm₁).heap = H := hT
    obtain ⟨f1, f2, -, -⟩ := Jvm.Free.Multi.fill_facts (T.setVm vm₁) cA comp n.toNatClampNeg k.toNatClampNeg (defaultValue .int) n.toNatClampNeg
    rw [hF, hTh] at f1 f2
    have hold : ∀ q : Nat, q < H.size → F1.heap[q]? = H[q]? := fun q hq => by
      have h9 := Jvm.Free.Multi.fill_old (T.setVm vm₁) cA comp n.toNatClampNeg k.toNatClampNeg (defaultValue .int) (a := q) (by rw [hTh]; exact hq) n.toNatClampNeg
      rw [hF, hTh] at h9
      exact h9
    have hrow : ∀ j : Nat, j < n.toNatClampNeg → F1.heap[H.size + 1 + j]? = some (vp_cell comp (k.toNatClampNeg, .inl (fun _ => 0))) := fun j hj => by
      have h9 := Jvm.Free.Multi.fill_inner (T.setVm vm₁) cA comp n.toNatClampNeg k.toNatClampNeg (defaultValue .int) n.toNatClampNeg j hj
      rw [hF, hTh] at h9
      rw [h9, vp_cell_i, ← arrV_new]
      rfl
    rw [vr_outer] at f2
    have hrel1 : sm_Rel Z Y s (sm_mn h n.toNatClampNeg k.toNatClampNeg) F1.heap := by
      refine ⟨by rw [f1, ← hRel.1]; rfl, fun b e' he => ?_⟩
      have he' : (if b = h.2.1 then some (Sum.inl (FieldType.array .int, n.toNatClampNeg, Sum.inr (Sum.inr (Sum.inr (Sum.inr (fun i => if i < n.toNatClampNeg then some (h.2.1 + 1 + i) else none)))))) else if h.2.1 < b ∧ b ≤ h.2.1 + n.toNatClampNeg then some (Sum.inl (FieldType.int, k.toNatClampNeg, Sum.inl (fun _ => 0))) else h.1 b : Option smC) = some e' := he
      by_cases hb1 : b = h.2.1
      · rw [if_pos hb1] at he'
        cases he'
        rw [hb1]
        refine ⟨hA _ (by rw [hRel.1]; exact hS.1), cA, ⟨fun N9 z9 => ?_, fA⟩, ?_⟩
        · obtain ⟨-, k9, hk9, cm9, hkk9⟩ := (hO 0 0 0).1
          exact ⟨(fun q hq => by cases hq), k9, hk9, cm9, hkk9⟩
        · show F1.heap[h.2.1]? = some (vp_cell cA (n.toNatClampNeg, _))
          rw [vp_cell_q, hRel.1]
          exact f2
      · rw [if_neg hb1] at he'
        by_cases hb2 : h.2.1 < b ∧ b ≤ h.2.1 + n.toNatClampNeg
        · rw [if_pos hb2] at he'
          cases he'
          refine ⟨hA _ (by have := hS.1; have := hRel.1; omega), comp, ⟨fun N9 z9 => ?_, fC⟩, ?_⟩
          · obtain ⟨-, k9, hk9, cm9, hkk9⟩ := (hI 0 (.int 0)).1
            exact ⟨(fun q hq => by cases hq), k9, hk9, cm9, hkk9⟩
          · have h9 := hrow (b - h.2.1 - 1) (by omega)
            rw [← hRel.1, show h.2.1 + 1 + (b - h.2.1 - 1) = b by omega] at h9
            exact h9
        · rw [if_neg hb2] at he'
          have h2 := hRel.2 b e' he'
          exact ⟨h2.1, h2.2.kept (hold b h2.2.lt)⟩
    have hS1 : va_S Y.2.1 s.heap F1.heap locs := sm_new_S hS rfl (by rw [f1]; omega) hold
    have hfin := hg F1.heap locs _ _ la hrel1 hS1 hL g3 g4 F1 rfl (by rw [Nat.add_assoc] at X'; rw [Nat.add_assoc] at X'; exact X')
    rw [List.map_cons, show sm_v Y (.ref h.2.1) = .ref H.size from by rw [← hRel.1]; rfl] at hfin
    obtain ⟨t, a1, b1⟩ := hfin
    refine ⟨t, step t ?_, b1⟩
    rw [show T.heap.size = H.size by rw [hT]]
    exact a1
  · -- ldc
    rename_i idx
    obtain rfl : len = 2 := by simpa [sm_okA] using ha
    split at hs
    · intro H locs cells slots la hRel hS hL g1 g2
      exact lv_ldc hx hb hown (hts _ hl) hd ((hK _ _ _ _ hs).2 H locs cells slots la hRel hS hL g1 g2)
    · obtain ⟨tx, hl⟩ := hl
      obtain ⟨a, h1, h2⟩ := hVC.2.2 _ hl
      intro H locs cells slots la hRel hS hL g1 g2
      have hfin := (hK _ _ _ _ hs).2 H locs cells slots la hRel hS hL g1 g2
      rw [List.map_cons, show sm_v Y (.retAddr x) = .ref a from h1] at hfin
      exact va_ldcS hx hb hown h2 hd hfin
  · -- ldc2_w
    obtain rfl : len = 3 := by simpa [sm_okA] using ha
    intro H locs cells slots la hRel hS hL g1 g2
    exact lv_ldc2 hx hb hown (hts _ hl) hd ((hK _ _ _ _ hs).2 H locs cells slots la hRel hS hL g1 g2)
  · obtain ⟨a, r1, rfl, hs1⟩ := sm_pI_e hs
    obtain rfl : len = 1 := by simpa [sm_okA] using ha
    intro H locs cells slots la hRel hS hL g1 g2
    exact lv_i2c hx hb hd rfl ((hK _ _ _ _ hs1).2 H locs cells slots la hRel hS hL g1 g2)
  · obtain ⟨a, r1, rfl, hs1⟩ := sm_pJ_e hs
    obtain rfl : len = 1 := by simpa [sm_okA] using ha
    intro H locs cells slots la hRel hS hL g1 g2
    exact lv_l2i hx hb hd rfl ((hK _ _ _ _ hs1).2 H locs cells slots la hRel hS hL g1 g2)
  · obtain rfl : len = 1 := by simpa [sm_okA] using ha
    intro H locs cells slots la hRel hS hL g1 g2
    exact lv_lconst hx hb hd rfl ((hK _ _ _ _ hs).2 H locs cells slots la hRel hS hL g1 g2)
  · obtain ⟨b, r1, rfl, hs1⟩ := sm_pJ_e hs
    obtain ⟨a, r2, rfl, hs2⟩ := sm_pJ_e hs1
    rcases sm_ite_e hs2 with ⟨-, hs3⟩ | ⟨hne, hs3⟩
    · cases hs3
    obtain rfl : len = 1 := by simpa [sm_okA] using ha
    intro H locs cells slots la hRel hS hL g1 g2
    exact lv_ldiv hx hb hd hne ((hK _ _ _ _ hs3).2 H locs cells slots la hRel hS hL g1 g2)
  · obtain ⟨b, r1, rfl, hs1⟩ := sm_pJ_e hs
    obtain ⟨a, r2, rfl, hs2⟩ := sm_pJ_e hs1
    rcases sm_ite_e hs2 with ⟨-, hs3⟩ | ⟨hne, hs3⟩
    · cases hs3
    obtain rfl : len = 1 := by simpa [sm_okA] using ha
    intro H locs cells slots la hRel hS hL g1 g2
    exact lv_lrem hx hb hd hne ((hK _ _ _ _ hs3).2 H locs cells slots la hRel hS hL g1 g2)
  · obtain ⟨b, r1, rfl, hs1⟩ := sm_pJ_e hs
    obtain ⟨a, r2, rfl, hs2⟩ := sm_pJ_e hs1
    obtain rfl : len = 1 := by simpa [sm_okA] using ha
    intro H locs cells slots la hRel hS hL g1 g2
    exact lv_ladd hx hb hd ((hK _ _ _ _ hs2).2 H locs cells slots la hRel hS hL g1 g2)
  · obtain ⟨b, r1, rfl, hs1⟩ := sm_pJ_e hs
    obtain ⟨a, r2, rfl, hs2⟩ := sm_pJ_e hs1
    obtain rfl : len = 1 := by simpa [sm_okA] using ha
    intro H locs cells slots la hRel hS hL g1 g2
    exact lv_lmul hx hb hd ((hK _ _ _ _ hs2).2 H locs cells slots la hRel hS hL g1 g2)
  · obtain ⟨a, r1, rfl, hs1⟩ := sm_pI_e hs
    obtain rfl : len = 1 := by simpa [sm_okA] using ha
    intro H locs cells slots la hRel hS hL g1 g2
    exact lv_i2l hx hb hd rfl ((hK _ _ _ _ hs1).2 H locs cells slots la hRel hS hL g1 g2)
  · obtain ⟨b, r1, rfl, hs1⟩ := sm_pJ_e hs
    obtain ⟨a, r2, rfl, hs2⟩ := sm_pJ_e hs1
    obtain rfl : len = 1 := by simpa [sm_okA] using ha
    intro H locs cells slots la hRel hS hL g1 g2
    exact W.lcmp hx hb hd ((hK _ _ _ _ hs2).2 H locs cells slots la hRel hS hL g1 g2)
  · -- tableswitch
    rename_i d lo hi offs
    obtain ⟨a, r1, rfl, hs1⟩ := sm_pI_e hs
    have ha' : 0 ≤ (pc : Int) + d ∧ ∀ o ∈ offs.toList, 0 ≤ (pc : Int) + o := by
      unfold sm_okA at ha
      rw [Bool.and_eq_true, List.all_eq_true] at ha
      exact ⟨of_decide_eq_true ha.1, fun o ho => of_decide_eq_true (ha.2 o ho)⟩
    intro H locs cells slots la hRel hS hL g1 g2
    rcases sm_ite_e hs1 with ⟨hc, hs2⟩ | ⟨hc, hs2⟩
    · exact lv_tableOut hx hb hd hc (sm_tg_e ha'.1) ((hK _ _ _ _ hs2).2 H locs cells slots la hRel hS hL g1 g2)
    · obtain ⟨o, ho, hs3⟩ := sm_sw_e hs2
      exact lv_tableIn hx hb hd (fun q => hc (Or.inl q)) (fun q => hc (Or.inr q)) ho (sm_tg_e (ha'.2 o (Array.mem_toList_iff.mpr (Array.mem_of_getElem? ho)))) ((hK _ _ _ _ hs3).2 H locs cells slots la hRel hS hL g1 g2)
  · exact sm_g6 V hok hs
end SMG
