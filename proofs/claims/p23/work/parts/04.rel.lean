theorem sm_cat1_v {Y : smY} (hY : ∀ t, Y.2.2 t = .null ∨ ∃ a, Y.2.2 t = .ref a) {v : Value} (h : sm_cat1 v = true) : (sm_v Y v).category = 1 := by
  rw [sm_v_cat hY]
  cases v <;> first | rfl | cases h
theorem sm_isA_v {Y : smY} (hY : ∀ t, Y.2.2 t = .null ∨ ∃ a, Y.2.2 t = .ref a) {v : Value} (h : sm_isA v = true) : sm_v Y v = .null ∨ ∃ a, sm_v Y v = .ref a := by
  cases v with
  | ref a => exact Or.inr ⟨a, rfl⟩
  | null => exact Or.inl rfl
  | retAddr t => exact hY t
  | _ => cases h
/-! the two heaps -/
theorem sm_cell.kept {Z : smZ} {Y : smY} {U : State} {a : Nat} {e : smC} {H H1 : Heap} (h : sm_cell Z Y U a e H) (hq : H1[a]? = H[a]?) : sm_cell Z Y U a e H1 := by
  cases e with
  | inl x =>
    obtain ⟨cA, h1, h2⟩ := h
    exact ⟨cA, h1, hq.trans h2⟩
  | inr o => exact va_at.kept (q := (a, .inr o)) h hq
theorem sm_cell.lt {Z : smZ} {Y : smY} {U : State} {a : Nat} {e : smC} {H : Heap} (h : sm_cell Z Y U a e H) : a < H.size := by
  cases e with
  | inl x =>
    obtain ⟨cA, h1, h2⟩ := h
    exact (Array.getElem?_eq_some_iff.mp h2).1
  | inr o => exact va_at.lt (q := (a, .inr o)) h
theorem sm_cell.moved {Z : smZ} {Y : smY} {u U : State} {a : Nat} {e : smC} {H : Heap} (hvm : u.vm.Alike U.vm) (h : sm_cell Z Y u a e H) : sm_cell Z Y U a e H := by
  cases e with
  | inl x =>
    obtain ⟨cA, ⟨h1, h2⟩, h3⟩ := h
    exact ⟨cA, ⟨arrOfT_moved hvm h1, h2.moved hvm⟩, h3⟩
  | inr o => exact h
theorem sm_Rel.moved {Z : smZ} {Y : smY} {u U : State} {h : smH} {H : Heap} (hvm : u.vm.Alike U.vm) (hR : sm_Rel Z Y u h H) : sm_Rel Z Y U h H := ⟨hR.1, fun a e he => ⟨(hR.2 a e he).1, (hR.2 a e he).2.moved hvm⟩⟩
theorem sm_Rel.w {Z : smZ} {Y : smY} {U : State} {h : smH} {H H1 : Heap} {a : Nat} {e : smC} (hR : sm_Rel Z Y U h H) (z : H1.size = H.size) (oq : ∀ q : Nat, q ≠ a → H1[q]? = H[q]?) (ha : Y.2.1 a) (hc : sm_cell Z Y U a e H1) : sm_Rel Z Y U (sm_w h a e) H1 := by
  refine ⟨by rw [z]; exact hR.1, fun b e' he => ?_⟩
  have he' : (if b = a then some e else h.1 b) = some e' := he
  by_cases hb : b = a
  · rw [if_pos hb] at he'
    cases he'
    rw [hb]
    exact ⟨ha, hc⟩
  · rw [if_neg hb] at he'
    exact ⟨(hR.2 b e' he').1, (hR.2 b e' he').2.kept (oq b hb)⟩
theorem sm_Rel.n {Z : smZ} {Y : smY} {U : State} {h : smH} {H H1 : Heap} {e : smC} {k : Nat} (hR : sm_Rel Z Y U h H) (z : H1.size = h.2.1 + 1) (oq : ∀ q : Nat, q < h.2.1 → H1[q]? = H[q]?) (ha : Y.2.1 h.2.1) (hc : sm_cell Z Y U h.2.1 e H1) : sm_Rel Z Y U (sm_n h e k) H1 := by
  refine ⟨z.symm, fun b e' he => ?_⟩
  have he' : (if b = h.2.1 then some e else h.1 b) = some e' := he
  by_cases hb : b = h.2.1
  · rw [if_pos hb] at he'
    cases he'
    rw [hb]
    exact ⟨ha, hc⟩
  · rw [if_neg hb] at he'
    have h2 := hR.2 b e' he'
    exact ⟨h2.1, h2.2.kept (oq b (by rw [hR.1]; exact h2.2.lt))⟩
theorem sm_one {D : va_G} {cl : List vw_C} {q : Nat × va_E} {H : Heap} (h : va_at D cl q H) : va_P D cl [q] H := by
  intro k x hk
  have h0 : k < 1 := (List.getElem?_eq_some_iff.mp hk).1
  rw [show k = 0 by omega] at hk
  cases hk
  exact h
theorem sm_K0 {Z : smZ} {Y : smY} {s : State} (h : sm_VC Z Y s) : va_K Y.1 (zcl Z) [] s := ⟨h.1, fun k q h => by simp at h⟩
theorem sm_K1 {Z : smZ} {Y : smY} {s : State} (h : sm_VC Z Y s) {cA : ClassId} {ty : FieldType} (h1 : ArrOfT s cA ty ∧ va_RA s cA ty) : va_K Y.1 (zcl Z) [(cA, ty)] s := ⟨h.1, fun k q hk => by
  have h0 : k < 1 := (List.getElem?_eq_some_iff.mp hk).1
  rw [show k = 0 by omega] at hk
  cases hk
  exact h1⟩
theorem sm_f_e {h : smH} {a ci k : Nat} {v : Value} (e : sm_f h a ci k = some v) : ∃ fs, h.1 a = some (.inr (ci, fs)) ∧ fs[k]? = some v := by
  unfold sm_f at e; split at e
  · rename_i c fs hh
    cases hb : Nat.beq c ci with
    | true =>
      simp only [hb, cond_true] at e
      exact ⟨fs, by rw [hh, Nat.eq_of_beq_eq_true hb], e⟩
    | false => simp only [hb, cond_false] at e; cases e
  · cases e
theorem sm_fP_e {h : smH} {a ci k : Nat} {v : Value} {κ : smH → smR} {r : Option Value × smH} (e : sm_fP h a ci k v κ = some r) : ∃ fs, h.1 a = some (.inr (ci, fs)) ∧ k < fs.length ∧ κ (sm_w h a (.inr (ci, fs.set k v))) = some r := by
  unfold sm_fP at e; split at e
  · rename_i c fs hh
    obtain ⟨h1, h2⟩ := sm_bif_e e
    rw [Bool.and_eq_true] at h1
    obtain rfl : c = ci := Nat.eq_of_beq_eq_true h1.1
    exact ⟨fs, hh, by have h3 := h1.2; unfold Nat.blt at h3; exact Nat.le_of_ble_eq_true h3, h2⟩
  · cases e
theorem sm_ld_e {o : Option (FieldType × vp_A)} {ty : FieldType} {i : Int32} {κ : Int32 → smR} {r : Option Value × smH} (e : sm_ld o ty i κ = some r) : ∃ n f, o = some (ty, n, .inl f) ∧ vp_in i n ∧ κ (f i.toNatClampNeg) = some r := by
  unfold sm_ld at e; split at e
  · rename_i t n f
    rcases sm_ite_e e with ⟨h1, e1⟩ | ⟨-, e1⟩
    · rcases sm_ite_e e1 with ⟨-, e2⟩ | ⟨h2, e2⟩
      · cases e2
      · exact ⟨n, f, by rw [h1], h2, e2⟩
    · cases e1
  · cases e
theorem sm_ldR_e {o : Option (FieldType × vp_A)} {i : Int32} {κ : Nat → smR} {r : Option Value × smH} (e : sm_ldR o i κ = some r) : ∃ t n f b, o = some (t, n, .inr (.inr (.inr (.inr f)))) ∧ t.isReference = true ∧ vp_in i n ∧ f i.toNatClampNeg = some b ∧ κ b = some r := by
  unfold sm_ldR at e; split at e
  · rename_i t n f
    obtain ⟨h1, e1⟩ := sm_bif_e e
    rcases sm_ite_e e1 with ⟨-, e2⟩ | ⟨h2, e2⟩
    · cases e2
    · split at e2
      · rename_i b hb
        exact ⟨t, n, f, b, rfl, h1, h2, hb, e2⟩
      · cases e2
  · cases e
theorem sm_st_e {h : smH} {a : Nat} {ty : FieldType} {i x : Int32} {κ : smH → smR} {r : Option Value × smH} (e : sm_st h a ty i x κ = some r) : ∃ n f, h.1 a = some (.inl (ty, n, .inl f)) ∧ vp_in i n ∧ κ (sm_w h a (.inl (ty, n, .inl (upd f i.toNatClampNeg x)))) = some r := by
  unfold sm_st at e; split at e
  · rename_i t n f hh
    rcases sm_ite_e e with ⟨h1, e1⟩ | ⟨-, e1⟩
    · rcases sm_ite_e e1 with ⟨-, e2⟩ | ⟨h2, e2⟩
      · cases e2
      · exact ⟨n, f, by rw [hh, h1], h2, e2⟩
    · cases e1
  · cases e
theorem sm_stR_e {P : smP} {h : smH} {a : Nat} {i : Int32} {v : Nat} {κ : smH → smR} {r : Option Value × smH} (e : sm_stR P h a i v κ = some r) : ∃ t n f ci vs, h.1 a = some (.inl (t, n, .inr (.inr (.inr (.inr f))))) ∧ h.1 v = some (.inr (ci, vs)) ∧ t = P.2.2.2.1 ci ∧ vp_in i n ∧ κ (sm_w h a (.inl (t, n, .inr (.inr (.inr (.inr (va_up f i.toNatClampNeg (some v)))))))) = some r := by
  unfold sm_stR at e; split at e
  · rename_i t n f hh
    split at e
    · rename_i ci vs hv
      rcases sm_ite_e e with ⟨h1, e1⟩ | ⟨-, e1⟩
      · rcases sm_ite_e e1 with ⟨-, e2⟩ | ⟨h2, e2⟩
        · cases e2
        · exact ⟨t, n, f, ci, vs, hh, hv, h1, h2, e2⟩
      · cases e1
    · cases e
  · cases e
theorem sm_ar_ref {P : smP} {X : smX} {h : smH} {a : Nat} {x : FieldType × vp_A} (e : sm_ar P X h (.ref a) = some x) : h.1 a = some (.inl x) := by
  have e' : (match h.1 a with | some (.inl x) => some x | _ => none) = some x := e
  split at e'
  · rename_i y hh
    cases e'
    exact hh
  · cases e'
theorem sm_ar_e {P : smP} {X : smX} {h : smH} {v : Value} {x : FieldType × vp_A} (e : sm_ar P X h v = some x) : (∃ a, v = .ref a ∧ h.1 a = some (.inl x)) ∨ (∃ t, v = .retAddr t ∧ sm_oA P X t = some x) := by
  cases v with
  | ref a => exact Or.inl ⟨a, rfl, sm_ar_ref e⟩
  | retAddr t => exact Or.inr ⟨t, rfl, e⟩
  | _ => cases e
theorem sm_oA_i {P : smP} {X : smX} {t : Nat} {x : FieldType × vp_A} (e : sm_oA P X t = some x) : ∃ ty n f, x = (ty, n, .inl f) := by
  unfold sm_oA at e
  cases h1 : Nat.beq t 40 with
  | true => simp only [h1, cond_true] at e; cases e; exact ⟨_, _, _, rfl⟩
  | false =>
    simp only [h1, cond_false] at e
    obtain ⟨-, e⟩ : _ ∧ _ = some x := by
      cases h2 : (Nat.blt t 40 && Nat.blt 15 t) with
      | true => simp only [h2, cond_true] at e; exact ⟨trivial, e⟩
      | false => simp only [h2, cond_false] at e; cases e
    split at e
    · cases e; exact ⟨_, _, _, rfl⟩
    · cases e
