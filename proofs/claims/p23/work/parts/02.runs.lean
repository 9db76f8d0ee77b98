/-! runs: more fuel changes no answer; the answer of all fuels together -/
theorem sm_X_up (P : smP) (X : smX) : ∀ (n m pc : Nat) (ls : smL) (st : List Value) (h : smH) (r : Option Value × smH), sm_X P X n m pc ls st h = some r → sm_X P X (n + 1) m pc ls st h = some r
  | 0, _, _, _, _, _, _, e => by cases e
  | n + 1, m, pc, ls, st, h, r, e => by
    have ih := sm_X_up P X n
    show sm_step P X (fun m' as h => sm_X P X (n + 1) m' 0 (lv_args 0 as) [] h) (sm_X P X (n + 1) m) m pc ls st h = some r
    have e' : sm_step P X (fun m' as h => sm_X P X n m' 0 (lv_args 0 as) [] h) (sm_X P X n m) m pc ls st h = some r := e
    rcases sm_Us.step P X m pc ls st h _ _ r e' with ⟨-, u⟩ | ⟨pc', ls', st', h', -, k, u⟩ | ⟨m', as, h1, v, h2, pc', ls', st', -, c, k, u⟩
    · exact u _ _
    · exact u _ _ (ih m pc' ls' st' h' r k)
    · exact u _ _ (ih m' 0 (lv_args 0 as) [] h1 (v, h2) c) (ih m pc' ls' st' h2 r k)
theorem sm_X_le (P : smP) (X : smX) {n k m pc : Nat} {ls : smL} {st : List Value} {h : smH} {r : Option Value × smH} (hk : n ≤ k) (e : sm_X P X n m pc ls st h = some r) : sm_X P X k m pc ls st h = some r := by
  induction hk with
  | refl => exact e
  | step _ ih => exact sm_X_up P X _ _ _ _ _ _ _ ih
theorem sm_X_grow (P : smP) (X : smX) : ∀ (n m pc : Nat) (ls : smL) (st : List Value) (h : smH) (r : Option Value × smH), sm_X P X n m pc ls st h = some r → sm_le h r.2
  | 0, _, _, _, _, _, _, e => by cases e
  | n + 1, m, pc, ls, st, h, r, e => by
    have ih := sm_X_grow P X n
    have e' : sm_step P X (fun m' as h => sm_X P X n m' 0 (lv_args 0 as) [] h) (sm_X P X n m) m pc ls st h = some r := e
    rcases sm_Us.step P X m pc ls st h _ _ r e' with ⟨l1, -⟩ | ⟨pc', ls', st', h', l1, k, -⟩ | ⟨m', as, h1, v, h2, pc', ls', st', l1, c, k, -⟩
    · exact l1
    · exact l1.tr (ih m pc' ls' st' h' r k)
    · exact l1.tr ((ih m' 0 (lv_args 0 as) [] h1 (v, h2) c).tr (ih m pc' ls' st' h2 r k))
noncomputable def sm_E (P : smP) (X : smX) (m : Nat) : smK := fun pc ls st h =>
  @dite smR (∃ r n, sm_X P X n m pc ls st h = some r) (Classical.propDecidable _) (fun hx => some (Classical.choose hx)) (fun _ => none)
theorem sm_E_iff (P : smP) (X : smX) (m pc : Nat) (ls : smL) (st : List Value) (h : smH) (r : Option Value × smH) : sm_E P X m pc ls st h = some r ↔ ∃ n, sm_X P X n m pc ls st h = some r := by
  unfold sm_E
  by_cases hx : ∃ r n, sm_X P X n m pc ls st h = some r
  · rw [dif_pos hx]
    obtain ⟨n1, h1⟩ := Classical.choose_spec hx
    constructor
    · intro e
      cases e
      exact ⟨n1, h1⟩
    · rintro ⟨n2, h2⟩
      have a1 := sm_X_le P X (Nat.le_max_left n1 n2) h1
      have a2 := sm_X_le P X (Nat.le_max_right n1 n2) h2
      rw [← a1, a2]
  · rw [dif_neg hx]
    exact ⟨fun e => (by cases e), fun ⟨n, e⟩ => absurd ⟨r, n, e⟩ hx⟩
noncomputable def sm_C (P : smP) (X : smX) : smCT := fun m' as h => sm_E P X m' 0 (lv_args 0 as) [] h
theorem sm_E_eq (P : smP) (X : smX) (m : Nat) : sm_E P X m = sm_step P X (sm_C P X) (sm_E P X m) m := by
  funext pc ls st h
  apply Option.ext
  intro r
  constructor
  · intro e
    obtain ⟨n, e⟩ := (sm_E_iff P X m pc ls st h r).mp e
    cases n with
    | zero => cases e
    | succ n =>
      have e' : sm_step P X (fun m' as h => sm_X P X n m' 0 (lv_args 0 as) [] h) (sm_X P X n m) m pc ls st h = some r := e
      rcases sm_Us.step P X m pc ls st h _ _ r e' with ⟨-, u⟩ | ⟨pc', ls', st', h', -, k, u⟩ | ⟨m', as, h1, v, h2, pc', ls', st', -, c, k, u⟩
      · exact u _ _
      · exact u _ _ ((sm_E_iff P X m pc' ls' st' h' r).mpr ⟨n, k⟩)
      · exact u _ _ ((sm_E_iff P X m' 0 (lv_args 0 as) [] h1 (v, h2)).mpr ⟨n, c⟩) ((sm_E_iff P X m pc' ls' st' h2 r).mpr ⟨n, k⟩)
  · intro e
    rcases sm_Us.step P X m pc ls st h _ _ r e with ⟨-, u⟩ | ⟨pc', ls', st', h', -, k, u⟩ | ⟨m', as, h1, v, h2, pc', ls', st', -, c, k, u⟩
    · exact (sm_E_iff P X m pc ls st h r).mpr ⟨1, u _ _⟩
    · obtain ⟨n, k⟩ := (sm_E_iff P X m pc' ls' st' h' r).mp k
      exact (sm_E_iff P X m pc ls st h r).mpr ⟨n + 1, u _ _ k⟩
    · obtain ⟨n1, c⟩ := (sm_E_iff P X m' 0 (lv_args 0 as) [] h1 (v, h2)).mp c
      obtain ⟨n2, k⟩ := (sm_E_iff P X m pc' ls' st' h2 r).mp k
      exact (sm_E_iff P X m pc ls st h r).mpr ⟨max n1 n2 + 1, u _ _ (sm_X_le P X (Nat.le_max_left n1 n2) c) (sm_X_le P X (Nat.le_max_right n1 n2) k)⟩
/-- j instructions at most, up to the places of the list -/
def sm_it (P : smP) (X : smX) (C : smCT) (m : Nat) (cut : List Nat) (K : smK) : Nat → smK
  | 0 => K
  | j + 1 => fun pc ls st h => bif cut.contains pc then K pc ls st h else sm_step P X C (sm_it P X C m cut K j) m pc ls st h
theorem sm_it_E (P : smP) (X : smX) (m : Nat) (cut : List Nat) : ∀ j, sm_it P X (sm_C P X) m cut (sm_E P X m) j = sm_E P X m
  | 0 => rfl
  | j + 1 => by
    funext pc ls st h
    show (bif cut.contains pc then sm_E P X m pc ls st h else sm_step P X (sm_C P X) (sm_it P X (sm_C P X) m cut (sm_E P X m) j) m pc ls st h) = _
    rw [sm_it_E P X m cut j, ← sm_E_eq]
    cases cut.contains pc <;> rfl
theorem sm_blk (P : smP) (X : smX) (m : Nat) (cut : List Nat) (j : Nat) (pc : Nat) (ls : smL) (st : List Value) (h : smH) : sm_E P X m pc ls st h = sm_step P X (sm_C P X) (sm_it P X (sm_C P X) m cut (sm_E P X m) j) m pc ls st h := by
  rw [sm_it_E, ← sm_E_eq]
