/-! the law -/
def LG (K : Nat × Nat) (r : smR) : Prop := ∃ h', r = some (some (.int (nI 1)), h') ∧ h'.2 = K
def LR (K : Nat × Nat) (h : smH) (B : Nat) (σ : St) (f : Nat → Int64) : Prop := RepC h B σ ∧ h.1 (B + 338) = some (.inl (.long, 8, .inr (.inl f))) ∧ h.2 = K
theorem LR.fr {K : Nat × Nat} {h h' : smH} {B : Nat} {σ σ' : St} {f} (r : LR K h B σ f) (r' : RepC h' B σ') (k : Fr h h' B (B + 338)) : LR K h' B σ' f := ⟨r', (k.2 _ (by omega)).trans r.2.1, k.1.trans r.2.2⟩
section LAW
variable {X : smX} {K : Nat × Nat} {B : Nat}
theorem LG.v {h : smH} {m m2 pc : Nat} {args st : List Value} {v : Value} {σ σ' : St} {f} {ls : smL} (c : Ct X m (.ref B :: args) h B v σ') (r : LR K h B σ f) (k : ∀ h', LR K h' B σ' f → LG K (sm_E PP X m2 pc ls (v :: st) h')) : LG K (sm_vc h B 7 (sm_cR (sm_C PP X m (.ref B :: args) h) fun w h2 => sm_E PP X m2 pc ls (w.toList ++ st) h2)) := by
  obtain ⟨h', e, r', f'⟩ := c
  rw [vO r.1.1.1, e]
  exact k h' (r.fr r' f')
theorem LG.s {h : smH} {m m2 pc : Nat} {args st : List Value} {v : Value} {σ σ' : St} {f} {ls : smL} (c : Ct X m args h B v σ') (r : LR K h B σ f) (k : ∀ h', LR K h' B σ' f → LG K (sm_E PP X m2 pc ls (v :: st) h')) : LG K (sm_cR (sm_C PP X m args h) fun w h2 => sm_E PP X m2 pc ls (w.toList ++ st) h2) := by
  obtain ⟨h', e, r', f'⟩ := c
  rw [e]
  exact k h' (r.fr r' f')
theorem LG.g {h : smH} {Q : Option Value → St → Prop} {m m2 pc : Nat} {args st : List Value} {σ : St} {f} {ls : smL} (g : G B h Q (sm_C PP X m args h)) (r : LR K h B σ f) (k : ∀ v h' σ', Q v σ' → LR K h' B σ' f → LG K (sm_E PP X m2 pc ls (v.toList ++ st) h')) : LG K (sm_cR (sm_C PP X m args h) fun w h2 => sm_E PP X m2 pc ls (w.toList ++ st) h2) := by
  obtain ⟨v, h', σ', e, r', f', q⟩ := g
  rw [e]
  exact k v h' σ' q (r.fr r' f')
theorem LG.p {h : smH} {m m2 pc : Nat} {args st : List Value} {v : Value} {ls : smL} (c : sm_C PP X m args h = some (some v, h)) (k : LG K (sm_E PP X m2 pc ls (v :: st) h)) : LG K (sm_cR (sm_C PP X m args h) fun w h2 => sm_E PP X m2 pc ls (w.toList ++ st) h2) := by
  rw [c]
  exact k
theorem LG.b {h : smH} {σ : St} {f} (r : LR K h B σ f) : LG K (if narrow (sm_nk 1) (.int (nI 1)) = .int (nI 1) then some (some (.int (nI 1)), h) else none) := by
  rw [if_pos nk11]
  exact ⟨h, rfl, r.2.2⟩
theorem ldJO {h : smH} {a n i : Nat} {f : Nat → Int64} {κ : Int64 → smR} (hh : h.1 a = some (.inl (.long, n, .inr (.inl f)))) (hi : i < n) (hn : n < 2 ^ 31) : sm_ldJ (sm_ar PP X h (.ref a)) (nI i) κ = κ (f i) := by
  rw [aO hh]
  show (if FieldType.long = .long then (if nI i < 0 ∨ n ≤ (nI i).toNatClampNeg then none else κ (f (nI i).toNatClampNeg)) else none) = _
  rw [if_pos rfl, if_neg (nI_rng hi hn), nI_clamp (by omega)]
theorem stJO {h : smH} {a n i : Nat} {f : Nat → Int64} {x : Int64} {κ : smH → smR} (hh : h.1 a = some (.inl (.long, n, .inr (.inl f)))) (hi : i < n) (hn : n < 2 ^ 31) : sm_stJ h a (nI i) x κ = κ (sm_w h a (.inl (.long, n, .inr (.inl (fun j => if j = i then x else f j))))) := by
  unfold sm_stJ
  rw [hh]
  show (if FieldType.long = .long then (if nI i < 0 ∨ n ≤ (nI i).toNatClampNeg then none else κ (sm_w h a (.inl (.long, n, .inr (.inl (fun j => if j = (nI i).toNatClampNeg then x else f j)))))) else none) = _
  rw [if_pos rfl, if_neg (nI_rng hi hn), nI_clamp (by omega)]
/-- past holds the sums of what may be undone -/
def PA (f : Nat → Int64) : List Sh → Prop
  | [] => True
  | s :: p => f p.length = dg s ∧ PA f p
theorem PA_up {f : Nat → Int64} {k : Nat} {x : Int64} : ∀ p : List Sh, p.length ≤ k → PA f p → PA (fun j => if j = k then x else f j) p := by
  intro p
  induction p with
  | nil => intro _ _; trivial
  | cons s p ih =>
    intro h q
    rw [List.length_cons] at h
    exact ⟨by show (if p.length = k then x else f p.length) = dg s; rw [if_neg (by omega)]; exact q.1, ih (by omega) q.2⟩
theorem PA_push {f : Nat → Int64} {p : List Sh} {s : Sh} (h : PA f p) : PA (fun j => if j = p.length then dg s else f j) (s :: p) := ⟨if_pos rfl, PA_up p (Nat.le_refl _) h⟩
/-- what holds at a step's begin -/
def LI (σ : St) (f : Nat → Int64) (d : Nat) : Prop := WT σ ∧ σ.2.2.1.length = d ∧ PA f σ.2.2.1
theorem WT_chg {σ : St} {s : Sh} (h : WT σ) (hs : WS s) : WT (chg σ s) := by
  refine ⟨hs, fun s2 h2 => ?_⟩
  have h3 : s2 ∈ σ.2.1 :: σ.2.2.1 := List.mem_of_mem_take (show s2 ∈ (σ.2.1 :: σ.2.2.1).take 8 from h2)
  rcases List.mem_cons.mp h3 with q | q
  · rw [q]; exact h.1
  · exact h.2 s2 q
theorem chg_hist {σ : St} {s : Sh} (h : σ.2.2.1.length < 8) : (chg σ s).2.2.1 = σ.2.1 :: σ.2.2.1 := by
  show (σ.2.1 :: σ.2.2.1).take 8 = _
  exact List.take_of_length_le (by rw [List.length_cons]; omega)
/-- from 352 on: the end of a step -/
theorem law_352 {n d : Nat} {x y : Int32} {h : smH} {σ : St} {f} (hn : n < 28) (hd : d ≤ n % 4 + 1) (hi : LI σ f d) (r : LR K h B σ f) (T : ∀ h σ f d, d ≤ (n + 1) % 4 → LI σ f d → LR K h B σ f → LG K (sm_E PP X 116 34 [(0, .retAddr 40), (1, .ref B), (2, .ref (B + 338)), (3, .int (nI d)), (4, .int (nI (n + 1)))] [] h)) : LG K (sm_E PP X 116 352 [(0, .retAddr 40), (1, .ref B), (2, .ref (B + 338)), (3, .int (nI d)), (4, .int (nI n)), (5, .int x), (6, .int y)] [] h) := by
  have T2 : ∀ h σ f d, d ≤ (n + 1) % 4 → LI σ f d → LR K h B σ f → LG K (sm_E PP X 116 487 [(0, .retAddr 40), (1, .ref B), (2, .ref (B + 338)), (3, .int (nI d)), (4, .int (nI n))] [] h) := fun h σ f d a b c => by
    rw [b116_487, nI_add]
    exact T h σ f d a b c
  have hlen := hi.2.1
  rw [b116_352]
  refine LG.v (k105_6 r.1) r fun h r => ?_
  rw [b116_358, hlen, if_pos rfl, if_neg (by decide), pk_rem (by omega) (by omega) (by omega)]
  by_cases c3 : n % 4 = 3
  · rw [c3, if_pos rfl]
    refine LG.s (m110 r.1) r fun h r => ?_
    rw [b116_376, if_neg (by decide)]
    refine LG.s (m111 r.1) r fun h r => ?_
    rw [b116_383, if_neg (by decide)]
    refine LG.s (m114 r.1 x y) r fun h r => ?_
    rw [b116_394, if_neg (by decide)]
    refine LG.s (m109 r.1) r fun h r => ?_
    rw [b116_403]
    have k102 : Ct X 102 [.ref B, .int (nI 0)] h B (.int (nI σ.2.1.1.length)) (σ.1, σ.2.1, σ.2.2.1, uP σ.2.2.2 0 (some σ.2.1)) := by
      have c := m102 (X := X) r.1 (nI 0)
      unfold opKeep at c
      rw [vN_t (show 0 < 2 by omega) (by omega), if_pos rfl, nTN (by omega)] at c
      exact c
    refine LG.v k102 r fun h r => ?_
    rw [b116_410]
    refine LG.v (k105_0 r.1) r fun h r => ?_
    rw [b116_415]
    show LG K (if nI σ.2.1.1.length = nI σ.2.1.1.length then _ else _)
    rw [if_pos rfl]
    have k103 : Ct X 103 [.ref B, .int (nI 0)] h B (.int (nI σ.2.1.1.length)) (σ.1, σ.2.1, [], uP σ.2.2.2 0 (some σ.2.1)) := by
      have c := m103 (X := X) r.1 (nI 0)
      unfold opBack at c
      rw [vN_t (show 0 < 2 by omega) (by omega), if_pos rfl, nTN (by omega)] at c
      rw [show ((σ.1, σ.2.1, σ.2.2.1, uP σ.2.2.2 0 (some σ.2.1)) : St).2.2.2 0 = some σ.2.1 from uP_eq (f := σ.2.2.2) (k := 0) (x := some σ.2.1)] at c
      exact c
    refine LG.v k103 r fun h r => ?_
    rw [b116_423]
    refine LG.v (k105_0 r.1) r fun h r => ?_
    rw [b116_428]
    show LG K (if nI σ.2.1.1.length = nI σ.2.1.1.length then _ else _)
    rw [if_pos rfl]
    refine LG.s (m109 r.1) r fun h r => ?_
    rw [b116_435]
    show LG K (if lg_cmp (dg σ.2.1) (dg σ.2.1) = 0 then _ else _)
    rw [if_pos (cmp_eq _)]
    have k60 : ∀ h, LR K h B (σ.1, σ.2.1, [], uP σ.2.2.2 0 (some σ.2.1)) f → Ct X 60 [.ref B] h B (.int (-nI 2)) (σ.1, σ.2.1, [], uP σ.2.2.2 0 (some σ.2.1)) := fun h r => m60 (X := X) r.1
    refine LG.v (k60 h r) r fun h r => ?_
    rw [b116_445, if_pos rfl]
    refine LG.s (m115 r.1 rfl hi.1.1 y) r fun h r => ?_
    rw [b116_456, if_neg (by decide), b116_461]
    refine LG.v (k60 h r) r fun h r => ?_
    rw [b116_465, if_pos (show (-nI 2 : Int32) ≤ 0 by decide)]
    refine LG.s (m109 r.1) r fun h r => ?_
    rw [b116_477]
    show LG K (if lg_cmp (dg σ.2.1) (dg σ.2.1) = 0 then _ else _)
    rw [if_pos (cmp_eq _)]
    exact T2 h (σ.1, σ.2.1, [], uP σ.2.2.2 0 (some σ.2.1)) f 0 (by omega) ⟨⟨hi.1.1, fun s hs => absurd hs List.not_mem_nil⟩, rfl, trivial⟩ r
  · rw [if_neg (show ¬ nI (n % 4) = nI 3 from fun q => c3 ((nI_eq (by omega) (by omega)).mp q))]
    exact T2 h σ f d (by omega) hi r
/-- one more deed: its sum is laid into past -/
theorem law_287 {n d : Nat} {x y : Int32} {h : smH} {σ : St} {f} {s : Sh} {q : List Sh} (hd : d < 8) (hq : q.length = d) (r : LR K h B σ f) (T : ∀ h, LR K h B σ (fun j => if j = q.length then dg s else f j) → LG K (sm_E PP X 116 352 [(0, .retAddr 40), (1, .ref B), (2, .ref (B + 338)), (3, .int (nI (d + 1))), (4, .int (nI n)), (5, .int x), (6, .int y)] [] h)) : LG K (sm_E PP X 116 287 [(0, .retAddr 40), (1, .ref B), (2, .ref (B + 338)), (3, .int (nI d)), (4, .int (nI n)), (5, .int x), (6, .int y), (7, .long (dg s)), (13, .int (nI 1))] [] h) := by
  have c8 : ¬ nI d = nI 8 := fun q => by rw [nI_eq (by omega) (by omega)] at q; omega
  rw [b116_287, if_neg (by decide), if_neg c8, b116_316, if_neg c8, b116_328, stJO r.2.1 hd (by omega), nI_add]
  refine T _ ⟨r.1.out (Fr.w) (by omega), ?_, r.2.2⟩
  rw [w_eq, hq]
/-- nothing was done -/
theorem law_214n {n d : Nat} {x y z : Int32} {h : smH} {σ : St} {f} {t : Int64} (hz : ¬ z = nI 1) (ht : dg σ.2.1 = t) (r : LR K h B σ f) (T : ∀ h, LR K h B σ f → LG K (sm_E PP X 116 352 [(0, .retAddr 40), (1, .ref B), (2, .ref (B + 338)), (3, .int (nI d)), (4, .int (nI n)), (5, .int x), (6, .int y)] [] h)) : LG K (sm_E PP X 116 214 [(0, .retAddr 40), (1, .ref B), (2, .ref (B + 338)), (3, .int (nI d)), (4, .int (nI n)), (5, .int x), (6, .int y), (7, .long t), (11, .int (nI 0)), (12, .int z)] [] h) := by
  rw [b116_214, if_pos (by decide), if_neg hz]
  refine LG.s (m109 r.1) r fun h r => ?_
  rw [b116_344, ht, if_pos (cmp_eq _)]
  exact T h r
/-- a step -/
theorem law_34 (hX : X.1 ≤ 260) {n d : Nat} {h : smH} {σ : St} {f} (hn : n < 28) (hd : d ≤ n % 4) (hi : LI σ f d) (r : LR K h B σ f) (T : ∀ h σ f d, d ≤ (n + 1) % 4 → LI σ f d → LR K h B σ f → LG K (sm_E PP X 116 34 [(0, .retAddr 40), (1, .ref B), (2, .ref (B + 338)), (3, .int (nI d)), (4, .int (nI (n + 1)))] [] h)) : LG K (sm_E PP X 116 34 [(0, .retAddr 40), (1, .ref B), (2, .ref (B + 338)), (3, .int (nI d)), (4, .int (nI n))] [] h) := by
  obtain ⟨hw, hlen, hp⟩ := id hi
  have E : ∀ {h : smH} {σ : St} {f : Nat → Int64} {d : Nat} {x y : Int32}, d ≤ n % 4 + 1 → LI σ f d → LR K h B σ f → LG K (sm_E PP X 116 352 [(0, .retAddr 40), (1, .ref B), (2, .ref (B + 338)), (3, .int (nI d)), (4, .int (nI n)), (5, .int x), (6, .int y)] [] h) := fun a b c => law_352 hn a b c T
  have h6 := r.1.h6
  rw [b116_34, if_neg (nI_ge (by omega) (by omega)), pk_mul]
  obtain ⟨x, ex⟩ := m107 (h := h) hX (show 2 * n < 1000 by omega)
  refine LG.p ex ?_
  rw [b116_49, pk_mul, nI_add]
  obtain ⟨y, ey⟩ := m107 (h := h) hX (show 2 * n + 1 < 1000 by omega)
  refine LG.p ey ?_
  rw [b116_61]
  refine LG.s (m109 r.1) r fun h r => ?_
  rw [b116_67]
  refine LG.v (k105_0 r.1) r fun h r => ?_
  -- a deed that is one more
  have P : ∀ {h : smH} {s : Sh} {tx : List Nat}, WS s → LR K h B (tx, (chg σ s).2) f → LG K (sm_E PP X 116 287 [(0, .retAddr 40), (1, .ref B), (2, .ref (B + 338)), (3, .int (nI d)), (4, .int (nI n)), (5, .int x), (6, .int y), (7, .long (dg σ.2.1)), (13, .int (nI 1))] [] h) := fun {h s tx} hs r => by
    refine law_287 (q := σ.2.2.1) (by omega) hlen r fun h r => ?_
    have hh : (chg σ s).2.2.1 = σ.2.1 :: σ.2.2.1 := chg_hist (by omega)
    refine E (σ := (tx, (chg σ s).2)) (by omega) ⟨⟨hs, (WT_chg hw hs).2⟩, ?_, ?_⟩ r
    · show (chg σ s).2.2.1.length = d + 1
      rw [hh, List.length_cons, hlen]
    · show PA _ (chg σ s).2.2.1
      rw [hh]
      exact PA_push hp
  -- the two roads
  have R1 : ∀ {h : smH}, LR K h B σ f → LG K (sm_E PP X 116 93 [(0, .retAddr 40), (1, .ref B), (2, .ref (B + 338)), (3, .int (nI d)), (4, .int (nI n)), (5, .int x), (6, .int y), (7, .long (dg σ.2.1)), (9, .int (nI σ.2.1.1.length))] [] h) := fun {h} r => by
    rw [b116_93, b116_98, if_neg (by decide), b116_121, b116_122, if_neg (by decide)]
    refine LG.g (m112 r.1 _ y) r fun v h σ' q r => ?_
    obtain ⟨rfl, q⟩ := q
    rw [sm_tl1, b116_139, if_neg (by decide)]
    by_cases c6 : σ.2.1.1.length = 6
    · rw [if_pos c6] at q
      rw [if_pos (show nI σ.2.1.1.length = nI 6 by rw [c6]), b116_157]
      refine law_214n (by decide) (by rw [show σ'.2.1 = σ.2.1 by rw [q]]) r fun h r => ?_
      refine E (by omega) ⟨⟨by rw [q]; exact hw.1, by rw [q]; exact hw.2⟩, by rw [q]; exact hlen, by rw [q]; exact hp⟩ r
    · rw [if_neg c6] at q
      obtain ⟨p, hp2, rfl⟩ := q
      rw [if_neg (show ¬ nI σ.2.1.1.length = nI 6 from fun z => c6 ((nI_eq (by omega) (by omega)).mp z)), b116_157, b116_214, if_pos (by decide), if_pos rfl]
      exact P (WS_app hw.1 hp2) r
  have R2 : ∀ {h : smH}, LR K h B σ f → LG K (sm_E PP X 116 98 [(0, .retAddr 40), (1, .ref B), (2, .ref (B + 338)), (3, .int (nI d)), (4, .int (nI n)), (5, .int x), (6, .int y), (7, .long (dg σ.2.1)), (9, .int (nI σ.2.1.1.length))] [.int (nI 0)] h) := fun {h} r => by
    have hlo := lo_lt (x := x) (n := 16) (by omega)
    rw [b116_98, if_pos (by decide)]
    refine LG.s (k108 r.1 x (n := 16) (by omega) (by omega)) r fun h r => ?_
    rw [b116_112]
    by_cases c13 : lo x 16 ≤ 13
    · rw [if_pos (nI_le c13 (by omega)), b116_121, b116_122, if_pos (by decide)]
      refine LG.v (k105_6 r.1) r fun h r => ?_
      rw [b116_168]
      refine LG.g (m113 r.1 hw.1 x y) r fun v h σ' q r => ?_
      obtain ⟨⟨w, rfl⟩, q⟩ := q
      rw [if_pos c13] at q
      rw [sm_tl1, b116_178, if_pos (by decide)]
      refine LG.v (k105_6 r.1) r fun h r => ?_
      rw [b116_191]
      rcases q with q | ⟨s, hs, rfl⟩
      · rw [q] at r ⊢
        rw [if_neg (nI_nlt (Nat.le_refl _) (by omega))]
        refine LG.s (m109 r.1) r fun h r => ?_
        rw [b116_200, if_pos (cmp_eq _), b116_212]
        refine law_214n (by decide) rfl r fun h r => ?_
        exact E (by omega) hi r
      · have hh : (chg σ s).2.2.1 = σ.2.1 :: σ.2.2.1 := chg_hist (by omega)
        rw [hh, List.length_cons, if_pos (nI_lt (by omega) (by omega)), b116_206, b116_212, b116_214, if_pos (by decide), if_pos rfl]
        exact P hs r
    · rw [if_neg (nI_ge (by omega) (by omega)), b116_122, if_pos (by decide)]
      refine LG.v (k105_6 r.1) r fun h r => ?_
      rw [b116_168]
      refine LG.g (m113 r.1 hw.1 x y) r fun v h σ' q r => ?_
      obtain ⟨⟨w, rfl⟩, q⟩ := q
      rw [if_neg c13] at q
      rw [sm_tl1, b116_178, if_neg (by decide), b116_206, b116_212, b116_214, if_neg (by decide)]
      refine LG.v (k105_6 r.1) r fun h r => ?_
      rw [b116_225]
      have hu : opUndo σ = match σ.2.2.1 with
        | [] => (-nI 2, σ)
        | s :: p => (nI p.length, (σ.1, s, p, σ.2.2.2)) := rfl
      cases hc : σ.2.2.1 with
      | nil =>
        rw [hc] at hu hlen
        have hd0 : d = 0 := hlen.symm
        rw [hu] at q
        have q : σ' = σ := q
        rw [q] at r ⊢
        rw [hd0, if_pos (by decide), hc, b116_236]
        show LG K (if nI 0 = nI 0 then _ else _)
        rw [if_pos rfl]
        refine LG.s (m109 r.1) r fun h r => ?_
        rw [b116_243, if_pos (by decide), b116_257, if_pos (cmp_eq _), if_pos (by decide), b116_273, pk_sub (by omega)]
        refine E (by omega) ?_ r
        rw [hd0] at hi
        exact hi
      | cons s p =>
        rw [hc] at hu hlen
        rw [List.length_cons] at hlen
        rw [hu] at q
        obtain rfl : σ' = (σ.1, s, p, σ.2.2.2) := q
        rw [hc] at hp
        rw [if_neg (nI_ne0 (by omega) (by omega)), b116_236, pk_sub (by omega)]
        show LG K (if nI p.length = nI (d - 1) then _ else _)
        rw [if_pos (by rw [← hlen]; rfl)]
        refine LG.s (m109 r.1) r fun h r => ?_
        rw [b116_243, if_neg (nI_ne0 (by omega) (by omega)), pk_sub (by omega), ldJO r.2.1 (by omega) (by omega), b116_257]
        have e1 : f (d - 1) = dg s := by rw [show d - 1 = p.length by omega]; exact hp.1
        rw [e1]
        show LG K (if lg_cmp (dg s) (dg s) = 0 then _ else _)
        rw [if_pos (cmp_eq _), if_neg (nI_nle (by omega) (by omega)), b116_273, pk_sub (by omega)]
        refine E (by omega) ⟨⟨hw.2 s (by rw [hc]; exact List.mem_cons_self), fun s2 h2 => hw.2 s2 (by rw [hc]; exact List.mem_cons_of_mem _ h2)⟩, ?_, hp.2⟩ r
        show p.length = d - 1
        omega
  rw [b116_74]
  split
  · exact R1 r
  · split
    · exact R1 r
    · exact R2 r
theorem law_loop (hX : X.1 ≤ 260) : ∀ (m n d : Nat) (h : smH) (σ : St) (f : Nat → Int64), n + m = 28 → d ≤ n % 4 → LI σ f d → LR K h B σ f → LG K (sm_E PP X 116 34 [(0, .retAddr 40), (1, .ref B), (2, .ref (B + 338)), (3, .int (nI d)), (4, .int (nI n))] [] h) := by
  intro m
  induction m with
  | zero =>
    intro n d h σ f hm hd hi r
    rw [b116_34, if_pos (nI_le (by omega) (by omega))]
    refine LG.s (m110 r.1) r fun h r => ?_
    rw [b116_497, if_neg (by decide)]
    refine LG.s (m111 r.1) r fun h r => ?_
    rw [b116_504, if_neg (by decide), b116_512]
    exact LG.b r
  | succ m ih =>
    intro n d h σ f hm hd hi r
    exact law_34 hX (by omega) hd hi r fun h σ f d a b c => ih (n + 1) d h σ f (by omega) a b c
end LAW
theorem law_sm (X : smX) (hX : X.1 ≤ 260) (B : Nat) : ∃ h' : smH, sm_E PP X 116 0 [(0, .retAddr 40)] [] (fun _ => none, B, 0) = some (some (.int 1), h') ∧ h'.2.1 ≤ B + 600000 ∧ h'.2.2 ≤ 7302250 := by
  obtain ⟨h1, e1, r1, k1⟩ := m26 (X := X) (h := sm_n ((fun _ => none, B, 0) : smH) (.inr (7, PP.2.2.1 7)) (PP.2.2.1 7).length) (B := B) n_eq rfl
  have z1 : h1.2 = (B + 1 + 337, 0 + 7 + 94797) := k1.1
  have n1 : h1.2.1 = B + 338 := by rw [z1]
  have k2 : Nx h1 (sm_n h1 (.inl (.long, (nI 8).toNatClampNeg, .inr (.inl (fun _ => 0)))) (nI 8).toNatClampNeg) h1.2.1 1 (nI 8).toNatClampNeg := Nx.n
  have r2 := r1.nx k2 (by omega)
  have LR0 : LR (B + 339, 94812) (sm_n h1 (.inl (.long, (nI 8).toNatClampNeg, .inr (.inl (fun _ => 0)))) (nI 8).toNatClampNeg) B St0 (fun _ => 0) := by
    refine ⟨r2, ?_, ?_⟩
    · rw [← n1]; exact n_eq
    · show (h1.2.1 + 1, h1.2.2 + (nI 8).toNatClampNeg) = _
      rw [z1, show (nI 8).toNatClampNeg = 8 from nI_clamp (by omega)]
  have fin : LG (B + 339, 94812) (sm_E PP X 116 0 [(0, .retAddr 40)] [] (fun _ => none, B, 0)) := by
    rw [b116_0]
    show LG _ (sm_cR (sm_C PP X 26 [.ref B] _) _)
    rw [e1]
    show LG _ (sm_E PP X 116 7 [(0, .retAddr 40)] [.ref B] h1)
    rw [b116_7, if_neg (by decide), n1]
    refine LG.s (m111 LR0.1) LR0 fun h r => ?_
    rw [b116_19, if_neg (by decide)]
    refine LG.s (m110 r.1) r fun h r => ?_
    rw [b116_26, if_neg (by decide)]
    exact law_loop hX 28 0 0 h St0 _ (by omega) (by omega) ⟨⟨fun e he => absurd he (Nat.not_lt_zero _), fun s hs => absurd hs List.not_mem_nil⟩, rfl, trivial⟩ r
  obtain ⟨h', e, k⟩ := fin
  exact ⟨h', e, by rw [k]; show B + 339 ≤ _; omega, by rw [k]; show 94812 ≤ _; omega⟩
