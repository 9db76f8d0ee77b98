/-! NUMBERS in words, of the reference -/
def lwL : List Nat := [510138, 5583, 16116, 5425428, 611814, 186662, 24883, 14866611, 21241125, 178478, 14516, 475731333, 191239924, 486594389268, 486594401766, 15206062374, 15206080819, 15571016145075, 486594059557, 486593968430, 860296948, 860431636, 26888678, 26876198, 26894643, 27529500851, 860101925, 860010798, 4481759912, 4545]
def dg : Nat → Nat → List Nat
  | 0, _ => []
  | r + 1, n => if n = 0 then [] else (96 + n % 32) :: dg r (n / 32)
def wd (w : Nat) : List Nat := dg 10 (lwL.getD w 0)
theorem m127 {X : smX} {h : smH} : ∀ w, w < 30 → sm_C PP X 127 [.int (nI w)] h = some (some (.long (lN (lwL.getD w 0))), h)
  | 0, _ => by
    rw [c127, b127_0, b127_1, if_neg (by decide)]
    show sm_E PP X 127 136 [] [] h = _
    exact b127_136 ..
  | 1, _ => by
    rw [c127, b127_0, b127_1, if_neg (by decide)]
    show sm_E PP X 127 140 [] [] h = _
    exact b127_140 ..
  | 2, _ => by
    rw [c127, b127_0, b127_1, if_neg (by decide)]
    show sm_E PP X 127 144 [] [] h = _
    exact b127_144 ..
  | 3, _ => by
    rw [c127, b127_0, b127_1, if_neg (by decide)]
    show sm_E PP X 127 148 [] [] h = _
    exact b127_148 ..
  | 4, _ => by
    rw [c127, b127_0, b127_1, if_neg (by decide)]
    show sm_E PP X 127 152 [] [] h = _
    exact b127_152 ..
  | 5, _ => by
    rw [c127, b127_0, b127_1, if_neg (by decide)]
    show sm_E PP X 127 156 [] [] h = _
    exact b127_156 ..
  | 6, _ => by
    rw [c127, b127_0, b127_1, if_neg (by decide)]
    show sm_E PP X 127 160 [] [] h = _
    exact b127_160 ..
  | 7, _ => by
    rw [c127, b127_0, b127_1, if_neg (by decide)]
    show sm_E PP X 127 164 [] [] h = _
    exact b127_164 ..
  | 8, _ => by
    rw [c127, b127_0, b127_1, if_neg (by decide)]
    show sm_E PP X 127 168 [] [] h = _
    exact b127_168 ..
  | 9, _ => by
    rw [c127, b127_0, b127_1, if_neg (by decide)]
    show sm_E PP X 127 172 [] [] h = _
    exact b127_172 ..
  | 10, _ => by
    rw [c127, b127_0, b127_1, if_neg (by decide)]
    show sm_E PP X 127 176 [] [] h = _
    exact b127_176 ..
  | 11, _ => by
    rw [c127, b127_0, b127_1, if_neg (by decide)]
    show sm_E PP X 127 180 [] [] h = _
    exact b127_180 ..
  | 12, _ => by
    rw [c127, b127_0, b127_1, if_neg (by decide)]
    show sm_E PP X 127 184 [] [] h = _
    exact b127_184 ..
  | 13, _ => by
    rw [c127, b127_0, b127_1, if_neg (by decide)]
    show sm_E PP X 127 188 [] [] h = _
    exact b127_188 ..
  | 14, _ => by
    rw [c127, b127_0, b127_1, if_neg (by decide)]
    show sm_E PP X 127 192 [] [] h = _
    exact b127_192 ..
  | 15, _ => by
    rw [c127, b127_0, b127_1, if_neg (by decide)]
    show sm_E PP X 127 196 [] [] h = _
    exact b127_196 ..
  | 16, _ => by
    rw [c127, b127_0, b127_1, if_neg (by decide)]
    show sm_E PP X 127 200 [] [] h = _
    exact b127_200 ..
  | 17, _ => by
    rw [c127, b127_0, b127_1, if_neg (by decide)]
    show sm_E PP X 127 204 [] [] h = _
    exact b127_204 ..
  | 18, _ => by
    rw [c127, b127_0, b127_1, if_neg (by decide)]
    show sm_E PP X 127 208 [] [] h = _
    exact b127_208 ..
  | 19, _ => by
    rw [c127, b127_0, b127_1, if_neg (by decide)]
    show sm_E PP X 127 212 [] [] h = _
    exact b127_212 ..
  | 20, _ => by
    rw [c127, b127_0, b127_1, if_neg (by decide)]
    show sm_E PP X 127 216 [] [] h = _
    exact b127_216 ..
  | 21, _ => by
    rw [c127, b127_0, b127_1, if_neg (by decide)]
    show sm_E PP X 127 220 [] [] h = _
    exact b127_220 ..
  | 22, _ => by
    rw [c127, b127_0, b127_1, if_neg (by decide)]
    show sm_E PP X 127 224 [] [] h = _
    exact b127_224 ..
  | 23, _ => by
    rw [c127, b127_0, b127_1, if_neg (by decide)]
    show sm_E PP X 127 228 [] [] h = _
    exact b127_228 ..
  | 24, _ => by
    rw [c127, b127_0, b127_1, if_neg (by decide)]
    show sm_E PP X 127 232 [] [] h = _
    exact b127_232 ..
  | 25, _ => by
    rw [c127, b127_0, b127_1, if_neg (by decide)]
    show sm_E PP X 127 236 [] [] h = _
    exact b127_236 ..
  | 26, _ => by
    rw [c127, b127_0, b127_1, if_neg (by decide)]
    show sm_E PP X 127 240 [] [] h = _
    exact b127_240 ..
  | 27, _ => by
    rw [c127, b127_0, b127_1, if_neg (by decide)]
    show sm_E PP X 127 244 [] [] h = _
    exact b127_244 ..
  | 28, _ => by
    rw [c127, b127_0, b127_1, if_neg (by decide)]
    show sm_E PP X 127 248 [] [] h = _
    exact b127_248 ..
  | 29, _ => by
    rw [c127, b127_0, b127_1, if_neg (by decide)]
    show sm_E PP X 127 252 [] [] h = _
    exact b127_252 ..
  | w + 30, q => absurd q (by omega)
theorem wd_ok : (List.range 30).all (fun w => decide (wd w = if w < 10 then nth (stN 0) 0 w else if w < 20 then nth (stN 1) 0 (w - 10) else if w < 28 then nth (stN 2) 0 (w - 20) else if w = 28 then (stN 3).drop 1 else [97, 110, 100])) = true := by decide +kernel
