/-! between contracts and what cells hold -/
/-- the cells that V tells are ints within bounds -/
def VB (E : XE) (lo : Nat) (ps : List XP) (f : Nat → va_E) : Prop := ∀ (j o k : Nat) (P : XP), E.2.2.2[j]? = some (o, k) → ps[j]? = some P → ∃ (i : Int32) (a b : Int), cellv (f (lo + o)) k = some (.int i) ∧ P = pI a b ∧ a ≤ i.toInt ∧ i.toInt ≤ b
def cvs (E : XE) (lo : Nat) (f : Nat → va_E) : List Int := E.2.2.2.map (fun q => cv f (lo + q.1) q.2)
theorem AOK_app {B : Nat → Nat → Prop} : ∀ {ps qs : List XP} {vs ws : List Value} {zs ys : List Int}, AOK B ps vs zs → AOK B qs ws ys → AOK B (ps ++ qs) (vs ++ ws) (zs ++ ys)
  | [], _, [], _, [], _, _, h => h
  | _ :: _, _, _ :: _, _, _ :: _, _, h1, h => ⟨h1.1, AOK_app h1.2 h⟩
  | [], _, _ :: _, _, _, _, h1, _ => by simp [AOK] at h1
  | [], _, [], _, _ :: _, _, h1, _ => by simp [AOK] at h1
  | _ :: _, _, [], _, _, _, h1, _ => by simp [AOK] at h1
  | _ :: _, _, _ :: _, _, [], _, h1, _ => by simp [AOK] at h1
theorem aok_vb {B : Nat → Nat → Prop} {lo : Nat} {f : Nat → va_E} : ∀ (ts : List (Nat × Nat)) (ps : List XP), ts.length = ps.length → (∀ (j o k : Nat) (P : XP), ts[j]? = some (o, k) → ps[j]? = some P → ∃ (i : Int32) (a b : Int), cellv (f (lo + o)) k = some (.int i) ∧ P = pI a b ∧ a ≤ i.toInt ∧ i.toInt ≤ b) → AOK B ps (ts.map (fun q => (cellv (f (lo + q.1)) q.2).getD (.int 0))) (ts.map (fun q => cv f (lo + q.1) q.2))
  | [], [], _, _ => trivial
  | (o, k) :: ts, P :: ps, hl, h => by
    obtain ⟨i, a, b, h1, h2, h3, h4⟩ := h 0 o k P rfl rfl
    refine ⟨?_, aok_vb ts ps (by simpa using hl) (fun j o k P a b => h (j + 1) o k P (by simpa using a) (by simpa using b))⟩
    subst h2
    show pok B (pI a b) ((cellv (f (lo + o)) k).getD (.int 0)) (cv f (lo + o) k)
    rw [cv_of h1, h1]
    exact ⟨i, rfl, rfl, h3, h4⟩
  | [], _ :: _, hl, _ => by simp at hl
  | _ :: _, [], hl, _ => by simp at hl
theorem ent_of {E : XE} {xt : XX} {lo : Nat} {M : XM} {vs : List Value} {zs : List Int} {f : Nat → va_E} (hl : E.2.2.2.length = M.2.1.length) (hV : VB E lo M.2.1 f) (ha : AOK (xB E lo xt) M.1 vs zs) (hr : M.2.2.2 = []) : ENT E xt lo M vs (zs ++ cvs E lo f) f := by
  refine ⟨E.2.2.2.map (fun q => (cellv (f (lo + q.1)) q.2).getD (.int 0)), fun j o k v a b => ?_, AOK_app ha (aok_vb _ _ hl hV), (AOK_len ha).2, by rw [hr]; intro q hq; cases hq⟩
  rw [List.getElem?_map, a] at b
  simp only [Option.map_some, Option.some.injEq] at b
  have hlt : j < M.2.1.length := by rw [← hl]; exact (List.getElem?_eq_some_iff.mp a).1
  obtain ⟨i, x, y, h1, -⟩ := hV j o k _ a (List.getElem?_eq_getElem hlt)
  rw [h1] at b ⊢
  exact congrArg some b
theorem ROK_at {B : Nat → Nat → Prop} {G : List Int} : ∀ {ps : List XP} {vs : List Value} {j : Nat} {P : XP}, ROK B G ps vs → ps[j]? = some P → ∃ v, vs[j]? = some v ∧ rok B G P v
  | p :: ps, v :: vs, 0, P, h, hp => by
    simp only [List.getElem?_cons_zero, Option.some.injEq] at hp
    subst hp
    exact ⟨v, rfl, h.1⟩
  | p :: ps, v :: vs, j + 1, P, h, hp => by
    obtain ⟨w, a, b⟩ := ROK_at (j := j) h.2 (by simpa using hp)
    exact ⟨w, by simpa using a, b⟩
  | [], _, _, _, _, hp => by simp at hp
  | _ :: _, [], _, _, h, _ => by simp [ROK] at h
theorem ROK_of {B : Nat → Nat → Prop} {G : List Int} : ∀ {ps : List XP} {vs : List Value}, ps.length = vs.length → (∀ (j : Nat) (P : XP) (v : Value), ps[j]? = some P → vs[j]? = some v → rok B G P v) → ROK B G ps vs
  | [], [], _, _ => trivial
  | p :: ps, v :: vs, hl, h => ⟨h 0 p v rfl rfl, ROK_of (by simpa using hl) (fun j P w a b => h (j + 1) P w (by simpa using a) (by simpa using b))⟩
  | [], _ :: _, hl, _ => by simp at hl
  | _ :: _, [], hl, _ => by simp at hl
theorem out_at {E : XE} {xt : XX} {lo : Nat} {G0 : List Int} {o : XO} {ov : Option Value} {f : Nat → va_E} (h : OOK E xt lo G0 o ov f) {j a k : Nat} {P : XP} (hj : E.2.2.2[j]? = some (a, k)) (hP : o.2.2.1[j]? = some P) : ∃ v, cellv (f (lo + a)) k = some v ∧ rok (xB E lo xt) G0 P v := by
  obtain ⟨-, -, vv, h1, h2, -⟩ := h
  obtain ⟨v, a1, a2⟩ := ROK_at h2 hP
  exact ⟨v, h1 j a k v hj a1, a2⟩
theorem out_box {E : XE} {xt : XX} {lo : Nat} {G0 : List Int} {o : XO} {ov : Option Value} {f : Nat → va_E} (h : OOK E xt lo G0 o ov f) {j a k : Nat} {x y : Int} (hj : E.2.2.2[j]? = some (a, k)) (hP : o.2.2.1[j]? = some (pI x y)) : ∃ i : Int32, cellv (f (lo + a)) k = some (.int i) ∧ cv f (lo + a) k = i.toInt ∧ x ≤ i.toInt ∧ i.toInt ≤ y := by
  obtain ⟨v, a1, i, rfl, a2, a3⟩ := out_at h hj hP
  exact ⟨i, a1, cv_of a1, a2, a3⟩
theorem out_num {E : XE} {xt : XX} {lo : Nat} {G0 : List Int} {o : XO} {ov : Option Value} {f : Nat → va_E} (h : OOK E xt lo G0 o ov f) {j a k g : Nat} {x z : Int} (hj : E.2.2.2[j]? = some (a, k)) (hP : o.2.2.1[j]? = some (pE g x)) (hz : G0[g]? = some z) : ∃ i : Int32, cellv (f (lo + a)) k = some (.int i) ∧ cv f (lo + a) k = i.toInt ∧ i.toInt = z + x := by
  obtain ⟨v, a1, i, rfl, a2⟩ := out_at h hj hP
  refine ⟨i, a1, cv_of a1, ?_⟩
  simp only [xval, hz, Option.map_some, Option.some.injEq] at a2
  exact a2.symm
theorem cvs_at {E : XE} {lo : Nat} {f : Nat → va_E} {zs : List Int} {j a k : Nat} (hj : E.2.2.2[j]? = some (a, k)) : (zs ++ cvs E lo f)[zs.length + j]? = some (cv f (lo + a) k) := by
  rw [List.getElem?_append_right (by omega), show zs.length + j - zs.length = j by omega]
  unfold cvs
  rw [List.getElem?_map, hj]
  rfl
/-- all but some are kept -/
def keepx (na : Nat) (qs : List XP) (ex : List Nat) : Bool := (List.range qs.length).all (fun j => ex.contains j || decide (qs[j]? = some (pE (na + j) 0)))
theorem keepx_at {na : Nat} {qs : List XP} {ex : List Nat} (h : keepx na qs ex = true) {j : Nat} (hj : j < qs.length) (hn : j ∉ ex) : qs[j]? = some (pE (na + j) 0) := by
  have := List.all_eq_true.mp h j (List.mem_range.mpr hj)
  simp only [Bool.or_eq_true, List.contains_iff_mem, decide_eq_true_eq] at this
  rcases this with q | q
  · exact absurd q hn
  · exact q
theorem kept_at {E : XE} {xt : XX} {lo : Nat} {zs : List Int} {o : XO} {ov : Option Value} {f f' : Nat → va_E} (h : OOK E xt lo (zs ++ cvs E lo f) o ov f') {ex : List Nat} (hk : keepx zs.length o.2.2.1 ex = true) {j a k : Nat} (hj : E.2.2.2[j]? = some (a, k)) (hl : j < o.2.2.1.length) (hn : j ∉ ex) : ∃ i : Int32, cellv (f' (lo + a)) k = some (.int i) ∧ cv f' (lo + a) k = i.toInt ∧ i.toInt = cv f (lo + a) k := by
  obtain ⟨i, a1, a2, a3⟩ := out_num h hj (keepx_at hk hl hn) (cvs_at hj)
  exact ⟨i, a1, a2, by omega⟩
theorem VB_at {E : XE} {lo : Nat} {ps : List XP} {f : Nat → va_E} (h : VB E lo ps f) {j o k : Nat} {a b : Int} (hj : E.2.2.2[j]? = some (o, k)) (hp : ps[j]? = some (pI a b)) : ∃ i : Int32, cellv (f (lo + o)) k = some (.int i) ∧ cv f (lo + o) k = i.toInt ∧ a ≤ i.toInt ∧ i.toInt ≤ b := by
  obtain ⟨i, a', b', h1, h2, h3, h4⟩ := h j o k _ hj hp
  cases h2
  exact ⟨i, h1, cv_of h1, h3, h4⟩
/-- behind a call: what is kept is within its bounds again -/
theorem VB_out {E : XE} {xt : XX} {lo : Nat} {ps : List XP} {zs : List Int} {o : XO} {ov : Option Value} {f f' : Nat → va_E} (hV : VB E lo ps f) (h : OOK E xt lo (zs ++ cvs E lo f) o ov f') {ex : List Nat} (hk : keepx zs.length o.2.2.1 ex = true) (hl : E.2.2.2.length ≤ o.2.2.1.length) (hx : ∀ (j o k : Nat) (P : XP), j ∈ ex → E.2.2.2[j]? = some (o, k) → ps[j]? = some P → ∃ (i : Int32) (a b : Int), cellv (f' (lo + o)) k = some (.int i) ∧ P = pI a b ∧ a ≤ i.toInt ∧ i.toInt ≤ b) : VB E lo ps f' := by
  intro j a k P hj hP
  by_cases c : j ∈ ex
  · exact hx j a k P c hj hP
  · have hlt : j < E.2.2.2.length := (List.getElem?_eq_some_iff.mp hj).1
    obtain ⟨i, a1, a2, a3⟩ := kept_at h hk hj (by omega) c
    obtain ⟨i', x, y, b1, b2, b3, b4⟩ := hV j a k P hj hP
    have := cv_of b1
    simp only [gv] at this
    exact ⟨i, x, y, a1, b2, by omega, by omega⟩
theorem VB_set {E : XE} {lo : Nat} {ps : List XP} {f : Nat → va_E} (h : VB E lo ps f) {j o k : Nat} {x y : Int} (hj : E.2.2.2[j]? = some (o, k)) (hx : x ≤ cv f (lo + o) k ∧ cv f (lo + o) k ≤ y) : VB E lo (ps.set j (pI x y)) f := by
  intro j' o' k' P a b
  by_cases c : j = j'
  · subst c
    rw [hj] at a
    cases a
    rw [List.getElem?_set] at b
    rw [if_pos rfl] at b
    split at b
    · rename_i hlt
      cases b
      obtain ⟨i, a', b', h1, -⟩ := h j o k _ hj (List.getElem?_eq_getElem hlt)
      have := cv_of h1
      simp only [gv] at this
      exact ⟨i, x, y, h1, rfl, by omega, by omega⟩
    · cases b
  · rw [List.getElem?_set_ne c] at b
    exact h j' o' k' P a b
theorem VB_ent {E : XE} {xt : XX} {lo : Nat} {M : XM} {vs : List Value} {G0 : List Int} {f : Nat → va_E} (h : ENT E xt lo M vs G0 f) (hi : M.2.1.all isI = true) : VB E lo M.2.1 f := by
  obtain ⟨vv, h1, h2, h3, -⟩ := h
  obtain ⟨za, zv, -, -, b2⟩ := AOK_split h2 h3
  intro j o k P hj hP
  obtain ⟨v, z, a1, a2, a3⟩ := AOK_get b2 hP
  have hI : isI P = true := List.all_eq_true.mp hi P (List.mem_of_getElem? hP)
  match P, hI, a3 with
  | .inl (.inl (a, b)), _, ⟨i, e1, e2, e3, e4⟩ =>
    subst e1
    exact ⟨i, a, b, h1 j o k _ hj a1, rfl, by omega, by omega⟩
theorem ENT_cvs {E : XE} {xt : XX} {lo : Nat} {M : XM} {vs : List Value} {G0 : List Int} {f : Nat → va_E} (h : ENT E xt lo M vs G0 f) (hl : E.2.2.2.length = M.2.1.length) : ∃ za, AOK (xB E lo xt) M.1 vs za ∧ ∀ (j o k : Nat), E.2.2.2[j]? = some (o, k) → G0[M.1.length + j]? = some (cv f (lo + o) k) := by
  obtain ⟨vv, h1, h2, h3, -⟩ := h
  obtain ⟨za, zv, rfl, b1, b2⟩ := AOK_split h2 h3
  refine ⟨za, b1, fun j o k hj => ?_⟩
  have hlt : j < M.2.1.length := by rw [← hl]; exact (List.getElem?_eq_some_iff.mp hj).1
  obtain ⟨v, z, a1, a2, a3⟩ := AOK_get b2 (List.getElem?_eq_getElem hlt)
  rw [← (AOK_len b1).1, List.getElem?_append_right (by omega), show za.length + j - za.length = j by omega, a2, cv_of (h1 j o k v hj a1)]
  generalize M.2.1[j] = P at a3
  match P, a3 with
  | .inl (.inl (a, b)), ⟨i, e1, e2, _⟩ => subst e1; exact congrArg some e2.symm
  | .inl (.inr (a, b)), ⟨i, e1, e2, _⟩ => subst e1; exact congrArg some e2.symm
  | .inr (.inl k), ⟨⟨a, e1, _⟩, e2⟩ => subst e1; exact congrArg some e2
theorem ook_of {E : XE} {xt : XX} {lo : Nat} {G0 : List Int} {o : XO} {ov : Option Value} {f : Nat → va_E} (hl : o.2.2.1.length = E.2.2.2.length) (h1 : ∀ (g : Nat) (u w z : Int), o.1[g]? = some (u, w) → G0[g]? = some z → u ≤ z ∧ z ≤ w) (h2 : match o.2.1, ov with | none, none => True | some P, some v => rok (xB E lo xt) G0 P v | _, _ => False) (h3 : ∀ (j a k : Nat) (P : XP), E.2.2.2[j]? = some (a, k) → o.2.2.1[j]? = some P → ∃ v, cellv (f (lo + a)) k = some v ∧ rok (xB E lo xt) G0 P v) (h4 : o.2.2.2 = []) : OOK E xt lo G0 o ov f := by
  refine ⟨h1, h2, E.2.2.2.map (fun q => (cellv (f (lo + q.1)) q.2).getD (.int 0)), fun j a k v hj hv => ?_, ROK_of (by rw [List.length_map]; exact hl) (fun j P v hP hv => ?_), by rw [h4]; intro q hq; cases hq⟩
  · rw [List.getElem?_map, hj] at hv
    simp only [Option.map_some, Option.some.injEq] at hv
    have hlt : j < o.2.2.1.length := by rw [hl]; exact (List.getElem?_eq_some_iff.mp hj).1
    obtain ⟨v', q1, -⟩ := h3 j a k _ hj (List.getElem?_eq_getElem hlt)
    rw [q1] at hv ⊢
    exact congrArg some hv
  · rw [List.getElem?_map] at hv
    cases hj : E.2.2.2[j]? with
    | none => rw [hj] at hv; cases hv
    | some q =>
      obtain ⟨a, k⟩ := q
      rw [hj] at hv
      simp only [Option.map_some, Option.some.injEq] at hv
      obtain ⟨v', q1, q2⟩ := h3 j a k P hj hP
      rw [q1] at hv
      cases hv
      exact q2
theorem box_of_ent {E : XE} {xt : XX} {lo : Nat} {M : XM} {vs : List Value} {G0 : List Int} {f : Nat → va_E} (h : ENT E xt lo M vs G0 f) {bs : List (Int × Int)} (hb : bs = (M.1 ++ M.2.1).map bxp) : ∀ (g : Nat) (u w z : Int), bs[g]? = some (u, w) → G0[g]? = some z → u ≤ z ∧ z ≤ w := by
  obtain ⟨vv, h1, h2, h3, -⟩ := h
  intro g u w z q1 q2
  exact box_ent h2 (by rw [← hb]; exact q1) q2
theorem lv_less {ls : Array Slot} {n : Nat} {l l' : List (Nat × Value)} (h : lv_has ls n l) (hs : ∀ q, q ∈ l' → q ∈ l) : lv_has ls n l' := ⟨h.1, h.2.1, fun q hq => h.2.2 q (hs q hq)⟩
