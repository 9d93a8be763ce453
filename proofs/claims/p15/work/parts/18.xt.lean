/-! a method's beginning; a contract that is checked holds -/
def xbd (P : XP) : XI := match P with
  | .inl (.inl (lo, hi)) => (lo, hi, [])
  | .inl (.inr (lo, hi)) => (lo, hi, [])
  | _ => (0, 0, [])
def xen (g : Nat) (P : XP) : XV := match P with
  | .inl (.inl (lo, hi)) => .inl (.inl (if lo = hi then (none, lo) else (some g, 0)))
  | .inl (.inr (lo, hi)) => .inl (.inr (if lo = hi then (none, lo) else (some g, 0)))
  | .inr (.inl k) => .inr (.inl k)
  | _ => .inr (.inl 0)
def xargs : Nat → Nat → List XP → List (Nat × XV)
  | _, _, [] => []
  | i, g, P :: ps => (i, xen g P) :: xargs (if xcat (xen g P) = 2 then i + 2 else i + 1) (g + 1) ps
def xvs : Nat → List XP → List XV
  | _, [] => []
  | g, P :: ps => xen g P :: xvs (g + 1) ps
theorem AOK_split {B : Nat → Nat → Prop} : ∀ {ps1 ps2 : List XP} {vs vv : List Value} {zs : List Int}, AOK B (ps1 ++ ps2) (vs ++ vv) zs → vs.length = ps1.length → ∃ za zv, zs = za ++ zv ∧ AOK B ps1 vs za ∧ AOK B ps2 vv zv
  | [], ps2, [], vv, zs, h, _ => ⟨[], zs, rfl, trivial, h⟩
  | P :: ps1, ps2, v :: vs, vv, z :: zs, ⟨h1, h2⟩, hl => by
    obtain ⟨za, zv, e, a, b⟩ := AOK_split h2 (by simpa using hl)
    exact ⟨z :: za, zv, by rw [e]; rfl, ⟨h1, a⟩, b⟩
theorem AOK_len {B : Nat → Nat → Prop} : ∀ {ps : List XP} {vs : List Value} {zs : List Int}, AOK B ps vs zs → zs.length = ps.length ∧ vs.length = ps.length
  | [], [], [], _ => ⟨rfl, rfl⟩
  | P :: ps, v :: vs, z :: zs, ⟨_, h2⟩ => by
    obtain ⟨a, b⟩ := AOK_len h2
    exact ⟨by simp [a], by simp [b]⟩
theorem xen_ok {B : Nat → Nat → Prop} {G : List Int} {g : Nat} {P : XP} {v : Value} {z : Int} (h : pok B P v z) (hz : G[g]? = some z) : xok B G (xen g P) v := by
  match P, h with
  | .inl (.inl (lo, hi)), ⟨i, e1, e2, h1, h2⟩ =>
    refine ⟨i, e1, ?_⟩
    by_cases c : lo = hi
    · rw [if_pos c]; simp only [xval]; congr 1; omega
    · rw [if_neg c]; simp only [xval, hz, Option.map_some]; congr 1; omega
  | .inl (.inr (lo, hi)), ⟨i, e1, e2, h1, h2⟩ =>
    refine ⟨i, e1, ?_⟩
    by_cases c : lo = hi
    · rw [if_pos c]; simp only [xval]; congr 1; omega
    · rw [if_neg c]; simp only [xval, hz, Option.map_some]; congr 1; omega
  | .inr (.inl k), ⟨h, _⟩ => exact h
theorem LR_args {B : Nat → Nat → Prop} {G : List Int} : ∀ {ps : List XP} {vs : List Value} {zs : List Int} (i g : Nat), AOK B ps vs zs → (∀ (j : Nat) (z : Int), zs[j]? = some z → G[g + j]? = some z) → LR B G (xargs i g ps) (lv_args i vs)
  | [], [], [], i, g, _, _ => trivial
  | P :: ps, v :: vs, z :: zs, i, g, ⟨h1, h2⟩, hz => by
    have hx := xen_ok (g := g) h1 (hz 0 z rfl)
    refine ⟨rfl, hx, ?_⟩
    rw [xcat_ok hx]
    exact LR_args _ (g + 1) h2 (fun j z' hj => by rw [show g + 1 + j = g + (j + 1) by omega]; exact hz (j + 1) z' (by simpa using hj))
theorem xvs_ok {B : Nat → Nat → Prop} {G : List Int} : ∀ {ps : List XP} {vs : List Value} {zs : List Int} (g : Nat), AOK B ps vs zs → (∀ (j : Nat) (z : Int), zs[j]? = some z → G[g + j]? = some z) → ∀ (j : Nat) (x : XV), (xvs g ps)[j]? = some x → ∃ v, vs[j]? = some v ∧ xok B G x v
  | [], [], [], g, _, _, j, x, h => by simp [xvs] at h
  | P :: ps, v :: vs, z :: zs, g, ⟨h1, h2⟩, hz, 0, x, h => by
    simp only [xvs, List.getElem?_cons_zero, Option.some.injEq] at h
    subst h
    exact ⟨v, rfl, xen_ok h1 (hz 0 z rfl)⟩
  | P :: ps, v :: vs, z :: zs, g, ⟨h1, h2⟩, hz, j + 1, x, h => by
    obtain ⟨w, a, b⟩ := xvs_ok (g + 1) h2 (fun j z' hj => by rw [show g + 1 + j = g + (j + 1) by omega]; exact hz (j + 1) z' (by simpa using hj)) j x (by simpa [xvs] using h)
    exact ⟨w, by simpa using a, b⟩
theorem AOK_at {B : Nat → Nat → Prop} : ∀ {ps : List XP} {vs : List Value} {zs : List Int} {i : Nat} {z : Int}, AOK B ps vs zs → zs[i]? = some z → ∃ P v, ps[i]? = some P ∧ pok B P v z
  | [], [], [], i, z, _, h => by simp at h
  | P :: ps, v :: vs, z' :: zs, 0, z, ⟨h1, _⟩, h => by
    simp only [List.getElem?_cons_zero, Option.some.injEq] at h
    subst h
    exact ⟨P, v, rfl, h1⟩
  | P :: ps, v :: vs, z' :: zs, i + 1, z, ⟨_, h2⟩, h => by
    obtain ⟨P', v', a, b⟩ := AOK_at h2 (by simpa using h)
    exact ⟨P', v', by simpa using a, b⟩
theorem gok_ent {B : Nat → Nat → Prop} {ps : List XP} {vs : List Value} {zs : List Int} (h : AOK B ps vs zs) : gok zs (ps.map xbd) := by
  refine ⟨by rw [(AOK_len h).1, List.length_map], fun i lo hi r z hi' hz => ?_⟩
  obtain ⟨P, v, h1, h2⟩ := AOK_at h hz
  rw [List.getElem?_map, h1] at hi'
  simp only [Option.map_some, Option.some.injEq] at hi'
  match P, h2, hi' with
  | .inl (.inl (a, b)), ⟨i, e1, e2, q1, q2⟩, hi' =>
    simp only [xbd, Prod.mk.injEq] at hi'
    obtain ⟨rfl, rfl, rfl⟩ := hi'
    exact ⟨q1, q2, fun u hu => absurd hu List.not_mem_nil⟩
  | .inl (.inr (a, b)), ⟨i, e1, e2, q1, q2⟩, hi' =>
    simp only [xbd, Prod.mk.injEq] at hi'
    obtain ⟨rfl, rfl, rfl⟩ := hi'
    exact ⟨q1, q2, fun u hu => absurd hu List.not_mem_nil⟩
  | .inr (.inl k), ⟨_, e⟩, hi' =>
    simp only [xbd, Prod.mk.injEq] at hi'
    obtain ⟨rfl, rfl, rfl⟩ := hi'
    exact ⟨by omega, by omega, fun u hu => absurd hu List.not_mem_nil⟩
def xwords (ps : List XP) : Nat := (ps.map (fun P => xcat (xen 0 P))).sum
noncomputable def xchk (E : XE) (g : XG) (M : XM) (rt : Nat) (cc : ByteArray) (fuel : Nat) : Bool := decide (xwords M.1 ≤ g.2.1.1) && xrun E g M rt cc fuel (0, (M.1 ++ M.2.1).map xbd, xargs 0 0 M.1, [], xvs M.1.length M.2.1)
theorem lg_len {B : Nat → Nat → Prop} : ∀ {ps : List XP} {vs : List Value} {zs : List Int}, AOK B ps vs zs → (lg_sl vs).length = xwords ps
  | [], [], [], _ => rfl
  | P :: ps, v :: vs, z :: zs, ⟨h1, h2⟩ => by
    have ih := lg_len h2
    have hc : v.category = xcat (xen 0 P) := xcat_ok (xen_ok (G := [z]) (g := 0) h1 rfl)
    simp only [xwords, List.map_cons, List.sum_cons] at ih ⊢
    rw [← ih, ← hc]
    rcases lv_cat v with q | q
    · simp [lg_sl, q]; omega
    · simp [lg_sl, q]; omega
theorem chk_sound {l : Launch} {E : XE} {xt : Nat → Nat → Prop} {D : va_G} {t : Nat → ClassId} {lo : Nat} {Y : XY} {M : XM} {g : XG} {ys : List XY} {rt fuel : Nat} (hy : plainName Y.1.cls = true) (hrt : RTok rt Y.2.2.2.1) (hnl : g.2.1.1 = Y.2.2.1) (hk : g.2.1.2 = Y.2.2.2.2) (hG : XGok l E xt D t lo Y.1.cls ys g) (h : xchk E g M rt Y.2.1 fuel = true) : HOLDS l E xt D t lo Y M := by
  intro vs G0 f hent hT
  obtain ⟨vv, hv, ha, hlen⟩ := hent
  obtain ⟨za, zv, e, a1, a2⟩ := AOK_split ha hlen
  simp only [xchk, Bool.and_eq_true, decide_eq_true_eq] at h
  refine Met.ofW (cc := Y.2.1) (maxL := Y.2.2.1) (ret := Y.2.2.2.1) hy rfl ?_
  intro p e' s m args below meth c s₁ B hml hvv
  obtain ⟨rfl, hK, hP⟩ := hvv
  have hts := atoms_spec (ws := px_ws Y.1 Y.2.1 Y.2.2.1 Y.2.2.2.1) B.pre
  have hl := lv_entry vs (n := Y.2.2.1) (by rw [lg_len a1, ← hnl]; exact h.1)
  rw [lg_entry_eq]
  have X : CX p s m vs.toArray meth c Y.1.cls Y.2.1 Y.2.2.1 Y.2.2.2.1 := ⟨B.exec, B.bytes, hml, findClass_of_methodNamed B.named, fun w h => hts w (List.mem_cons_of_mem _ h), B.notSynchronized, B.returns⟩
  have hH : HX D t lo E.2.1.length f (px_A lo E.2.1.length) s s.heap [] := ⟨hK, hP, fun q h1 h2 => ⟨h1, h2⟩, va_S.rf⟩
  have hlz := AOK_len a1
  have hz1 : ∀ (j : Nat) (z : Int), za[j]? = some z → G0[0 + j]? = some z := fun j z hj => by
    rw [e, Nat.zero_add, List.getElem?_append_left (List.getElem?_eq_some_iff.mp hj).1]; exact hj
  have hz2 : ∀ (j : Nat) (z : Int), zv[j]? = some z → G0[M.1.length + j]? = some z := fun j z hj => by
    rw [e, List.getElem?_append_right (by omega), show M.1.length + j - za.length = j by omega]; exact hj
  refine xrun_ok (R := px_rm Y.2.2.2.2) (cells := 0) (slots := 0) X hrt ?_ hG hnl (by rw [hk]; exact ⟨Nat.le_refl _, Nat.le_refl _⟩) ⟨Nat.le_refl _, Nat.le_refl _⟩ fuel _ h.2 s.heap [] _ [] ⟨G0, f, lv_args 0 vs, ⟨[], by simp⟩, gok_ent ha, hl, LR_args 0 0 a1 hz1, trivial, ?_, hT, fun i k _ _ => rfl, hH⟩
  · rw [(AOK_len ha).1, List.length_append]
  · intro j o k x h1 h2
    obtain ⟨v, q1, q2⟩ := xvs_ok M.1.length a2 hz2 j x h2
    exact ⟨v, hv j o k v h1 q1, q2⟩
