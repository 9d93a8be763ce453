/-! a method's beginning; a contract that is checked holds -/
def xbd (P : XP) : XI := match P with
  | .inl (.inl (lo, hi)) => (lo, hi, [])
  | .inl (.inr (lo, hi)) => (lo, hi, [])
  | _ => (0, 0, [])
def xen (g : Nat) (P : XP) : XV := match P with
  | .inl (.inl (lo, hi)) => .inl (.inl (if lo = hi then (none, lo) else (some g, 0)))
  | .inl (.inr (lo, hi)) => .inl (.inr (if lo = hi then (none, lo) else (some g, 0)))
  | .inr (.inl k) => .inr (.inl k)
  | _ => .inr (.inl 0)
def xargs : Nat → Nat → List XP → List (Nat × XV)
  | _, _, [] => []
  | i, g, P :: ps => (i, xen g P) :: xargs (if xcat (xen g P) = 2 then i + 2 else i + 1) (g + 1) ps
def xvs : Nat → List XP → List XV
  | _, [] => []
  | g, P :: ps => xen g P :: xvs (g + 1) ps
theorem AOK_split {B : Nat → Nat → Prop} : ∀ {ps1 ps2 : List XP} {vs vv : List Value} {zs : List Int}, AOK B (ps1 ++ ps2) (vs ++ vv) zs → vs.length = ps1.length → ∃ za zv, zs = za ++ zv ∧ AOK B ps1 vs za ∧ AOK B ps2 vv zv
  | [], ps2, [], vv, zs, h, _ => ⟨[], zs, rfl, trivial, h⟩
  | P :: ps1, ps2, v :: vs, vv, z :: zs, ⟨h1, h2⟩, hl => by
    obtain ⟨za, zv, e, a, b⟩ := AOK_split h2 (by simpa using hl)
    exact ⟨z :: za, zv, by rw [e]; rfl, ⟨h1, a⟩, b⟩
theorem AOK_len {B : Nat → Nat → Prop} : ∀ {ps : List XP} {vs : List Value} {zs : List Int}, AOK B ps vs zs → zs.length = ps.length ∧ vs.length = ps.length
  | [], [], [], _ => ⟨rfl, rfl⟩
  | P :: ps, v :: vs, z :: zs, ⟨_, h2⟩ => by
    obtain ⟨a, b⟩ := AOK_len h2
    exact ⟨by simp [a], by simp [b]⟩
theorem xen_ok {B : Nat → Nat → Prop} {G : List Int} {g : Nat} {P : XP} {v : Value} {z : Int} (h : pok B P v z) (hz : G[g]? = some z) : xok B G (xen g P) v := by
  match P, h with
  | .inl (.inl (lo, hi)), ⟨i, e1, e2, h1, h2⟩ =>
    refine ⟨i, e1, ?_⟩
    by_cases c : lo = hi
    · rw [if_pos c]; simp only [xval]; congr 1; omega
    · rw [if_neg c]; simp only [xval, hz, Option.map_some]; congr 1; omega
  | .inl (.inr (lo, hi)), ⟨i, e1, e2, h1, h2⟩ =>
    refine ⟨i, e1, ?_⟩
    by_cases c : lo = hi
    · rw [if_pos c]; simp only [xval]; congr 1; omega
    · rw [if_neg c]; simp only [xval, hz, Option.map_some]; congr 1; omega
  | .inr (.inl k), ⟨h, _⟩ => exact h
theorem LR_args {B : Nat → Nat → Prop} {G : List Int} : ∀ {ps : List XP} {vs : List Value} {zs : List Int} (i g : Nat), AOK B ps vs zs → (∀ (j : Nat) (z : Int), zs[j]? = some z → G[g + j]? = some z) → LR B G (xargs i g ps) (lv_args i vs)
  | [], [], [], i, g, _, _ => trivial
  | P :: ps, v :: vs, z :: zs, i, g, ⟨h1, h2⟩, hz => by
    have hx := xen_ok (g := g) h1 (hz 0 z rfl)
    refine ⟨rfl, hx, ?_⟩
    rw [xcat_ok hx]
    exact LR_args _ (g + 1) h2 (fun j z' hj => by rw [show g + 1 + j = g + (j + 1) by omega]; exact hz (j + 1) z' (by simpa using hj))
theorem xvs_ok {B : Nat → Nat → Prop} {G : List Int} : ∀ {ps : List XP} {vs : List Value} {zs : List Int} (g : Nat), AOK B ps vs zs → (∀ (j : Nat) (z : Int), zs[j]? = some z → G[g + j]? = some z) → ∀ (j : Nat) (x : XV), (xvs g ps)[j]? = some x → ∃ v, vs[j]? = some v ∧ xok B G x v
  | [], [], [], g, _, _, j, x, h => by simp [xvs] at h
  | P :: ps, v :: vs, z :: zs, g, ⟨h1, h2⟩, hz, 0, x, h => by
    simp only [xvs, List.getElem?_cons_zero, Option.some.injEq] at h
    subst h
    exact ⟨v, rfl, xen_ok h1 (hz 0 z rfl)⟩
  | P :: ps, v :: vs, z :: zs, g, ⟨h1, h2⟩, hz, j + 1, x, h => by
    obtain ⟨w, a, b⟩ := xvs_ok (g + 1) h2 (fun j z' hj => by rw [show g + 1 + j = g + (j + 1) by omega]; exact hz (j + 1) z' (by simpa using hj)) j x (by simpa [xvs] using h)
    exact ⟨w, by simpa using a, b⟩
theorem AOK_at {B : Nat → Nat → Prop} : ∀ {ps : List XP} {vs : List Value} {zs : List Int} {i : Nat} {z : Int}, AOK B ps vs zs → zs[i]? = some z → ∃ P v, ps[i]? = some P ∧ pok B P v z
  | [], [], [], i, z, _, h => by simp at h
  | P :: ps, v :: vs, z' :: zs, 0, z, ⟨h1, _⟩, h => by
    simp only [List.getElem?_cons_zero, Option.some.injEq] at h
    subst h
    exact ⟨P, v, rfl, h1⟩
  | P :: ps, v :: vs, z' :: zs, i + 1, z, ⟨_, h2⟩, h => by
    obtain ⟨P', v', a, b⟩ := AOK_at h2 (by simpa using h)
    exact ⟨P', v', by simpa using a, b⟩
theorem gok_ent {B : Nat → Nat → Prop} {ps : List XP} {vs : List Value} {zs : List Int} (h : AOK B ps vs zs) : gok zs (ps.map xbd) := by
  refine ⟨by rw [(AOK_len h).1, List.length_map], fun i lo hi r z hi' hz => ?_⟩
  obtain ⟨P, v, h1, h2⟩ := AOK_at h hz
  rw [List.getElem?_map, h1] at hi'
  simp only [Option.map_some, Option.some.injEq] at hi'
  match P, h2, hi' with
  | .inl (.inl (a, b)), ⟨i, e1, e2, q1, q2⟩, hi' =>
    simp only [xbd, Prod.mk.injEq] at hi'
    obtain ⟨rfl, rfl, rfl⟩ := hi'
    exact ⟨q1, q2, fun u hu => absurd hu List.not_mem_nil⟩
  | .inl (.inr (a, b)), ⟨i, e1, e2, q1, q2⟩, hi' =>
    simp only [xbd, Prod.mk.injEq] at hi'
    obtain ⟨rfl, rfl, rfl⟩ := hi'
    exact ⟨q1, q2, fun u hu => absurd hu List.not_mem_nil⟩
  | .inr (.inl k), ⟨_, e⟩, hi' =>
    simp only [xbd, Prod.mk.injEq] at hi'
    obtain ⟨rfl, rfl, rfl⟩ := hi'
    exact ⟨by omega, by omega, fun u hu => absurd hu List.not_mem_nil⟩
def xwords (ps : List XP) : Nat := (ps.map (fun P => xcat (xen 0 P))).sum
theorem lg_len {B : Nat → Nat → Prop} : ∀ {ps : List XP} {vs : List Value} {zs : List Int}, AOK B ps vs zs → (lg_sl vs).length = xwords ps
  | [], [], [], _ => rfl
  | P :: ps, v :: vs, z :: zs, ⟨h1, h2⟩ => by
    have ih := lg_len h2
    have hc : v.category = xcat (xen 0 P) := xcat_ok (xen_ok (G := [z]) (g := 0) h1 rfl)
    simp only [xwords, List.map_cons, List.sum_cons] at ih ⊢
    rw [← ih, ← hc]
    rcases lv_cat v with q | q
    · simp [lg_sl, q]; omega
    · simp [lg_sl, q]; omega
