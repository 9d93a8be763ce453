/-! GI: what is kept of the reference's pool -/
def cv (f : Nat → va_E) (a k : Nat) : Int := match cellv (f a) k with
  | some v => gv v
  | none => 0
def casts (f : Nat → va_E) (lo t : Nat) : Nat → Int
  | 0 => 0
  | n + 1 => casts f lo t n + (if cv f (lo + 12) (200 * t + 5 * n) = 1 then 1 else 0)
/-- an act as it may stand: what it is, its first number -/
def actok (w a : Int) : Prop := (0 ≤ w ∧ w ≤ 3) ∧ ((w = 0 ∨ w = 3) → 0 ≤ a ∧ a ≤ 9) ∧ (w = 1 → 1 ≤ a ∧ a ≤ 10000)
/-- a block: acts, bells, coin -/
def BK (lo : Nat) (f : Nat → va_E) (t : Nat) : Prop :=
  (0 ≤ cv f (lo + 7) (13 * t + 12) ∧ cv f (lo + 7) (13 * t + 12) ≤ 40) ∧
  (∀ k : Nat, (k : Int) < cv f (lo + 7) (13 * t + 12) → actok (cv f (lo + 12) (200 * t + 5 * k)) (cv f (lo + 12) (200 * t + 5 * k + 1))) ∧
  (0 ≤ cv f (lo + 7) (13 * t + 6) ∧ cv f (lo + 7) (13 * t + 6) ≤ 8 ∧ cv f (lo + 7) (13 * t + 6) + casts f lo t (cv f (lo + 7) (13 * t + 12)).toNat ≤ 10) ∧
  (∀ b : Nat, (b : Int) < cv f (lo + 7) (13 * t + 6) → 1 ≤ cv f (lo + 9) (48 * t + 6 * b) ∧ cv f (lo + 9) (48 * t + 6 * b) ≤ 10000) ∧
  ((cv f (lo + 6) t = 0 ∧ cv f (lo + 7) (13 * t + 5) = 0 ∧ cv f (lo + 7) (13 * t + 7) = 0 ∧ cv f (lo + 7) (13 * t + 12) = 0) ∨ (1 ≤ cv f (lo + 6) t ∧ 1 ≤ cv f (lo + 7) (13 * t) ∧ cv f (lo + 7) (13 * t) ≤ 100))
def GI (lo : Nat) (f : Nat → va_E) : Prop := (∀ t : Nat, t < 4 → BK lo f t) ∧ ∀ b : Nat, (b : Int) < cv f lo 24 → 1 ≤ cv f (lo + 14) (6 * b) ∧ cv f (lo + 14) (6 * b) ≤ 10000
theorem casts_nn {f : Nat → va_E} {lo t : Nat} : ∀ n, 0 ≤ casts f lo t n
  | 0 => Int.le_refl _
  | n + 1 => by
    have := casts_nn (f := f) (lo := lo) (t := t) n
    simp only [casts]
    split <;> omega
theorem casts_mono {f : Nat → va_E} {lo t : Nat} {m : Nat} : ∀ {n : Nat}, m ≤ n → casts f lo t m ≤ casts f lo t n
  | 0, h => by
    have : m = 0 := by omega
    subst this
    exact Int.le_refl _
  | n + 1, h => by
    by_cases c : m = n + 1
    · subst c; exact Int.le_refl _
    · have := casts_mono (f := f) (lo := lo) (t := t) (m := m) (n := n) (by omega)
      simp only [casts]
      split <;> omega
theorem casts_congr {f f' : Nat → va_E} {lo t : Nat} : ∀ {n : Nat}, (∀ k, k < n → cv f' (lo + 12) (200 * t + 5 * k) = cv f (lo + 12) (200 * t + 5 * k)) → casts f' lo t n = casts f lo t n
  | 0, _ => rfl
  | n + 1, h => by
    simp only [casts]
    rw [casts_congr (fun k hk => h k (by omega)), h n (by omega)]
/-- a block hangs on its own places -/
theorem BK_congr {lo t : Nat} {f f' : Nat → va_E} (ht : t < 4) (h7 : ∀ k, (k < 2 ∨ 3 ≤ k) → k < 52 → cv f' (lo + 7) k = cv f (lo + 7) k) (h12 : ∀ k, k < 1000 → cv f' (lo + 12) k = cv f (lo + 12) k) (h9 : ∀ k, k < 192 → cv f' (lo + 9) k = cv f (lo + 9) k) (h6 : ∀ k, k < 4 → cv f' (lo + 6) k = cv f (lo + 6) k) (h : BK lo f t) : BK lo f' t := by
  obtain ⟨⟨a1, a2⟩, b, ⟨c1, c0, c2⟩, d, e⟩ := h
  have e12 := h7 (13 * t + 12) (by omega) (by omega)
  have e6 := h7 (13 * t + 6) (by omega) (by omega)
  have e5 := h7 (13 * t + 5) (by omega) (by omega)
  have e7 := h7 (13 * t + 7) (by omega) (by omega)
  have e0 := h7 (13 * t) (by omega) (by omega)
  refine ⟨by rw [e12]; exact ⟨a1, a2⟩, fun k hk => ?_, ?_, fun q hq => ?_, ?_⟩
  · rw [e12] at hk
    rw [h12 _ (by omega), h12 _ (by omega)]
    exact b k hk
  · rw [e12, e6, casts_congr (f := f) (fun k hk => h12 _ (by omega))]
    exact ⟨c1, c0, c2⟩
  · rw [e6] at hq
    rw [h9 _ (by omega)]
    exact d q hq
  · rw [h6 t ht, e5, e7, e12, e0]
    exact e
theorem GI_congr {lo : Nat} {f f' : Nat → va_E} (h7 : ∀ k, (k < 2 ∨ 3 ≤ k) → k < 52 → cv f' (lo + 7) k = cv f (lo + 7) k) (h12 : ∀ k, k < 1000 → cv f' (lo + 12) k = cv f (lo + 12) k) (h9 : ∀ k, k < 192 → cv f' (lo + 9) k = cv f (lo + 9) k) (h6 : ∀ k, k < 4 → cv f' (lo + 6) k = cv f (lo + 6) k) (h24 : cv f' lo 24 = cv f lo 24) (h14 : ∀ k, k < 60 → cv f' (lo + 14) k = cv f (lo + 14) k) (hb : cv f lo 24 ≤ 10) (h : GI lo f) : GI lo f' := by
  refine ⟨fun t ht => BK_congr ht h7 h12 h9 h6 (h.1 t ht), fun b hb' => ?_⟩
  rw [h24] at hb'
  rw [h14 _ (by omega)]
  exact h.2 b hb'
theorem cv_of {f : Nat → va_E} {a k : Nat} {v : Value} (h : cellv (f a) k = some v) : cv f a k = gv v := by
  unfold cv
  rw [h]
/-- which images are kept -/
def kpt (e : va_E) (k : Nat) : Option Value := if k < 3 then cellv e k else none
abbrev XK3 : Type := va_E → va_E → (Nat → Option Value) → Prop
/-- the reference's references outside, and what is kept: GI, at most ten bells, and X of many, cells and isKept -/
def xtm (X : XK3) (t : Nat → ClassId) : XX := (fun k a => 2000 ≤ k ∧ k < 2019 ∧ a = t (100 + (k - 2000)), fun lo f => (GI lo f ∧ cv f lo 24 ≤ 10) ∧ X (f (lo + 2)) (f (lo + 3)) (kpt (f (lo + 13))))
theorem kdm_id : ∀ i : Fin 17, kdm[(i : Nat)]? = some (i : Nat) := by decide +kernel
theorem kdm_eq {i κ : Nat} (h : Em.2.1[i]? = some κ) : i = κ := by
  have hlt : i < 17 := (List.getElem?_eq_some_iff.mp h).1
  have := kdm_id ⟨i, hlt⟩
  exact Option.some.inj (this.symm.trans h)
theorem stm (X : XK3) (t : Nat → ClassId) : STok Em (xtm X t) t := by
  refine ⟨by decide +kernel, fun n hn a => ?_⟩
  show (2000 ≤ 2000 + n ∧ 2000 + n < 2019 ∧ a = t (100 + (2000 + n - 2000))) ↔ a = t (100 + n)
  rw [show 2000 + n - 2000 = n by omega]
  exact ⟨fun h => h.2.2, fun h => ⟨by omega, by omega, h⟩⟩
theorem pgm (X : XK3) (t : Nat → ClassId) (lo : Nat) : PGS Em (xtm X t) lo := by
  intro f f' h1 h2 h
  obtain ⟨⟨hG, hb⟩, hX⟩ := h
  have g : ∀ (i k : Nat) (ps : List (Nat × Nat)), Em.2.1[i]? = some i → xwr Em i = some ps → (∃ q ∈ ps, q.1 ≤ k ∧ k < q.2) → cv f' (lo + i) k = cv f (lo + i) k := fun i k ps a b c => by
    unfold cv
    rw [h1 i i k ps a b c]
  have e24 : cv f' lo 24 = cv f lo 24 := g 0 24 _ rfl rfl ⟨(24, 25), by decide, by decide, by decide⟩
  refine ⟨⟨GI_congr (fun k hk hk2 => ?_) (fun k hk => g 12 k _ rfl rfl ⟨(0, 1000), by decide, by omega, hk⟩) (fun k hk => g 9 k _ rfl rfl ⟨(0, 192), by decide, by omega, hk⟩) (fun k hk => g 6 k _ rfl rfl ⟨(0, 4), by decide, by omega, hk⟩) e24 (fun k hk => g 14 k _ rfl rfl ⟨(0, 60), by decide, by omega, hk⟩) hb hG, by rw [e24]; exact hb⟩, ?_⟩
  · rcases hk with q | q
    · exact g 7 k _ rfl rfl ⟨(0, 2), by decide, by omega, q⟩
    · exact g 7 k _ rfl rfl ⟨(3, 52), by decide, q, hk2⟩
  · have ek : kpt (f' (lo + 13)) = kpt (f (lo + 13)) := by
      funext k
      unfold kpt
      by_cases c : k < 3
      · rw [if_pos c, if_pos c, h1 13 13 k _ rfl rfl ⟨(0, 3), by decide, by omega, c⟩]
      · rw [if_neg c, if_neg c]
    rw [h2 2 2 rfl rfl, h2 3 3 rfl rfl, ek]
    exact hX
theorem gbm_ok (X : XK3) (t : Nat → ClassId) (lo : Nat) : GB1 Em (xtm X t) lo := by
  intro f h κ p j q a b hm i o k w v hi hj hw hq hv
  obtain ⟨⟨hG, hb⟩, hX⟩ := h
  have ei := kdm_eq hi
  subst ei
  have e1 := cv_of hv
  have e2 := cv_of hw
  simp only [gv] at e2
  have hIs : ∀ n : Nat, i = 14 → p = 6 * n → j = 5 → q = (n : Int) → a = 1 → b = 10000 → a ≤ gv v ∧ gv v ≤ b := by
    intro n h1 h2 h3 h4 h5 h6
    subst h1; subst h2; subst h3; subst h4; subst h5; subst h6
    have hj' : (0, 24) = (o, k) := Option.some.inj hj
    cases hj'
    have := hG.2 n (by rw [show lo = lo + 0 from rfl, e2]; exact hq)
    rw [← e1]
    exact this
  have hCo : i = 7 → p = 0 → q = 0 → a = 1 → b = 100 → ((o, k) = (6, 0) ∨ (o, k) = (7, 5) ∨ (o, k) = (7, 7)) → a ≤ gv v ∧ gv v ≤ b := by
    intro h1 h2 h3 h4 h5 h6
    subst h1; subst h2; subst h3; subst h4; subst h5
    obtain ⟨-, -, -, -, c⟩ := hG.1 0 (by decide)
    simp only [Nat.mul_zero, Nat.zero_add] at c
    rw [← e1]
    rcases c with ⟨c1, c2, c3, -⟩ | ⟨c1, c2, c3⟩
    · exfalso
      rcases h6 with h6 | h6 | h6 <;> cases h6 <;> omega
    · exact ⟨c2, c3⟩
  have hm' : (i, p, j, q, a, b) ∈ gbm := hm
  simp only [gbm, List.mem_cons, List.not_mem_nil, or_false, Prod.mk.injEq] at hm'
  rcases hm' with h | h | h | h | h | h | h | h | h | h | h | h | h
  · exact hIs 0 h.1 (by omega) h.2.2.1 (by omega) h.2.2.2.2.1 h.2.2.2.2.2
  · exact hIs 1 h.1 (by omega) h.2.2.1 (by omega) h.2.2.2.2.1 h.2.2.2.2.2
  · exact hIs 2 h.1 (by omega) h.2.2.1 (by omega) h.2.2.2.2.1 h.2.2.2.2.2
  · exact hIs 3 h.1 (by omega) h.2.2.1 (by omega) h.2.2.2.2.1 h.2.2.2.2.2
  · exact hIs 4 h.1 (by omega) h.2.2.1 (by omega) h.2.2.2.2.1 h.2.2.2.2.2
  · exact hIs 5 h.1 (by omega) h.2.2.1 (by omega) h.2.2.2.2.1 h.2.2.2.2.2
  · exact hIs 6 h.1 (by omega) h.2.2.1 (by omega) h.2.2.2.2.1 h.2.2.2.2.2
  · exact hIs 7 h.1 (by omega) h.2.2.1 (by omega) h.2.2.2.2.1 h.2.2.2.2.2
  · exact hIs 8 h.1 (by omega) h.2.2.1 (by omega) h.2.2.2.2.1 h.2.2.2.2.2
  · exact hIs 9 h.1 (by omega) h.2.2.1 (by omega) h.2.2.2.2.1 h.2.2.2.2.2
  · refine hCo h.1 h.2.1 h.2.2.2.1 h.2.2.2.2.1 h.2.2.2.2.2 (Or.inl ?_)
    obtain ⟨-, -, rfl, -⟩ := h
    exact (Option.some.inj hj).symm
  · refine hCo h.1 h.2.1 h.2.2.2.1 h.2.2.2.2.1 h.2.2.2.2.2 (Or.inr (Or.inl ?_))
    obtain ⟨-, -, rfl, -⟩ := h
    exact (Option.some.inj hj).symm
  · refine hCo h.1 h.2.1 h.2.2.2.1 h.2.2.2.2.1 h.2.2.2.2.2 (Or.inr (Or.inr ?_))
    obtain ⟨-, -, rfl, -⟩ := h
    exact (Option.some.inj hj).symm
theorem twxm (X : XK3) (t : Nat → ClassId) (lo : Nat) : TWX Em (xtm X t) lo ∧ STok Em (xtm X t) t := ⟨⟨twm, pgm X t lo, gbm_ok X t lo⟩, stm X t⟩
