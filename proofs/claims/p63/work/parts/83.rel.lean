/-! what both sides have in common, over a call of each method; the answers that are compared -/
def REL (lm lc : Nat) (fm fc : Nat → va_E) : Prop := (∀ k, k < 3 → cv fc (lc + (128 + 56 * k)) 0 = cv fm (lm + 13) k) ∧ ∀ s, s < 4 → (cv fc (lc + (296 + 2 * s)) 0 = 0 ∧ cv fm (lm + 1) s = -1) ∨ (cv fc (lc + (296 + 2 * s)) 0 = 1 ∧ cv fm (lm + 1) s = cv fc (lc + (296 + 2 * s)) 1 ∧ 0 ≤ cv fm (lm + 1) s ∧ cv fm (lm + 2) s = cv fc (lc + (296 + 2 * s)) 2)
section
variable {b : Bool} {t : Nat → ClassId} {lm lc : Nat} {fm fm2 fc fc2 : Nat → va_E} {om oc : Option Value}
theorem KC_rows (K : KCL b lc fc fc2) : (∀ k, k < 3 → cv fc2 (lc + (128 + 56 * k)) 0 = cv fc (lc + (128 + 56 * k)) 0) ∧ ∀ s, s < 4 → cv fc2 (lc + (296 + 2 * s)) 0 = cv fc (lc + (296 + 2 * s)) 0 ∧ cv fc2 (lc + (296 + 2 * s)) 1 = cv fc (lc + (296 + 2 * s)) 1 ∧ cv fc2 (lc + (296 + 2 * s)) 2 = cv fc (lc + (296 + 2 * s)) 2 := by
  refine ⟨fun k hk => K _ _ _ (by omega) (trc_k (b := b) hk), fun s hs => ?_⟩
  obtain ⟨t1, t2, t3, -⟩ := trc_r (b := b) hs
  exact ⟨K _ _ _ (by omega) t1, K _ _ _ (by omega) t2, K _ _ _ (by omega) t3⟩
theorem REL_keep (h : REL lm lc fm fc) (hm : KP lm fm fm2) (hc : KCL b lc fc fc2) : REL lm lc fm2 fc2 := by
  obtain ⟨k1, k2⟩ := KC_rows hc
  refine ⟨fun k hk => by rw [k1 k hk, hm.2.2 k hk]; exact h.1 k hk, fun s hs => ?_⟩
  obtain ⟨r1, r2, r3⟩ := k2 s hs
  rw [r1, r2, r3, hm.1 s hs, hm.2.1 s hs]
  exact h.2 s hs
theorem REL_image {k : Int32} (h : REL lm lc fm fc) (hm : IZ t lm fm k om fm2) (hc : CIZ b t lc fc k oc fc2) : REL lm lc fm2 fc2 ∧ om = oc := by
  obtain ⟨-, ⟨m1, m2⟩, m3⟩ := hm
  obtain ⟨-, c1, c3⟩ := hc
  have rows : ∀ s, s < 4 → (cv fc2 (lc + (296 + 2 * s)) 0 = 0 ∧ cv fm2 (lm + 1) s = -1) ∨ (cv fc2 (lc + (296 + 2 * s)) 0 = 1 ∧ cv fm2 (lm + 1) s = cv fc2 (lc + (296 + 2 * s)) 1 ∧ 0 ≤ cv fm2 (lm + 1) s ∧ cv fm2 (lm + 2) s = cv fc2 (lc + (296 + 2 * s)) 2) := by
    intro s hs
    obtain ⟨t1, t2, t3, -⟩ := trc_r (b := b) hs
    rw [c1 _ _ _ (by omega) t1, c1 _ _ _ (by omega) t2, c1 _ _ _ (by omega) t3, m1 s hs, m2 s hs]
    exact h.2 s hs
  rcases m3 with ⟨K, hK, ek, e1, m4⟩ | ⟨hk, e1, m4⟩
  · rcases c3 with ⟨K', hK', ek', e2, c4⟩ | ⟨hk, e2, c4⟩
    · have eK : K = K' := by
        have : (nI K).toInt = (nI K').toInt := by rw [← ek, ← ek']
        rw [nI_toInt (by omega), nI_toInt (by omega)] at this
        omega
      subst eK
      refine ⟨⟨fun q hq => ?_, rows⟩, by rw [e1, e2]⟩
      rw [m4 q hq, c4 q hq, h.1 q hq]
    · exfalso
      rw [ek, nI_toInt (by omega)] at hk
      omega
  · rcases c3 with ⟨K', hK', ek', e2, c4⟩ | ⟨hk', e2, c4⟩
    · exfalso
      rw [ek', nI_toInt (by omega)] at hk
      omega
    · exact ⟨⟨fun q hq => by rw [m4 q hq, c4 q hq]; exact h.1 q hq, rows⟩, by rw [e1, e2]⟩
theorem REL_back {k : Int32} (h : REL lm lc fm fc) (hm : BZ t lm fm k om fm2) (hc : CBZ b t lc fc k oc fc2) : REL lm lc fm2 fc2 ∧ om = oc := by
  obtain ⟨-, m1, m3⟩ := hm
  obtain ⟨-, c1, c3⟩ := hc
  refine ⟨REL_keep h m1 c1, ?_⟩
  rcases m3 with ⟨K, hK, ek, m4⟩ | ⟨hk, e1⟩
  · rcases c3 with ⟨K', hK', ek', c4⟩ | ⟨hk, e2⟩
    · have eK : K = K' := by
        have : (nI K).toInt = (nI K').toInt := by rw [← ek, ← ek']
        rw [nI_toInt (by omega), nI_toInt (by omega)] at this
        omega
      subst eK
      have hr := h.1 K hK
      rcases m4 with ⟨e1, m5⟩ | ⟨e1, m5⟩ <;> rcases c4 with ⟨e2, c5⟩ | ⟨e2, c5⟩
      · rw [e1, e2]
      · exfalso; omega
      · exfalso; omega
      · rw [e1, e2]
    · exfalso
      rw [ek, nI_toInt (by omega)] at hk
      omega
  · rcases c3 with ⟨K', hK', ek', c4⟩ | ⟨hk', e2⟩
    · exfalso
      rw [ek', nI_toInt (by omega)] at hk
      omega
    · rw [e1, e2]
theorem REL_row {a w n : Int32} (h : REL lm lc fm fc) (hm : URZ t lm fm a w n om fm2) (hc : CRZ b t lc fc a w n oc fc2) : REL lm lc fm2 fc2 ∧ om = oc := by
  obtain ⟨-, m⟩ := hm
  obtain ⟨-, c⟩ := hc
  unfold rowBad at m c
  rcases m with ⟨m1, m2, m3⟩ | ⟨m1, m2, m3⟩ | ⟨s, hs, ea, m1, m2, m3, m4, m5, m6⟩
  · rcases c with ⟨c1, c2, c3⟩ | ⟨c1, c2, c3⟩ | ⟨s', hs', ea', c1, c2, c3, c4, c5⟩
    · exact ⟨REL_keep h m3 c3, by rw [m2, c2]⟩
    · exfalso; omega
    · exfalso
      rw [ea', nI_toInt (by omega)] at m1
      omega
  · rcases c with ⟨c1, c2, c3⟩ | ⟨c1, c2, c3⟩ | ⟨s', hs', ea', c1, c2, c3, c4, c5⟩
    · exfalso; omega
    · exact ⟨REL_keep h m3 c3, by rw [m2, c2]⟩
    · exfalso; omega
  · have es : a.toInt = s := by rw [ea, nI_toInt (by omega)]
    rcases c with ⟨c1, c2, c3⟩ | ⟨c1, c2, c3⟩ | ⟨s', hs', ea', c1, c2, c3, c4, c5⟩
    · exfalso; omega
    · exfalso; omega
    · have es' : a.toInt = s' := by rw [ea', nI_toInt (by omega)]
      have eS : s = s' := by omega
      subst eS
      refine ⟨⟨fun k hk => ?_, fun u hu => ?_⟩, by rw [m3, c3]⟩
      · rw [m5 k hk, c5 _ _ _ (by omega) (by omega) (by omega) (by omega) (trc_k (b := b) hk)]
        exact h.1 k hk
      · by_cases cu : u = s
        · subst cu
          right
          omega
        · obtain ⟨t1, t2, t3, -⟩ := trc_r (b := b) hu
          rw [c5 _ _ _ (by omega) (by omega) (by omega) (by omega) t1, c5 _ _ _ (by omega) (by omega) (by omega) (by omega) t2, c5 _ _ _ (by omega) (by omega) (by omega) (by omega) t3, (m6 u hu cu).1, (m6 u hu cu).2]
          exact h.2 u hu
theorem REL_write {a i : Int32} (h : REL lm lc fm fc) (hm : UWZ t lm fm a i om fm2) (hc : CWZ b t lc fc a i oc fc2) : REL lm lc fm2 fc2 ∧ om = oc := by
  obtain ⟨-, m1, m⟩ := hm
  obtain ⟨-, c1, c⟩ := hc
  refine ⟨REL_keep h m1 c1, ?_⟩
  rcases m with ⟨m2, m3⟩ | ⟨s, hs, ea, m2⟩
  · rcases c with ⟨c2, c3⟩ | ⟨s', hs', ea', c2⟩
    · rw [m3, c3]
    · exfalso
      rw [ea', nI_toInt (by omega)] at m2
      omega
  · have es : a.toInt = s := by rw [ea, nI_toInt (by omega)]
    rcases c with ⟨c2, c3⟩ | ⟨s', hs', ea', c2⟩
    · exfalso; omega
    · have es' : a.toInt = s' := by rw [ea', nI_toInt (by omega)]
      have eS : s = s' := by omega
      subst eS
      have hr := h.2 s hs
      unfold uwrA at m2
      unfold wrA at c2
      rcases m2 with ⟨m3, m4⟩ | ⟨m3, m5, m4⟩ | ⟨m3, m5, m6, m4⟩ <;> rcases c2 with ⟨c3, c4⟩ | ⟨c3, c5, c4⟩ | ⟨c3, c5, c6, c4⟩
      all_goals first | (exfalso; omega) | (rw [m4, c4])
theorem REL_paste {a i c2 k n : Int32} (h : REL lm lc fm fc) (hm : PSZ t lm fm (pstA (fun z => cv fm (lm + 1) z.toNat) (fun z => cv fm (lm + 2) z.toNat) a.toInt i.toInt c2.toInt k.toInt n.toInt) om fm2) (hc : PCZ b t lc fc (cpsA fc lc a.toInt i.toInt c2.toInt k.toInt n.toInt) oc fc2) : REL lm lc fm2 fc2 ∧ om = oc := by
  obtain ⟨r, e1, e2, -, m1⟩ := hm
  obtain ⟨r', e1', e2', -, c1⟩ := hc
  refine ⟨REL_keep h m1 c1, ?_⟩
  have : r.toInt = r'.toInt := by
    rw [e2, e2']
    show pstB (cv fm (lm + 1) a.toInt.toNat) (cv fm (lm + 1) c2.toInt.toNat) (cv fm (lm + 2) a.toInt.toNat) (cv fm (lm + 2) c2.toInt.toNat) a.toInt i.toInt c2.toInt k.toInt n.toInt = _
    unfold pstB cpsA
    by_cases h1 : ¬ (0 ≤ a.toInt ∧ a.toInt ≤ 3) ∨ ¬ (0 ≤ c2.toInt ∧ c2.toInt ≤ 3)
    · rw [if_pos h1, if_pos h1]
    · rw [if_neg h1, if_neg h1]
      have ra := h.2 a.toInt.toNat (by omega)
      have rb := h.2 c2.toInt.toNat (by omega)
      generalize cv fc (lc + (296 + 2 * a.toInt.toNat)) 0 = fa at ra ⊢
      generalize cv fc (lc + (296 + 2 * a.toInt.toNat)) 1 = wa at ra ⊢
      generalize cv fc (lc + (296 + 2 * a.toInt.toNat)) 2 = za at ra ⊢
      generalize cv fc (lc + (296 + 2 * c2.toInt.toNat)) 0 = fb at rb ⊢
      generalize cv fc (lc + (296 + 2 * c2.toInt.toNat)) 1 = wb at rb ⊢
      generalize cv fc (lc + (296 + 2 * c2.toInt.toNat)) 2 = zb at rb ⊢
      generalize cv fm (lm + 1) a.toInt.toNat = ua at ra ⊢
      generalize cv fm (lm + 2) a.toInt.toNat = ma at ra ⊢
      generalize cv fm (lm + 1) c2.toInt.toNat = ub at rb ⊢
      generalize cv fm (lm + 2) c2.toInt.toNat = mb at rb ⊢
      by_cases h2 : fa = 0 ∨ fb = 0
      · rw [if_pos (show ua = -1 ∨ ub = -1 by omega), if_pos h2]
      · rw [if_neg (show ¬ (ua = -1 ∨ ub = -1) by omega), if_neg h2]
        by_cases h3 : wa ≠ wb
        · rw [if_pos (show ua ≠ ub by omega), if_pos h3]
        · rw [if_neg (show ¬ ua ≠ ub by omega), if_neg h3]
          by_cases h4 : i.toInt < 0 ∨ k.toInt < 0 ∨ n.toInt < 0 ∨ ma < i.toInt + n.toInt ∨ mb < k.toInt + n.toInt
          · rw [if_pos h4, if_pos (by omega)]
          · rw [if_neg h4, if_neg (by omega)]
  rw [e1, e1', Int32.toInt_inj.mp this]
end
