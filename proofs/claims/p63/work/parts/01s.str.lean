/-! the texts of the class, by their places; they lie outside the pool, at t (100 + i), their bytes at t (200 + i) -/
def strI : List Nat := [59, 68, 73, 78, 86, 91, 96, 110, 115, 121, 125, 130, 134, 138, 149, 153, 155, 157, 175]
def strT : List String := ["tower", "bell", "ward", "peal", "due", "keeps", "least", "after", "town", "coin", "purse", "tax", "trust", "frost", "holds", "tin", "note", "in", "cracked"]
def strL : List Nat := [5, 4, 4, 4, 3, 5, 5, 5, 4, 4, 5, 3, 5, 5, 5, 3, 4, 2, 7]
def strB : List (List Int32) := [[116, 111, 119, 101, 114], [98, 101, 108, 108], [119, 97, 114, 100], [112, 101, 97, 108], [100, 117, 101], [107, 101, 101, 112, 115], [108, 101, 97, 115, 116], [97, 102, 116, 101, 114], [116, 111, 119, 110], [99, 111, 105, 110], [112, 117, 114, 115, 101], [116, 97, 120], [116, 114, 117, 115, 116], [102, 114, 111, 115, 116], [104, 111, 108, 100, 115], [116, 105, 110], [110, 111, 116, 101], [105, 110], [99, 114, 97, 99, 107, 101, 100]]
def SXw (n : Nat) (t : Nat → ClassId) (A : Nat → Prop) (s : State) : Prop := if n = 0 then vk_S 19 strL strB (fun i => t (100 + i)) (fun i => t (200 + i)) A s s.heap ∧ (∀ i : Nat, i < 19 → vk_R "BellMoney$Reader" (strI.getD i 0) (strT.getD i "") (t (100 + i)) s) ∧ va_Z "java/lang/String" "COMPACT_STRINGS" "Z" (.int 1) A s s.heap ∧ va_Zq "jdk/internal/util/Preconditions" "SIOOBE_FORMATTER" "Ljava/util/function/BiFunction;" A s s.heap else SXw (n - 1) t A s
termination_by n
decreasing_by omega
def SX (t : Nat → ClassId) (A : Nat → Prop) (s : State) : Prop := SXw 0 t A s
theorem SX_eq {t : Nat → ClassId} {A : Nat → Prop} {s : State} : SX t A s ↔ vk_S 19 strL strB (fun i => t (100 + i)) (fun i => t (200 + i)) A s s.heap ∧ (∀ i : Nat, i < 19 → vk_R "BellMoney$Reader" (strI.getD i 0) (strT.getD i "") (t (100 + i)) s) ∧ va_Z "java/lang/String" "COMPACT_STRINGS" "Z" (.int 1) A s s.heap ∧ va_Zq "jdk/internal/util/Preconditions" "SIOOBE_FORMATTER" "Ljava/util/function/BiFunction;" A s s.heap := by
  unfold SX
  rw [SXw, if_pos rfl]
theorem SX.into {t : Nat → ClassId} {A B : Nat → Prop} {s U : State} {H : Heap} {locs : List Loc} (h : SX t A s) (hS : va_S A s.heap H locs) (hU : U.heap = H) (hW : s.WarmedH U.vm) (hB : ∀ q, B q → A q) : SX t B U := by
  have h := SX_eq.mp h
  exact SX_eq.mpr ⟨by rw [hU]; exact ((vk_S.kept (vk_S.moved hW.alike h.1) hS.2.1).narrow hB), fun i hi => vk_R.warm hW (h.2.1 i hi), by rw [hU]; exact ((va_Z.kept (va_Z.moved hW.alike h.2.2.1) hS.2.1).narrow hB), by rw [hU]; exact ((va_Zq.kept (va_Zq.moved hW.alike h.2.2.2) hS.2.1).narrow hB)⟩
theorem SX.same {t : Nat → ClassId} {A : Nat → Prop} {s U : State} (hv : s.vm = U.vm) (hh : U.heap = s.heap) (h : SX t A s) : SX t A U := by
  have h := SX_eq.mp h
  exact SX_eq.mpr ⟨by rw [hh]; exact vk_S.moved (by rw [hv]; exact Vm.Alike.refl _) h.1, fun i hi => vk_R.same hv.symm (h.2.1 i hi), by rw [hh]; exact va_Z.moved (by rw [hv]; exact Vm.Alike.refl _) h.2.2.1, by rw [hh]; exact va_Zq.moved (by rw [hv]; exact Vm.Alike.refl _) h.2.2.2⟩
