/-! next: the loops -/
theorem by_ne {gt : Nat → Int32} {T K : Nat} {a b : Int32} (h : ¬ byF gt T K a b = 0) : K < T ∧ a ≤ gt K ∧ gt K ≤ b := by
  unfold byF at h
  by_cases c : K < T ∧ a ≤ gt K ∧ gt K ≤ b
  · exact c
  · rw [if_neg c] at h; exact absurd rfl h
section
variable {p : Program} {l : Launch} {e : Env} {R : Room} {s : State} {m : MethodId} {args : Array Value} {below : List Frame} {meth : Method} {c : Code} {cells slots : Nat} {Q : State → Prop}
variable {ls : Array Slot} {D : va_G} {t : Nat → ClassId} {lo n : Nat} {f : Nat → va_E} {fs : List Value} {gt : Nat → Int32} {T : Nat} {tok st : Int32} {wd : Int64} {A : Nat → Prop}
/-- blanks -/
theorem nx_skip {val : Int32} (C : NXC t lo f fs gt T) (hn : 17 ≤ n) (X : CX p s m args meth c RX11 cX11_next 2 none) (hls : ls.size = 2) (h0 : ls[0]? = some (.val (.ref lo))) (hR : 1 ≤ R.frames ∧ 23 ≤ R.locals) (hRc : cells ≤ R.cells ∧ slots ≤ R.slots) : ∀ (d K : Nat) (H : Heap) (locs : List Loc), T ≤ K + d → K ≤ T → HX D t lo n (nxF lo f fs K tok st val wd) A s H locs →
    (∀ (K' : Nat) (H1 : Heap) (locs1 : List Loc), K ≤ K' → K' ≤ T → HX D t lo n (nxF lo f fs K' tok st val wd) A s H1 locs1 → W p l e R s m args below meth c H1 locs1 cells slots Q (F0 m 43 ls [])) → W p l e R s m args below meth c H locs cells slots Q (F0 m 0 ls []) := by
  intro d
  induction d with
  | zero =>
    intro K H locs h1 h2 hH kk
    have h4 := C.2.2.2.2
    refine nx_is (pc := 0) C hn X hH (by omega) hls h0 hR hRc (by decide) (a := 32) (b := 32) rfl rfl (by decide +kernel) (by decide +kernel) (by decide +kernel) (by decide +kernel) (by decide +kernel) (by decide +kernel) (fun H1 locs1 hH => ?_)
    refine lv_if_ne (tgt := 30) X.1 X.2.1 (show decode cX11_next 12 = .ok (.ifCond .ne 18, 3) by decide +kernel) (by decide) (fun q => absurd (by_ne q).1 (by omega)) (fun _ => ?_)
    refine nx_is (pc := 15) C hn X hH (by omega) hls h0 hR hRc (by decide) (a := 10) (b := 10) rfl rfl (by decide +kernel) (by decide +kernel) (by decide +kernel) (by decide +kernel) (by decide +kernel) (by decide +kernel) (fun H1 locs1 hH => ?_)
    refine lv_if_eq (tgt := 43) X.1 X.2.1 (show decode cX11_next 27 = .ok (.ifCond .eq 16, 3) by decide +kernel) (by decide) (fun _ => kk K H1 locs1 (Nat.le_refl _) h2 hH) (fun q => absurd (by_ne q).1 (by omega))
  | succ d ih =>
    intro K H locs h1 h2 hH kk
    have h4 := C.2.2.2.2
    have step : ∀ (H1 : Heap) (locs1 : List Loc), K < T → HX D t lo n (nxF lo f fs K tok st val wd) A s H1 locs1 → W p l e R s m args below meth c H1 locs1 cells slots Q (F0 m 30 ls []) := by
      intro H1 locs1 q hH
      refine nx_inc (pc := 30) C hn X hH h0 (by decide +kernel) (by decide +kernel) (by decide +kernel) (by decide +kernel) (by decide +kernel) (by decide +kernel) (fun H1 locs1 hH => ?_)
      refine lv_goto (tgt := 0) X.1 X.2.1 (show decode cX11_next 40 = .ok (.goto (-40), 3) by decide +kernel) (by decide) ?_
      exact ih (K + 1) H1 locs1 (by omega) (by omega) hH (fun K' H1 locs1 q1 q2 => kk K' H1 locs1 (by omega) q2)
    refine nx_is (pc := 0) C hn X hH (by omega) hls h0 hR hRc (by decide) (a := 32) (b := 32) rfl rfl (by decide +kernel) (by decide +kernel) (by decide +kernel) (by decide +kernel) (by decide +kernel) (by decide +kernel) (fun H1 locs1 hH => ?_)
    refine lv_if_ne (tgt := 30) X.1 X.2.1 (show decode cX11_next 12 = .ok (.ifCond .ne 18, 3) by decide +kernel) (by decide) (fun q => step _ _ (by_ne q).1 hH) (fun _ => ?_)
    refine nx_is (pc := 15) C hn X hH (by omega) hls h0 hR hRc (by decide) (a := 10) (b := 10) rfl rfl (by decide +kernel) (by decide +kernel) (by decide +kernel) (by decide +kernel) (by decide +kernel) (by decide +kernel) (fun H1 locs1 hH => ?_)
    exact lv_if_eq (tgt := 43) X.1 X.2.1 (show decode cX11_next 27 = .ok (.ifCond .eq 16, 3) by decide +kernel) (by decide) (fun _ => kk K H1 locs1 (Nat.le_refl _) h2 hH) (fun q => step _ _ (by_ne q).1 hH)
end
