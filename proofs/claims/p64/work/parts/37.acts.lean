/-! acts -/
theorem va_up_up {f : Nat → va_E} {a : Nat} {e e' : va_E} : va_up (va_up f a e) a e' = va_up f a e' := by
  funext b
  by_cases c : b = a
  · subst c; rw [va_up_self, va_up_self]
  · rw [va_up_ne _ _ c, va_up_ne _ _ c, va_up_ne _ _ c]
theorem nI_mul (a b : Nat) : nI a * nI b = nI (a * b) := (Int32.ofNat_mul a b).symm
section
variable {p : Program} {l : Launch} {e : Env} {R : Room} {s : State} {m : MethodId} {args : Array Value} {below : List Frame} {meth : Method} {c : Code} {H : Heap} {locs : List Loc} {cells slots : Nat} {Q : State → Prop}
variable {cc : ByteArray} {own : String} {nl : Nat} {ret : Option FieldType} {pc : Nat} {ls : Array Slot} {rest : List Value} {D : va_G} {t : Nat → ClassId} {lo n : Nat} {f : Nat → va_E} {A : Nat → Prop} {a : Nat}
theorem bx_iast (X : CX p s m args meth c own cc nl ret) {z : Nat} {g : Nat → Int32} (h : HX D t lo n (va_up f a (.inl (t 0, z, .inl g))) A s H locs) (ha : px_A lo n a) {i x : Int32} {j : Nat} (hi : i = nI j) (hj : j < z) (hz : z < 2 ^ 31) (hdg : decode cc pc = .ok (.iastore, 1))
    (kk : ∀ (H1 : Heap) (locs1 : List Loc), HX D t lo n (va_up f a (.inl (t 0, z, .inl (upd g j x)))) A s H1 locs1 → W p l e R s m args below meth c H1 locs1 cells slots Q (F0 m (pc + 1) ls rest)) : W p l e R s m args below meth c H locs cells slots Q (F0 m pc ls (.int x :: .int i :: .ref a :: rest)) := by
  subst hi
  refine px_iast X h ⟨ha, va_up_self ..⟩ (nI_in hj hz) hdg (fun H1 locs1 h1 => kk H1 locs1 ?_)
  rw [va_up_up, nI_clamp (by omega)] at h1
  exact h1
theorem bx_iald (X : CX p s m args meth c own cc nl ret) {z : Nat} {g : Nat → Int32} (h : HX D t lo n f A s H locs) (ha : px_at lo n f a (.inl (t 0, z, .inl g))) {i : Int32} {j : Nat} (hi : i = nI j) (hj : j < z) (hz : z < 2 ^ 31) (hdg : decode cc pc = .ok (.iaload, 1))
    (kk : W p l e R s m args below meth c H locs cells slots Q (F0 m (pc + 1) ls (.int (g j) :: rest))) : W p l e R s m args below meth c H locs cells slots Q (F0 m pc ls (.int i :: .ref a :: rest)) := by
  subst hi
  refine px_iald X h ha (nI_in hj hz) hdg ?_
  rw [nI_clamp (by omega)]
  exact kk
end
def upd5 (g : Nat → Int32) (i : Nat) (w a b c d : Int32) : Nat → Int32 := upd (upd (upd (upd (upd g i w) (i + 1) a) (i + 2) b) (i + 3) c) (i + 4) d
def actsF (t : Nat → ClassId) (lo : Nat) (f : Nat → va_E) (gh ga : Nat → Int32) (N : Nat) (w a b c d : Int32) : Nat → va_E := va_up (va_up f (lo + 12) (.inl (t 0, 1000, .inl (upd5 ga (5 * N) w a b c d)))) (lo + 7) (.inl (t 0, 65, .inl (upd gh 12 (nI (N + 1)))))
theorem c_acts (l : Launch) (D : va_G) (t : Nat → ClassId) (lo n : Nat) (f : Nat → va_E) {fs : List Value} {gh ga : Nat → Int32} (h0 : f lo = .inr (11, fs)) (h17 : fs[17]? = some (.ref (lo + 7))) (h22 : fs[22]? = some (.ref (lo + 12))) (h7 : f (lo + 7) = .inl (t 0, 65, .inl gh)) (h12 : f (lo + 12) = .inl (t 0, 1000, .inl ga)) {N : Nat} (hN : gh 12 = nI N) (hN9 : N ≤ 39) (hn : 17 ≤ n) (w a b c d : Int32) :
    MetM l yX11_acts cX11_acts 7 none 0 D t lo n f [.ref lo, .int w, .int a, .int b, .int c, .int d] (actsF t lo f gh ga N w a b c d) none := by
  refine MetM.start (by decide +kernel) (Nat.le_of_ble_eq_true rfl) ?_
  intro p e s m below meth cd X hH ls hl
  have hl : lv_has ls 7 [(0, .ref lo), (1, .int w), (2, .int a), (3, .int b), (4, .int c), (5, .int d)] := hl
  refine lv_iconst (v := 5) X.1 X.2.1 (show decode cX11_acts 0 = .ok (.iconst 5, 1) by decide +kernel) (by decide) ?_
  refine lv_aload_n X.1 X.2.1 (show decode cX11_acts 1 = .ok (.aload_n 0, 1) by decide +kernel) rfl (lv_at hl 0 rfl) ?_
  refine bx_get fl_X11_ok (i := 34) rfl X hH ⟨⟨by omega, by omega⟩, h0⟩ h17 (show decode cX11_acts 2 = .ok (.getfield 34, 3) by decide +kernel) ?_
  refine lv_bipush (v := 12) X.1 X.2.1 (show decode cX11_acts 5 = .ok (.bipush 12, 2) by decide +kernel) (by decide) ?_
  refine bx_iald X hH ⟨⟨by omega, by omega⟩, h7⟩ (j := 12) rfl (by decide) (by decide) (show decode cX11_acts 7 = .ok (.iaload, 1) by decide +kernel) ?_
  refine lv_imul X.1 X.2.1 (show decode cX11_acts 8 = .ok (.imul, 1) by decide +kernel) ?_
  rw [hN, show (5 : Int32) = nI 5 from rfl, nI_mul]
  refine lv_istore X.1 X.2.1 (show decode cX11_acts 9 = .ok (.istore 6, 2) by decide +kernel) hl (by decide) rfl (fun ls hl => ?_)
  have hl : lv_has ls 7 [(6, .int (nI (5 * N))), (0, .ref lo), (1, .int w), (2, .int a), (3, .int b), (4, .int c), (5, .int d)] := hl
  have hH : HX D t lo n (va_up f (lo + 12) (.inl (t 0, 1000, .inl ga))) (px_A lo n) s s.heap [] := by
    rw [px_upsame h12]; exact hH
  have k0 : ∀ E : va_E, px_at lo n (va_up f (lo + 12) E) lo (.inr (11, fs)) := fun E => ⟨⟨by omega, by omega⟩, by rw [va_up_ne _ _ (by omega)]; exact h0⟩
  have k12 : px_A lo n (lo + 12) := ⟨by omega, by omega⟩
  -- first
  refine lv_aload_n X.1 X.2.1 (show decode cX11_acts 11 = .ok (.aload_n 0, 1) by decide +kernel) rfl (lv_at hl 1 rfl) ?_
  refine bx_get fl_X11_ok (i := 49) rfl X hH (k0 _) h22 (show decode cX11_acts 12 = .ok (.getfield 49, 3) by decide +kernel) ?_
  refine lv_iload X.1 X.2.1 (show decode cX11_acts 15 = .ok (.iload 6, 2) by decide +kernel) (lv_at hl 0 rfl) ?_
  refine lv_iload_n X.1 X.2.1 (show decode cX11_acts 17 = .ok (.iload_n 1, 1) by decide +kernel) rfl (lv_at hl 2 rfl) ?_
  refine bx_iast X hH k12 (j := 5 * N) rfl (by omega) (by decide) (show decode cX11_acts 18 = .ok (.iastore, 1) by decide +kernel) (fun H1 locs1 hH => ?_)
  -- second
  refine lv_aload_n X.1 X.2.1 (show decode cX11_acts 19 = .ok (.aload_n 0, 1) by decide +kernel) rfl (lv_at hl 1 rfl) ?_
  refine bx_get fl_X11_ok (i := 49) rfl X hH (k0 _) h22 (show decode cX11_acts 20 = .ok (.getfield 49, 3) by decide +kernel) ?_
  refine lv_iload X.1 X.2.1 (show decode cX11_acts 23 = .ok (.iload 6, 2) by decide +kernel) (lv_at hl 0 rfl) ?_
  refine lv_iconst (v := 1) X.1 X.2.1 (show decode cX11_acts 25 = .ok (.iconst 1, 1) by decide +kernel) (by decide) ?_
  refine lv_iadd X.1 X.2.1 (show decode cX11_acts 26 = .ok (.iadd, 1) by decide +kernel) ?_
  refine lv_iload_n X.1 X.2.1 (show decode cX11_acts 27 = .ok (.iload_n 2, 1) by decide +kernel) rfl (lv_at hl 3 rfl) ?_
  refine bx_iast X hH k12 (j := 5 * N + 1) (nI_add _ 1) (by omega) (by decide) (show decode cX11_acts 28 = .ok (.iastore, 1) by decide +kernel) (fun H1 locs1 hH => ?_)
  -- third
  refine lv_aload_n X.1 X.2.1 (show decode cX11_acts 29 = .ok (.aload_n 0, 1) by decide +kernel) rfl (lv_at hl 1 rfl) ?_
  refine bx_get fl_X11_ok (i := 49) rfl X hH (k0 _) h22 (show decode cX11_acts 30 = .ok (.getfield 49, 3) by decide +kernel) ?_
  refine lv_iload X.1 X.2.1 (show decode cX11_acts 33 = .ok (.iload 6, 2) by decide +kernel) (lv_at hl 0 rfl) ?_
  refine lv_iconst (v := 2) X.1 X.2.1 (show decode cX11_acts 35 = .ok (.iconst 2, 1) by decide +kernel) (by decide) ?_
  refine lv_iadd X.1 X.2.1 (show decode cX11_acts 36 = .ok (.iadd, 1) by decide +kernel) ?_
  refine lv_iload_n X.1 X.2.1 (show decode cX11_acts 37 = .ok (.iload_n 3, 1) by decide +kernel) rfl (lv_at hl 4 rfl) ?_
  refine bx_iast X hH k12 (j := 5 * N + 2) (nI_add _ 2) (by omega) (by decide) (show decode cX11_acts 38 = .ok (.iastore, 1) by decide +kernel) (fun H1 locs1 hH => ?_)
  -- fourth
  refine lv_aload_n X.1 X.2.1 (show decode cX11_acts 39 = .ok (.aload_n 0, 1) by decide +kernel) rfl (lv_at hl 1 rfl) ?_
  refine bx_get fl_X11_ok (i := 49) rfl X hH (k0 _) h22 (show decode cX11_acts 40 = .ok (.getfield 49, 3) by decide +kernel) ?_
  refine lv_iload X.1 X.2.1 (show decode cX11_acts 43 = .ok (.iload 6, 2) by decide +kernel) (lv_at hl 0 rfl) ?_
  refine lv_iconst (v := 3) X.1 X.2.1 (show decode cX11_acts 45 = .ok (.iconst 3, 1) by decide +kernel) (by decide) ?_
  refine lv_iadd X.1 X.2.1 (show decode cX11_acts 46 = .ok (.iadd, 1) by decide +kernel) ?_
  refine lv_iload X.1 X.2.1 (show decode cX11_acts 47 = .ok (.iload 4, 2) by decide +kernel) (lv_at hl 5 rfl) ?_
  refine bx_iast X hH k12 (j := 5 * N + 3) (nI_add _ 3) (by omega) (by decide) (show decode cX11_acts 49 = .ok (.iastore, 1) by decide +kernel) (fun H1 locs1 hH => ?_)
  -- fifth
  refine lv_aload_n X.1 X.2.1 (show decode cX11_acts 50 = .ok (.aload_n 0, 1) by decide +kernel) rfl (lv_at hl 1 rfl) ?_
  refine bx_get fl_X11_ok (i := 49) rfl X hH (k0 _) h22 (show decode cX11_acts 51 = .ok (.getfield 49, 3) by decide +kernel) ?_
  refine lv_iload X.1 X.2.1 (show decode cX11_acts 54 = .ok (.iload 6, 2) by decide +kernel) (lv_at hl 0 rfl) ?_
  refine lv_iconst (v := 4) X.1 X.2.1 (show decode cX11_acts 56 = .ok (.iconst 4, 1) by decide +kernel) (by decide) ?_
  refine lv_iadd X.1 X.2.1 (show decode cX11_acts 57 = .ok (.iadd, 1) by decide +kernel) ?_
  refine lv_iload X.1 X.2.1 (show decode cX11_acts 58 = .ok (.iload 5, 2) by decide +kernel) (lv_at hl 6 rfl) ?_
  refine bx_iast X hH k12 (j := 5 * N + 4) (nI_add _ 4) (by omega) (by decide) (show decode cX11_acts 60 = .ok (.iastore, 1) by decide +kernel) (fun H1 locs1 hH => ?_)
  -- the count
  have k7 : va_up f (lo + 12) (.inl (t 0, 1000, .inl (upd5 ga (5 * N) w a b c d))) (lo + 7) = .inl (t 0, 65, .inl gh) := by rw [va_up_ne _ _ (by omega)]; exact h7
  refine lv_aload_n X.1 X.2.1 (show decode cX11_acts 61 = .ok (.aload_n 0, 1) by decide +kernel) rfl (lv_at hl 1 rfl) ?_
  refine bx_get fl_X11_ok (i := 34) rfl X hH (k0 _) h17 (show decode cX11_acts 62 = .ok (.getfield 34, 3) by decide +kernel) ?_
  refine lv_bipush (v := 12) X.1 X.2.1 (show decode cX11_acts 65 = .ok (.bipush 12, 2) by decide +kernel) (by decide) ?_
  refine lv_dup2_11 X.1 X.2.1 (show decode cX11_acts 67 = .ok (.dup2, 1) by decide +kernel) rfl rfl ?_
  refine bx_iald X hH ⟨⟨by omega, by omega⟩, k7⟩ (j := 12) rfl (by decide) (by decide) (show decode cX11_acts 68 = .ok (.iaload, 1) by decide +kernel) ?_
  refine lv_iconst (v := 1) X.1 X.2.1 (show decode cX11_acts 69 = .ok (.iconst 1, 1) by decide +kernel) (by decide) ?_
  refine lv_iadd X.1 X.2.1 (show decode cX11_acts 70 = .ok (.iadd, 1) by decide +kernel) ?_
  rw [hN, nI_1]
  have hH7 : HX D t lo n (va_up (va_up f (lo + 12) (.inl (t 0, 1000, .inl (upd5 ga (5 * N) w a b c d)))) (lo + 7) (.inl (t 0, 65, .inl gh))) (px_A lo n) s H1 locs1 := by
    rw [px_upsame k7]; exact hH
  refine bx_iast X hH7 ⟨by omega, by omega⟩ (j := 12) rfl (by decide) (by decide) (show decode cX11_acts 71 = .ok (.iastore, 1) by decide +kernel) (fun H1 locs1 hH => ?_)
  exact px_vret X hH (show decode cX11_acts 72 = .ok (.return_, 1) by decide +kernel)
