/-! of: a bell's number -/
theorem c_of (l : Launch) (D : va_G) (t : Nat → ClassId) (lo n : Nat) (f : Nat → va_E) {fs : List Value} {gi : Nat → Int32} (h0 : f lo = .inr (11, fs)) (h32 : fs[32]? = some (.ref (lo + 14))) (h14 : f (lo + 14) = .inl (t 0, 60, .inl gi)) (hn : 17 ≤ n) {K J : Nat} (hK : 6 * K + J < 60) :
    MetM l yX11_of cX11_of 3 (some .int) 0 D t lo n f [.ref lo, .int (nI K), .int (nI J)] f (some (.int (gi (6 * K + J)))) := by
  refine MetM.start (by decide +kernel) (Nat.le_of_ble_eq_true rfl) ?_
  intro p e s m below meth cd X hH ls hl
  have hl : lv_has ls 3 [(0, .ref lo), (1, .int (nI K)), (2, .int (nI J))] := hl
  refine lv_aload_n X.1 X.2.1 (show decode cX11_of 0 = .ok (.aload_n 0, 1) by decide +kernel) rfl (lv_at hl 0 rfl) ?_
  refine bx_get fl_X11_ok (i := 56) rfl X hH ⟨⟨by omega, by omega⟩, h0⟩ h32 (show decode cX11_of 1 = .ok (.getfield 56, 3) by decide +kernel) ?_
  refine lv_bipush (v := 6) X.1 X.2.1 (show decode cX11_of 4 = .ok (.bipush 6, 2) by decide +kernel) (by decide) ?_
  refine lv_iload_n X.1 X.2.1 (show decode cX11_of 6 = .ok (.iload_n 1, 1) by decide +kernel) rfl (lv_at hl 1 rfl) ?_
  refine lv_imul X.1 X.2.1 (show decode cX11_of 7 = .ok (.imul, 1) by decide +kernel) ?_
  refine lv_iload_n X.1 X.2.1 (show decode cX11_of 8 = .ok (.iload_n 2, 1) by decide +kernel) rfl (lv_at hl 2 rfl) ?_
  refine lv_iadd X.1 X.2.1 (show decode cX11_of 9 = .ok (.iadd, 1) by decide +kernel) ?_
  refine bx_iald X hH ⟨⟨by omega, by omega⟩, h14⟩ (j := 6 * K + J) (by rw [show (6 : Int32) = nI 6 from rfl, nI_mul, nI_add]) hK (by decide) (show decode cX11_of 10 = .ok (.iaload, 1) by decide +kernel) ?_
  exact px_iret X hH rfl (show decode cX11_of 11 = .ok (.ireturn, 1) by decide +kernel)
