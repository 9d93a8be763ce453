/-! next: digits -/
theorem dig_ok {v g : Int32} (h1 : 0 ≤ v.toInt) (h2 : v.toInt ≤ 1000000) (h3 : (48 : Int32) ≤ g) (h4 : g ≤ 57) : 0 ≤ (10 * v + g - 48).toInt ∧ (10 * v + g - 48).toInt ≤ 10000009 := by
  have g1 : (48 : Int) ≤ g.toInt := Int32.le_iff_toInt_le.mp h3
  have g2 : g.toInt ≤ (57 : Int) := Int32.le_iff_toInt_le.mp h4
  have z1 : lo32 = -2147483648 ∧ hi32 = 2147483647 := ⟨rfl, rfl⟩
  have e1 : (10 * v).toInt = 10 * v.toInt := by
    rw [Int32.toInt_mul, show (10 : Int32).toInt = 10 from rfl, bm32 (by omega) (by omega)]
  have e2 : (10 * v + g).toInt = 10 * v.toInt + g.toInt := by
    rw [Int32.toInt_add, e1, bm32 (by omega) (by omega)]
  have e3 : (10 * v + g - 48).toInt = 10 * v.toInt + g.toInt - 48 := by
    rw [Int32.toInt_sub, e2, show (48 : Int32).toInt = 48 from rfl, bm32 (by omega) (by omega)]
  omega
section
variable {p : Program} {l : Launch} {e : Env} {R : Room} {s : State} {m : MethodId} {args : Array Value} {below : List Frame} {meth : Method} {c : Code} {cells slots : Nat} {Q : State → Prop}
variable {ls : Array Slot} {D : va_G} {t : Nat → ClassId} {lo n : Nat} {f : Nat → va_E} {fs : List Value} {gt : Nat → Int32} {T : Nat} {tok st : Int32} {wd : Int64} {A : Nat → Prop}
theorem nx_dig (C : NXC t lo f fs gt T) (hn : 17 ≤ n) (X : CX p s m args meth c RX11 cX11_next 2 none) (hls : ls.size = 2) (h0 : ls[0]? = some (.val (.ref lo))) (hR : 1 ≤ R.frames ∧ 23 ≤ R.locals) (hRc : cells ≤ R.cells ∧ slots ≤ R.slots) : ∀ (d K : Nat) (val : Int32) (H : Heap) (locs : List Loc), T ≤ K + d → K ≤ T → (0 ≤ val.toInt ∧ val.toInt ≤ 10000009) → HX D t lo n (nxF lo f fs K tok st val wd) A s H locs →
    (∀ (K' : Nat) (val' : Int32) (H1 : Heap) (locs1 : List Loc), K ≤ K' → K' ≤ T → (byF gt T K 48 57 = 0 ∨ K < K') → (0 ≤ val'.toInt ∧ val'.toInt ≤ 10000009) → HX D t lo n (nxF lo f fs K' tok st val' wd) A s H1 locs1 → W p l e R s m args below meth c H1 locs1 cells slots Q (F0 m 307 ls [])) → W p l e R s m args below meth c H locs cells slots Q (F0 m 208 ls []) := by
  intro d
  induction d with
  | zero =>
    intro K val H locs h1 h2 hv hH kk
    have h4 := C.2.2.2.2
    refine nx_is (pc := 208) C hn X hH (by omega) hls h0 hR hRc (by decide) (a := 48) (b := 57) (a' := 48) (b' := 57) rfl rfl (by decide +kernel) (by decide +kernel) (by decide +kernel) (by decide +kernel) (by decide +kernel) (by decide +kernel) (fun H1 locs1 hH => ?_)
    exact lv_if_eq (tgt := 307) X.1 X.2.1 (show decode cX11_next 220 = .ok (.ifCond .eq 87, 3) by decide +kernel) (by decide) (fun q => kk K val H1 locs1 (Nat.le_refl _) h2 (Or.inl q) hv hH) (fun q => absurd (by_ne q).1 (by omega))
  | succ d ih =>
    intro K val H locs h1 h2 hv hH kk
    have h4 := C.2.2.2.2
    have C1 := C.1
    have C2 := C.2.1
    refine nx_is (pc := 208) C hn X hH (by omega) hls h0 hR hRc (by decide) (a := 48) (b := 57) (a' := 48) (b' := 57) rfl rfl (by decide +kernel) (by decide +kernel) (by decide +kernel) (by decide +kernel) (by decide +kernel) (by decide +kernel) (fun H1 locs1 hH => ?_)
    refine lv_if_eq (tgt := 307) X.1 X.2.1 (show decode cX11_next 220 = .ok (.ifCond .eq 87, 3) by decide +kernel) (by decide) (fun q => kk K val H1 locs1 (Nat.le_refl _) h2 (Or.inl q) hv hH) (fun q => ?_)
    obtain ⟨q1, q2, q3⟩ := by_ne q
    have step : ∀ v' : Int32, (0 ≤ v'.toInt ∧ v'.toInt ≤ 10000009) → W p l e R s m args below meth c H1 locs1 cells slots Q (F0 m 258 ls [.int v', .ref lo]) := by
      intro v' hv'
      refine bx_puti fl_X11_ok (i := 99) rfl X hH (nx_at hn) (by rw [nxt_len, C1]; decide) (show decode cX11_next 258 = .ok (.putfield 99, 3) by decide +kernel) (fun H1 locs1 hH => ?_)
      unfold nxF at hH
      rw [va_up_up, nxt10] at hH
      refine nx_inc (pc := 261) C hn X hH h0 (by decide +kernel) (by decide +kernel) (by decide +kernel) (by decide +kernel) (by decide +kernel) (by decide +kernel) (fun H1 locs1 hH => ?_)
      refine lv_goto (tgt := 208) X.1 X.2.1 (show decode cX11_next 271 = .ok (.goto (-63), 3) by decide +kernel) (by decide) ?_
      exact ih (K + 1) v' H1 locs1 (by omega) (by omega) hv' hH (fun K' val' H1 locs1 r1 r2 _ r4 => kk K' val' H1 locs1 (by omega) r2 (Or.inr (by omega)) r4)
    refine lv_aload_n X.1 X.2.1 (show decode cX11_next 223 = .ok (.aload_n 0, 1) by decide +kernel) rfl h0 ?_
    refine lv_aload_n X.1 X.2.1 (show decode cX11_next 224 = .ok (.aload_n 0, 1) by decide +kernel) rfl h0 ?_
    refine bx_get fl_X11_ok (i := 99) rfl X hH (nx_at hn) (nxt_at C1).2.2.2.1 (show decode cX11_next 225 = .ok (.getfield 99, 3) by decide +kernel) ?_
    refine lv_ldc X.1 X.2.1 (own := RX11) X.2.2.2.1 (X.2.2.2.2.1 _ mw_1473) (show decode cX11_next 228 = .ok (.ldc 115, 2) by decide +kernel) ?_
    refine lv_icmp_le (tgt := 238) X.1 X.2.1 (show decode cX11_next 230 = .ok (.if_icmp .le 8, 3) by decide +kernel) (by decide) (fun r => ?_) (fun _ => ?_)
    · have r' : val.toInt ≤ (1000000 : Int) := Int32.le_iff_toInt_le.mp r
      refine lv_bipush (v := 10) X.1 X.2.1 (show decode cX11_next 238 = .ok (.bipush 10, 2) by decide +kernel) (by decide) ?_
      refine lv_aload_n X.1 X.2.1 (show decode cX11_next 240 = .ok (.aload_n 0, 1) by decide +kernel) rfl h0 ?_
      refine bx_get fl_X11_ok (i := 99) rfl X hH (nx_at hn) (nxt_at C1).2.2.2.1 (show decode cX11_next 241 = .ok (.getfield 99, 3) by decide +kernel) ?_
      refine lv_imul X.1 X.2.1 (show decode cX11_next 244 = .ok (.imul, 1) by decide +kernel) ?_
      refine lv_aload_n X.1 X.2.1 (show decode cX11_next 245 = .ok (.aload_n 0, 1) by decide +kernel) rfl h0 ?_
      refine bx_get fl_X11_ok (i := 23) rfl X hH (nx_at hn) (by rw [nxt_off (by decide)]; exact C2) (show decode cX11_next 246 = .ok (.getfield 23, 3) by decide +kernel) ?_
      refine lv_aload_n X.1 X.2.1 (show decode cX11_next 249 = .ok (.aload_n 0, 1) by decide +kernel) rfl h0 ?_
      refine bx_get fl_X11_ok (i := 89) rfl X hH (nx_at hn) (nxt_at C1).1 (show decode cX11_next 250 = .ok (.getfield 89, 3) by decide +kernel) ?_
      refine px_bald X hH (g := gt) ⟨⟨by omega, by omega⟩, by unfold nxF; rw [va_up_ne _ _ (by omega)]; exact C.2.2.2.1⟩ (nI_in (show K < 1400 by omega) (by decide)) (show decode cX11_next 253 = .ok (.baload, 1) by decide +kernel) ?_
      rw [nI_clamp (by omega)]
      refine lv_iadd X.1 X.2.1 (show decode cX11_next 254 = .ok (.iadd, 1) by decide +kernel) ?_
      refine lv_bipush (v := 48) X.1 X.2.1 (show decode cX11_next 255 = .ok (.bipush 48, 2) by decide +kernel) (by decide) ?_
      refine lv_isub X.1 X.2.1 (show decode cX11_next 257 = .ok (.isub, 1) by decide +kernel) ?_
      exact step _ (dig_ok hv.1 r' q2 q3)
    · refine lv_ldc X.1 X.2.1 (own := RX11) X.2.2.2.1 (X.2.2.2.2.1 _ mw_1474) (show decode cX11_next 233 = .ok (.ldc 116, 2) by decide +kernel) ?_
      refine lv_goto (tgt := 258) X.1 X.2.1 (show decode cX11_next 235 = .ok (.goto 23, 3) by decide +kernel) (by decide) ?_
      exact step _ (by decide)
end
