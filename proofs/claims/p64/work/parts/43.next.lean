/-! next: letters -/
section
variable {p : Program} {l : Launch} {e : Env} {R : Room} {s : State} {m : MethodId} {args : Array Value} {below : List Frame} {meth : Method} {c : Code} {cells slots : Nat} {Q : State → Prop}
variable {D : va_G} {t : Nat → ClassId} {lo n : Nat} {f : Nat → va_E} {fs : List Value} {gt : Nat → Int32} {T : Nat} {tok st val : Int32} {A : Nat → Prop}
theorem nx_let (C : NXC t lo f fs gt T) (hn : 17 ≤ n) (X : CX p s m args meth c RX11 cX11_next 2 none) (hR : 1 ≤ R.frames ∧ 23 ≤ R.locals) (hRc : cells ≤ R.cells ∧ slots ≤ R.slots) : ∀ (d K : Nat) (j : Int32) (wd : Int64) (ls : Array Slot) (H : Heap) (locs : List Loc), T ≤ K + d → K ≤ T → lv_has ls 2 [(1, .int j), (0, .ref lo)] → HX D t lo n (nxF lo f fs K tok st val wd) A s H locs →
    (∀ (K' : Nat) (wd' : Int64) (ls' : Array Slot) (H1 : Heap) (locs1 : List Loc), K ≤ K' → K' ≤ T → (byF gt T K 97 122 = 0 ∨ K < K') → HX D t lo n (nxF lo f fs K' tok st val wd') A s H1 locs1 → W p l e R s m args below meth c H1 locs1 cells slots Q (F0 m 185 ls' [])) → W p l e R s m args below meth c H locs cells slots Q (F0 m 102 ls []) := by
  intro d
  induction d with
  | zero =>
    intro K j wd ls H locs h1 h2 hl hH kk
    have h4 := C.2.2.2.2
    refine nx_is (pc := 102) C hn X hH (by omega) hl.1 (lv_at hl 1 rfl) hR hRc (by decide) (a := 97) (b := 122) (a' := 97) (b' := 122) rfl rfl (by decide +kernel) (by decide +kernel) (by decide +kernel) (by decide +kernel) (by decide +kernel) (by decide +kernel) (fun H1 locs1 hH => ?_)
    exact lv_if_eq (tgt := 185) X.1 X.2.1 (show decode cX11_next 114 = .ok (.ifCond .eq 71, 3) by decide +kernel) (by decide) (fun q => kk K wd ls H1 locs1 (Nat.le_refl _) h2 (Or.inl q) hH) (fun q => absurd (by_ne q).1 (by omega))
  | succ d ih =>
    intro K j wd ls H locs h1 h2 hl hH kk
    have h4 := C.2.2.2.2
    have C1 := C.1
    have C2 := C.2.1
    have h0 : ls[0]? = some (.val (.ref lo)) := lv_at hl 1 rfl
    have hj : ls[1]? = some (.val (.int j)) := lv_at hl 0 rfl
    refine nx_is (pc := 102) C hn X hH (by omega) hl.1 h0 hR hRc (by decide) (a := 97) (b := 122) (a' := 97) (b' := 122) rfl rfl (by decide +kernel) (by decide +kernel) (by decide +kernel) (by decide +kernel) (by decide +kernel) (by decide +kernel) (fun H1 locs1 hH => ?_)
    refine lv_if_eq (tgt := 185) X.1 X.2.1 (show decode cX11_next 114 = .ok (.ifCond .eq 71, 3) by decide +kernel) (by decide) (fun q => kk K wd ls H1 locs1 (Nat.le_refl _) h2 (Or.inl q) hH) (fun q => ?_)
    obtain ⟨q1, q2, q3⟩ := by_ne q
    have step2 : ∀ (w' : Int64) (H1 : Heap) (locs1 : List Loc), HX D t lo n (nxF lo f fs K tok st val w') A s H1 locs1 → W p l e R s m args below meth c H1 locs1 cells slots Q (F0 m 169 ls []) := by
      intro w' H1 locs1 hH
      refine nx_inc (pc := 169) C hn X hH h0 (by decide +kernel) (by decide +kernel) (by decide +kernel) (by decide +kernel) (by decide +kernel) (by decide +kernel) (fun H1 locs1 hH => ?_)
      refine lv_iinc (k := 0) X.1 X.2.1 (show decode cX11_next 179 = .ok (.iinc 1 1, 3) by decide +kernel) hl rfl rfl (by decide) rfl (fun ls' hl' => ?_)
      refine lv_goto (tgt := 102) X.1 X.2.1 (show decode cX11_next 182 = .ok (.goto (-80), 3) by decide +kernel) (by decide) ?_
      exact ih (K + 1) _ w' ls' H1 locs1 (by omega) (by omega) hl' hH (fun K' wd' ls' H1 locs1 r1 r2 _ => kk K' wd' ls' H1 locs1 (by omega) r2 (Or.inr (by omega)))
    have step : ∀ w' : Int64, W p l e R s m args below meth c H1 locs1 cells slots Q (F0 m 153 ls [.long w', .ref lo]) := by
      intro w'
      refine bx_putl fl_X11_ok (i := 102) rfl X hH (nx_at hn) (by rw [nxt_len, C1]; decide) (show decode cX11_next 153 = .ok (.putfield 102, 3) by decide +kernel) (fun H1 locs1 hH => ?_)
      unfold nxF at hH
      rw [va_up_up, nxt11] at hH
      refine lv_iload_n X.1 X.2.1 (show decode cX11_next 156 = .ok (.iload_n 1, 1) by decide +kernel) rfl hj ?_
      refine lv_bipush (v := 11) X.1 X.2.1 (show decode cX11_next 157 = .ok (.bipush 11, 2) by decide +kernel) (by decide) ?_
      refine lv_icmp_le (tgt := 169) X.1 X.2.1 (show decode cX11_next 159 = .ok (.if_icmp .le 10, 3) by decide +kernel) (by decide) (fun _ => step2 _ _ _ hH) (fun _ => ?_)
      refine lv_aload_n X.1 X.2.1 (show decode cX11_next 162 = .ok (.aload_n 0, 1) by decide +kernel) rfl h0 ?_
      refine lv_ldc2 X.1 X.2.1 (own := RX11) X.2.2.2.1 (X.2.2.2.2.1 _ mw_1470) (show decode cX11_next 163 = .ok (.ldc2_w 109, 3) by decide +kernel) ?_
      refine bx_putl fl_X11_ok (i := 102) rfl X hH (nx_at hn) (by rw [nxt_len, C1]; decide) (show decode cX11_next 166 = .ok (.putfield 102, 3) by decide +kernel) (fun H1 locs1 hH => ?_)
      rw [va_up_up, nxt11] at hH
      exact step2 _ _ _ hH
    refine lv_aload_n X.1 X.2.1 (show decode cX11_next 117 = .ok (.aload_n 0, 1) by decide +kernel) rfl h0 ?_
    refine lv_iload_n X.1 X.2.1 (show decode cX11_next 118 = .ok (.iload_n 1, 1) by decide +kernel) rfl hj ?_
    refine lv_bipush (v := 11) X.1 X.2.1 (show decode cX11_next 119 = .ok (.bipush 11, 2) by decide +kernel) (by decide) ?_
    refine lv_icmp_le (tgt := 130) X.1 X.2.1 (show decode cX11_next 121 = .ok (.if_icmp .le 9, 3) by decide +kernel) (by decide) (fun _ => ?_) (fun _ => ?_)
    · refine lv_ldc2 X.1 X.2.1 (own := RX11) X.2.2.2.1 (X.2.2.2.2.1 _ mw_1471) (show decode cX11_next 130 = .ok (.ldc2_w 111, 3) by decide +kernel) ?_
      refine lv_aload_n X.1 X.2.1 (show decode cX11_next 133 = .ok (.aload_n 0, 1) by decide +kernel) rfl h0 ?_
      refine bx_get fl_X11_ok (i := 102) rfl X hH (nx_at hn) (nxt_at C1).2.2.2.2 (show decode cX11_next 134 = .ok (.getfield 102, 3) by decide +kernel) ?_
      refine lv_lmul X.1 X.2.1 (show decode cX11_next 137 = .ok (.lmul, 1) by decide +kernel) ?_
      refine lv_aload_n X.1 X.2.1 (show decode cX11_next 138 = .ok (.aload_n 0, 1) by decide +kernel) rfl h0 ?_
      refine bx_get fl_X11_ok (i := 23) rfl X hH (nx_at hn) (by rw [nxt_off (by decide)]; exact C2) (show decode cX11_next 139 = .ok (.getfield 23, 3) by decide +kernel) ?_
      refine lv_aload_n X.1 X.2.1 (show decode cX11_next 142 = .ok (.aload_n 0, 1) by decide +kernel) rfl h0 ?_
      refine bx_get fl_X11_ok (i := 89) rfl X hH (nx_at hn) (nxt_at C1).1 (show decode cX11_next 143 = .ok (.getfield 89, 3) by decide +kernel) ?_
      refine px_bald X hH (g := gt) ⟨⟨by omega, by omega⟩, by unfold nxF; rw [va_up_ne _ _ (by omega)]; exact C.2.2.2.1⟩ (nI_in (show K < 1400 by omega) (by decide)) (show decode cX11_next 146 = .ok (.baload, 1) by decide +kernel) ?_
      refine lv_i2l X.1 X.2.1 (show decode cX11_next 147 = .ok (.i2l, 1) by decide +kernel) rfl ?_
      refine lv_ladd X.1 X.2.1 (show decode cX11_next 148 = .ok (.ladd, 1) by decide +kernel) ?_
      refine lv_ldc2 X.1 X.2.1 (own := RX11) X.2.2.2.1 (X.2.2.2.2.1 _ mw_1472) (show decode cX11_next 149 = .ok (.ldc2_w 113, 3) by decide +kernel) ?_
      refine lv_lsub X.1 X.2.1 (show decode cX11_next 152 = .ok (.lsub, 1) by decide +kernel) ?_
      exact step _
    · refine lv_ldc2 X.1 X.2.1 (own := RX11) X.2.2.2.1 (X.2.2.2.2.1 _ mw_1470) (show decode cX11_next 124 = .ok (.ldc2_w 109, 3) by decide +kernel) ?_
      refine lv_goto (tgt := 153) X.1 X.2.1 (show decode cX11_next 127 = .ok (.goto 26, 3) by decide +kernel) (by decide) ?_
      exact step _
end
