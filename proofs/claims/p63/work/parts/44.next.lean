/-! next: the walk -/
section
variable {p : Program} {l : Launch} {e : Env} {R : Room} {s : State} {m : MethodId} {args : Array Value} {below : List Frame} {meth : Method} {c : Code} {cells slots : Nat} {Q : State → Prop}
variable {D : va_G} {t : Nat → ClassId} {lo n : Nat} {f : Nat → va_E} {fs : List Value} {gt : Nat → Int32} {T : Nat} {A : Nat → Prop}
theorem nx_all (C : NXC t lo f fs gt T) (hn : 17 ≤ n) (X : CX p s m args meth c RX11 cX11_next 2 none) (hR : 1 ≤ R.frames ∧ 23 ≤ R.locals) (hRc : cells ≤ R.cells ∧ slots ≤ R.slots) {K0 : Nat} {tok st val : Int32} {wd : Int64} {ls : Array Slot} {H : Heap} {locs : List Loc} (h2 : K0 ≤ T) (hl : lv_has ls 2 [(0, .ref lo)]) (hH : HX D t lo n (nxF lo f fs K0 tok st val wd) A s H locs)
    (kk : ∀ (K' S : Nat) (tk v' : Int32) (wd' : Int64) (ls' : Array Slot) (H1 : Heap) (locs1 : List Loc), K0 ≤ K' → K' ≤ T → S ≤ T → (0 ≤ v'.toInt ∧ v'.toInt ≤ 10000009) → (tk = 0 ∨ (1 ≤ tk.toInt ∧ tk.toInt ≤ 4 ∧ K0 < K')) → HX D t lo n (nxF lo f fs K' tk (nI S) v' wd') A s H1 locs1 → W p l e R s m args below meth c H1 locs1 cells slots Q (F0 m 307 ls' [])) : W p l e R s m args below meth c H locs cells slots Q (F0 m 0 ls []) := by
  have h4 := C.2.2.2.2
  have C1 := C.1
  have C2 := C.2.1
  have C3 := C.2.2.1
  have h0 : ls[0]? = some (.val (.ref lo)) := lv_at hl 0 rfl
  refine nx_skip C hn X hl.1 h0 hR hRc T K0 H locs (by omega) h2 hH (fun K H1 locs1 k1 k2 hH => ?_)
  refine lv_aload_n X.1 X.2.1 (show decode cX11_next 43 = .ok (.aload_n 0, 1) by decide +kernel) rfl h0 ?_
  refine lv_aload_n X.1 X.2.1 (show decode cX11_next 44 = .ok (.aload_n 0, 1) by decide +kernel) rfl h0 ?_
  refine bx_get fl_X11_ok (i := 89) rfl X hH (nx_at hn) (nxt_at C1).1 (show decode cX11_next 45 = .ok (.getfield 89, 3) by decide +kernel) ?_
  refine bx_puti fl_X11_ok (i := 96) rfl X hH (nx_at hn) (by rw [nxt_len, C1]; decide) (show decode cX11_next 48 = .ok (.putfield 96, 3) by decide +kernel) (fun H1 locs1 hH => ?_)
  unfold nxF at hH
  rw [va_up_up, nxt9] at hH
  refine lv_aload_n X.1 X.2.1 (show decode cX11_next 51 = .ok (.aload_n 0, 1) by decide +kernel) rfl h0 ?_
  refine lv_iconst (v := 0) X.1 X.2.1 (show decode cX11_next 52 = .ok (.iconst 0, 1) by decide +kernel) (by decide) ?_
  refine bx_puti fl_X11_ok (i := 99) rfl X hH (nx_at hn) (by rw [nxt_len, C1]; decide) (show decode cX11_next 53 = .ok (.putfield 99, 3) by decide +kernel) (fun H1 locs1 hH => ?_)
  rw [va_up_up, nxt10] at hH
  refine lv_aload_n X.1 X.2.1 (show decode cX11_next 56 = .ok (.aload_n 0, 1) by decide +kernel) rfl h0 ?_
  refine lv_lconst (v := 0) X.1 X.2.1 (show decode cX11_next 57 = .ok (.lconst 0, 1) by decide +kernel) (by decide) ?_
  refine bx_putl fl_X11_ok (i := 102) rfl X hH (nx_at hn) (by rw [nxt_len, C1]; decide) (show decode cX11_next 58 = .ok (.putfield 102, 3) by decide +kernel) (fun H1 locs1 hH => ?_)
  rw [va_up_up, nxt11] at hH
  refine lv_aload_n X.1 X.2.1 (show decode cX11_next 61 = .ok (.aload_n 0, 1) by decide +kernel) rfl h0 ?_
  refine bx_get fl_X11_ok (i := 89) rfl X hH (nx_at hn) (nxt_at C1).1 (show decode cX11_next 62 = .ok (.getfield 89, 3) by decide +kernel) ?_
  refine lv_aload_n X.1 X.2.1 (show decode cX11_next 65 = .ok (.aload_n 0, 1) by decide +kernel) rfl h0 ?_
  refine bx_get fl_X11_ok (i := 82) rfl X hH (nx_at hn) (by rw [nxt_off (by decide)]; exact C3) (show decode cX11_next 66 = .ok (.getfield 82, 3) by decide +kernel) ?_
  have z0 : (0 : Int) ≤ (0 : Int32).toInt ∧ (0 : Int32).toInt ≤ 10000009 := by decide
  refine lv_icmp_ne (tgt := 80) X.1 X.2.1 (show decode cX11_next 69 = .ok (.if_icmp .ne 11, 3) by decide +kernel) (by decide) (fun q => ?_) (fun q => ?_)
  · have hlt : K < T := by
      have : K ≠ T := fun e => q (by rw [e])
      omega
    refine nx_is (pc := 80) C hn X hH (by omega) hl.1 h0 hR hRc (by decide) (a := 97) (b := 122) (a' := 97) (b' := 122) rfl rfl (by decide +kernel) (by decide +kernel) (by decide +kernel) (by decide +kernel) (by decide +kernel) (by decide +kernel) (fun H1 locs1 hH => ?_)
    refine lv_if_eq (tgt := 188) X.1 X.2.1 (show decode cX11_next 92 = .ok (.ifCond .eq 96, 3) by decide +kernel) (by decide) (fun _ => ?_) (fun q1 => ?_)
    · refine nx_is (pc := 188) C hn X hH (by omega) hl.1 h0 hR hRc (by decide) (a := 48) (b := 57) (a' := 48) (b' := 57) rfl rfl (by decide +kernel) (by decide +kernel) (by decide +kernel) (by decide +kernel) (by decide +kernel) (by decide +kernel) (fun H1 locs1 hH => ?_)
      refine lv_if_eq (tgt := 274) X.1 X.2.1 (show decode cX11_next 200 = .ok (.ifCond .eq 74, 3) by decide +kernel) (by decide) (fun _ => ?_) (fun q1 => ?_)
      · refine lv_aload_n X.1 X.2.1 (show decode cX11_next 274 = .ok (.aload_n 0, 1) by decide +kernel) rfl h0 ?_
        refine lv_aload_n X.1 X.2.1 (show decode cX11_next 275 = .ok (.aload_n 0, 1) by decide +kernel) rfl h0 ?_
        refine bx_get fl_X11_ok (i := 23) rfl X hH (nx_at hn) (by rw [nxt_off (by decide)]; exact C2) (show decode cX11_next 276 = .ok (.getfield 23, 3) by decide +kernel) ?_
        refine lv_aload_n X.1 X.2.1 (show decode cX11_next 279 = .ok (.aload_n 0, 1) by decide +kernel) rfl h0 ?_
        refine bx_get fl_X11_ok (i := 89) rfl X hH (nx_at hn) (nxt_at C1).1 (show decode cX11_next 280 = .ok (.getfield 89, 3) by decide +kernel) ?_
        refine px_bald X hH (g := gt) ⟨⟨by omega, by omega⟩, by unfold nxF; rw [va_up_ne _ _ (by omega)]; exact C.2.2.2.1⟩ (nI_in (show K < 1400 by omega) (by decide)) (show decode cX11_next 283 = .ok (.baload, 1) by decide +kernel) ?_
        refine lv_bipush (v := 59) X.1 X.2.1 (show decode cX11_next 284 = .ok (.bipush 59, 2) by decide +kernel) (by decide) ?_
        have fin : ∀ tk : Int32, (1 ≤ tk.toInt ∧ tk.toInt ≤ 4) → W p l e R s m args below meth c H1 locs1 cells slots Q (F0 m 294 ls [.int tk, .ref lo]) := by
          intro tk htk
          refine bx_puti fl_X11_ok (i := 106) rfl X hH (nx_at hn) (by rw [nxt_len, C1]; decide) (show decode cX11_next 294 = .ok (.putfield 106, 3) by decide +kernel) (fun H1 locs1 hH => ?_)
          unfold nxF at hH
          rw [va_up_up, nxt8] at hH
          refine nx_inc (pc := 297) C hn X hH h0 (by decide +kernel) (by decide +kernel) (by decide +kernel) (by decide +kernel) (by decide +kernel) (by decide +kernel) (fun H1 locs1 hH => ?_)
          exact kk (K + 1) K tk 0 0 ls H1 locs1 (by omega) (by omega) k2 z0 (Or.inr ⟨htk.1, htk.2, by omega⟩) hH
        refine lv_icmp_ne (tgt := 293) X.1 X.2.1 (show decode cX11_next 286 = .ok (.if_icmp .ne 7, 3) by decide +kernel) (by decide) (fun _ => ?_) (fun _ => ?_)
        · refine lv_iconst (v := 4) X.1 X.2.1 (show decode cX11_next 293 = .ok (.iconst 4, 1) by decide +kernel) (by decide) ?_
          exact fin 4 (by decide)
        · refine lv_iconst (v := 3) X.1 X.2.1 (show decode cX11_next 289 = .ok (.iconst 3, 1) by decide +kernel) (by decide) ?_
          refine lv_goto (tgt := 294) X.1 X.2.1 (show decode cX11_next 290 = .ok (.goto 4, 3) by decide +kernel) (by decide) ?_
          exact fin 3 (by decide)
      · refine lv_aload_n X.1 X.2.1 (show decode cX11_next 203 = .ok (.aload_n 0, 1) by decide +kernel) rfl h0 ?_
        refine lv_iconst (v := 2) X.1 X.2.1 (show decode cX11_next 204 = .ok (.iconst 2, 1) by decide +kernel) (by decide) ?_
        refine bx_puti fl_X11_ok (i := 106) rfl X hH (nx_at hn) (by rw [nxt_len, C1]; decide) (show decode cX11_next 205 = .ok (.putfield 106, 3) by decide +kernel) (fun H1 locs1 hH => ?_)
        unfold nxF at hH
        rw [va_up_up, nxt8] at hH
        refine nx_dig C hn X hl.1 h0 hR hRc T K 0 H1 locs1 (by omega) k2 z0 hH (fun K' v' H1 locs1 r1 r2 r3 r4 hH => ?_)
        exact kk K' K 2 v' 0 ls H1 locs1 (by omega) r2 k2 r4 (Or.inr ⟨by decide, by decide, by rcases r3 with r3 | r3; exact absurd r3 q1; omega⟩) hH
    · refine lv_aload_n X.1 X.2.1 (show decode cX11_next 95 = .ok (.aload_n 0, 1) by decide +kernel) rfl h0 ?_
      refine lv_iconst (v := 1) X.1 X.2.1 (show decode cX11_next 96 = .ok (.iconst 1, 1) by decide +kernel) (by decide) ?_
      refine bx_puti fl_X11_ok (i := 106) rfl X hH (nx_at hn) (by rw [nxt_len, C1]; decide) (show decode cX11_next 97 = .ok (.putfield 106, 3) by decide +kernel) (fun H1 locs1 hH => ?_)
      unfold nxF at hH
      rw [va_up_up, nxt8] at hH
      refine lv_iconst (v := 0) X.1 X.2.1 (show decode cX11_next 100 = .ok (.iconst 0, 1) by decide +kernel) (by decide) ?_
      refine lv_istore_n X.1 X.2.1 (show decode cX11_next 101 = .ok (.istore_n 1, 1) by decide +kernel) rfl hl (by decide) rfl (fun ls' hl' => ?_)
      refine nx_let C hn X hR hRc T K 0 0 ls' H1 locs1 (by omega) k2 hl' hH (fun K' wd' ls' H1 locs1 r1 r2 r3 hH => ?_)
      refine lv_goto (tgt := 307) X.1 X.2.1 (show decode cX11_next 185 = .ok (.goto 122, 3) by decide +kernel) (by decide) ?_
      exact kk K' K 1 0 wd' ls' H1 locs1 (by omega) r2 k2 z0 (Or.inr ⟨by decide, by decide, by rcases r3 with r3 | r3; exact absurd r3 q1; omega⟩) hH
  · refine lv_aload_n X.1 X.2.1 (show decode cX11_next 72 = .ok (.aload_n 0, 1) by decide +kernel) rfl h0 ?_
    refine lv_iconst (v := 0) X.1 X.2.1 (show decode cX11_next 73 = .ok (.iconst 0, 1) by decide +kernel) (by decide) ?_
    refine bx_puti fl_X11_ok (i := 106) rfl X hH (nx_at hn) (by rw [nxt_len, C1]; decide) (show decode cX11_next 74 = .ok (.putfield 106, 3) by decide +kernel) (fun H1 locs1 hH => ?_)
    rw [va_up_up, nxt8] at hH
    refine lv_goto (tgt := 307) X.1 X.2.1 (show decode cX11_next 77 = .ok (.goto 230, 3) by decide +kernel) (by decide) ?_
    exact kk K K 0 0 0 ls H1 locs1 k1 k2 k2 z0 (Or.inl rfl) hH
end
