/-! rowsOf -/
theorem rw_desc : yX11_rowsOf.cls = RX11 ∧ yX11_rowsOf.cls ≠ "java/lang/invoke/MethodHandle" ∧ yX11_rowsOf.cls ≠ "java/lang/invoke/VarHandle" ∧ (parseMethodDescriptor yX11_rowsOf.desc).map (fun d => d.parameters.length) = some 2 := by decide +kernel
theorem rw_plain : plainName yX11_rowsOf.cls = true := by decide +kernel
theorem bit_tab : ∀ S : Fin 1024, ∀ b : Fin 10, bitF (nI S) (nI b) ≠ 0 → (nI S &&& (((1 : Int32) <<< (nI b &&& 31)) ^^^ (-1))) = nI ((S : Nat) - 2 ^ (b : Nat)) ∧ 2 ^ (b : Nat) ≤ (S : Nat) := by decide +kernel
def rwF (t : Nat → ClassId) (lo : Nat) (f : Nat → va_E) (g : Nat → Int32) : Nat → va_E := va_up f (lo + 16) (.inl (t 0, 11264, .inl g))
abbrev RWZ (t : Nat → ClassId) (lo : Nat) (f : Nat → va_E) : Option Value → (Nat → va_E) → Prop := fun ov f2 => ∃ (r : Int32) (g : Nat → Int32), ov = some (.int r) ∧ f2 = rwF t lo f g
abbrev Yrw (k : Nat) : XY := (yX11_rowsOf, cX11_rowsOf, 7, some .int, k)
/-- what stands around it -/
def RWC (t : Nat → ClassId) (lo : Nat) (f : Nat → va_E) (fs : List Value) (gi : Nat → Int32) (B : Nat) : Prop := f lo = .inr (11, fs) ∧ fs[48]? = some (.ref (lo + 16)) ∧ fs[24]? = some (.int (nI B)) ∧ B ≤ 10 ∧ fs[32]? = some (.ref (lo + 14)) ∧ f (lo + 14) = .inl (t 0, 60, .inl gi)
section
variable {p : Program} {l : Launch} {e : Env} {s : State} {m : MethodId} {args : Array Value} {below : List Frame} {meth : Method} {c : Code} {D : va_G} {t : Nat → ClassId} {lo n : Nat} {f : Nat → va_E} {fs : List Value} {gi : Nat → Int32} {B S L k : Nat}
theorem rw_loop (C : RWC t lo f fs gi B) (hn : 17 ≤ n) (hS : S ≤ 1023) (hL : L ≤ 10) (X : CX p s m args meth c RX11 cX11_rowsOf 7 (some .int))
    (IH : ∀ (b : Nat) (g : Nat → Int32), b < 10 → 2 ^ b ≤ S → MetZ l (Yrw k) D t lo n (rwF t lo f g) [.ref lo, .int (nI (S - 2 ^ b)), .int (nI b)] (RWZ t lo f)) : ∀ (d b : Nat) (v : Int32) (g : Nat → Int32) (H : Heap) (locs : List Loc) (ls : Array Slot), B ≤ b + d → b ≤ B → HX D t lo n (rwF t lo f g) (px_A lo n) s H locs → lv_has ls 7 [(5, .int (nI b)), (4, .int v), (3, .int (nI (11 * S + L))), (0, .ref lo), (1, .int (nI S)), (2, .int (nI L))] → W p l e (px_rm (k + 1)) s m args below meth c H locs 0 0 (MQ below (QcZ D lo n (RWZ t lo f)) args s 0 0 (px_A lo n)) (F0 m 35 ls []) := by
  obtain ⟨C1, C2, C3, C4, C5, C6⟩ := C
  have k0 : ∀ g : Nat → Int32, px_at lo n (rwF t lo f g) lo (.inr (11, fs)) := fun g => ⟨⟨by omega, by omega⟩, by unfold rwF; rw [va_up_ne _ _ (by omega)]; exact C1⟩
  have k14 : ∀ g : Nat → Int32, rwF t lo f g (lo + 14) = .inl (t 0, 60, .inl gi) := fun g => by unfold rwF; rw [va_up_ne _ _ (by omega)]; exact C6
  have k16 : px_A lo n (lo + 16) := ⟨by omega, by omega⟩
  intro d
  induction d with
  | zero =>
    intro b v g H locs ls hd hbB hH hl
    refine lv_iload X.1 X.2.1 (show decode cX11_rowsOf 35 = .ok (.iload 5, 2) by decide +kernel) (lv_at hl 0 rfl) ?_
    refine lv_aload_n X.1 X.2.1 (show decode cX11_rowsOf 37 = .ok (.aload_n 0, 1) by decide +kernel) rfl (lv_at hl 3 rfl) ?_
    refine bx_get fl_X11_ok (i := 246) rfl X hH (k0 _) C3 (show decode cX11_rowsOf 38 = .ok (.getfield 246, 3) by decide +kernel) ?_
    refine lv_icmp_ge (tgt := 123) X.1 X.2.1 (show decode cX11_rowsOf 41 = .ok (.if_icmp .ge 82, 3) by decide +kernel) (by decide) (fun q => ?_) (fun q => ?_)
    · refine lv_aload_n X.1 X.2.1 (show decode cX11_rowsOf 123 = .ok (.aload_n 0, 1) by decide +kernel) rfl (lv_at hl 3 rfl) ?_
      refine bx_get fl_X11_ok (i := 62) rfl X hH (k0 _) C2 (show decode cX11_rowsOf 124 = .ok (.getfield 62, 3) by decide +kernel) ?_
      refine lv_iload_n X.1 X.2.1 (show decode cX11_rowsOf 127 = .ok (.iload_n 3, 1) by decide +kernel) rfl (lv_at hl 2 rfl) ?_
      refine lv_iload X.1 X.2.1 (show decode cX11_rowsOf 128 = .ok (.iload 4, 2) by decide +kernel) (lv_at hl 1 rfl) ?_
      refine bx_iast X hH k16 (j := 11 * S + L) rfl (by omega) (by decide) (show decode cX11_rowsOf 130 = .ok (.iastore, 1) by decide +kernel) (fun H1 locs1 h1 => ?_)
      refine lv_iload X.1 X.2.1 (show decode cX11_rowsOf 131 = .ok (.iload 4, 2) by decide +kernel) (lv_at hl 1 rfl) ?_
      exact z_iret X h1 ⟨_, _, rfl, rfl⟩ (show decode cX11_rowsOf 133 = .ok (.ireturn, 1) by decide +kernel)
    · rw [nI_leI (by omega) (by omega)] at q
      exact absurd q (by omega)
  | succ d ih =>
    intro b v g H locs ls hd hbB hH hl
    refine lv_iload X.1 X.2.1 (show decode cX11_rowsOf 35 = .ok (.iload 5, 2) by decide +kernel) (lv_at hl 0 rfl) ?_
    refine lv_aload_n X.1 X.2.1 (show decode cX11_rowsOf 37 = .ok (.aload_n 0, 1) by decide +kernel) rfl (lv_at hl 3 rfl) ?_
    refine bx_get fl_X11_ok (i := 246) rfl X hH (k0 _) C3 (show decode cX11_rowsOf 38 = .ok (.getfield 246, 3) by decide +kernel) ?_
    refine lv_icmp_ge (tgt := 123) X.1 X.2.1 (show decode cX11_rowsOf 41 = .ok (.if_icmp .ge 82, 3) by decide +kernel) (by decide) (fun q => ?_) (fun q => ?_)
    · refine lv_aload_n X.1 X.2.1 (show decode cX11_rowsOf 123 = .ok (.aload_n 0, 1) by decide +kernel) rfl (lv_at hl 3 rfl) ?_
      refine bx_get fl_X11_ok (i := 62) rfl X hH (k0 _) C2 (show decode cX11_rowsOf 124 = .ok (.getfield 62, 3) by decide +kernel) ?_
      refine lv_iload_n X.1 X.2.1 (show decode cX11_rowsOf 127 = .ok (.iload_n 3, 1) by decide +kernel) rfl (lv_at hl 2 rfl) ?_
      refine lv_iload X.1 X.2.1 (show decode cX11_rowsOf 128 = .ok (.iload 4, 2) by decide +kernel) (lv_at hl 1 rfl) ?_
      refine bx_iast X hH k16 (j := 11 * S + L) rfl (by omega) (by decide) (show decode cX11_rowsOf 130 = .ok (.iastore, 1) by decide +kernel) (fun H1 locs1 h1 => ?_)
      refine lv_iload X.1 X.2.1 (show decode cX11_rowsOf 131 = .ok (.iload 4, 2) by decide +kernel) (lv_at hl 1 rfl) ?_
      exact z_iret X h1 ⟨_, _, rfl, rfl⟩ (show decode cX11_rowsOf 133 = .ok (.ireturn, 1) by decide +kernel)
    rw [nI_leI (by omega) (by omega)] at q
    have hb10 : b < 10 := by omega
    have tail : ∀ (v2 : Int32) (g2 : Nat → Int32) (H2 : Heap) (locs2 : List Loc) (ls2 : Array Slot), HX D t lo n (rwF t lo f g2) (px_A lo n) s H2 locs2 → lv_has ls2 7 [(5, .int (nI b)), (4, .int v2), (3, .int (nI (11 * S + L))), (0, .ref lo), (1, .int (nI S)), (2, .int (nI L))] → W p l e (px_rm (k + 1)) s m args below meth c H2 locs2 0 0 (MQ below (QcZ D lo n (RWZ t lo f)) args s 0 0 (px_A lo n)) (F0 m 117 ls2 []) := by
      intro v2 g2 H2 locs2 ls2 hH2 hl2
      refine lv_iinc (k := 0) X.1 X.2.1 (show decode cX11_rowsOf 117 = .ok (.iinc 5 1, 3) by decide +kernel) hl2 rfl (show nI b + Int32.ofInt 1 = nI (b + 1) from nI_add b 1) (by decide) rfl (fun ls3 hl3 => ?_)
      refine lv_goto (tgt := 35) X.1 X.2.1 (show decode cX11_rowsOf 120 = .ok (.goto (-85), 3) by decide +kernel) (by decide) ?_
      exact ih (b + 1) v2 g2 H2 locs2 ls3 (by omega) (by omega) hH2 hl3
    refine lv_iload_n X.1 X.2.1 (show decode cX11_rowsOf 44 = .ok (.iload_n 1, 1) by decide +kernel) rfl (lv_at hl 4 rfl) ?_
    refine lv_iload X.1 X.2.1 (show decode cX11_rowsOf 45 = .ok (.iload 5, 2) by decide +kernel) (lv_at hl 0 rfl) ?_
    refine px_callS (k := 0) (idx := 295) (na := 2) (As := [.int (nI S), .int (nI b)]) (rest := []) X hH (c_isBit l D t lo n _ (nI S) (nI b)) mw_1650 mw_1651 mw_12 mw_1652 (by decide +kernel) ⟨by show 1 ≤ k + 1; omega, by show 8 + (2 + 11) + 60 * 0 ≤ 60 * (k + 1); omega⟩ ⟨Nat.le_refl _, Nat.le_refl _⟩ hl.1 rfl rfl (Nat.zero_le _) (show decode cX11_rowsOf 47 = .ok (.invokestatic 295, 3) by decide +kernel) (fun H1 locs1 hH _ => ?_)
    refine lv_if_ne (tgt := 56) X.1 X.2.1 (show decode cX11_rowsOf 50 = .ok (.ifCond .ne 6, 3) by decide +kernel) (by decide) (fun z => ?_) (fun z => ?_)
    rotate_left
    · refine lv_goto (tgt := 117) X.1 X.2.1 (show decode cX11_rowsOf 53 = .ok (.goto 64, 3) by decide +kernel) (by decide) ?_
      exact tail v g H1 locs1 ls hH hl
    have bt := bit_tab ⟨S, by omega⟩ ⟨b, hb10⟩ z
    simp only at bt
    obtain ⟨bt1, bt2⟩ := bt
    have hlt : S - 2 ^ b < S := by have := Nat.two_pow_pos b; omega
    have rest : ∀ (ap : Int32) (H2 : Heap) (locs2 : List Loc), HX D t lo n (rwF t lo f g) (px_A lo n) s H2 locs2 → W p l e (px_rm (k + 1)) s m args below meth c H2 locs2 0 0 (MQ below (QcZ D lo n (RWZ t lo f)) args s 0 0 (px_A lo n)) (F0 m 80 ls [.int ap]) := by
      intro ap H2 locs2 hH
      refine lv_istore X.1 X.2.1 (show decode cX11_rowsOf 80 = .ok (.istore 6, 2) by decide +kernel) hl (by decide) rfl (fun ls hl => ?_)
      have hl : lv_has ls 7 [(6, .int ap), (5, .int (nI b)), (4, .int v), (3, .int (nI (11 * S + L))), (0, .ref lo), (1, .int (nI S)), (2, .int (nI L))] := hl
      have join : ∀ (r : Int32) (g2 : Nat → Int32) (H3 : Heap) (locs3 : List Loc), HX D t lo n (rwF t lo f g2) (px_A lo n) s H3 locs3 → W p l e (px_rm (k + 1)) s m args below meth c H3 locs3 0 0 (MQ below (QcZ D lo n (RWZ t lo f)) args s 0 0 (px_A lo n)) (F0 m 114 ls [.int r, .int v]) := by
        intro r g2 H3 locs3 hH3
        refine lv_iadd X.1 X.2.1 (show decode cX11_rowsOf 114 = .ok (.iadd, 1) by decide +kernel) ?_
        refine lv_istore X.1 X.2.1 (show decode cX11_rowsOf 115 = .ok (.istore 4, 2) by decide +kernel) hl (by decide) rfl (fun ls3 hl3 => ?_)
        exact tail (v + r) g2 H3 locs3 ls3 hH3 (lv_less hl3 (fun z hz => by
          simp only [List.mem_cons, List.not_mem_nil, or_false] at hz
          rcases hz with rfl | rfl | rfl | rfl | rfl | rfl
          · exact List.mem_cons_of_mem _ (List.mem_filter.mpr ⟨by simp, by rfl⟩)
          · exact List.mem_cons_self
          · exact List.mem_cons_of_mem _ (List.mem_filter.mpr ⟨by simp, by rfl⟩)
          · exact List.mem_cons_of_mem _ (List.mem_filter.mpr ⟨by simp, by rfl⟩)
          · exact List.mem_cons_of_mem _ (List.mem_filter.mpr ⟨by simp, by rfl⟩)
          · exact List.mem_cons_of_mem _ (List.mem_filter.mpr ⟨by simp, by rfl⟩)))
      have zero : W p l e (px_rm (k + 1)) s m args below meth c H2 locs2 0 0 (MQ below (QcZ D lo n (RWZ t lo f)) args s 0 0 (px_A lo n)) (F0 m 96 ls [.int v]) := by
        refine lv_iconst (v := 0) X.1 X.2.1 (show decode cX11_rowsOf 96 = .ok (.iconst 0, 1) by decide +kernel) (by decide) ?_
        refine lv_goto (tgt := 114) X.1 X.2.1 (show decode cX11_rowsOf 97 = .ok (.goto 17, 3) by decide +kernel) (by decide) ?_
        exact join 0 g H2 locs2 hH
      refine lv_iload X.1 X.2.1 (show decode cX11_rowsOf 82 = .ok (.iload 4, 2) by decide +kernel) (lv_at hl 2 rfl) ?_
      refine lv_iload X.1 X.2.1 (show decode cX11_rowsOf 84 = .ok (.iload 6, 2) by decide +kernel) (lv_at hl 0 rfl) ?_
      refine lv_iconst (v := 1) X.1 X.2.1 (show decode cX11_rowsOf 86 = .ok (.iconst 1, 1) by decide +kernel) (by decide) ?_
      refine lv_icmp_eq (tgt := 96) X.1 X.2.1 (show decode cX11_rowsOf 87 = .ok (.if_icmp .eq 9, 3) by decide +kernel) (by decide) (fun _ => zero) (fun _ => ?_)
      refine lv_iload X.1 X.2.1 (show decode cX11_rowsOf 90 = .ok (.iload 6, 2) by decide +kernel) (lv_at hl 0 rfl) ?_
      refine lv_iconst (v := (-1)) X.1 X.2.1 (show decode cX11_rowsOf 92 = .ok (.iconst (-1), 1) by decide +kernel) (by decide) ?_
      refine lv_icmp_ne (tgt := 100) X.1 X.2.1 (show decode cX11_rowsOf 93 = .ok (.if_icmp .ne 7, 3) by decide +kernel) (by decide) (fun _ => ?_) (fun _ => zero)
      refine lv_aload_n X.1 X.2.1 (show decode cX11_rowsOf 100 = .ok (.aload_n 0, 1) by decide +kernel) rfl (lv_at hl 4 rfl) ?_
      refine lv_iload_n X.1 X.2.1 (show decode cX11_rowsOf 101 = .ok (.iload_n 1, 1) by decide +kernel) rfl (lv_at hl 5 rfl) ?_
      refine lv_iconst (v := 1) X.1 X.2.1 (show decode cX11_rowsOf 102 = .ok (.iconst 1, 1) by decide +kernel) (by decide) ?_
      refine lv_iload X.1 X.2.1 (show decode cX11_rowsOf 103 = .ok (.iload 5, 2) by decide +kernel) (lv_at hl 1 rfl) ?_
      refine lv_ishl X.1 X.2.1 (show decode cX11_rowsOf 105 = .ok (.ishl, 1) by decide +kernel) ?_
      refine lv_iconst (v := (-1)) X.1 X.2.1 (show decode cX11_rowsOf 106 = .ok (.iconst (-1), 1) by decide +kernel) (by decide) ?_
      refine lv_ixor X.1 X.2.1 (show decode cX11_rowsOf 107 = .ok (.ixor, 1) by decide +kernel) ?_
      refine lv_iand X.1 X.2.1 (show decode cX11_rowsOf 108 = .ok (.iand, 1) by decide +kernel) ?_
      rw [bt1]
      refine lv_iload X.1 X.2.1 (show decode cX11_rowsOf 109 = .ok (.iload 5, 2) by decide +kernel) (lv_at hl 1 rfl) ?_
      refine z_callV (Y := Yrw k) (idx := 475) (na := 2) (b := lo) (As := [.int (nI (S - 2 ^ b)), .int (nI b)]) (rest := [.int v]) X hH (IH b g hb10 bt2) (k0 _) (rfl : vwCl[11]? = some _) mw_1957 mw_1959 ms_100 mw_12 mw_1960 rw_desc ⟨Nat.le_refl _, by show 8 + (7 + 11) + 60 * k ≤ 60 * (k + 1); omega⟩ ⟨Nat.le_refl _, Nat.le_refl _⟩ hl.1 rfl rfl (by simp [Value.category]) (show decode cX11_rowsOf 111 = .ok (.invokevirtual 475, 3) by decide +kernel) (fun ov f2 hz H3 locs3 hH3 => ?_)
      obtain ⟨r, g2, rfl, rfl⟩ := hz
      exact join r g2 H3 locs3 hH3
    refine lv_iload_n X.1 X.2.1 (show decode cX11_rowsOf 56 = .ok (.iload_n 2, 1) by decide +kernel) rfl (lv_at hl 5 rfl) ?_
    refine lv_bipush (v := 10) X.1 X.2.1 (show decode cX11_rowsOf 57 = .ok (.bipush 10, 2) by decide +kernel) (by decide) ?_
    refine lv_icmp_ne (tgt := 66) X.1 X.2.1 (show decode cX11_rowsOf 59 = .ok (.if_icmp .ne 7, 3) by decide +kernel) (by decide) (fun z1 => ?_) (fun z1 => ?_)
    rotate_left
    · refine lv_iconst (v := 2) X.1 X.2.1 (show decode cX11_rowsOf 62 = .ok (.iconst 2, 1) by decide +kernel) (by decide) ?_
      refine lv_goto (tgt := 80) X.1 X.2.1 (show decode cX11_rowsOf 63 = .ok (.goto 17, 3) by decide +kernel) (by decide) ?_
      exact rest 2 H1 locs1 hH
    have hL9 : L ≤ 9 := by
      have : L ≠ 10 := fun e => z1 (by rw [e]; rfl)
      omega
    refine lv_aload_n X.1 X.2.1 (show decode cX11_rowsOf 66 = .ok (.aload_n 0, 1) by decide +kernel) rfl (lv_at hl 3 rfl) ?_
    refine lv_iload X.1 X.2.1 (show decode cX11_rowsOf 67 = .ok (.iload 5, 2) by decide +kernel) (lv_at hl 0 rfl) ?_
    refine lv_iconst (v := 2) X.1 X.2.1 (show decode cX11_rowsOf 69 = .ok (.iconst 2, 1) by decide +kernel) (by decide) ?_
    refine px_callV (k := 0) (idx := 255) (na := 2) (b := lo) (As := [.int (nI b), .int (nI 2)]) (rest := []) X hH (c_of l D t lo n _ (fs := fs) (gi := gi) (K := b) (J := 2) (k0 _).2 C5 (k14 _) hn (by omega)) (k0 _) (rfl : vwCl[11]? = some _) mw_1598 mw_1600 ms_65 mw_12 mw_1601 (by decide +kernel) ⟨by show 1 ≤ k + 1; omega, by show 8 + (3 + 11) + 60 * 0 ≤ 60 * (k + 1); omega⟩ ⟨Nat.le_refl _, Nat.le_refl _⟩ hl.1 rfl rfl (by simp [Value.category]) (show decode cX11_rowsOf 70 = .ok (.invokevirtual 255, 3) by decide +kernel) (fun H2 locs2 hH _ => ?_)
    refine lv_aload_n X.1 X.2.1 (show decode cX11_rowsOf 73 = .ok (.aload_n 0, 1) by decide +kernel) rfl (lv_at hl 3 rfl) ?_
    refine lv_iload_n X.1 X.2.1 (show decode cX11_rowsOf 74 = .ok (.iload_n 2, 1) by decide +kernel) rfl (lv_at hl 5 rfl) ?_
    refine lv_iconst (v := 2) X.1 X.2.1 (show decode cX11_rowsOf 75 = .ok (.iconst 2, 1) by decide +kernel) (by decide) ?_
    refine px_callV (k := 0) (idx := 255) (na := 2) (b := lo) (As := [.int (nI L), .int (nI 2)]) (rest := [.int (gi (6 * b + 2))]) X hH (c_of l D t lo n _ (fs := fs) (gi := gi) (K := L) (J := 2) (k0 _).2 C5 (k14 _) hn (by omega)) (k0 _) (rfl : vwCl[11]? = some _) mw_1598 mw_1600 ms_65 mw_12 mw_1601 (by decide +kernel) ⟨by show 1 ≤ k + 1; omega, by show 8 + (3 + 11) + 60 * 0 ≤ 60 * (k + 1); omega⟩ ⟨Nat.le_refl _, Nat.le_refl _⟩ hl.1 rfl rfl (by simp [Value.category]) (show decode cX11_rowsOf 76 = .ok (.invokevirtual 255, 3) by decide +kernel) (fun H2 locs2 hH _ => ?_)
    refine lv_isub X.1 X.2.1 (show decode cX11_rowsOf 79 = .ok (.isub, 1) by decide +kernel) ?_
    exact rest _ _ _ hH
end
theorem c_rows (l : Launch) (D : va_G) (t : Nat → ClassId) (lo n : Nat) {f : Nat → va_E} {fs : List Value} {gi : Nat → Int32} {B : Nat} (C : RWC t lo f fs gi B) (hn : 17 ≤ n) : ∀ (S L k : Nat) (g : Nat → Int32), S ≤ 1023 → L ≤ 10 → S ≤ k → MetZ l (Yrw (k + 1)) D t lo n (rwF t lo f g) [.ref lo, .int (nI S), .int (nI L)] (RWZ t lo f) := by
  intro S
  induction S using Nat.strongRecOn with
  | ind S ih =>
    intro L k g hS hL hk
    refine MetZ.beg rw_plain (Nat.le_of_ble_eq_true rfl) ?_
    intro p e s m below meth c X hH ls hl
    have hl : lv_has ls 7 [(0, .ref lo), (1, .int (nI S)), (2, .int (nI L))] := hl
    obtain ⟨C1, C2, C3, C4, C5, C6⟩ := id C
    have k0 : px_at lo n (rwF t lo f g) lo (.inr (11, fs)) := ⟨⟨by omega, by omega⟩, by unfold rwF; rw [va_up_ne _ _ (by omega)]; exact C1⟩
    refine lv_iload_n X.1 X.2.1 (show decode cX11_rowsOf 0 = .ok (.iload_n 1, 1) by decide +kernel) rfl (lv_at hl 1 rfl) ?_
    refine lv_if_ne (tgt := 6) X.1 X.2.1 (show decode cX11_rowsOf 1 = .ok (.ifCond .ne 5, 3) by decide +kernel) (by decide) (fun z => ?_) (fun z => ?_)
    rotate_left
    · refine lv_iconst (v := 1) X.1 X.2.1 (show decode cX11_rowsOf 4 = .ok (.iconst 1, 1) by decide +kernel) (by decide) ?_
      exact z_iret X hH ⟨_, _, rfl, rfl⟩ (show decode cX11_rowsOf 5 = .ok (.ireturn, 1) by decide +kernel)
    refine lv_bipush (v := 11) X.1 X.2.1 (show decode cX11_rowsOf 6 = .ok (.bipush 11, 2) by decide +kernel) (by decide) ?_
    refine lv_iload_n X.1 X.2.1 (show decode cX11_rowsOf 8 = .ok (.iload_n 1, 1) by decide +kernel) rfl (lv_at hl 1 rfl) ?_
    refine lv_imul X.1 X.2.1 (show decode cX11_rowsOf 9 = .ok (.imul, 1) by decide +kernel) ?_
    refine lv_iload_n X.1 X.2.1 (show decode cX11_rowsOf 10 = .ok (.iload_n 2, 1) by decide +kernel) rfl (lv_at hl 2 rfl) ?_
    refine lv_iadd X.1 X.2.1 (show decode cX11_rowsOf 11 = .ok (.iadd, 1) by decide +kernel) ?_
    rw [show (11 : Int32) = nI 11 from rfl, nI_mul, nI_add]
    refine lv_istore_n X.1 X.2.1 (show decode cX11_rowsOf 12 = .ok (.istore_n 3, 1) by decide +kernel) rfl hl (by decide) rfl (fun ls hl => ?_)
    have hl : lv_has ls 7 [(3, .int (nI (11 * S + L))), (0, .ref lo), (1, .int (nI S)), (2, .int (nI L))] := hl
    refine lv_aload_n X.1 X.2.1 (show decode cX11_rowsOf 13 = .ok (.aload_n 0, 1) by decide +kernel) rfl (lv_at hl 1 rfl) ?_
    refine bx_get fl_X11_ok (i := 62) rfl X hH k0 C2 (show decode cX11_rowsOf 14 = .ok (.getfield 62, 3) by decide +kernel) ?_
    refine lv_iload_n X.1 X.2.1 (show decode cX11_rowsOf 17 = .ok (.iload_n 3, 1) by decide +kernel) rfl (lv_at hl 0 rfl) ?_
    refine bx_iald X hH ⟨⟨by omega, by omega⟩, va_up_self ..⟩ (j := 11 * S + L) rfl (by omega) (by decide) (show decode cX11_rowsOf 18 = .ok (.iaload, 1) by decide +kernel) ?_
    refine lv_if_lt (tgt := 29) X.1 X.2.1 (show decode cX11_rowsOf 19 = .ok (.ifCond .lt 10, 3) by decide +kernel) (by decide) (fun q => ?_) (fun q => ?_)
    rotate_left
    · refine lv_aload_n X.1 X.2.1 (show decode cX11_rowsOf 22 = .ok (.aload_n 0, 1) by decide +kernel) rfl (lv_at hl 1 rfl) ?_
      refine bx_get fl_X11_ok (i := 62) rfl X hH k0 C2 (show decode cX11_rowsOf 23 = .ok (.getfield 62, 3) by decide +kernel) ?_
      refine lv_iload_n X.1 X.2.1 (show decode cX11_rowsOf 26 = .ok (.iload_n 3, 1) by decide +kernel) rfl (lv_at hl 0 rfl) ?_
      refine bx_iald X hH ⟨⟨by omega, by omega⟩, va_up_self ..⟩ (j := 11 * S + L) rfl (by omega) (by decide) (show decode cX11_rowsOf 27 = .ok (.iaload, 1) by decide +kernel) ?_
      exact z_iret X hH ⟨_, _, rfl, rfl⟩ (show decode cX11_rowsOf 28 = .ok (.ireturn, 1) by decide +kernel)
    refine lv_iconst (v := 0) X.1 X.2.1 (show decode cX11_rowsOf 29 = .ok (.iconst 0, 1) by decide +kernel) (by decide) ?_
    refine lv_istore X.1 X.2.1 (show decode cX11_rowsOf 30 = .ok (.istore 4, 2) by decide +kernel) hl (by decide) rfl (fun ls hl => ?_)
    refine lv_iconst (v := 0) X.1 X.2.1 (show decode cX11_rowsOf 32 = .ok (.iconst 0, 1) by decide +kernel) (by decide) ?_
    refine lv_istore X.1 X.2.1 (show decode cX11_rowsOf 33 = .ok (.istore 5, 2) by decide +kernel) hl (by decide) rfl (fun ls hl => ?_)
    have hl : lv_has ls 7 [(5, .int (nI 0)), (4, .int (nI 0)), (3, .int (nI (11 * S + L))), (0, .ref lo), (1, .int (nI S)), (2, .int (nI L))] := hl
    exact rw_loop (k := k) C hn hS hL X (fun b g2 hb hbS => by have hp := Nat.two_pow_pos b; obtain ⟨k2, rfl⟩ : ∃ k2, k = k2 + 1 := ⟨k - 1, by omega⟩; exact ih (S - 2 ^ b) (by omega) b k2 g2 (by omega) (by omega) (by omega)) B 0 (nI 0) g _ _ ls (by omega) (by omega) hH hl
/-- a method that leaves what V tells as it is -/
theorem OOK_eqs {E : XE} {xt : XX} {lo : Nat} {M : XM} {vs : List Value} {G0 : List Int} {f f2 : Nat → va_E} {o : XO} {v : Value} {P : XP} (hE : ENT E xt lo M vs G0 f) (hi : M.2.1.all isI = true) (hl : E.2.2.2.length = M.2.1.length) (h1 : o.1 = (M.1 ++ M.2.1).map bxp) (hsame : ∀ (j a k : Nat), E.2.2.2[j]? = some (a, k) → cellv (f2 (lo + a)) k = cellv (f (lo + a)) k) (hr : rok (xB E lo xt) G0 P v) (h2 : o.2 = (some P, eqs M.1.length M.2.1.length, [])) (hz : True = True) : OOK E xt lo G0 o (some v) f2 := by
  have hE0 := hE
  obtain ⟨vv, a1, a2, a3, -⟩ := hE
  refine ⟨box_of_ent hE0 h1, by rw [h2]; exact hr, vv, fun j a k v hj hv => by rw [hsame j a k hj]; exact a1 j a k v hj hv, ?_, by rw [h2]; intro q hq; cases hq⟩
  obtain ⟨za, zv, e1, e2, e3⟩ := AOK_split a2 a3
  rw [h2, e1, ← (AOK_len e2).1]
  exact rok_eqs _ _ _ _ e3 hi
theorem trm_rows : ∀ j : Fin 33, (Em.2.2.2[(j : Nat)]?.getD (0, 0)).1 ≠ 16 := by decide +kernel
theorem g_rows (l : Launch) (xt : XX) (D : va_G) (t : Nat → ClassId) (lo : Nat) (hw : TWX Em xt lo) : HOLDS l Em xt D t lo Ym22 Mm28 := by
  refine HOLDS.ofZ (fun vs G0 f hE hT hX => ?_)
  have hV := VB_ent hE (by decide +kernel)
  have hE0 := hE
  obtain ⟨za, b1, hcv⟩ := ENT_cvs hE rfl
  have hl1 : vs.length = 3 := (AOK_len b1).2
  have hl2 : za.length = 3 := (AOK_len b1).1
  match vs, hl1, za, hl2, b1 with
  | [v0, v1, v2], _, [z0, z1, z2], _, ⟨⟨⟨r, e0, q0⟩, _⟩, ⟨i1, e1, e1', e1a, e1b⟩, ⟨i2, e2, e2', e2a, e2b⟩, _⟩ =>
    subst e0; subst e1; subst e2
    obtain ⟨i, rfl, q3⟩ := xB_in q0 (rfl : Em.1[0]? = some _)
    cases kdm_eq q3
    obtain ⟨fs, o0, o49, orf⟩ := typ_refs hT
    obtain ⟨g, p16, p16b, -⟩ := (cok_arr (by decide)).mp (typ_at hT (i := 16) (k := 16) rfl (rfl : Em.1[16]? = some _))
    obtain ⟨gi, p14, -, -⟩ := (cok_arr (by decide)).mp (typ_at hT (i := 14) (k := 14) rfl (rfl : Em.1[14]? = some _))
    obtain ⟨ib, y1, y2, y3, y4⟩ := VB_at hV (show Em.2.2.2[5]? = some (0, 24) from rfl) (show Mm28.2.1[5]? = some (pI 0 10) from rfl)
    obtain ⟨B, hB⟩ : ∃ B : Nat, ib.toInt = (B : Int) := ⟨ib.toInt.toNat, by omega⟩
    have eB := toI hB (by omega)
    subst eB
    obtain ⟨S, hS⟩ : ∃ S : Nat, i1.toInt = (S : Int) := ⟨i1.toInt.toNat, by omega⟩
    have eS := toI hS (by omega)
    subst eS
    obtain ⟨L, hL⟩ : ∃ L : Nat, i2.toInt = (L : Int) := ⟨i2.toInt.toNat, by omega⟩
    have eL := toI hL (by omega)
    subst eL
    rw [show lo + 0 = lo from rfl, o0] at y1
    have C : RWC t lo f fs gi B := ⟨o0, orf 48 16 ⟨_, rfl, rfl⟩ (by decide), y1, by omega, orf 32 14 ⟨_, rfl, rfl⟩ (by decide), p14⟩
    have same : rwF t lo f g = f := px_upsame p16
    have M := c_rows l D t lo 17 C (by decide) S L 1099 g (by omega) (by omega) (by omega)
    rw [same] at M
    refine MetZ.mono M (fun ov f2 hz => ?_)
    obtain ⟨r, g2, rfl, rfl⟩ := hz
    have off : ∀ a k : Nat, a ≠ 16 → cellv (rwF t lo f g2 (lo + a)) k = cellv (f (lo + a)) k := fun a k h => by
      unfold rwF
      rw [va_up_ne _ _ (by omega)]
    refine ⟨_, List.mem_cons_self, OOK_eqs (P := pI (-2147483648) 2147483647) hE0 (by decide +kernel) rfl rfl (fun j a k hj => off a k ?_) ⟨r, rfl, Int32.le_toInt r, Int32.toInt_le r⟩ rfl rfl, TYP_up (i := 16) hT rfl (rfl : Em.1[16]? = some _) ((cok_arr (by decide)).mpr ⟨g2, rfl, fun i _ => ⟨Int32.le_toInt _, Int32.toInt_le _⟩, fun i b hb => by cases hb⟩), FZ_up (i := 16) (κ := 16) hw ⟨fun _ _ _ _ => rfl, hX⟩ rfl (rfl : xwr Em 16 = some _) (fun k hk => by obtain ⟨q, hq, _⟩ := hk; cases hq)⟩
    have hlt : j < 33 := by rw [← trm_len]; exact (List.getElem?_eq_some_iff.mp hj).1
    have := trm_rows ⟨j, hlt⟩
    simp only [hj, Option.getD_some] at this
    exact this
/-- all that was owed by hand -/
theorem givm (X : XK3) (l : Launch) (D : va_G) (t : Nat → ClassId) (lo : Nat) : GIVm l (xtm X t) D t lo := ⟨g_lays X l D t lo, g_rows l (xtm X t) D t lo (twxm X t lo).1, g_common l (xtm X t) D t lo, g_acts3 X l D t lo, g_acts2 X l D t lo, g_acts0 X l D t lo, g_next l (xtm X t) D t lo (twxm X t lo).1⟩
