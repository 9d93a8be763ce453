/-! isByte of the reference -/
def byF (gt : Nat → Int32) (T K : Nat) (a b : Int32) : Int32 := if K < T ∧ a ≤ gt K ∧ gt K ≤ b then 1 else 0
theorem c_isByte (l : Launch) (D : va_G) (t : Nat → ClassId) (lo n : Nat) (f : Nat → va_E) {fs : List Value} {gt : Nat → Int32} {T K : Nat} (h0 : f lo = .inr (11, fs)) (h5 : fs[5]? = some (.ref (lo + 5))) (h6 : fs[6]? = some (.int (nI T))) (hT : f (lo + 5) = .inl (t 2, 1400, .inl gt)) (hT4 : T ≤ 1400) (hK : K ≤ 1400) (hn : 17 ≤ n) (a b : Int32) :
    MetM l yX11_isByte cX11_isByte 4 (some .boolean) 0 D t lo n f [.ref lo, .int (nI K), .int a, .int b] f (some (.int (byF gt T K a b))) := by
  refine MetM.start (by decide +kernel) (Nat.le_of_ble_eq_true rfl) ?_
  intro p e s m below meth cd X hH ls hl
  have hl : lv_has ls 4 [(0, .ref lo), (1, .int (nI K)), (2, .int a), (3, .int b)] := hl
  have k0 : px_at lo n f lo (.inr (11, fs)) := ⟨⟨by omega, by omega⟩, h0⟩
  have k5 : px_at lo n f (lo + 5) (.inl (t 2, 1400, .inl gt)) := ⟨⟨by omega, by omega⟩, hT⟩
  have no : byF gt T K a b = 0 → W p l e (px_rm 0) s m [Value.ref lo, .int (nI K), .int a, .int b].toArray below meth cd s.heap [] 0 0 (MQ below (QcM D lo n f (some (.int (byF gt T K a b)))) [Value.ref lo, .int (nI K), .int a, .int b].toArray s 0 0 (px_A lo n)) (F0 m 32 ls []) := by
    intro q
    refine lv_iconst (v := 0) X.1 X.2.1 (show decode cX11_isByte 32 = .ok (.iconst 0, 1) by decide +kernel) (by decide) ?_
    exact px_zret X hH q.symm rfl (show decode cX11_isByte 33 = .ok (.ireturn, 1) by decide +kernel)
  refine lv_iload_n X.1 X.2.1 (show decode cX11_isByte 0 = .ok (.iload_n 1, 1) by decide +kernel) rfl (lv_at hl 1 rfl) ?_
  refine lv_aload_n X.1 X.2.1 (show decode cX11_isByte 1 = .ok (.aload_n 0, 1) by decide +kernel) rfl (lv_at hl 0 rfl) ?_
  refine bx_get fl_X11_ok (i := 82) rfl X hH k0 h6 (show decode cX11_isByte 2 = .ok (.getfield 82, 3) by decide +kernel) ?_
  refine lv_icmp_ge (tgt := 32) X.1 X.2.1 (show decode cX11_isByte 5 = .ok (.if_icmp .ge 27, 3) by decide +kernel) (by decide) (fun q => no ?_) (fun q => ?_)
  · rw [nI_leI (by omega) (by omega)] at q
    unfold byF
    rw [if_neg (by omega)]
  rw [nI_leI (by omega) (by omega)] at q
  refine lv_aload_n X.1 X.2.1 (show decode cX11_isByte 8 = .ok (.aload_n 0, 1) by decide +kernel) rfl (lv_at hl 0 rfl) ?_
  refine bx_get fl_X11_ok (i := 23) rfl X hH k0 h5 (show decode cX11_isByte 9 = .ok (.getfield 23, 3) by decide +kernel) ?_
  refine lv_iload_n X.1 X.2.1 (show decode cX11_isByte 12 = .ok (.iload_n 1, 1) by decide +kernel) rfl (lv_at hl 1 rfl) ?_
  refine px_bald X hH k5 (nI_in (show K < 1400 by omega) (by decide)) (show decode cX11_isByte 13 = .ok (.baload, 1) by decide +kernel) ?_
  rw [nI_clamp (by omega)]
  refine lv_iload_n X.1 X.2.1 (show decode cX11_isByte 14 = .ok (.iload_n 2, 1) by decide +kernel) rfl (lv_at hl 2 rfl) ?_
  refine lv_icmp_lt (tgt := 32) X.1 X.2.1 (show decode cX11_isByte 15 = .ok (.if_icmp .lt 17, 3) by decide +kernel) (by decide) (fun q1 => no ?_) (fun q1 => ?_)
  · unfold byF
    rw [if_neg (fun z => Int32.not_le.mpr q1 z.2.1)]
  refine lv_aload_n X.1 X.2.1 (show decode cX11_isByte 18 = .ok (.aload_n 0, 1) by decide +kernel) rfl (lv_at hl 0 rfl) ?_
  refine bx_get fl_X11_ok (i := 23) rfl X hH k0 h5 (show decode cX11_isByte 19 = .ok (.getfield 23, 3) by decide +kernel) ?_
  refine lv_iload_n X.1 X.2.1 (show decode cX11_isByte 22 = .ok (.iload_n 1, 1) by decide +kernel) rfl (lv_at hl 1 rfl) ?_
  refine px_bald X hH k5 (nI_in (show K < 1400 by omega) (by decide)) (show decode cX11_isByte 23 = .ok (.baload, 1) by decide +kernel) ?_
  rw [nI_clamp (by omega)]
  refine lv_iload_n X.1 X.2.1 (show decode cX11_isByte 24 = .ok (.iload_n 3, 1) by decide +kernel) rfl (lv_at hl 3 rfl) ?_
  refine lv_icmp_gt (tgt := 32) X.1 X.2.1 (show decode cX11_isByte 25 = .ok (.if_icmp .gt 7, 3) by decide +kernel) (by decide) (fun q2 => no ?_) (fun q2 => ?_)
  · unfold byF
    rw [if_neg (fun z => Int32.not_le.mpr q2 z.2.2)]
  refine lv_iconst (v := 1) X.1 X.2.1 (show decode cX11_isByte 28 = .ok (.iconst 1, 1) by decide +kernel) (by decide) ?_
  refine lv_goto (tgt := 33) X.1 X.2.1 (show decode cX11_isByte 29 = .ok (.goto 4, 3) by decide +kernel) (by decide) ?_
  refine px_zret X hH ?_ rfl (show decode cX11_isByte 33 = .ok (.ireturn, 1) by decide +kernel)
  unfold byF
  rw [if_pos ⟨by omega, Int32.not_lt.mp q1, Int32.not_lt.mp q2⟩]
/-- the fields that next writes: at, token, start, value, word -/
def nxt (fs : List Value) (at_ tok st val : Int32) (wd : Int64) : List Value := ((((fs.set 7 (.int at_)).set 8 (.int tok)).set 9 (.int st)).set 10 (.int val)).set 11 (.long wd)
theorem set_c (l : List Value) {n m : Nat} (a b : Value) (h : n ≠ m) : (l.set n a).set m b = (l.set m b).set n a := List.set_comm a b h
section
variable {fs : List Value} {a k s v a' : Int32} {w w' : Int64}
theorem nxt7 : (nxt fs a k s v w).set 7 (.int a') = nxt fs a' k s v w := by
  unfold nxt
  rw [set_c _ (.long w) (.int a') (show 11 ≠ 7 by decide), set_c _ (.int v) (.int a') (show 10 ≠ 7 by decide), set_c _ (.int s) (.int a') (show 9 ≠ 7 by decide), set_c _ (.int k) (.int a') (show 8 ≠ 7 by decide), List.set_set]
theorem nxt8 : (nxt fs a k s v w).set 8 (.int a') = nxt fs a a' s v w := by
  unfold nxt
  rw [set_c _ (.long w) (.int a') (show 11 ≠ 8 by decide), set_c _ (.int v) (.int a') (show 10 ≠ 8 by decide), set_c _ (.int s) (.int a') (show 9 ≠ 8 by decide), List.set_set]
theorem nxt9 : (nxt fs a k s v w).set 9 (.int a') = nxt fs a k a' v w := by
  unfold nxt
  rw [set_c _ (.long w) (.int a') (show 11 ≠ 9 by decide), set_c _ (.int v) (.int a') (show 10 ≠ 9 by decide), List.set_set]
theorem nxt10 : (nxt fs a k s v w).set 10 (.int a') = nxt fs a k s a' w := by
  unfold nxt
  rw [set_c _ (.long w) (.int a') (show 11 ≠ 10 by decide), List.set_set]
theorem nxt11 : (nxt fs a k s v w).set 11 (.long w') = nxt fs a k s v w' := by
  unfold nxt
  rw [List.set_set]
theorem nxt_len : (nxt fs a k s v w).length = fs.length := by simp [nxt]
theorem nxt_off {j : Nat} (h : j < 7 ∨ 12 ≤ j) : (nxt fs a k s v w)[j]? = fs[j]? := by
  unfold nxt
  rw [List.getElem?_set_ne (by omega), List.getElem?_set_ne (by omega), List.getElem?_set_ne (by omega), List.getElem?_set_ne (by omega), List.getElem?_set_ne (by omega)]
theorem nxt_at (h : fs.length = 49) : (nxt fs a k s v w)[7]? = some (.int a) ∧ (nxt fs a k s v w)[8]? = some (.int k) ∧ (nxt fs a k s v w)[9]? = some (.int s) ∧ (nxt fs a k s v w)[10]? = some (.int v) ∧ (nxt fs a k s v w)[11]? = some (.long w) := by
  unfold nxt
  refine ⟨?_, ?_, ?_, ?_, ?_⟩ <;> simp [List.getElem?_set, h]
end
