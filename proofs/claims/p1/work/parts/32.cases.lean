theorem lm1_0 : ML1 RL Y1 13 0 5 10 := ML1.v (Y := Y1) mw_456 mw_459 mw_1 (by decide +kernel) (by decide) mw_457 mw_458 rfl
theorem lm2_0 : ML1 RL Y3 17 0 5 11 := ML1.v (Y := Y3) mw_1430 mw_1433 mw_12 (by decide +kernel) (by decide) mw_1431 mw_1432 rfl
theorem case_0 {p : Program} {l : Launch} {e : Env} {s : State} {m : MethodId} {below : List Frame} {meth : Method} {c : Code} {b : Nat} {xs : Nat → Int32} {D : va_G} {t : Nat → ClassId} {H : Heap} {locs : List Loc} {ls : Array Slot} {cells slots : Nat} (hC : LCTX p l e s m below meth c b xs D t H locs ls cells slots) : W p l e room_1 s m #[.ref b] below meth c H locs cells slots (lw_Z below #[.ref b] s) (F0 m 300 ls []) := by
  obtain ⟨X, hX, hbl, hl, hRc, tail, f, hH, hT1, hT2, hT3, hV⟩ := hC
  have hbA : ¬ (fun q : Nat => s.heap.size ≤ q) b := Nat.not_le.mpr hbl
  refine law_two (E := E1) (Y1 := Y1) (Y2 := Y3) (M1 := M5) (M2 := M11) (i1 := 13) (i2 := 17) (n := 5) (pc1 := 326) (pc2 := 355) (kx := 0) (km := 33) (As := [.int (xs 1), .int (xs 2), .int (xs 3), .int (xs 4), .int (xs 5)]) (ps := [pI (-2147483648) 2147483647, pI (-2147483648) 2147483647, pI (-2147483648) 2147483647, pI (-2147483648) 2147483647, pI (-2147483648) 2147483647]) X hl hH hT1 hV ⟨⟨xs 1, rfl, rfl, (i32_b _).1, (i32_b _).2⟩, ⟨⟨xs 2, rfl, rfl, (i32_b _).1, (i32_b _).2⟩, ⟨⟨xs 3, rfl, rfl, (i32_b _).1, (i32_b _).2⟩, ⟨⟨xs 4, rfl, rfl, (i32_b _).1, (i32_b _).2⟩, ⟨⟨xs 5, rfl, rfl, (i32_b _).1, (i32_b _).2⟩, trivial⟩⟩⟩⟩⟩ ⟨rfl, rfl⟩ ⟨rfl, rfl⟩ (by decide +kernel) ⟨_, _, rfl⟩ (H5 l D t _) (H11 l D t _) lm1_0 lm2_0 (by decide +kernel) rfl (by decide +kernel) rfl (by decide) (by decide) hRc rfl (by decide +kernel) (by decide +kernel) (by decide +kernel) (by decide +kernel) (fun H locs st hS k => larg_ok X hX hbl hbA hS hl [1, 2, 3, 4, 5] 301 st (by decide +kernel) k) (fun H locs st hS k => larg_ok X hX hbl hbA hS hl [1, 2, 3, 4, 5] 330 st (by decide +kernel) k) ?_
  intro ov1 ov2 o1 o2 f1 f2 r2 m1 m2 q1 q2 H1 locs1 hH1
  have rc := agr_ok (rc := rceqI) (n := 5) (M1 := M5) (M2 := M11) (by decide +kernel) m1 m2 q1 q2 rfl
  obtain ⟨i, rfl, rfl⟩ := rceqI_ok q1.2.1 q2.2.1 rc
  exact law_caseI (off := 1535) X (by decide +kernel) (by decide) (tail H1 locs1 f2 hH1)
theorem lm1_1 : ML1 RL Y4 18 0 1 10 := ML1.v (Y := Y4) mw_464 mw_467 mw_1 (by decide +kernel) (by decide) mw_465 mw_466 rfl
theorem lm2_1 : ML1 RL Y6 22 0 1 11 := ML1.v (Y := Y6) mw_1438 mw_1441 mw_12 (by decide +kernel) (by decide) mw_1439 mw_1440 rfl
theorem case_1 {p : Program} {l : Launch} {e : Env} {s : State} {m : MethodId} {below : List Frame} {meth : Method} {c : Code} {b : Nat} {xs : Nat → Int32} {D : va_G} {t : Nat → ClassId} {H : Heap} {locs : List Loc} {ls : Array Slot} {cells slots : Nat} (hC : LCTX p l e s m below meth c b xs D t H locs ls cells slots) : W p l e room_1 s m #[.ref b] below meth c H locs cells slots (lw_Z below #[.ref b] s) (F0 m 363 ls []) := by
  obtain ⟨X, hX, hbl, hl, hRc, tail, f, hH, hT1, hT2, hT3, hV⟩ := hC
  have hbA : ¬ (fun q : Nat => s.heap.size ≤ q) b := Nat.not_le.mpr hbl
  refine law_two (E := E1) (Y1 := Y4) (Y2 := Y6) (M1 := M12) (M2 := M14) (i1 := 18) (i2 := 22) (n := 1) (pc1 := 369) (pc2 := 378) (kx := 0) (km := 33) (As := [.int (xs 1)]) (ps := [pI (-2147483648) 2147483647]) X hl hH hT1 hV ⟨⟨xs 1, rfl, rfl, (i32_b _).1, (i32_b _).2⟩, trivial⟩ ⟨rfl, rfl⟩ ⟨rfl, rfl⟩ (by decide +kernel) ⟨_, _, rfl⟩ (H12 l D t _) (H14 l D t _) lm1_1 lm2_1 (by decide +kernel) rfl (by decide +kernel) rfl (by decide) (by decide) hRc rfl (by decide +kernel) (by decide +kernel) (by decide +kernel) (by decide +kernel) (fun H locs st hS k => larg_ok X hX hbl hbA hS hl [1] 364 st (by decide +kernel) k) (fun H locs st hS k => larg_ok X hX hbl hbA hS hl [1] 373 st (by decide +kernel) k) ?_
  intro ov1 ov2 o1 o2 f1 f2 r2 m1 m2 q1 q2 H1 locs1 hH1
  have rc := agr_ok (rc := rceqI) (n := 1) (M1 := M12) (M2 := M14) (by decide +kernel) m1 m2 q1 q2 rfl
  obtain ⟨i, rfl, rfl⟩ := rceqI_ok q1.2.1 q2.2.1 rc
  exact law_caseI (off := 1512) X (by decide +kernel) (by decide) (tail H1 locs1 f2 hH1)
theorem lm1_2 : ML1 RL Y16 23 0 0 10 := ML1.v (Y := Y16) mw_468 mw_471 mw_1 (by decide +kernel) (by decide) mw_469 mw_470 rfl
theorem lm2_2 : ML1 RL Y26 27 0 0 11 := ML1.v (Y := Y26) mw_1446 mw_1449 mw_12 (by decide +kernel) (by decide) mw_1447 mw_1448 rfl
theorem case_2 {p : Program} {l : Launch} {e : Env} {s : State} {m : MethodId} {below : List Frame} {meth : Method} {c : Code} {b : Nat} {xs : Nat → Int32} {D : va_G} {t : Nat → ClassId} {H : Heap} {locs : List Loc} {ls : Array Slot} {cells slots : Nat} (hC : LCTX p l e s m below meth c b xs D t H locs ls cells slots) : W p l e room_1 s m #[.ref b] below meth c H locs cells slots (lw_Z below #[.ref b] s) (F0 m 386 ls []) := by
  obtain ⟨X, hX, hbl, hl, hRc, tail, f, hH, hT1, hT2, hT3, hV⟩ := hC
  have hbA : ¬ (fun q : Nat => s.heap.size ≤ q) b := Nat.not_le.mpr hbl
  refine law_two (E := E1) (Y1 := Y16) (Y2 := Y26) (M1 := M25) (M2 := M54) (i1 := 23) (i2 := 27) (n := 0) (pc1 := 387) (pc2 := 391) (kx := 0) (km := 33) (As := []) (ps := []) X hl hH hT1 hV trivial ⟨rfl, rfl⟩ ⟨rfl, rfl⟩ (by decide +kernel) ⟨_, _, rfl⟩ (H25 l D t _) (H54 l D t _) lm1_2 lm2_2 (by decide +kernel) rfl (by decide +kernel) rfl (by decide) (by decide) hRc rfl (by decide +kernel) (by decide +kernel) (by decide +kernel) (by decide +kernel) (fun H locs st hS k => larg_ok X hX hbl hbA hS hl [] 387 st (by decide +kernel) k) (fun H locs st hS k => larg_ok X hX hbl hbA hS hl [] 391 st (by decide +kernel) k) ?_
  intro ov1 ov2 o1 o2 f1 f2 r2 m1 m2 q1 q2 H1 locs1 hH1
  have rc := agr_ok (rc := rceqI) (n := 0) (M1 := M25) (M2 := M54) (by decide +kernel) m1 m2 q1 q2 rfl
  obtain ⟨i, rfl, rfl⟩ := rceqI_ok q1.2.1 q2.2.1 rc
  exact law_caseI (off := 1499) X (by decide +kernel) (by decide) (tail H1 locs1 f2 hH1)
