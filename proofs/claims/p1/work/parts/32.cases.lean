theorem lm1_0 : ML1 RL Y1 13 0 5 10 := ML1.v (Y := Y1) mw_456 mw_459 mw_1 (by decide +kernel) (by decide) mw_457 mw_458 rfl
theorem lm2_0 : ML1 RL Y3 17 0 5 11 := ML1.v (Y := Y3) mw_1430 mw_1433 mw_12 (by decide +kernel) (by decide) mw_1431 mw_1432 rfl
theorem case_0 {p : Program} {l : Launch} {e : Env} {s : State} {m : MethodId} {below : List Frame} {meth : Method} {c : Code} {b : Nat} {xs : Nat → Int32} {D : va_G} {t : Nat → ClassId} {H : Heap} {locs : List Loc} {ls : Array Slot} {cells slots : Nat} (hC : LCTX p l e s m below meth c b xs D t H locs ls cells slots) : W p l e room_1 s m #[.ref b] below meth c H locs cells slots (lw_Z below #[.ref b] s) (F0 m 300 ls []) := by
  obtain ⟨X, hX, hbl, hl, hRc, tail, f, hH, hT1, hT2, hT3, hV⟩ := hC
  have hbA : ¬ (fun q : Nat => s.heap.size ≤ q) b := Nat.not_le.mpr hbl
  refine law_two (E := E1) (Y1 := Y1) (Y2 := Y3) (M1 := M5) (M2 := M11) (i1 := 13) (i2 := 17) (n := 5) (pc1 := 326) (pc2 := 355) (kx := 0) (km := 33) (As := [.int (xs 1), .int (xs 2), .int (xs 3), .int (xs 4), .int (xs 5)]) (ps := [pI (-2147483648) 2147483647, pI (-2147483648) 2147483647, pI (-2147483648) 2147483647, pI (-2147483648) 2147483647, pI (-2147483648) 2147483647]) X hl hH hT1 hV ⟨⟨xs 1, rfl, rfl, (i32_b _).1, (i32_b _).2⟩, ⟨⟨xs 2, rfl, rfl, (i32_b _).1, (i32_b _).2⟩, ⟨⟨xs 3, rfl, rfl, (i32_b _).1, (i32_b _).2⟩, ⟨⟨xs 4, rfl, rfl, (i32_b _).1, (i32_b _).2⟩, ⟨⟨xs 5, rfl, rfl, (i32_b _).1, (i32_b _).2⟩, trivial⟩⟩⟩⟩⟩ ⟨rfl, rfl⟩ ⟨rfl, rfl⟩ (by decide +kernel) ⟨_, _, rfl⟩ (H5 l D t _) (H11 l D t _) lm1_0 lm2_0 (by decide +kernel) rfl (by decide +kernel) rfl (by decide) (by decide) hRc rfl (by decide +kernel) (by decide +kernel) (by decide +kernel) (by decide +kernel) (fun H locs st hS k => larg_ok X hX hbl hbA hS hl [1, 2, 3, 4, 5] 301 st (by decide +kernel) k) (fun H locs st hS k => larg_ok X hX hbl hbA hS hl [1, 2, 3, 4, 5] 330 st (by decide +kernel) k) ?_
  intro ov1 ov2 o1 o2 f1 f2 r2 m1 m2 q1 q2 H1 locs1 hH1
  have rc := agr_ok (rc := rceqI) (n := 5) (M1 := M5) (M2 := M11) (by decide +kernel) m1 m2 q1 q2 rfl
  obtain ⟨i, rfl, rfl⟩ := rceqI_ok q1.2.1 q2.2.1 rc
  exact law_caseI (off := 1535) X (by decide +kernel) (by decide) (tail H1 locs1 f2 hH1)
theorem lm1_1 : ML1 RL Y4 18 0 1 10 := ML1.v (Y := Y4) mw_464 mw_467 mw_1 (by decide +kernel) (by decide) mw_465 mw_466 rfl
theorem lm2_1 : ML1 RL Y6 22 0 1 11 := ML1.v (Y := Y6) mw_1438 mw_1441 mw_12 (by decide +kernel) (by decide) mw_1439 mw_1440 rfl
theorem case_1 {p : Program} {l : Launch} {e : Env} {s : State} {m : MethodId} {below : List Frame} {meth : Method} {c : Code} {b : Nat} {xs : Nat → Int32} {D : va_G} {t : Nat → ClassId} {H : Heap} {locs : List Loc} {ls : Array Slot} {cells slots : Nat} (hC : LCTX p l e s m below meth c b xs D t H locs ls cells slots) : W p l e room_1 s m #[.ref b] below meth c H locs cells slots (lw_Z below #[.ref b] s) (F0 m 363 ls []) := by
  obtain ⟨X, hX, hbl, hl, hRc, tail, f, hH, hT1, hT2, hT3, hV⟩ := hC
  have hbA : ¬ (fun q : Nat => s.heap.size ≤ q) b := Nat.not_le.mpr hbl
  refine law_two (E := E1) (Y1 := Y4) (Y2 := Y6) (M1 := M12) (M2 := M14) (i1 := 18) (i2 := 22) (n := 1) (pc1 := 369) (pc2 := 378) (kx := 0) (km := 33) (As := [.int (xs 1)]) (ps := [pI (-2147483648) 2147483647]) X hl hH hT1 hV ⟨⟨xs 1, rfl, rfl, (i32_b _).1, (i32_b _).2⟩, trivial⟩ ⟨rfl, rfl⟩ ⟨rfl, rfl⟩ (by decide +kernel) ⟨_, _, rfl⟩ (H12 l D t _) (H14 l D t _) lm1_1 lm2_1 (by decide +kernel) rfl (by decide +kernel) rfl (by decide) (by decide) hRc rfl (by decide +kernel) (by decide +kernel) (by decide +kernel) (by decide +kernel) (fun H locs st hS k => larg_ok X hX hbl hbA hS hl [1] 364 st (by decide +kernel) k) (fun H locs st hS k => larg_ok X hX hbl hbA hS hl [1] 373 st (by decide +kernel) k) ?_
  intro ov1 ov2 o1 o2 f1 f2 r2 m1 m2 q1 q2 H1 locs1 hH1
  have rc := agr_ok (rc := rceqI) (n := 1) (M1 := M12) (M2 := M14) (by decide +kernel) m1 m2 q1 q2 rfl
  obtain ⟨i, rfl, rfl⟩ := rceqI_ok q1.2.1 q2.2.1 rc
  exact law_caseI (off := 1512) X (by decide +kernel) (by decide) (tail H1 locs1 f2 hH1)
theorem lm1_2 : ML1 RL Y16 23 0 0 10 := ML1.v (Y := Y16) mw_468 mw_471 mw_1 (by decide +kernel) (by decide) mw_469 mw_470 rfl
theorem lm2_2 : ML1 RL Y26 27 0 0 11 := ML1.v (Y := Y26) mw_1446 mw_1449 mw_12 (by decide +kernel) (by decide) mw_1447 mw_1448 rfl
theorem case_2 {p : Program} {l : Launch} {e : Env} {s : State} {m : MethodId} {below : List Frame} {meth : Method} {c : Code} {b : Nat} {xs : Nat → Int32} {D : va_G} {t : Nat → ClassId} {H : Heap} {locs : List Loc} {ls : Array Slot} {cells slots : Nat} (hC : LCTX p l e s m below meth c b xs D t H locs ls cells slots) : W p l e room_1 s m #[.ref b] below meth c H locs cells slots (lw_Z below #[.ref b] s) (F0 m 386 ls []) := by
  obtain ⟨X, hX, hbl, hl, hRc, tail, f, hH, hT1, hT2, hT3, hV⟩ := hC
  have hbA : ¬ (fun q : Nat => s.heap.size ≤ q) b := Nat.not_le.mpr hbl
  refine law_two (E := E1) (Y1 := Y16) (Y2 := Y26) (M1 := M25) (M2 := M54) (i1 := 23) (i2 := 27) (n := 0) (pc1 := 387) (pc2 := 391) (kx := 0) (km := 33) (As := []) (ps := []) X hl hH hT1 hV trivial ⟨rfl, rfl⟩ ⟨rfl, rfl⟩ (by decide +kernel) ⟨_, _, rfl⟩ (H25 l D t _) (H54 l D t _) lm1_2 lm2_2 (by decide +kernel) rfl (by decide +kernel) rfl (by decide) (by decide) hRc rfl (by decide +kernel) (by decide +kernel) (by decide +kernel) (by decide +kernel) (fun H locs st hS k => larg_ok X hX hbl hbA hS hl [] 387 st (by decide +kernel) k) (fun H locs st hS k => larg_ok X hX hbl hbA hS hl [] 391 st (by decide +kernel) k) ?_
  intro ov1 ov2 o1 o2 f1 f2 r2 m1 m2 q1 q2 H1 locs1 hH1
  have rc := agr_ok (rc := rceqI) (n := 0) (M1 := M25) (M2 := M54) (by decide +kernel) m1 m2 q1 q2 rfl
  obtain ⟨i, rfl, rfl⟩ := rceqI_ok q1.2.1 q2.2.1 rc
  exact law_caseI (off := 1499) X (by decide +kernel) (by decide) (tail H1 locs1 f2 hH1)
theorem lm1_3 : ML1 RL Y27 28 0 1 10 := ML1.v (Y := Y27) mw_642 mw_645 mw_1 (by decide +kernel) (by decide) mw_643 mw_644 rfl
theorem lm2_3 : ML1 RL Y28 31 0 1 11 := ML1.v (Y := Y28) mw_1442 mw_1445 mw_12 (by decide +kernel) (by decide) mw_1443 mw_1444 rfl
theorem case_3 {p : Program} {l : Launch} {e : Env} {s : State} {m : MethodId} {below : List Frame} {meth : Method} {c : Code} {b : Nat} {xs : Nat → Int32} {D : va_G} {t : Nat → ClassId} {H : Heap} {locs : List Loc} {ls : Array Slot} {cells slots : Nat} (hC : LCTX p l e s m below meth c b xs D t H locs ls cells slots) : W p l e room_1 s m #[.ref b] below meth c H locs cells slots (lw_Z below #[.ref b] s) (F0 m 399 ls []) := by
  obtain ⟨X, hX, hbl, hl, hRc, tail, f, hH, hT1, hT2, hT3, hV⟩ := hC
  have hbA : ¬ (fun q : Nat => s.heap.size ≤ q) b := Nat.not_le.mpr hbl
  refine law_two (E := E1) (Y1 := Y27) (Y2 := Y28) (M1 := M55) (M2 := M56) (i1 := 28) (i2 := 31) (n := 1) (pc1 := 405) (pc2 := 414) (kx := 0) (km := 33) (As := [.int (xs 1)]) (ps := [pI (-2147483648) 2147483647]) X hl hH hT1 hV ⟨⟨xs 1, rfl, rfl, (i32_b _).1, (i32_b _).2⟩, trivial⟩ ⟨rfl, rfl⟩ ⟨rfl, rfl⟩ (by decide +kernel) ⟨_, _, rfl⟩ (H55 l D t _) (H56 l D t _) lm1_3 lm2_3 (by decide +kernel) rfl (by decide +kernel) rfl (by decide) (by decide) hRc rfl (by decide +kernel) (by decide +kernel) (by decide +kernel) (by decide +kernel) (fun H locs st hS k => larg_ok X hX hbl hbA hS hl [1] 400 st (by decide +kernel) k) (fun H locs st hS k => larg_ok X hX hbl hbA hS hl [1] 409 st (by decide +kernel) k) ?_
  intro ov1 ov2 o1 o2 f1 f2 r2 m1 m2 q1 q2 H1 locs1 hH1
  have rc := agr_ok (rc := rceqI) (n := 1) (M1 := M55) (M2 := M56) (by decide +kernel) m1 m2 q1 q2 rfl
  obtain ⟨i, rfl, rfl⟩ := rceqI_ok q1.2.1 q2.2.1 rc
  exact law_caseI (off := 1476) X (by decide +kernel) (by decide) (tail H1 locs1 f2 hH1)
theorem lm1_4 : ML1 RL Y30 32 0 2 10 := ML1.v (Y := Y30) mw_646 mw_649 mw_1 (by decide +kernel) (by decide) mw_647 mw_648 rfl
theorem lm2_4 : ML1 RL Y33 36 0 2 11 := ML1.v (Y := Y33) mw_1574 mw_1577 mw_12 (by decide +kernel) (by decide) mw_1575 mw_1576 rfl
theorem case_4 {p : Program} {l : Launch} {e : Env} {s : State} {m : MethodId} {below : List Frame} {meth : Method} {c : Code} {b : Nat} {xs : Nat → Int32} {D : va_G} {t : Nat → ClassId} {H : Heap} {locs : List Loc} {ls : Array Slot} {cells slots : Nat} (hC : LCTX p l e s m below meth c b xs D t H locs ls cells slots) : W p l e room_1 s m #[.ref b] below meth c H locs cells slots (lw_Z below #[.ref b] s) (F0 m 422 ls []) := by
  obtain ⟨X, hX, hbl, hl, hRc, tail, f, hH, hT1, hT2, hT3, hV⟩ := hC
  have hbA : ¬ (fun q : Nat => s.heap.size ≤ q) b := Nat.not_le.mpr hbl
  refine law_two (E := E1) (Y1 := Y30) (Y2 := Y33) (M1 := M58) (M2 := M61) (i1 := 32) (i2 := 36) (n := 2) (pc1 := 433) (pc2 := 447) (kx := 0) (km := 33) (As := [.int (xs 1), .int (xs 2)]) (ps := [pI (-2147483648) 2147483647, pI (-2147483648) 2147483647]) X hl hH hT1 hV ⟨⟨xs 1, rfl, rfl, (i32_b _).1, (i32_b _).2⟩, ⟨⟨xs 2, rfl, rfl, (i32_b _).1, (i32_b _).2⟩, trivial⟩⟩ ⟨rfl, rfl⟩ ⟨rfl, rfl⟩ (by decide +kernel) ⟨_, _, rfl⟩ (H58 l D t _) (H61 l D t _) lm1_4 lm2_4 (by decide +kernel) rfl (by decide +kernel) rfl (by decide) (by decide) hRc rfl (by decide +kernel) (by decide +kernel) (by decide +kernel) (by decide +kernel) (fun H locs st hS k => larg_ok X hX hbl hbA hS hl [1, 2] 423 st (by decide +kernel) k) (fun H locs st hS k => larg_ok X hX hbl hbA hS hl [1, 2] 437 st (by decide +kernel) k) ?_
  intro ov1 ov2 o1 o2 f1 f2 r2 m1 m2 q1 q2 H1 locs1 hH1
  have rc := agr_ok (rc := rceqI) (n := 2) (M1 := M58) (M2 := M61) (by decide +kernel) m1 m2 q1 q2 rfl
  obtain ⟨i, rfl, rfl⟩ := rceqI_ok q1.2.1 q2.2.1 rc
  exact law_caseI (off := 1443) X (by decide +kernel) (by decide) (tail H1 locs1 f2 hH1)
theorem lm1_5 : ML1 RL Y35 37 0 2 10 := ML1.v (Y := Y35) mw_654 mw_657 mw_1 (by decide +kernel) (by decide) mw_655 mw_656 rfl
theorem lm2_5 : ML1 RL Y37 40 0 2 11 := ML1.v (Y := Y37) mw_1657 mw_1660 mw_12 (by decide +kernel) (by decide) mw_1658 mw_1659 rfl
theorem case_5 {p : Program} {l : Launch} {e : Env} {s : State} {m : MethodId} {below : List Frame} {meth : Method} {c : Code} {b : Nat} {xs : Nat → Int32} {D : va_G} {t : Nat → ClassId} {H : Heap} {locs : List Loc} {ls : Array Slot} {cells slots : Nat} (hC : LCTX p l e s m below meth c b xs D t H locs ls cells slots) : W p l e room_1 s m #[.ref b] below meth c H locs cells slots (lw_Z below #[.ref b] s) (F0 m 455 ls []) := by
  obtain ⟨X, hX, hbl, hl, hRc, tail, f, hH, hT1, hT2, hT3, hV⟩ := hC
  have hbA : ¬ (fun q : Nat => s.heap.size ≤ q) b := Nat.not_le.mpr hbl
  refine law_two (E := E1) (Y1 := Y35) (Y2 := Y37) (M1 := M63) (M2 := M66) (i1 := 37) (i2 := 40) (n := 2) (pc1 := 466) (pc2 := 480) (kx := 0) (km := 33) (As := [.int (xs 1), .int (xs 2)]) (ps := [pI (-2147483648) 2147483647, pI (-2147483648) 2147483647]) X hl hH hT1 hV ⟨⟨xs 1, rfl, rfl, (i32_b _).1, (i32_b _).2⟩, ⟨⟨xs 2, rfl, rfl, (i32_b _).1, (i32_b _).2⟩, trivial⟩⟩ ⟨rfl, rfl⟩ ⟨rfl, rfl⟩ (by decide +kernel) ⟨_, _, rfl⟩ (H63 l D t _) (H66 l D t _) lm1_5 lm2_5 (by decide +kernel) rfl (by decide +kernel) rfl (by decide) (by decide) hRc rfl (by decide +kernel) (by decide +kernel) (by decide +kernel) (by decide +kernel) (fun H locs st hS k => larg_ok X hX hbl hbA hS hl [1, 2] 456 st (by decide +kernel) k) (fun H locs st hS k => larg_ok X hX hbl hbA hS hl [1, 2] 470 st (by decide +kernel) k) ?_
  intro ov1 ov2 o1 o2 f1 f2 r2 m1 m2 q1 q2 H1 locs1 hH1
  have rc := agr_ok (rc := rceqI) (n := 2) (M1 := M63) (M2 := M66) (by decide +kernel) m1 m2 q1 q2 rfl
  obtain ⟨i, rfl, rfl⟩ := rceqI_ok q1.2.1 q2.2.1 rc
  exact law_caseI (off := 1410) X (by decide +kernel) (by decide) (tail H1 locs1 f2 hH1)
theorem lm1_6 : ML1 RL Y38 41 0 2 10 := ML1.v (Y := Y38) mw_664 mw_667 mw_1 (by decide +kernel) (by decide) mw_665 mw_666 rfl
theorem lm2_6 : ML1 RL Y39 44 0 2 11 := ML1.v (Y := Y39) mw_1669 mw_1672 mw_12 (by decide +kernel) (by decide) mw_1670 mw_1671 rfl
theorem case_6 {p : Program} {l : Launch} {e : Env} {s : State} {m : MethodId} {below : List Frame} {meth : Method} {c : Code} {b : Nat} {xs : Nat → Int32} {D : va_G} {t : Nat → ClassId} {H : Heap} {locs : List Loc} {ls : Array Slot} {cells slots : Nat} (hC : LCTX p l e s m below meth c b xs D t H locs ls cells slots) : W p l e room_1 s m #[.ref b] below meth c H locs cells slots (lw_Z below #[.ref b] s) (F0 m 488 ls []) := by
  obtain ⟨X, hX, hbl, hl, hRc, tail, f, hH, hT1, hT2, hT3, hV⟩ := hC
  have hbA : ¬ (fun q : Nat => s.heap.size ≤ q) b := Nat.not_le.mpr hbl
  refine law_two (E := E1) (Y1 := Y38) (Y2 := Y39) (M1 := M67) (M2 := M68) (i1 := 41) (i2 := 44) (n := 2) (pc1 := 499) (pc2 := 513) (kx := 0) (km := 33) (As := [.int (xs 1), .int (xs 2)]) (ps := [pI (-2147483648) 2147483647, pI (-2147483648) 2147483647]) X hl hH hT1 hV ⟨⟨xs 1, rfl, rfl, (i32_b _).1, (i32_b _).2⟩, ⟨⟨xs 2, rfl, rfl, (i32_b _).1, (i32_b _).2⟩, trivial⟩⟩ ⟨rfl, rfl⟩ ⟨rfl, rfl⟩ (by decide +kernel) ⟨_, _, rfl⟩ (H67 l D t _) (H68 l D t _) lm1_6 lm2_6 (by decide +kernel) rfl (by decide +kernel) rfl (by decide) (by decide) hRc rfl (by decide +kernel) (by decide +kernel) (by decide +kernel) (by decide +kernel) (fun H locs st hS k => larg_ok X hX hbl hbA hS hl [1, 2] 489 st (by decide +kernel) k) (fun H locs st hS k => larg_ok X hX hbl hbA hS hl [1, 2] 503 st (by decide +kernel) k) ?_
  intro ov1 ov2 o1 o2 f1 f2 r2 m1 m2 q1 q2 H1 locs1 hH1
  have rc := agr_ok (rc := rceqI) (n := 2) (M1 := M67) (M2 := M68) (by decide +kernel) m1 m2 q1 q2 rfl
  obtain ⟨i, rfl, rfl⟩ := rceqI_ok q1.2.1 q2.2.1 rc
  exact law_caseI (off := 1377) X (by decide +kernel) (by decide) (tail H1 locs1 f2 hH1)
theorem lm1_7 : ML1 RL Y41 45 0 2 10 := ML1.v (Y := Y41) mw_682 mw_685 mw_1 (by decide +kernel) (by decide) mw_683 mw_684 rfl
theorem lm2_7 : ML1 RL Y42 48 0 2 11 := ML1.v (Y := Y42) mw_1673 mw_1676 mw_12 (by decide +kernel) (by decide) mw_1674 mw_1675 rfl
theorem case_7 {p : Program} {l : Launch} {e : Env} {s : State} {m : MethodId} {below : List Frame} {meth : Method} {c : Code} {b : Nat} {xs : Nat → Int32} {D : va_G} {t : Nat → ClassId} {H : Heap} {locs : List Loc} {ls : Array Slot} {cells slots : Nat} (hC : LCTX p l e s m below meth c b xs D t H locs ls cells slots) : W p l e room_1 s m #[.ref b] below meth c H locs cells slots (lw_Z below #[.ref b] s) (F0 m 521 ls []) := by
  obtain ⟨X, hX, hbl, hl, hRc, tail, f, hH, hT1, hT2, hT3, hV⟩ := hC
  have hbA : ¬ (fun q : Nat => s.heap.size ≤ q) b := Nat.not_le.mpr hbl
  refine law_two (E := E1) (Y1 := Y41) (Y2 := Y42) (M1 := M70) (M2 := M71) (i1 := 45) (i2 := 48) (n := 2) (pc1 := 532) (pc2 := 546) (kx := 0) (km := 33) (As := [.int (xs 1), .int (xs 2)]) (ps := [pI (-2147483648) 2147483647, pI (-2147483648) 2147483647]) X hl hH hT1 hV ⟨⟨xs 1, rfl, rfl, (i32_b _).1, (i32_b _).2⟩, ⟨⟨xs 2, rfl, rfl, (i32_b _).1, (i32_b _).2⟩, trivial⟩⟩ ⟨rfl, rfl⟩ ⟨rfl, rfl⟩ (by decide +kernel) ⟨_, _, rfl⟩ (H70 l D t _) (H71 l D t _) lm1_7 lm2_7 (by decide +kernel) rfl (by decide +kernel) rfl (by decide) (by decide) hRc rfl (by decide +kernel) (by decide +kernel) (by decide +kernel) (by decide +kernel) (fun H locs st hS k => larg_ok X hX hbl hbA hS hl [1, 2] 522 st (by decide +kernel) k) (fun H locs st hS k => larg_ok X hX hbl hbA hS hl [1, 2] 536 st (by decide +kernel) k) ?_
  intro ov1 ov2 o1 o2 f1 f2 r2 m1 m2 q1 q2 H1 locs1 hH1
  have rc := agr_ok (rc := rceqI) (n := 2) (M1 := M70) (M2 := M71) (by decide +kernel) m1 m2 q1 q2 rfl
  obtain ⟨i, rfl, rfl⟩ := rceqI_ok q1.2.1 q2.2.1 rc
  exact law_caseI (off := 1344) X (by decide +kernel) (by decide) (tail H1 locs1 f2 hH1)
theorem lm1_8 : ML1 RL Y43 49 0 1 10 := ML1.v (Y := Y43) mw_690 mw_693 mw_1 (by decide +kernel) (by decide) mw_691 mw_692 rfl
theorem lm2_8 : ML1 RL Y44 52 0 1 11 := ML1.v (Y := Y44) mw_1677 mw_1680 mw_12 (by decide +kernel) (by decide) mw_1678 mw_1679 rfl
theorem case_8 {p : Program} {l : Launch} {e : Env} {s : State} {m : MethodId} {below : List Frame} {meth : Method} {c : Code} {b : Nat} {xs : Nat → Int32} {D : va_G} {t : Nat → ClassId} {H : Heap} {locs : List Loc} {ls : Array Slot} {cells slots : Nat} (hC : LCTX p l e s m below meth c b xs D t H locs ls cells slots) : W p l e room_1 s m #[.ref b] below meth c H locs cells slots (lw_Z below #[.ref b] s) (F0 m 554 ls []) := by
  obtain ⟨X, hX, hbl, hl, hRc, tail, f, hH, hT1, hT2, hT3, hV⟩ := hC
  have hbA : ¬ (fun q : Nat => s.heap.size ≤ q) b := Nat.not_le.mpr hbl
  refine law_two (E := E1) (Y1 := Y43) (Y2 := Y44) (M1 := M72) (M2 := M73) (i1 := 49) (i2 := 52) (n := 1) (pc1 := 560) (pc2 := 569) (kx := 0) (km := 33) (As := [.int (xs 1)]) (ps := [pI (-2147483648) 2147483647]) X hl hH hT1 hV ⟨⟨xs 1, rfl, rfl, (i32_b _).1, (i32_b _).2⟩, trivial⟩ ⟨rfl, rfl⟩ ⟨rfl, rfl⟩ (by decide +kernel) ⟨_, _, rfl⟩ (H72 l D t _) (H73 l D t _) lm1_8 lm2_8 (by decide +kernel) rfl (by decide +kernel) rfl (by decide) (by decide) hRc rfl (by decide +kernel) (by decide +kernel) (by decide +kernel) (by decide +kernel) (fun H locs st hS k => larg_ok X hX hbl hbA hS hl [1] 555 st (by decide +kernel) k) (fun H locs st hS k => larg_ok X hX hbl hbA hS hl [1] 564 st (by decide +kernel) k) ?_
  intro ov1 ov2 o1 o2 f1 f2 r2 m1 m2 q1 q2 H1 locs1 hH1
  have rc := agr_ok (rc := rceqI) (n := 1) (M1 := M72) (M2 := M73) (by decide +kernel) m1 m2 q1 q2 rfl
  obtain ⟨i, rfl, rfl⟩ := rceqI_ok q1.2.1 q2.2.1 rc
  exact law_caseI (off := 1321) X (by decide +kernel) (by decide) (tail H1 locs1 f2 hH1)
theorem lm1_9 : ML1 RL Y45 53 0 1 10 := ML1.v (Y := Y45) mw_702 mw_705 mw_1 (by decide +kernel) (by decide) mw_703 mw_704 rfl
theorem lm2_9 : ML1 RL Y46 56 0 1 11 := ML1.v (Y := Y46) mw_1681 mw_1684 mw_12 (by decide +kernel) (by decide) mw_1682 mw_1683 rfl
theorem case_9 {p : Program} {l : Launch} {e : Env} {s : State} {m : MethodId} {below : List Frame} {meth : Method} {c : Code} {b : Nat} {xs : Nat → Int32} {D : va_G} {t : Nat → ClassId} {H : Heap} {locs : List Loc} {ls : Array Slot} {cells slots : Nat} (hC : LCTX p l e s m below meth c b xs D t H locs ls cells slots) : W p l e room_1 s m #[.ref b] below meth c H locs cells slots (lw_Z below #[.ref b] s) (F0 m 577 ls []) := by
  obtain ⟨X, hX, hbl, hl, hRc, tail, f, hH, hT1, hT2, hT3, hV⟩ := hC
  have hbA : ¬ (fun q : Nat => s.heap.size ≤ q) b := Nat.not_le.mpr hbl
  refine law_two (E := E1) (Y1 := Y45) (Y2 := Y46) (M1 := M74) (M2 := M75) (i1 := 53) (i2 := 56) (n := 1) (pc1 := 583) (pc2 := 592) (kx := 0) (km := 33) (As := [.int (xs 1)]) (ps := [pI (-2147483648) 2147483647]) X hl hH hT1 hV ⟨⟨xs 1, rfl, rfl, (i32_b _).1, (i32_b _).2⟩, trivial⟩ ⟨rfl, rfl⟩ ⟨rfl, rfl⟩ (by decide +kernel) ⟨_, _, rfl⟩ (H74 l D t _) (H75 l D t _) lm1_9 lm2_9 (by decide +kernel) rfl (by decide +kernel) rfl (by decide) (by decide) hRc rfl (by decide +kernel) (by decide +kernel) (by decide +kernel) (by decide +kernel) (fun H locs st hS k => larg_ok X hX hbl hbA hS hl [1] 578 st (by decide +kernel) k) (fun H locs st hS k => larg_ok X hX hbl hbA hS hl [1] 587 st (by decide +kernel) k) ?_
  intro ov1 ov2 o1 o2 f1 f2 r2 m1 m2 q1 q2 H1 locs1 hH1
  have rc := agr_ok (rc := rceqI) (n := 1) (M1 := M74) (M2 := M75) (by decide +kernel) m1 m2 q1 q2 rfl
  obtain ⟨i, rfl, rfl⟩ := rceqI_ok q1.2.1 q2.2.1 rc
  exact law_caseI (off := 1298) X (by decide +kernel) (by decide) (tail H1 locs1 f2 hH1)
theorem lm1_10 : ML1 RL Y47 57 0 1 10 := ML1.v (Y := Y47) mw_710 mw_713 mw_1 (by decide +kernel) (by decide) mw_711 mw_712 rfl
theorem lm2_10 : ML1 RL Y48 60 0 1 11 := ML1.v (Y := Y48) mw_1685 mw_1688 mw_12 (by decide +kernel) (by decide) mw_1686 mw_1687 rfl
theorem case_10 {p : Program} {l : Launch} {e : Env} {s : State} {m : MethodId} {below : List Frame} {meth : Method} {c : Code} {b : Nat} {xs : Nat → Int32} {D : va_G} {t : Nat → ClassId} {H : Heap} {locs : List Loc} {ls : Array Slot} {cells slots : Nat} (hC : LCTX p l e s m below meth c b xs D t H locs ls cells slots) : W p l e room_1 s m #[.ref b] below meth c H locs cells slots (lw_Z below #[.ref b] s) (F0 m 600 ls []) := by
  obtain ⟨X, hX, hbl, hl, hRc, tail, f, hH, hT1, hT2, hT3, hV⟩ := hC
  have hbA : ¬ (fun q : Nat => s.heap.size ≤ q) b := Nat.not_le.mpr hbl
  refine law_two (E := E1) (Y1 := Y47) (Y2 := Y48) (M1 := M76) (M2 := M77) (i1 := 57) (i2 := 60) (n := 1) (pc1 := 606) (pc2 := 615) (kx := 0) (km := 33) (As := [.int (xs 1)]) (ps := [pI (-2147483648) 2147483647]) X hl hH hT1 hV ⟨⟨xs 1, rfl, rfl, (i32_b _).1, (i32_b _).2⟩, trivial⟩ ⟨rfl, rfl⟩ ⟨rfl, rfl⟩ (by decide +kernel) ⟨_, _, rfl⟩ (H76 l D t _) (H77 l D t _) lm1_10 lm2_10 (by decide +kernel) rfl (by decide +kernel) rfl (by decide) (by decide) hRc rfl (by decide +kernel) (by decide +kernel) (by decide +kernel) (by decide +kernel) (fun H locs st hS k => larg_ok X hX hbl hbA hS hl [1] 601 st (by decide +kernel) k) (fun H locs st hS k => larg_ok X hX hbl hbA hS hl [1] 610 st (by decide +kernel) k) ?_
  intro ov1 ov2 o1 o2 f1 f2 r2 m1 m2 q1 q2 H1 locs1 hH1
  have rc := agr_ok (rc := rceqI) (n := 1) (M1 := M76) (M2 := M77) (by decide +kernel) m1 m2 q1 q2 rfl
  obtain ⟨i, rfl, rfl⟩ := rceqI_ok q1.2.1 q2.2.1 rc
  exact law_caseI (off := 1275) X (by decide +kernel) (by decide) (tail H1 locs1 f2 hH1)
theorem lm1_11 : ML1 RL Y50 61 0 0 10 := ML1.v (Y := Y50) mw_719 mw_722 mw_1 (by decide +kernel) (by decide) mw_720 mw_721 rfl
theorem lm2_11 : ML1 RL Y51 64 0 0 11 := ML1.v (Y := Y51) mw_1693 mw_1696 mw_12 (by decide +kernel) (by decide) mw_1694 mw_1695 rfl
theorem case_11 {p : Program} {l : Launch} {e : Env} {s : State} {m : MethodId} {below : List Frame} {meth : Method} {c : Code} {b : Nat} {xs : Nat → Int32} {D : va_G} {t : Nat → ClassId} {H : Heap} {locs : List Loc} {ls : Array Slot} {cells slots : Nat} (hC : LCTX p l e s m below meth c b xs D t H locs ls cells slots) : W p l e room_1 s m #[.ref b] below meth c H locs cells slots (lw_Z below #[.ref b] s) (F0 m 623 ls []) := by
  obtain ⟨X, hX, hbl, hl, hRc, tail, f, hH, hT1, hT2, hT3, hV⟩ := hC
  have hbA : ¬ (fun q : Nat => s.heap.size ≤ q) b := Nat.not_le.mpr hbl
  refine law_two (E := E1) (Y1 := Y50) (Y2 := Y51) (M1 := M79) (M2 := M80) (i1 := 61) (i2 := 64) (n := 0) (pc1 := 624) (pc2 := 628) (kx := 0) (km := 33) (As := []) (ps := []) X hl hH hT1 hV trivial ⟨rfl, rfl⟩ ⟨rfl, rfl⟩ (by decide +kernel) ⟨_, _, rfl⟩ (H79 l D t _) (H80 l D t _) lm1_11 lm2_11 (by decide +kernel) rfl (by decide +kernel) rfl (by decide) (by decide) hRc rfl (by decide +kernel) (by decide +kernel) (by decide +kernel) (by decide +kernel) (fun H locs st hS k => larg_ok X hX hbl hbA hS hl [] 624 st (by decide +kernel) k) (fun H locs st hS k => larg_ok X hX hbl hbA hS hl [] 628 st (by decide +kernel) k) ?_
  intro ov1 ov2 o1 o2 f1 f2 r2 m1 m2 q1 q2 H1 locs1 hH1
  have rc := agr_ok (rc := rceqI) (n := 0) (M1 := M79) (M2 := M80) (by decide +kernel) m1 m2 q1 q2 rfl
  obtain ⟨i, rfl, rfl⟩ := rceqI_ok q1.2.1 q2.2.1 rc
  exact law_caseI (off := 1262) X (by decide +kernel) (by decide) (tail H1 locs1 f2 hH1)
theorem lm1_12 : ML1 RL Y52 65 0 1 10 := ML1.v (Y := Y52) mw_727 mw_730 mw_1 (by decide +kernel) (by decide) mw_728 mw_729 rfl
theorem lm2_12 : ML1 RL Y53 69 0 1 11 := ML1.v (Y := Y53) mw_1697 mw_1700 mw_12 (by decide +kernel) (by decide) mw_1698 mw_1699 rfl
theorem case_12 {p : Program} {l : Launch} {e : Env} {s : State} {m : MethodId} {below : List Frame} {meth : Method} {c : Code} {b : Nat} {xs : Nat → Int32} {D : va_G} {t : Nat → ClassId} {H : Heap} {locs : List Loc} {ls : Array Slot} {cells slots : Nat} (hC : LCTX p l e s m below meth c b xs D t H locs ls cells slots) : W p l e room_1 s m #[.ref b] below meth c H locs cells slots (lw_Z below #[.ref b] s) (F0 m 636 ls []) := by
  obtain ⟨X, hX, hbl, hl, hRc, tail, f, hH, hT1, hT2, hT3, hV⟩ := hC
  have hbA : ¬ (fun q : Nat => s.heap.size ≤ q) b := Nat.not_le.mpr hbl
  refine law_two (E := E1) (Y1 := Y52) (Y2 := Y53) (M1 := M81) (M2 := M82) (i1 := 65) (i2 := 69) (n := 1) (pc1 := 642) (pc2 := 651) (kx := 0) (km := 33) (As := [.int (xs 1)]) (ps := [pI (-2147483648) 2147483647]) X hl hH hT1 hV ⟨⟨xs 1, rfl, rfl, (i32_b _).1, (i32_b _).2⟩, trivial⟩ ⟨rfl, rfl⟩ ⟨rfl, rfl⟩ (by decide +kernel) ⟨_, _, rfl⟩ (H81 l D t _) (H82 l D t _) lm1_12 lm2_12 (by decide +kernel) rfl (by decide +kernel) rfl (by decide) (by decide) hRc rfl (by decide +kernel) (by decide +kernel) (by decide +kernel) (by decide +kernel) (fun H locs st hS k => larg_ok X hX hbl hbA hS hl [1] 637 st (by decide +kernel) k) (fun H locs st hS k => larg_ok X hX hbl hbA hS hl [1] 646 st (by decide +kernel) k) ?_
  intro ov1 ov2 o1 o2 f1 f2 r2 m1 m2 q1 q2 H1 locs1 hH1
  have rc := agr_ok (rc := rceqL) (n := 1) (M1 := M81) (M2 := M82) (by decide +kernel) m1 m2 q1 q2 rfl
  obtain ⟨i, rfl, rfl⟩ := rceqL_ok q1.2.1 q2.2.1 rc
  exact law_caseL (off := 1238) X (by decide +kernel) (by decide +kernel) (by decide) (tail H1 locs1 f2 hH1)
theorem lm1_13 : ML1 RL Y55 70 0 2 10 := ML1.v (Y := Y55) mw_737 mw_740 mw_1 (by decide +kernel) (by decide) mw_738 mw_739 rfl
theorem lm2_13 : ML1 RL Y57 73 0 2 11 := ML1.v (Y := Y57) mw_1703 mw_1706 mw_12 (by decide +kernel) (by decide) mw_1704 mw_1705 rfl
theorem case_13 {p : Program} {l : Launch} {e : Env} {s : State} {m : MethodId} {below : List Frame} {meth : Method} {c : Code} {b : Nat} {xs : Nat → Int32} {D : va_G} {t : Nat → ClassId} {H : Heap} {locs : List Loc} {ls : Array Slot} {cells slots : Nat} (hC : LCTX p l e s m below meth c b xs D t H locs ls cells slots) : W p l e room_1 s m #[.ref b] below meth c H locs cells slots (lw_Z below #[.ref b] s) (F0 m 660 ls []) := by
  obtain ⟨X, hX, hbl, hl, hRc, tail, f, hH, hT1, hT2, hT3, hV⟩ := hC
  have hbA : ¬ (fun q : Nat => s.heap.size ≤ q) b := Nat.not_le.mpr hbl
  refine law_two (E := E1) (Y1 := Y55) (Y2 := Y57) (M1 := (M1p (xs 1) (xs 2))) (M2 := (M2p (xs 1) (xs 2))) (i1 := 70) (i2 := 73) (n := 2) (pc1 := 671) (pc2 := 685) (kx := 0) (km := 33) (As := [.int (xs 1), .int (xs 2)]) (ps := [pI (xs 1).toInt (xs 1).toInt, pI (xs 2).toInt (xs 2).toInt]) X hl hH hT1 hV ⟨⟨xs 1, rfl, rfl, Int.le_refl _, Int.le_refl _⟩, ⟨xs 2, rfl, rfl, Int.le_refl _, Int.le_refl _⟩, trivial⟩ ⟨rfl, rfl⟩ ⟨rfl, rfl⟩ (show vmid (M1p (xs 1) (xs 2)) = true from rfl) ⟨_, _, rfl⟩ (H1p l D t _ (xs 1) (xs 2)) (H2p l D t _ (xs 1) (xs 2)) lm1_13 lm2_13 (by decide +kernel) rfl (by decide +kernel) rfl (by decide) (by decide) hRc rfl (by decide +kernel) (by decide +kernel) (by decide +kernel) (by decide +kernel) (fun H locs st hS k => larg_ok X hX hbl hbA hS hl [1, 2] 661 st (by decide +kernel) k) (fun H locs st hS k => larg_ok X hX hbl hbA hS hl [1, 2] 675 st (by decide +kernel) k) ?_
  intro ov1 ov2 o1 o2 f1 f2 r2 m1 m2 q1 q2 H1 locs1 hH1
  have rc : rceqI o1.2.1 o2.2.1 = true := by
    have e1 := List.mem_singleton.mp m1
    have e2 := List.mem_singleton.mp m2
    subst e1; subst e2
    simp [rceqI]
  obtain ⟨i, rfl, rfl⟩ := rceqI_ok q1.2.1 q2.2.1 rc
  exact law_caseI (off := 1205) X (by decide +kernel) (by decide) (tail H1 locs1 f2 hH1)
theorem lm1_14 : ML1 RL Y58 74 0 0 10 := ML1.v (Y := Y58) mw_746 mw_749 mw_1 (by decide +kernel) (by decide) mw_747 mw_748 rfl
theorem lm2_14 : ML1 RL Y59 78 0 0 11 := ML1.v (Y := Y59) mw_1709 mw_1712 mw_12 (by decide +kernel) (by decide) mw_1710 mw_1711 rfl
theorem case_14 {p : Program} {l : Launch} {e : Env} {s : State} {m : MethodId} {below : List Frame} {meth : Method} {c : Code} {b : Nat} {xs : Nat → Int32} {D : va_G} {t : Nat → ClassId} {H : Heap} {locs : List Loc} {ls : Array Slot} {cells slots : Nat} (hC : LCTX p l e s m below meth c b xs D t H locs ls cells slots) : W p l e room_1 s m #[.ref b] below meth c H locs cells slots (lw_Z below #[.ref b] s) (F0 m 693 ls []) := by
  obtain ⟨X, hX, hbl, hl, hRc, tail, f, hH, hT1, hT2, hT3, hV⟩ := hC
  have hbA : ¬ (fun q : Nat => s.heap.size ≤ q) b := Nat.not_le.mpr hbl
  refine law_two (E := E1) (Y1 := Y58) (Y2 := Y59) (M1 := M89) (M2 := M90) (i1 := 74) (i2 := 78) (n := 0) (pc1 := 694) (pc2 := 698) (kx := 0) (km := 33) (As := []) (ps := []) X hl hH hT1 hV trivial ⟨rfl, rfl⟩ ⟨rfl, rfl⟩ (by decide +kernel) ⟨_, _, rfl⟩ (H89 l D t _) (H90 l D t _) lm1_14 lm2_14 (by decide +kernel) rfl (by decide +kernel) rfl (by decide) (by decide) hRc rfl (by decide +kernel) (by decide +kernel) (by decide +kernel) (by decide +kernel) (fun H locs st hS k => larg_ok X hX hbl hbA hS hl [] 694 st (by decide +kernel) k) (fun H locs st hS k => larg_ok X hX hbl hbA hS hl [] 698 st (by decide +kernel) k) ?_
  intro ov1 ov2 o1 o2 f1 f2 r2 m1 m2 q1 q2 H1 locs1 hH1
  have rc := agr_ok (rc := rceqL) (n := 0) (M1 := M89) (M2 := M90) (by decide +kernel) m1 m2 q1 q2 rfl
  obtain ⟨i, rfl, rfl⟩ := rceqL_ok q1.2.1 q2.2.1 rc
  exact law_caseL (off := 1191) X (by decide +kernel) (by decide +kernel) (by decide) (tail H1 locs1 f2 hH1)
theorem lm1_15 : ML1 RL Y60 79 0 1 10 := ML1.v (Y := Y60) mw_759 mw_762 mw_1 (by decide +kernel) (by decide) mw_760 mw_761 rfl
theorem lm2_15 : ML1 RL Y61 82 0 1 11 := ML1.v (Y := Y61) mw_1713 mw_1716 mw_12 (by decide +kernel) (by decide) mw_1714 mw_1715 rfl
theorem case_15 {p : Program} {l : Launch} {e : Env} {s : State} {m : MethodId} {below : List Frame} {meth : Method} {c : Code} {b : Nat} {xs : Nat → Int32} {D : va_G} {t : Nat → ClassId} {H : Heap} {locs : List Loc} {ls : Array Slot} {cells slots : Nat} (hC : LCTX p l e s m below meth c b xs D t H locs ls cells slots) : W p l e room_1 s m #[.ref b] below meth c H locs cells slots (lw_Z below #[.ref b] s) (F0 m 707 ls []) := by
  obtain ⟨X, hX, hbl, hl, hRc, tail, f, hH, hT1, hT2, hT3, hV⟩ := hC
  have hbA : ¬ (fun q : Nat => s.heap.size ≤ q) b := Nat.not_le.mpr hbl
  refine law_two (E := E1) (Y1 := Y60) (Y2 := Y61) (M1 := M91) (M2 := M92) (i1 := 79) (i2 := 82) (n := 1) (pc1 := 713) (pc2 := 722) (kx := 0) (km := 33) (As := [.int (xs 1)]) (ps := [pI (-2147483648) 2147483647]) X hl hH hT1 hV ⟨⟨xs 1, rfl, rfl, (i32_b _).1, (i32_b _).2⟩, trivial⟩ ⟨rfl, rfl⟩ ⟨rfl, rfl⟩ (by decide +kernel) ⟨_, _, rfl⟩ (H91 l D t _) (H92 l D t _) lm1_15 lm2_15 (by decide +kernel) rfl (by decide +kernel) rfl (by decide) (by decide) hRc rfl (by decide +kernel) (by decide +kernel) (by decide +kernel) (by decide +kernel) (fun H locs st hS k => larg_ok X hX hbl hbA hS hl [1] 708 st (by decide +kernel) k) (fun H locs st hS k => larg_ok X hX hbl hbA hS hl [1] 717 st (by decide +kernel) k) ?_
  intro ov1 ov2 o1 o2 f1 f2 r2 m1 m2 q1 q2 H1 locs1 hH1
  have rc := agr_ok (rc := rceqI) (n := 1) (M1 := M91) (M2 := M92) (by decide +kernel) m1 m2 q1 q2 rfl
  obtain ⟨i, rfl, rfl⟩ := rceqI_ok q1.2.1 q2.2.1 rc
  exact law_caseI (off := 1168) X (by decide +kernel) (by decide) (tail H1 locs1 f2 hH1)
theorem lm1_16 : ML1 RL Y63 83 0 4 10 := ML1.v (Y := Y63) mw_783 mw_786 mw_1 (by decide +kernel) (by decide) mw_784 mw_785 rfl
theorem lm2_16 : ML1 RL Y64 87 0 4 11 := ML1.v (Y := Y64) mw_1725 mw_1728 mw_12 (by decide +kernel) (by decide) mw_1726 mw_1727 rfl
theorem case_16 {p : Program} {l : Launch} {e : Env} {s : State} {m : MethodId} {below : List Frame} {meth : Method} {c : Code} {b : Nat} {xs : Nat → Int32} {D : va_G} {t : Nat → ClassId} {H : Heap} {locs : List Loc} {ls : Array Slot} {cells slots : Nat} (hC : LCTX p l e s m below meth c b xs D t H locs ls cells slots) : W p l e room_1 s m #[.ref b] below meth c H locs cells slots (lw_Z below #[.ref b] s) (F0 m 730 ls []) := by
  obtain ⟨X, hX, hbl, hl, hRc, tail, f, hH, hT1, hT2, hT3, hV⟩ := hC
  have hbA : ¬ (fun q : Nat => s.heap.size ≤ q) b := Nat.not_le.mpr hbl
  refine law_two (E := E1) (Y1 := Y63) (Y2 := Y64) (M1 := M94) (M2 := M98) (i1 := 83) (i2 := 87) (n := 4) (pc1 := 751) (pc2 := 775) (kx := 0) (km := 33) (As := [.int (xs 1), .int (xs 2), .int (xs 3), .int (xs 4)]) (ps := [pI (-2147483648) 2147483647, pI (-2147483648) 2147483647, pI (-2147483648) 2147483647, pI (-2147483648) 2147483647]) X hl hH hT1 hV ⟨⟨xs 1, rfl, rfl, (i32_b _).1, (i32_b _).2⟩, ⟨⟨xs 2, rfl, rfl, (i32_b _).1, (i32_b _).2⟩, ⟨⟨xs 3, rfl, rfl, (i32_b _).1, (i32_b _).2⟩, ⟨⟨xs 4, rfl, rfl, (i32_b _).1, (i32_b _).2⟩, trivial⟩⟩⟩⟩ ⟨rfl, rfl⟩ ⟨rfl, rfl⟩ (by decide +kernel) ⟨_, _, rfl⟩ (H94 l D t _) (H98 l D t _) lm1_16 lm2_16 (by decide +kernel) rfl (by decide +kernel) rfl (by decide) (by decide) hRc rfl (by decide +kernel) (by decide +kernel) (by decide +kernel) (by decide +kernel) (fun H locs st hS k => larg_ok X hX hbl hbA hS hl [1, 2, 3, 4] 731 st (by decide +kernel) k) (fun H locs st hS k => larg_ok X hX hbl hbA hS hl [1, 2, 3, 4] 755 st (by decide +kernel) k) ?_
  intro ov1 ov2 o1 o2 f1 f2 r2 m1 m2 q1 q2 H1 locs1 hH1
  have rc := agr_ok (rc := rceqI) (n := 4) (M1 := M94) (M2 := M98) (by decide +kernel) m1 m2 q1 q2 rfl
  obtain ⟨i, rfl, rfl⟩ := rceqI_ok q1.2.1 q2.2.1 rc
  exact law_caseI (off := 1115) X (by decide +kernel) (by decide) (tail H1 locs1 f2 hH1)
theorem lm1_17 : ML1 RL Y65 88 0 0 10 := ML1.v (Y := Y65) mw_799 mw_802 mw_1 (by decide +kernel) (by decide) mw_800 mw_801 rfl
theorem lm2_17 : ML1 RL Y66 91 0 0 11 := ML1.v (Y := Y66) mw_1732 mw_1735 mw_12 (by decide +kernel) (by decide) mw_1733 mw_1734 rfl
theorem case_17 {p : Program} {l : Launch} {e : Env} {s : State} {m : MethodId} {below : List Frame} {meth : Method} {c : Code} {b : Nat} {xs : Nat → Int32} {D : va_G} {t : Nat → ClassId} {H : Heap} {locs : List Loc} {ls : Array Slot} {cells slots : Nat} (hC : LCTX p l e s m below meth c b xs D t H locs ls cells slots) : W p l e room_1 s m #[.ref b] below meth c H locs cells slots (lw_Z below #[.ref b] s) (F0 m 783 ls []) := by
  obtain ⟨X, hX, hbl, hl, hRc, tail, f, hH, hT1, hT2, hT3, hV⟩ := hC
  have hbA : ¬ (fun q : Nat => s.heap.size ≤ q) b := Nat.not_le.mpr hbl
  refine law_two (E := E1) (Y1 := Y65) (Y2 := Y66) (M1 := M99) (M2 := M100) (i1 := 88) (i2 := 91) (n := 0) (pc1 := 784) (pc2 := 788) (kx := 0) (km := 33) (As := []) (ps := []) X hl hH hT1 hV trivial ⟨rfl, rfl⟩ ⟨rfl, rfl⟩ (by decide +kernel) ⟨_, _, rfl⟩ (H99 l D t _) (H100 l D t _) lm1_17 lm2_17 (by decide +kernel) rfl (by decide +kernel) rfl (by decide) (by decide) hRc rfl (by decide +kernel) (by decide +kernel) (by decide +kernel) (by decide +kernel) (fun H locs st hS k => larg_ok X hX hbl hbA hS hl [] 784 st (by decide +kernel) k) (fun H locs st hS k => larg_ok X hX hbl hbA hS hl [] 788 st (by decide +kernel) k) ?_
  intro ov1 ov2 o1 o2 f1 f2 r2 m1 m2 q1 q2 H1 locs1 hH1
  have rc := agr_ok (rc := rceqI) (n := 0) (M1 := M99) (M2 := M100) (by decide +kernel) m1 m2 q1 q2 rfl
  obtain ⟨i, rfl, rfl⟩ := rceqI_ok q1.2.1 q2.2.1 rc
  exact law_caseI (off := 1102) X (by decide +kernel) (by decide) (tail H1 locs1 f2 hH1)
theorem lm1_18 : ML1 RL Y67 92 0 1 10 := ML1.v (Y := Y67) mw_819 mw_822 mw_1 (by decide +kernel) (by decide) mw_820 mw_821 rfl
theorem lm2_18 : ML1 RL Y68 95 0 1 11 := ML1.v (Y := Y68) mw_1736 mw_1739 mw_12 (by decide +kernel) (by decide) mw_1737 mw_1738 rfl
theorem case_18 {p : Program} {l : Launch} {e : Env} {s : State} {m : MethodId} {below : List Frame} {meth : Method} {c : Code} {b : Nat} {xs : Nat → Int32} {D : va_G} {t : Nat → ClassId} {H : Heap} {locs : List Loc} {ls : Array Slot} {cells slots : Nat} (hC : LCTX p l e s m below meth c b xs D t H locs ls cells slots) : W p l e room_1 s m #[.ref b] below meth c H locs cells slots (lw_Z below #[.ref b] s) (F0 m 796 ls []) := by
  obtain ⟨X, hX, hbl, hl, hRc, tail, f, hH, hT1, hT2, hT3, hV⟩ := hC
  have hbA : ¬ (fun q : Nat => s.heap.size ≤ q) b := Nat.not_le.mpr hbl
  refine law_two (E := E1) (Y1 := Y67) (Y2 := Y68) (M1 := M101) (M2 := M102) (i1 := 92) (i2 := 95) (n := 1) (pc1 := 802) (pc2 := 811) (kx := 0) (km := 33) (As := [.int (xs 1)]) (ps := [pI (-2147483648) 2147483647]) X hl hH hT1 hV ⟨⟨xs 1, rfl, rfl, (i32_b _).1, (i32_b _).2⟩, trivial⟩ ⟨rfl, rfl⟩ ⟨rfl, rfl⟩ (by decide +kernel) ⟨_, _, rfl⟩ (H101 l D t _) (H102 l D t _) lm1_18 lm2_18 (by decide +kernel) rfl (by decide +kernel) rfl (by decide) (by decide) hRc rfl (by decide +kernel) (by decide +kernel) (by decide +kernel) (by decide +kernel) (fun H locs st hS k => larg_ok X hX hbl hbA hS hl [1] 797 st (by decide +kernel) k) (fun H locs st hS k => larg_ok X hX hbl hbA hS hl [1] 806 st (by decide +kernel) k) ?_
  intro ov1 ov2 o1 o2 f1 f2 r2 m1 m2 q1 q2 H1 locs1 hH1
  have rc := agr_ok (rc := rceqI) (n := 1) (M1 := M101) (M2 := M102) (by decide +kernel) m1 m2 q1 q2 rfl
  obtain ⟨i, rfl, rfl⟩ := rceqI_ok q1.2.1 q2.2.1 rc
  exact law_caseI (off := 1079) X (by decide +kernel) (by decide) (tail H1 locs1 f2 hH1)
theorem lm1_19 : ML1 RL Y69 96 0 0 10 := ML1.v (Y := Y69) mw_823 mw_826 mw_1 (by decide +kernel) (by decide) mw_824 mw_825 rfl
theorem lm2_19 : ML1 RL Y70 99 0 0 11 := ML1.v (Y := Y70) mw_1740 mw_1743 mw_12 (by decide +kernel) (by decide) mw_1741 mw_1742 rfl
theorem case_19 {p : Program} {l : Launch} {e : Env} {s : State} {m : MethodId} {below : List Frame} {meth : Method} {c : Code} {b : Nat} {xs : Nat → Int32} {D : va_G} {t : Nat → ClassId} {H : Heap} {locs : List Loc} {ls : Array Slot} {cells slots : Nat} (hC : LCTX p l e s m below meth c b xs D t H locs ls cells slots) : W p l e room_1 s m #[.ref b] below meth c H locs cells slots (lw_Z below #[.ref b] s) (F0 m 819 ls []) := by
  obtain ⟨X, hX, hbl, hl, hRc, tail, f, hH, hT1, hT2, hT3, hV⟩ := hC
  have hbA : ¬ (fun q : Nat => s.heap.size ≤ q) b := Nat.not_le.mpr hbl
  refine law_two (E := E1) (Y1 := Y69) (Y2 := Y70) (M1 := M103) (M2 := M104) (i1 := 96) (i2 := 99) (n := 0) (pc1 := 820) (pc2 := 824) (kx := 0) (km := 33) (As := []) (ps := []) X hl hH hT1 hV trivial ⟨rfl, rfl⟩ ⟨rfl, rfl⟩ (by decide +kernel) ⟨_, _, rfl⟩ (H103 l D t _) (H104 l D t _) lm1_19 lm2_19 (by decide +kernel) rfl (by decide +kernel) rfl (by decide) (by decide) hRc rfl (by decide +kernel) (by decide +kernel) (by decide +kernel) (by decide +kernel) (fun H locs st hS k => larg_ok X hX hbl hbA hS hl [] 820 st (by decide +kernel) k) (fun H locs st hS k => larg_ok X hX hbl hbA hS hl [] 824 st (by decide +kernel) k) ?_
  intro ov1 ov2 o1 o2 f1 f2 r2 m1 m2 q1 q2 H1 locs1 hH1
  have rc := agr_ok (rc := rceqI) (n := 0) (M1 := M103) (M2 := M104) (by decide +kernel) m1 m2 q1 q2 rfl
  obtain ⟨i, rfl, rfl⟩ := rceqI_ok q1.2.1 q2.2.1 rc
  exact law_caseI (off := 1066) X (by decide +kernel) (by decide) (tail H1 locs1 f2 hH1)
theorem lm1_20 : ML1 RL Y71 100 0 0 10 := ML1.v (Y := Y71) mw_831 mw_834 mw_1 (by decide +kernel) (by decide) mw_832 mw_833 rfl
theorem lm2_20 : ML1 RL Y72 103 0 0 11 := ML1.v (Y := Y72) mw_1744 mw_1747 mw_12 (by decide +kernel) (by decide) mw_1745 mw_1746 rfl
theorem case_20 {p : Program} {l : Launch} {e : Env} {s : State} {m : MethodId} {below : List Frame} {meth : Method} {c : Code} {b : Nat} {xs : Nat → Int32} {D : va_G} {t : Nat → ClassId} {H : Heap} {locs : List Loc} {ls : Array Slot} {cells slots : Nat} (hC : LCTX p l e s m below meth c b xs D t H locs ls cells slots) : W p l e room_1 s m #[.ref b] below meth c H locs cells slots (lw_Z below #[.ref b] s) (F0 m 832 ls []) := by
  obtain ⟨X, hX, hbl, hl, hRc, tail, f, hH, hT1, hT2, hT3, hV⟩ := hC
  have hbA : ¬ (fun q : Nat => s.heap.size ≤ q) b := Nat.not_le.mpr hbl
  refine law_two (E := E1) (Y1 := Y71) (Y2 := Y72) (M1 := M105) (M2 := M106) (i1 := 100) (i2 := 103) (n := 0) (pc1 := 833) (pc2 := 837) (kx := 0) (km := 33) (As := []) (ps := []) X hl hH hT1 hV trivial ⟨rfl, rfl⟩ ⟨rfl, rfl⟩ (by decide +kernel) ⟨_, _, rfl⟩ (H105 l D t _) (H106 l D t _) lm1_20 lm2_20 (by decide +kernel) rfl (by decide +kernel) rfl (by decide) (by decide) hRc rfl (by decide +kernel) (by decide +kernel) (by decide +kernel) (by decide +kernel) (fun H locs st hS k => larg_ok X hX hbl hbA hS hl [] 833 st (by decide +kernel) k) (fun H locs st hS k => larg_ok X hX hbl hbA hS hl [] 837 st (by decide +kernel) k) ?_
  intro ov1 ov2 o1 o2 f1 f2 r2 m1 m2 q1 q2 H1 locs1 hH1
  have rc := agr_ok (rc := rceqI) (n := 0) (M1 := M105) (M2 := M106) (by decide +kernel) m1 m2 q1 q2 rfl
  obtain ⟨i, rfl, rfl⟩ := rceqI_ok q1.2.1 q2.2.1 rc
  exact law_caseI (off := 1053) X (by decide +kernel) (by decide) (tail H1 locs1 f2 hH1)
theorem lm1_21 : ML1 RL Y74 104 0 2 10 := ML1.v (Y := Y74) mw_835 mw_838 mw_1 (by decide +kernel) (by decide) mw_836 mw_837 rfl
theorem lm2_21 : ML1 RL Y77 108 0 2 11 := ML1.v (Y := Y77) mw_1748 mw_1751 mw_12 (by decide +kernel) (by decide) mw_1749 mw_1750 rfl
theorem case_21 {p : Program} {l : Launch} {e : Env} {s : State} {m : MethodId} {below : List Frame} {meth : Method} {c : Code} {b : Nat} {xs : Nat → Int32} {D : va_G} {t : Nat → ClassId} {H : Heap} {locs : List Loc} {ls : Array Slot} {cells slots : Nat} (hC : LCTX p l e s m below meth c b xs D t H locs ls cells slots) : W p l e room_1 s m #[.ref b] below meth c H locs cells slots (lw_Z below #[.ref b] s) (F0 m 845 ls []) := by
  obtain ⟨X, hX, hbl, hl, hRc, tail, f, hH, hT1, hT2, hT3, hV⟩ := hC
  have hbA : ¬ (fun q : Nat => s.heap.size ≤ q) b := Nat.not_le.mpr hbl
  refine law_two (E := E1) (Y1 := Y74) (Y2 := Y77) (M1 := M108) (M2 := M113) (i1 := 104) (i2 := 108) (n := 2) (pc1 := 856) (pc2 := 870) (kx := 0) (km := 33) (As := [.int (xs 1), .int (xs 2)]) (ps := [pI (-2147483648) 2147483647, pI (-2147483648) 2147483647]) X hl hH hT1 hV ⟨⟨xs 1, rfl, rfl, (i32_b _).1, (i32_b _).2⟩, ⟨⟨xs 2, rfl, rfl, (i32_b _).1, (i32_b _).2⟩, trivial⟩⟩ ⟨rfl, rfl⟩ ⟨rfl, rfl⟩ (by decide +kernel) ⟨_, _, rfl⟩ (H108 l D t _) (H113 l D t _) lm1_21 lm2_21 (by decide +kernel) rfl (by decide +kernel) rfl (by decide) (by decide) hRc rfl (by decide +kernel) (by decide +kernel) (by decide +kernel) (by decide +kernel) (fun H locs st hS k => larg_ok X hX hbl hbA hS hl [1, 2] 846 st (by decide +kernel) k) (fun H locs st hS k => larg_ok X hX hbl hbA hS hl [1, 2] 860 st (by decide +kernel) k) ?_
  intro ov1 ov2 o1 o2 f1 f2 r2 m1 m2 q1 q2 H1 locs1 hH1
  have rc := agr_ok (rc := rceqL) (n := 2) (M1 := M108) (M2 := M113) (by decide +kernel) m1 m2 q1 q2 rfl
  obtain ⟨i, rfl, rfl⟩ := rceqL_ok q1.2.1 q2.2.1 rc
  exact law_caseL (off := 1019) X (by decide +kernel) (by decide +kernel) (by decide) (tail H1 locs1 f2 hH1)
theorem lm1_22 : ML1 RL Y78 109 0 0 10 := ML1.v (Y := Y78) mw_870 mw_873 mw_1 (by decide +kernel) (by decide) mw_871 mw_872 rfl
theorem lm2_22 : ML1 RL Y79 112 0 0 11 := ML1.v (Y := Y79) mw_1761 mw_1764 mw_12 (by decide +kernel) (by decide) mw_1762 mw_1763 rfl
theorem case_22 {p : Program} {l : Launch} {e : Env} {s : State} {m : MethodId} {below : List Frame} {meth : Method} {c : Code} {b : Nat} {xs : Nat → Int32} {D : va_G} {t : Nat → ClassId} {H : Heap} {locs : List Loc} {ls : Array Slot} {cells slots : Nat} (hC : LCTX p l e s m below meth c b xs D t H locs ls cells slots) : W p l e room_1 s m #[.ref b] below meth c H locs cells slots (lw_Z below #[.ref b] s) (F0 m 879 ls []) := by
  obtain ⟨X, hX, hbl, hl, hRc, tail, f, hH, hT1, hT2, hT3, hV⟩ := hC
  have hbA : ¬ (fun q : Nat => s.heap.size ≤ q) b := Nat.not_le.mpr hbl
  refine law_two (E := E1) (Y1 := Y78) (Y2 := Y79) (M1 := M114) (M2 := M115) (i1 := 109) (i2 := 112) (n := 0) (pc1 := 880) (pc2 := 884) (kx := 0) (km := 33) (As := []) (ps := []) X hl hH hT1 hV trivial ⟨rfl, rfl⟩ ⟨rfl, rfl⟩ (by decide +kernel) ⟨_, _, rfl⟩ (H114 l D t _) (H115 l D t _) lm1_22 lm2_22 (by decide +kernel) rfl (by decide +kernel) rfl (by decide) (by decide) hRc rfl (by decide +kernel) (by decide +kernel) (by decide +kernel) (by decide +kernel) (fun H locs st hS k => larg_ok X hX hbl hbA hS hl [] 880 st (by decide +kernel) k) (fun H locs st hS k => larg_ok X hX hbl hbA hS hl [] 884 st (by decide +kernel) k) ?_
  intro ov1 ov2 o1 o2 f1 f2 r2 m1 m2 q1 q2 H1 locs1 hH1
  have rc := agr_ok (rc := rceqI) (n := 0) (M1 := M114) (M2 := M115) (by decide +kernel) m1 m2 q1 q2 rfl
  obtain ⟨i, rfl, rfl⟩ := rceqI_ok q1.2.1 q2.2.1 rc
  exact law_caseI (off := 1006) X (by decide +kernel) (by decide) (tail H1 locs1 f2 hH1)
theorem lm1_23 : ML1 RL Y80 113 0 0 10 := ML1.v (Y := Y80) mw_901 mw_904 mw_1 (by decide +kernel) (by decide) mw_902 mw_903 rfl
theorem lm2_23 : ML1 RL Y81 116 0 0 11 := ML1.v (Y := Y81) mw_1781 mw_1784 mw_12 (by decide +kernel) (by decide) mw_1782 mw_1783 rfl
theorem case_23 {p : Program} {l : Launch} {e : Env} {s : State} {m : MethodId} {below : List Frame} {meth : Method} {c : Code} {b : Nat} {xs : Nat → Int32} {D : va_G} {t : Nat → ClassId} {H : Heap} {locs : List Loc} {ls : Array Slot} {cells slots : Nat} (hC : LCTX p l e s m below meth c b xs D t H locs ls cells slots) : W p l e room_1 s m #[.ref b] below meth c H locs cells slots (lw_Z below #[.ref b] s) (F0 m 892 ls []) := by
  obtain ⟨X, hX, hbl, hl, hRc, tail, f, hH, hT1, hT2, hT3, hV⟩ := hC
  have hbA : ¬ (fun q : Nat => s.heap.size ≤ q) b := Nat.not_le.mpr hbl
  refine law_two (E := E1) (Y1 := Y80) (Y2 := Y81) (M1 := M116) (M2 := M117) (i1 := 113) (i2 := 116) (n := 0) (pc1 := 893) (pc2 := 897) (kx := 0) (km := 33) (As := []) (ps := []) X hl hH hT1 hV trivial ⟨rfl, rfl⟩ ⟨rfl, rfl⟩ (by decide +kernel) ⟨_, _, rfl⟩ (H116 l D t _) (H117 l D t _) lm1_23 lm2_23 (by decide +kernel) rfl (by decide +kernel) rfl (by decide) (by decide) hRc rfl (by decide +kernel) (by decide +kernel) (by decide +kernel) (by decide +kernel) (fun H locs st hS k => larg_ok X hX hbl hbA hS hl [] 893 st (by decide +kernel) k) (fun H locs st hS k => larg_ok X hX hbl hbA hS hl [] 897 st (by decide +kernel) k) ?_
  intro ov1 ov2 o1 o2 f1 f2 r2 m1 m2 q1 q2 H1 locs1 hH1
  have rc := agr_ok (rc := rceqI) (n := 0) (M1 := M116) (M2 := M117) (by decide +kernel) m1 m2 q1 q2 rfl
  obtain ⟨i, rfl, rfl⟩ := rceqI_ok q1.2.1 q2.2.1 rc
  exact law_caseI (off := 993) X (by decide +kernel) (by decide) (tail H1 locs1 f2 hH1)
theorem lm1_24 : ML1 RL Y82 117 0 0 10 := ML1.v (Y := Y82) mw_905 mw_908 mw_1 (by decide +kernel) (by decide) mw_906 mw_907 rfl
theorem lm2_24 : ML1 RL Y83 120 0 0 11 := ML1.v (Y := Y83) mw_1785 mw_1788 mw_12 (by decide +kernel) (by decide) mw_1786 mw_1787 rfl
theorem case_24 {p : Program} {l : Launch} {e : Env} {s : State} {m : MethodId} {below : List Frame} {meth : Method} {c : Code} {b : Nat} {xs : Nat → Int32} {D : va_G} {t : Nat → ClassId} {H : Heap} {locs : List Loc} {ls : Array Slot} {cells slots : Nat} (hC : LCTX p l e s m below meth c b xs D t H locs ls cells slots) : W p l e room_1 s m #[.ref b] below meth c H locs cells slots (lw_Z below #[.ref b] s) (F0 m 905 ls []) := by
  obtain ⟨X, hX, hbl, hl, hRc, tail, f, hH, hT1, hT2, hT3, hV⟩ := hC
  have hbA : ¬ (fun q : Nat => s.heap.size ≤ q) b := Nat.not_le.mpr hbl
  refine law_two (E := E1) (Y1 := Y82) (Y2 := Y83) (M1 := M118) (M2 := M119) (i1 := 117) (i2 := 120) (n := 0) (pc1 := 906) (pc2 := 910) (kx := 0) (km := 33) (As := []) (ps := []) X hl hH hT1 hV trivial ⟨rfl, rfl⟩ ⟨rfl, rfl⟩ (by decide +kernel) ⟨_, _, rfl⟩ (H118 l D t _) (H119 l D t _) lm1_24 lm2_24 (by decide +kernel) rfl (by decide +kernel) rfl (by decide) (by decide) hRc rfl (by decide +kernel) (by decide +kernel) (by decide +kernel) (by decide +kernel) (fun H locs st hS k => larg_ok X hX hbl hbA hS hl [] 906 st (by decide +kernel) k) (fun H locs st hS k => larg_ok X hX hbl hbA hS hl [] 910 st (by decide +kernel) k) ?_
  intro ov1 ov2 o1 o2 f1 f2 r2 m1 m2 q1 q2 H1 locs1 hH1
  have rc := agr_ok (rc := rceqI) (n := 0) (M1 := M118) (M2 := M119) (by decide +kernel) m1 m2 q1 q2 rfl
  obtain ⟨i, rfl, rfl⟩ := rceqI_ok q1.2.1 q2.2.1 rc
  exact law_caseI (off := 980) X (by decide +kernel) (by decide) (tail H1 locs1 f2 hH1)
theorem lm1_25 : ML1 RL Y84 121 0 0 10 := ML1.v (Y := Y84) mw_909 mw_912 mw_1 (by decide +kernel) (by decide) mw_910 mw_911 rfl
theorem lm2_25 : ML1 RL Y85 124 0 0 11 := ML1.v (Y := Y85) mw_1789 mw_1792 mw_12 (by decide +kernel) (by decide) mw_1790 mw_1791 rfl
theorem case_25 {p : Program} {l : Launch} {e : Env} {s : State} {m : MethodId} {below : List Frame} {meth : Method} {c : Code} {b : Nat} {xs : Nat → Int32} {D : va_G} {t : Nat → ClassId} {H : Heap} {locs : List Loc} {ls : Array Slot} {cells slots : Nat} (hC : LCTX p l e s m below meth c b xs D t H locs ls cells slots) : W p l e room_1 s m #[.ref b] below meth c H locs cells slots (lw_Z below #[.ref b] s) (F0 m 918 ls []) := by
  obtain ⟨X, hX, hbl, hl, hRc, tail, f, hH, hT1, hT2, hT3, hV⟩ := hC
  have hbA : ¬ (fun q : Nat => s.heap.size ≤ q) b := Nat.not_le.mpr hbl
  refine law_two (E := E1) (Y1 := Y84) (Y2 := Y85) (M1 := M120) (M2 := M121) (i1 := 121) (i2 := 124) (n := 0) (pc1 := 919) (pc2 := 923) (kx := 0) (km := 33) (As := []) (ps := []) X hl hH hT1 hV trivial ⟨rfl, rfl⟩ ⟨rfl, rfl⟩ (by decide +kernel) ⟨_, _, rfl⟩ (H120 l D t _) (H121 l D t _) lm1_25 lm2_25 (by decide +kernel) rfl (by decide +kernel) rfl (by decide) (by decide) hRc rfl (by decide +kernel) (by decide +kernel) (by decide +kernel) (by decide +kernel) (fun H locs st hS k => larg_ok X hX hbl hbA hS hl [] 919 st (by decide +kernel) k) (fun H locs st hS k => larg_ok X hX hbl hbA hS hl [] 923 st (by decide +kernel) k) ?_
  intro ov1 ov2 o1 o2 f1 f2 r2 m1 m2 q1 q2 H1 locs1 hH1
  have rc := agr_ok (rc := rceqI) (n := 0) (M1 := M120) (M2 := M121) (by decide +kernel) m1 m2 q1 q2 rfl
  obtain ⟨i, rfl, rfl⟩ := rceqI_ok q1.2.1 q2.2.1 rc
  exact law_caseI (off := 967) X (by decide +kernel) (by decide) (tail H1 locs1 f2 hH1)
theorem lm1_26 : ML1 RL Y86 125 0 0 10 := ML1.v (Y := Y86) mw_913 mw_916 mw_1 (by decide +kernel) (by decide) mw_914 mw_915 rfl
theorem lm2_26 : ML1 RL Y87 128 0 0 11 := ML1.v (Y := Y87) mw_1793 mw_1796 mw_12 (by decide +kernel) (by decide) mw_1794 mw_1795 rfl
theorem case_26 {p : Program} {l : Launch} {e : Env} {s : State} {m : MethodId} {below : List Frame} {meth : Method} {c : Code} {b : Nat} {xs : Nat → Int32} {D : va_G} {t : Nat → ClassId} {H : Heap} {locs : List Loc} {ls : Array Slot} {cells slots : Nat} (hC : LCTX p l e s m below meth c b xs D t H locs ls cells slots) : W p l e room_1 s m #[.ref b] below meth c H locs cells slots (lw_Z below #[.ref b] s) (F0 m 931 ls []) := by
  obtain ⟨X, hX, hbl, hl, hRc, tail, f, hH, hT1, hT2, hT3, hV⟩ := hC
  have hbA : ¬ (fun q : Nat => s.heap.size ≤ q) b := Nat.not_le.mpr hbl
  refine law_two (E := E1) (Y1 := Y86) (Y2 := Y87) (M1 := M122) (M2 := M123) (i1 := 125) (i2 := 128) (n := 0) (pc1 := 932) (pc2 := 936) (kx := 0) (km := 33) (As := []) (ps := []) X hl hH hT1 hV trivial ⟨rfl, rfl⟩ ⟨rfl, rfl⟩ (by decide +kernel) ⟨_, _, rfl⟩ (H122 l D t _) (H123 l D t _) lm1_26 lm2_26 (by decide +kernel) rfl (by decide +kernel) rfl (by decide) (by decide) hRc rfl (by decide +kernel) (by decide +kernel) (by decide +kernel) (by decide +kernel) (fun H locs st hS k => larg_ok X hX hbl hbA hS hl [] 932 st (by decide +kernel) k) (fun H locs st hS k => larg_ok X hX hbl hbA hS hl [] 936 st (by decide +kernel) k) ?_
  intro ov1 ov2 o1 o2 f1 f2 r2 m1 m2 q1 q2 H1 locs1 hH1
  have rc := agr_ok (rc := rceqI) (n := 0) (M1 := M122) (M2 := M123) (by decide +kernel) m1 m2 q1 q2 rfl
  obtain ⟨i, rfl, rfl⟩ := rceqI_ok q1.2.1 q2.2.1 rc
  exact law_caseI (off := 954) X (by decide +kernel) (by decide) (tail H1 locs1 f2 hH1)
theorem lm1_27 : ML1 RL Y88 129 0 0 10 := ML1.v (Y := Y88) mw_925 mw_928 mw_1 (by decide +kernel) (by decide) mw_926 mw_927 rfl
theorem lm2_27 : ML1 RL Y89 132 0 0 11 := ML1.v (Y := Y89) mw_1797 mw_1800 mw_12 (by decide +kernel) (by decide) mw_1798 mw_1799 rfl
theorem case_27 {p : Program} {l : Launch} {e : Env} {s : State} {m : MethodId} {below : List Frame} {meth : Method} {c : Code} {b : Nat} {xs : Nat → Int32} {D : va_G} {t : Nat → ClassId} {H : Heap} {locs : List Loc} {ls : Array Slot} {cells slots : Nat} (hC : LCTX p l e s m below meth c b xs D t H locs ls cells slots) : W p l e room_1 s m #[.ref b] below meth c H locs cells slots (lw_Z below #[.ref b] s) (F0 m 944 ls []) := by
  obtain ⟨X, hX, hbl, hl, hRc, tail, f, hH, hT1, hT2, hT3, hV⟩ := hC
  have hbA : ¬ (fun q : Nat => s.heap.size ≤ q) b := Nat.not_le.mpr hbl
  refine law_two (E := E1) (Y1 := Y88) (Y2 := Y89) (M1 := M124) (M2 := M125) (i1 := 129) (i2 := 132) (n := 0) (pc1 := 945) (pc2 := 949) (kx := 0) (km := 33) (As := []) (ps := []) X hl hH hT1 hV trivial ⟨rfl, rfl⟩ ⟨rfl, rfl⟩ (by decide +kernel) ⟨_, _, rfl⟩ (H124 l D t _) (H125 l D t _) lm1_27 lm2_27 (by decide +kernel) rfl (by decide +kernel) rfl (by decide) (by decide) hRc rfl (by decide +kernel) (by decide +kernel) (by decide +kernel) (by decide +kernel) (fun H locs st hS k => larg_ok X hX hbl hbA hS hl [] 945 st (by decide +kernel) k) (fun H locs st hS k => larg_ok X hX hbl hbA hS hl [] 949 st (by decide +kernel) k) ?_
  intro ov1 ov2 o1 o2 f1 f2 r2 m1 m2 q1 q2 H1 locs1 hH1
  have rc := agr_ok (rc := rceqI) (n := 0) (M1 := M124) (M2 := M125) (by decide +kernel) m1 m2 q1 q2 rfl
  obtain ⟨i, rfl, rfl⟩ := rceqI_ok q1.2.1 q2.2.1 rc
  exact law_caseI (off := 941) X (by decide +kernel) (by decide) (tail H1 locs1 f2 hH1)
theorem lm1_28 : ML1 RL Y90 133 0 1 10 := ML1.v (Y := Y90) mw_929 mw_932 mw_1 (by decide +kernel) (by decide) mw_930 mw_931 rfl
theorem lm2_28 : ML1 RL Y92 136 0 1 11 := ML1.v (Y := Y92) mw_1801 mw_1804 mw_12 (by decide +kernel) (by decide) mw_1802 mw_1803 rfl
theorem case_28 {p : Program} {l : Launch} {e : Env} {s : State} {m : MethodId} {below : List Frame} {meth : Method} {c : Code} {b : Nat} {xs : Nat → Int32} {D : va_G} {t : Nat → ClassId} {H : Heap} {locs : List Loc} {ls : Array Slot} {cells slots : Nat} (hC : LCTX p l e s m below meth c b xs D t H locs ls cells slots) : W p l e room_1 s m #[.ref b] below meth c H locs cells slots (lw_Z below #[.ref b] s) (F0 m 957 ls []) := by
  obtain ⟨X, hX, hbl, hl, hRc, tail, f, hH, hT1, hT2, hT3, hV⟩ := hC
  have hbA : ¬ (fun q : Nat => s.heap.size ≤ q) b := Nat.not_le.mpr hbl
  refine law_two (E := E1) (Y1 := Y90) (Y2 := Y92) (M1 := M126) (M2 := M128) (i1 := 133) (i2 := 136) (n := 1) (pc1 := 963) (pc2 := 972) (kx := 0) (km := 33) (As := [.int (xs 1)]) (ps := [pI (-2147483648) 2147483647]) X hl hH hT1 hV ⟨⟨xs 1, rfl, rfl, (i32_b _).1, (i32_b _).2⟩, trivial⟩ ⟨rfl, rfl⟩ ⟨rfl, rfl⟩ (by decide +kernel) ⟨_, _, rfl⟩ (H126 l D t _) (H128 l D t _) lm1_28 lm2_28 (by decide +kernel) rfl (by decide +kernel) rfl (by decide) (by decide) hRc rfl (by decide +kernel) (by decide +kernel) (by decide +kernel) (by decide +kernel) (fun H locs st hS k => larg_ok X hX hbl hbA hS hl [1] 958 st (by decide +kernel) k) (fun H locs st hS k => larg_ok X hX hbl hbA hS hl [1] 967 st (by decide +kernel) k) ?_
  intro ov1 ov2 o1 o2 f1 f2 r2 m1 m2 q1 q2 H1 locs1 hH1
  have rc := agr_ok (rc := rceqI) (n := 1) (M1 := M126) (M2 := M128) (by decide +kernel) m1 m2 q1 q2 rfl
  obtain ⟨i, rfl, rfl⟩ := rceqI_ok q1.2.1 q2.2.1 rc
  exact law_caseI (off := 918) X (by decide +kernel) (by decide) (tail H1 locs1 f2 hH1)
theorem lm1_29 : ML1 RL Y93 137 0 0 10 := ML1.v (Y := Y93) mw_939 mw_942 mw_1 (by decide +kernel) (by decide) mw_940 mw_941 rfl
theorem lm2_29 : ML1 RL Y94 140 0 0 11 := ML1.v (Y := Y94) mw_1809 mw_1812 mw_12 (by decide +kernel) (by decide) mw_1810 mw_1811 rfl
theorem case_29 {p : Program} {l : Launch} {e : Env} {s : State} {m : MethodId} {below : List Frame} {meth : Method} {c : Code} {b : Nat} {xs : Nat → Int32} {D : va_G} {t : Nat → ClassId} {H : Heap} {locs : List Loc} {ls : Array Slot} {cells slots : Nat} (hC : LCTX p l e s m below meth c b xs D t H locs ls cells slots) : W p l e room_1 s m #[.ref b] below meth c H locs cells slots (lw_Z below #[.ref b] s) (F0 m 980 ls []) := by
  obtain ⟨X, hX, hbl, hl, hRc, tail, f, hH, hT1, hT2, hT3, hV⟩ := hC
  have hbA : ¬ (fun q : Nat => s.heap.size ≤ q) b := Nat.not_le.mpr hbl
  refine law_two (E := E1) (Y1 := Y93) (Y2 := Y94) (M1 := M129) (M2 := M130) (i1 := 137) (i2 := 140) (n := 0) (pc1 := 981) (pc2 := 985) (kx := 0) (km := 33) (As := []) (ps := []) X hl hH hT1 hV trivial ⟨rfl, rfl⟩ ⟨rfl, rfl⟩ (by decide +kernel) ⟨_, _, rfl⟩ (H129 l D t _) (H130 l D t _) lm1_29 lm2_29 (by decide +kernel) rfl (by decide +kernel) rfl (by decide) (by decide) hRc rfl (by decide +kernel) (by decide +kernel) (by decide +kernel) (by decide +kernel) (fun H locs st hS k => larg_ok X hX hbl hbA hS hl [] 981 st (by decide +kernel) k) (fun H locs st hS k => larg_ok X hX hbl hbA hS hl [] 985 st (by decide +kernel) k) ?_
  intro ov1 ov2 o1 o2 f1 f2 r2 m1 m2 q1 q2 H1 locs1 hH1
  have rc := agr_ok (rc := rceqI) (n := 0) (M1 := M129) (M2 := M130) (by decide +kernel) m1 m2 q1 q2 rfl
  obtain ⟨i, rfl, rfl⟩ := rceqI_ok q1.2.1 q2.2.1 rc
  exact law_caseI (off := 905) X (by decide +kernel) (by decide) (tail H1 locs1 f2 hH1)
theorem lm1_30 : ML1 RL Y95 141 0 0 10 := ML1.v (Y := Y95) mw_958 mw_961 mw_1 (by decide +kernel) (by decide) mw_959 mw_960 rfl
theorem lm2_30 : ML1 RL Y96 144 0 0 11 := ML1.v (Y := Y96) mw_1817 mw_1820 mw_12 (by decide +kernel) (by decide) mw_1818 mw_1819 rfl
theorem case_30 {p : Program} {l : Launch} {e : Env} {s : State} {m : MethodId} {below : List Frame} {meth : Method} {c : Code} {b : Nat} {xs : Nat → Int32} {D : va_G} {t : Nat → ClassId} {H : Heap} {locs : List Loc} {ls : Array Slot} {cells slots : Nat} (hC : LCTX p l e s m below meth c b xs D t H locs ls cells slots) : W p l e room_1 s m #[.ref b] below meth c H locs cells slots (lw_Z below #[.ref b] s) (F0 m 993 ls []) := by
  obtain ⟨X, hX, hbl, hl, hRc, tail, f, hH, hT1, hT2, hT3, hV⟩ := hC
  have hbA : ¬ (fun q : Nat => s.heap.size ≤ q) b := Nat.not_le.mpr hbl
  refine law_two (E := E1) (Y1 := Y95) (Y2 := Y96) (M1 := M131) (M2 := M132) (i1 := 141) (i2 := 144) (n := 0) (pc1 := 994) (pc2 := 998) (kx := 0) (km := 33) (As := []) (ps := []) X hl hH hT1 hV trivial ⟨rfl, rfl⟩ ⟨rfl, rfl⟩ (by decide +kernel) ⟨_, _, rfl⟩ (H131 l D t _) (H132 l D t _) lm1_30 lm2_30 (by decide +kernel) rfl (by decide +kernel) rfl (by decide) (by decide) hRc rfl (by decide +kernel) (by decide +kernel) (by decide +kernel) (by decide +kernel) (fun H locs st hS k => larg_ok X hX hbl hbA hS hl [] 994 st (by decide +kernel) k) (fun H locs st hS k => larg_ok X hX hbl hbA hS hl [] 998 st (by decide +kernel) k) ?_
  intro ov1 ov2 o1 o2 f1 f2 r2 m1 m2 q1 q2 H1 locs1 hH1
  have rc := agr_ok (rc := rceqI) (n := 0) (M1 := M131) (M2 := M132) (by decide +kernel) m1 m2 q1 q2 rfl
  obtain ⟨i, rfl, rfl⟩ := rceqI_ok q1.2.1 q2.2.1 rc
  exact law_caseI (off := 892) X (by decide +kernel) (by decide) (tail H1 locs1 f2 hH1)
theorem lm1_31 : ML1 RL Y97 145 0 0 10 := ML1.v (Y := Y97) mw_962 mw_965 mw_1 (by decide +kernel) (by decide) mw_963 mw_964 rfl
theorem lm2_31 : ML1 RL Y98 148 0 0 11 := ML1.v (Y := Y98) mw_1821 mw_1824 mw_12 (by decide +kernel) (by decide) mw_1822 mw_1823 rfl
theorem case_31 {p : Program} {l : Launch} {e : Env} {s : State} {m : MethodId} {below : List Frame} {meth : Method} {c : Code} {b : Nat} {xs : Nat → Int32} {D : va_G} {t : Nat → ClassId} {H : Heap} {locs : List Loc} {ls : Array Slot} {cells slots : Nat} (hC : LCTX p l e s m below meth c b xs D t H locs ls cells slots) : W p l e room_1 s m #[.ref b] below meth c H locs cells slots (lw_Z below #[.ref b] s) (F0 m 1006 ls []) := by
  obtain ⟨X, hX, hbl, hl, hRc, tail, f, hH, hT1, hT2, hT3, hV⟩ := hC
  have hbA : ¬ (fun q : Nat => s.heap.size ≤ q) b := Nat.not_le.mpr hbl
  refine law_two (E := E1) (Y1 := Y97) (Y2 := Y98) (M1 := M133) (M2 := M134) (i1 := 145) (i2 := 148) (n := 0) (pc1 := 1007) (pc2 := 1011) (kx := 0) (km := 33) (As := []) (ps := []) X hl hH hT1 hV trivial ⟨rfl, rfl⟩ ⟨rfl, rfl⟩ (by decide +kernel) ⟨_, _, rfl⟩ (H133 l D t _) (H134 l D t _) lm1_31 lm2_31 (by decide +kernel) rfl (by decide +kernel) rfl (by decide) (by decide) hRc rfl (by decide +kernel) (by decide +kernel) (by decide +kernel) (by decide +kernel) (fun H locs st hS k => larg_ok X hX hbl hbA hS hl [] 1007 st (by decide +kernel) k) (fun H locs st hS k => larg_ok X hX hbl hbA hS hl [] 1011 st (by decide +kernel) k) ?_
  intro ov1 ov2 o1 o2 f1 f2 r2 m1 m2 q1 q2 H1 locs1 hH1
  have rc := agr_ok (rc := rceqI) (n := 0) (M1 := M133) (M2 := M134) (by decide +kernel) m1 m2 q1 q2 rfl
  obtain ⟨i, rfl, rfl⟩ := rceqI_ok q1.2.1 q2.2.1 rc
  exact law_caseI (off := 879) X (by decide +kernel) (by decide) (tail H1 locs1 f2 hH1)
theorem lm1_32 : ML1 RL Y99 149 0 2 10 := ML1.v (Y := Y99) mw_971 mw_974 mw_1 (by decide +kernel) (by decide) mw_972 mw_973 rfl
theorem lm2_32 : ML1 RL Y100 152 0 2 11 := ML1.v (Y := Y100) mw_1825 mw_1828 mw_12 (by decide +kernel) (by decide) mw_1826 mw_1827 rfl
theorem case_32 {p : Program} {l : Launch} {e : Env} {s : State} {m : MethodId} {below : List Frame} {meth : Method} {c : Code} {b : Nat} {xs : Nat → Int32} {D : va_G} {t : Nat → ClassId} {H : Heap} {locs : List Loc} {ls : Array Slot} {cells slots : Nat} (hC : LCTX p l e s m below meth c b xs D t H locs ls cells slots) : W p l e room_1 s m #[.ref b] below meth c H locs cells slots (lw_Z below #[.ref b] s) (F0 m 1019 ls []) := by
  obtain ⟨X, hX, hbl, hl, hRc, tail, f, hH, hT1, hT2, hT3, hV⟩ := hC
  have hbA : ¬ (fun q : Nat => s.heap.size ≤ q) b := Nat.not_le.mpr hbl
  refine law_two (E := E1) (Y1 := Y99) (Y2 := Y100) (M1 := M135) (M2 := M136) (i1 := 149) (i2 := 152) (n := 2) (pc1 := 1030) (pc2 := 1044) (kx := 0) (km := 33) (As := [.int (xs 1), .int (xs 2)]) (ps := [pI (-2147483648) 2147483647, pI (-2147483648) 2147483647]) X hl hH hT1 hV ⟨⟨xs 1, rfl, rfl, (i32_b _).1, (i32_b _).2⟩, ⟨⟨xs 2, rfl, rfl, (i32_b _).1, (i32_b _).2⟩, trivial⟩⟩ ⟨rfl, rfl⟩ ⟨rfl, rfl⟩ (by decide +kernel) ⟨_, _, rfl⟩ (H135 l D t _) (H136 l D t _) lm1_32 lm2_32 (by decide +kernel) rfl (by decide +kernel) rfl (by decide) (by decide) hRc rfl (by decide +kernel) (by decide +kernel) (by decide +kernel) (by decide +kernel) (fun H locs st hS k => larg_ok X hX hbl hbA hS hl [1, 2] 1020 st (by decide +kernel) k) (fun H locs st hS k => larg_ok X hX hbl hbA hS hl [1, 2] 1034 st (by decide +kernel) k) ?_
  intro ov1 ov2 o1 o2 f1 f2 r2 m1 m2 q1 q2 H1 locs1 hH1
  have rc := agr_ok (rc := rceqI) (n := 2) (M1 := M135) (M2 := M136) (by decide +kernel) m1 m2 q1 q2 rfl
  obtain ⟨i, rfl, rfl⟩ := rceqI_ok q1.2.1 q2.2.1 rc
  exact law_caseI (off := 846) X (by decide +kernel) (by decide) (tail H1 locs1 f2 hH1)
theorem lm1_33 : ML1 RL Y102 153 0 3 10 := ML1.v (Y := Y102) mw_982 mw_985 mw_1 (by decide +kernel) (by decide) mw_983 mw_984 rfl
theorem lm2_33 : ML1 RL Y104 157 0 3 11 := ML1.v (Y := Y104) mw_1836 mw_1839 mw_12 (by decide +kernel) (by decide) mw_1837 mw_1838 rfl
theorem case_33 {p : Program} {l : Launch} {e : Env} {s : State} {m : MethodId} {below : List Frame} {meth : Method} {c : Code} {b : Nat} {xs : Nat → Int32} {D : va_G} {t : Nat → ClassId} {H : Heap} {locs : List Loc} {ls : Array Slot} {cells slots : Nat} (hC : LCTX p l e s m below meth c b xs D t H locs ls cells slots) : W p l e room_1 s m #[.ref b] below meth c H locs cells slots (lw_Z below #[.ref b] s) (F0 m 1052 ls []) := by
  obtain ⟨X, hX, hbl, hl, hRc, tail, f, hH, hT1, hT2, hT3, hV⟩ := hC
  have hbA : ¬ (fun q : Nat => s.heap.size ≤ q) b := Nat.not_le.mpr hbl
  refine law_two (E := E1) (Y1 := Y102) (Y2 := Y104) (M1 := M138) (M2 := M140) (i1 := 153) (i2 := 157) (n := 3) (pc1 := 1068) (pc2 := 1087) (kx := 0) (km := 33) (As := [.int (xs 1), .int (xs 2), .int (xs 3)]) (ps := [pI (-2147483648) 2147483647, pI (-2147483648) 2147483647, pI (-2147483648) 2147483647]) X hl hH hT1 hV ⟨⟨xs 1, rfl, rfl, (i32_b _).1, (i32_b _).2⟩, ⟨⟨xs 2, rfl, rfl, (i32_b _).1, (i32_b _).2⟩, ⟨⟨xs 3, rfl, rfl, (i32_b _).1, (i32_b _).2⟩, trivial⟩⟩⟩ ⟨rfl, rfl⟩ ⟨rfl, rfl⟩ (by decide +kernel) ⟨_, _, rfl⟩ (H138 l D t _) (H140 l D t _) lm1_33 lm2_33 (by decide +kernel) rfl (by decide +kernel) rfl (by decide) (by decide) hRc rfl (by decide +kernel) (by decide +kernel) (by decide +kernel) (by decide +kernel) (fun H locs st hS k => larg_ok X hX hbl hbA hS hl [1, 2, 3] 1053 st (by decide +kernel) k) (fun H locs st hS k => larg_ok X hX hbl hbA hS hl [1, 2, 3] 1072 st (by decide +kernel) k) ?_
  intro ov1 ov2 o1 o2 f1 f2 r2 m1 m2 q1 q2 H1 locs1 hH1
  have rc := agr_ok (rc := rceqI) (n := 3) (M1 := M138) (M2 := M140) (by decide +kernel) m1 m2 q1 q2 rfl
  obtain ⟨i, rfl, rfl⟩ := rceqI_ok q1.2.1 q2.2.1 rc
  exact law_caseI (off := 803) X (by decide +kernel) (by decide) (tail H1 locs1 f2 hH1)
theorem lm1_34 : ML1 RL Y105 158 0 3 10 := ML1.v (Y := Y105) mw_1000 mw_1003 mw_1 (by decide +kernel) (by decide) mw_1001 mw_1002 rfl
theorem lm2_34 : ML1 RL Y106 161 0 3 11 := ML1.v (Y := Y106) mw_1848 mw_1851 mw_12 (by decide +kernel) (by decide) mw_1849 mw_1850 rfl
theorem case_34 {p : Program} {l : Launch} {e : Env} {s : State} {m : MethodId} {below : List Frame} {meth : Method} {c : Code} {b : Nat} {xs : Nat → Int32} {D : va_G} {t : Nat → ClassId} {H : Heap} {locs : List Loc} {ls : Array Slot} {cells slots : Nat} (hC : LCTX p l e s m below meth c b xs D t H locs ls cells slots) : W p l e room_1 s m #[.ref b] below meth c H locs cells slots (lw_Z below #[.ref b] s) (F0 m 1095 ls []) := by
  obtain ⟨X, hX, hbl, hl, hRc, tail, f, hH, hT1, hT2, hT3, hV⟩ := hC
  have hbA : ¬ (fun q : Nat => s.heap.size ≤ q) b := Nat.not_le.mpr hbl
  refine law_two (E := E1) (Y1 := Y105) (Y2 := Y106) (M1 := M141) (M2 := M142) (i1 := 158) (i2 := 161) (n := 3) (pc1 := 1111) (pc2 := 1130) (kx := 0) (km := 33) (As := [.int (xs 1), .int (xs 2), .int (xs 3)]) (ps := [pI (-2147483648) 2147483647, pI (-2147483648) 2147483647, pI (-2147483648) 2147483647]) X hl hH hT1 hV ⟨⟨xs 1, rfl, rfl, (i32_b _).1, (i32_b _).2⟩, ⟨⟨xs 2, rfl, rfl, (i32_b _).1, (i32_b _).2⟩, ⟨⟨xs 3, rfl, rfl, (i32_b _).1, (i32_b _).2⟩, trivial⟩⟩⟩ ⟨rfl, rfl⟩ ⟨rfl, rfl⟩ (by decide +kernel) ⟨_, _, rfl⟩ (H141 l D t _) (H142 l D t _) lm1_34 lm2_34 (by decide +kernel) rfl (by decide +kernel) rfl (by decide) (by decide) hRc rfl (by decide +kernel) (by decide +kernel) (by decide +kernel) (by decide +kernel) (fun H locs st hS k => larg_ok X hX hbl hbA hS hl [1, 2, 3] 1096 st (by decide +kernel) k) (fun H locs st hS k => larg_ok X hX hbl hbA hS hl [1, 2, 3] 1115 st (by decide +kernel) k) ?_
  intro ov1 ov2 o1 o2 f1 f2 r2 m1 m2 q1 q2 H1 locs1 hH1
  have rc := agr_ok (rc := rceqI) (n := 3) (M1 := M141) (M2 := M142) (by decide +kernel) m1 m2 q1 q2 rfl
  obtain ⟨i, rfl, rfl⟩ := rceqI_ok q1.2.1 q2.2.1 rc
  exact law_caseI (off := 760) X (by decide +kernel) (by decide) (tail H1 locs1 f2 hH1)
theorem lm1_35 : ML1 RL Y108 162 0 2 10 := ML1.v (Y := Y108) mw_1004 mw_1007 mw_1 (by decide +kernel) (by decide) mw_1005 mw_1006 rfl
theorem lm2_35 : ML1 RL Y110 165 0 2 11 := ML1.v (Y := Y110) mw_1852 mw_1855 mw_12 (by decide +kernel) (by decide) mw_1853 mw_1854 rfl
theorem case_35 {p : Program} {l : Launch} {e : Env} {s : State} {m : MethodId} {below : List Frame} {meth : Method} {c : Code} {b : Nat} {xs : Nat → Int32} {D : va_G} {t : Nat → ClassId} {H : Heap} {locs : List Loc} {ls : Array Slot} {cells slots : Nat} (hC : LCTX p l e s m below meth c b xs D t H locs ls cells slots) : W p l e room_1 s m #[.ref b] below meth c H locs cells slots (lw_Z below #[.ref b] s) (F0 m 1138 ls []) := by
  obtain ⟨X, hX, hbl, hl, hRc, tail, f, hH, hT1, hT2, hT3, hV⟩ := hC
  have hbA : ¬ (fun q : Nat => s.heap.size ≤ q) b := Nat.not_le.mpr hbl
  refine law_two (E := E1) (Y1 := Y108) (Y2 := Y110) (M1 := M144) (M2 := M146) (i1 := 162) (i2 := 165) (n := 2) (pc1 := 1149) (pc2 := 1163) (kx := 0) (km := 33) (As := [.int (xs 1), .int (xs 2)]) (ps := [pI (-2147483648) 2147483647, pI (-2147483648) 2147483647]) X hl hH hT1 hV ⟨⟨xs 1, rfl, rfl, (i32_b _).1, (i32_b _).2⟩, ⟨⟨xs 2, rfl, rfl, (i32_b _).1, (i32_b _).2⟩, trivial⟩⟩ ⟨rfl, rfl⟩ ⟨rfl, rfl⟩ (by decide +kernel) ⟨_, _, rfl⟩ (H144 l D t _) (H146 l D t _) lm1_35 lm2_35 (by decide +kernel) rfl (by decide +kernel) rfl (by decide) (by decide) hRc rfl (by decide +kernel) (by decide +kernel) (by decide +kernel) (by decide +kernel) (fun H locs st hS k => larg_ok X hX hbl hbA hS hl [1, 2] 1139 st (by decide +kernel) k) (fun H locs st hS k => larg_ok X hX hbl hbA hS hl [1, 2] 1153 st (by decide +kernel) k) ?_
  intro ov1 ov2 o1 o2 f1 f2 r2 m1 m2 q1 q2 H1 locs1 hH1
  have rc := agr_ok (rc := rceqI) (n := 2) (M1 := M144) (M2 := M146) (by decide +kernel) m1 m2 q1 q2 rfl
  obtain ⟨i, rfl, rfl⟩ := rceqI_ok q1.2.1 q2.2.1 rc
  exact law_caseI (off := 727) X (by decide +kernel) (by decide) (tail H1 locs1 f2 hH1)
theorem lm1_36 : ML1 RL Y111 166 0 3 10 := ML1.v (Y := Y111) mw_1024 mw_1027 mw_1 (by decide +kernel) (by decide) mw_1025 mw_1026 rfl
theorem lm2_36 : ML1 RL Y112 169 0 3 11 := ML1.v (Y := Y112) mw_1868 mw_1871 mw_12 (by decide +kernel) (by decide) mw_1869 mw_1870 rfl
theorem case_36 {p : Program} {l : Launch} {e : Env} {s : State} {m : MethodId} {below : List Frame} {meth : Method} {c : Code} {b : Nat} {xs : Nat → Int32} {D : va_G} {t : Nat → ClassId} {H : Heap} {locs : List Loc} {ls : Array Slot} {cells slots : Nat} (hC : LCTX p l e s m below meth c b xs D t H locs ls cells slots) : W p l e room_1 s m #[.ref b] below meth c H locs cells slots (lw_Z below #[.ref b] s) (F0 m 1171 ls []) := by
  obtain ⟨X, hX, hbl, hl, hRc, tail, f, hH, hT1, hT2, hT3, hV⟩ := hC
  have hbA : ¬ (fun q : Nat => s.heap.size ≤ q) b := Nat.not_le.mpr hbl
  refine law_two (E := E1) (Y1 := Y111) (Y2 := Y112) (M1 := M147) (M2 := M148) (i1 := 166) (i2 := 169) (n := 3) (pc1 := 1187) (pc2 := 1206) (kx := 0) (km := 33) (As := [.int (xs 1), .int (xs 2), .int (xs 3)]) (ps := [pI (-2147483648) 2147483647, pI (-2147483648) 2147483647, pI (-2147483648) 2147483647]) X hl hH hT1 hV ⟨⟨xs 1, rfl, rfl, (i32_b _).1, (i32_b _).2⟩, ⟨⟨xs 2, rfl, rfl, (i32_b _).1, (i32_b _).2⟩, ⟨⟨xs 3, rfl, rfl, (i32_b _).1, (i32_b _).2⟩, trivial⟩⟩⟩ ⟨rfl, rfl⟩ ⟨rfl, rfl⟩ (by decide +kernel) ⟨_, _, rfl⟩ (H147 l D t _) (H148 l D t _) lm1_36 lm2_36 (by decide +kernel) rfl (by decide +kernel) rfl (by decide) (by decide) hRc rfl (by decide +kernel) (by decide +kernel) (by decide +kernel) (by decide +kernel) (fun H locs st hS k => larg_ok X hX hbl hbA hS hl [1, 2, 3] 1172 st (by decide +kernel) k) (fun H locs st hS k => larg_ok X hX hbl hbA hS hl [1, 2, 3] 1191 st (by decide +kernel) k) ?_
  intro ov1 ov2 o1 o2 f1 f2 r2 m1 m2 q1 q2 H1 locs1 hH1
  have rc := agr_ok (rc := rceqI) (n := 3) (M1 := M147) (M2 := M148) (by decide +kernel) m1 m2 q1 q2 rfl
  obtain ⟨i, rfl, rfl⟩ := rceqI_ok q1.2.1 q2.2.1 rc
  exact law_caseI (off := 684) X (by decide +kernel) (by decide) (tail H1 locs1 f2 hH1)
theorem lm1_37 : ML1 RL Y113 170 0 2 10 := ML1.v (Y := Y113) mw_1028 mw_1031 mw_1 (by decide +kernel) (by decide) mw_1029 mw_1030 rfl
theorem lm2_37 : ML1 RL Y114 173 0 2 11 := ML1.v (Y := Y114) mw_1872 mw_1875 mw_12 (by decide +kernel) (by decide) mw_1873 mw_1874 rfl
theorem case_37 {p : Program} {l : Launch} {e : Env} {s : State} {m : MethodId} {below : List Frame} {meth : Method} {c : Code} {b : Nat} {xs : Nat → Int32} {D : va_G} {t : Nat → ClassId} {H : Heap} {locs : List Loc} {ls : Array Slot} {cells slots : Nat} (hC : LCTX p l e s m below meth c b xs D t H locs ls cells slots) : W p l e room_1 s m #[.ref b] below meth c H locs cells slots (lw_Z below #[.ref b] s) (F0 m 1214 ls []) := by
  obtain ⟨X, hX, hbl, hl, hRc, tail, f, hH, hT1, hT2, hT3, hV⟩ := hC
  have hbA : ¬ (fun q : Nat => s.heap.size ≤ q) b := Nat.not_le.mpr hbl
  refine law_two (E := E1) (Y1 := Y113) (Y2 := Y114) (M1 := M149) (M2 := M150) (i1 := 170) (i2 := 173) (n := 2) (pc1 := 1225) (pc2 := 1239) (kx := 0) (km := 33) (As := [.int (xs 1), .int (xs 2)]) (ps := [pI (-2147483648) 2147483647, pI (-2147483648) 2147483647]) X hl hH hT1 hV ⟨⟨xs 1, rfl, rfl, (i32_b _).1, (i32_b _).2⟩, ⟨⟨xs 2, rfl, rfl, (i32_b _).1, (i32_b _).2⟩, trivial⟩⟩ ⟨rfl, rfl⟩ ⟨rfl, rfl⟩ (by decide +kernel) ⟨_, _, rfl⟩ (H149 l D t _) (H150 l D t _) lm1_37 lm2_37 (by decide +kernel) rfl (by decide +kernel) rfl (by decide) (by decide) hRc rfl (by decide +kernel) (by decide +kernel) (by decide +kernel) (by decide +kernel) (fun H locs st hS k => larg_ok X hX hbl hbA hS hl [1, 2] 1215 st (by decide +kernel) k) (fun H locs st hS k => larg_ok X hX hbl hbA hS hl [1, 2] 1229 st (by decide +kernel) k) ?_
  intro ov1 ov2 o1 o2 f1 f2 r2 m1 m2 q1 q2 H1 locs1 hH1
  have rc := agr_ok (rc := rceqI) (n := 2) (M1 := M149) (M2 := M150) (by decide +kernel) m1 m2 q1 q2 rfl
  obtain ⟨i, rfl, rfl⟩ := rceqI_ok q1.2.1 q2.2.1 rc
  exact law_caseI (off := 651) X (by decide +kernel) (by decide) (tail H1 locs1 f2 hH1)
theorem lm1_38 : ML1 RL Y115 174 0 0 10 := ML1.v (Y := Y115) mw_1032 mw_1035 mw_1 (by decide +kernel) (by decide) mw_1033 mw_1034 rfl
theorem lm2_38 : ML1 RL Y116 177 0 0 11 := ML1.v (Y := Y116) mw_1876 mw_1879 mw_12 (by decide +kernel) (by decide) mw_1877 mw_1878 rfl
theorem case_38 {p : Program} {l : Launch} {e : Env} {s : State} {m : MethodId} {below : List Frame} {meth : Method} {c : Code} {b : Nat} {xs : Nat → Int32} {D : va_G} {t : Nat → ClassId} {H : Heap} {locs : List Loc} {ls : Array Slot} {cells slots : Nat} (hC : LCTX p l e s m below meth c b xs D t H locs ls cells slots) : W p l e room_1 s m #[.ref b] below meth c H locs cells slots (lw_Z below #[.ref b] s) (F0 m 1247 ls []) := by
  obtain ⟨X, hX, hbl, hl, hRc, tail, f, hH, hT1, hT2, hT3, hV⟩ := hC
  have hbA : ¬ (fun q : Nat => s.heap.size ≤ q) b := Nat.not_le.mpr hbl
  refine law_two (E := E1) (Y1 := Y115) (Y2 := Y116) (M1 := M151) (M2 := M152) (i1 := 174) (i2 := 177) (n := 0) (pc1 := 1248) (pc2 := 1252) (kx := 0) (km := 33) (As := []) (ps := []) X hl hH hT1 hV trivial ⟨rfl, rfl⟩ ⟨rfl, rfl⟩ (by decide +kernel) ⟨_, _, rfl⟩ (H151 l D t _) (H152 l D t _) lm1_38 lm2_38 (by decide +kernel) rfl (by decide +kernel) rfl (by decide) (by decide) hRc rfl (by decide +kernel) (by decide +kernel) (by decide +kernel) (by decide +kernel) (fun H locs st hS k => larg_ok X hX hbl hbA hS hl [] 1248 st (by decide +kernel) k) (fun H locs st hS k => larg_ok X hX hbl hbA hS hl [] 1252 st (by decide +kernel) k) ?_
  intro ov1 ov2 o1 o2 f1 f2 r2 m1 m2 q1 q2 H1 locs1 hH1
  have rc := agr_ok (rc := rceqI) (n := 0) (M1 := M151) (M2 := M152) (by decide +kernel) m1 m2 q1 q2 rfl
  obtain ⟨i, rfl, rfl⟩ := rceqI_ok q1.2.1 q2.2.1 rc
  exact law_caseI (off := 638) X (by decide +kernel) (by decide) (tail H1 locs1 f2 hH1)
theorem lm1_39 : ML1 RL Y117 178 0 0 10 := ML1.v (Y := Y117) mw_1058 mw_1061 mw_1 (by decide +kernel) (by decide) mw_1059 mw_1060 rfl
theorem lm2_39 : ML1 RL Y118 181 0 0 11 := ML1.v (Y := Y118) mw_1888 mw_1891 mw_12 (by decide +kernel) (by decide) mw_1889 mw_1890 rfl
theorem case_39 {p : Program} {l : Launch} {e : Env} {s : State} {m : MethodId} {below : List Frame} {meth : Method} {c : Code} {b : Nat} {xs : Nat → Int32} {D : va_G} {t : Nat → ClassId} {H : Heap} {locs : List Loc} {ls : Array Slot} {cells slots : Nat} (hC : LCTX p l e s m below meth c b xs D t H locs ls cells slots) : W p l e room_1 s m #[.ref b] below meth c H locs cells slots (lw_Z below #[.ref b] s) (F0 m 1260 ls []) := by
  obtain ⟨X, hX, hbl, hl, hRc, tail, f, hH, hT1, hT2, hT3, hV⟩ := hC
  have hbA : ¬ (fun q : Nat => s.heap.size ≤ q) b := Nat.not_le.mpr hbl
  refine law_two (E := E1) (Y1 := Y117) (Y2 := Y118) (M1 := M153) (M2 := M154) (i1 := 178) (i2 := 181) (n := 0) (pc1 := 1261) (pc2 := 1265) (kx := 0) (km := 33) (As := []) (ps := []) X hl hH hT1 hV trivial ⟨rfl, rfl⟩ ⟨rfl, rfl⟩ (by decide +kernel) ⟨_, _, rfl⟩ (H153 l D t _) (H154 l D t _) lm1_39 lm2_39 (by decide +kernel) rfl (by decide +kernel) rfl (by decide) (by decide) hRc rfl (by decide +kernel) (by decide +kernel) (by decide +kernel) (by decide +kernel) (fun H locs st hS k => larg_ok X hX hbl hbA hS hl [] 1261 st (by decide +kernel) k) (fun H locs st hS k => larg_ok X hX hbl hbA hS hl [] 1265 st (by decide +kernel) k) ?_
  intro ov1 ov2 o1 o2 f1 f2 r2 m1 m2 q1 q2 H1 locs1 hH1
  have rc := agr_ok (rc := rceqI) (n := 0) (M1 := M153) (M2 := M154) (by decide +kernel) m1 m2 q1 q2 rfl
  obtain ⟨i, rfl, rfl⟩ := rceqI_ok q1.2.1 q2.2.1 rc
  exact law_caseI (off := 625) X (by decide +kernel) (by decide) (tail H1 locs1 f2 hH1)
theorem lm1_40 : ML1 RL Y119 182 0 1 10 := ML1.v (Y := Y119) mw_1062 mw_1065 mw_1 (by decide +kernel) (by decide) mw_1063 mw_1064 rfl
theorem lm2_40 : ML1 RL Y120 185 0 1 11 := ML1.v (Y := Y120) mw_1892 mw_1895 mw_12 (by decide +kernel) (by decide) mw_1893 mw_1894 rfl
theorem case_40 {p : Program} {l : Launch} {e : Env} {s : State} {m : MethodId} {below : List Frame} {meth : Method} {c : Code} {b : Nat} {xs : Nat → Int32} {D : va_G} {t : Nat → ClassId} {H : Heap} {locs : List Loc} {ls : Array Slot} {cells slots : Nat} (hC : LCTX p l e s m below meth c b xs D t H locs ls cells slots) : W p l e room_1 s m #[.ref b] below meth c H locs cells slots (lw_Z below #[.ref b] s) (F0 m 1273 ls []) := by
  obtain ⟨X, hX, hbl, hl, hRc, tail, f, hH, hT1, hT2, hT3, hV⟩ := hC
  have hbA : ¬ (fun q : Nat => s.heap.size ≤ q) b := Nat.not_le.mpr hbl
  refine law_two (E := E1) (Y1 := Y119) (Y2 := Y120) (M1 := M155) (M2 := M156) (i1 := 182) (i2 := 185) (n := 1) (pc1 := 1279) (pc2 := 1288) (kx := 0) (km := 33) (As := [.int (xs 1)]) (ps := [pI (-2147483648) 2147483647]) X hl hH hT1 hV ⟨⟨xs 1, rfl, rfl, (i32_b _).1, (i32_b _).2⟩, trivial⟩ ⟨rfl, rfl⟩ ⟨rfl, rfl⟩ (by decide +kernel) ⟨_, _, rfl⟩ (H155 l D t _) (H156 l D t _) lm1_40 lm2_40 (by decide +kernel) rfl (by decide +kernel) rfl (by decide) (by decide) hRc rfl (by decide +kernel) (by decide +kernel) (by decide +kernel) (by decide +kernel) (fun H locs st hS k => larg_ok X hX hbl hbA hS hl [1] 1274 st (by decide +kernel) k) (fun H locs st hS k => larg_ok X hX hbl hbA hS hl [1] 1283 st (by decide +kernel) k) ?_
  intro ov1 ov2 o1 o2 f1 f2 r2 m1 m2 q1 q2 H1 locs1 hH1
  have rc := agr_ok (rc := rceqI) (n := 1) (M1 := M155) (M2 := M156) (by decide +kernel) m1 m2 q1 q2 rfl
  obtain ⟨i, rfl, rfl⟩ := rceqI_ok q1.2.1 q2.2.1 rc
  exact law_caseI (off := 602) X (by decide +kernel) (by decide) (tail H1 locs1 f2 hH1)
theorem lm1_41 : ML1 RL Y121 186 0 1 10 := ML1.v (Y := Y121) mw_1070 mw_1073 mw_1 (by decide +kernel) (by decide) mw_1071 mw_1072 rfl
theorem lm2_41 : ML1 RL Y122 189 0 1 11 := ML1.v (Y := Y122) mw_1900 mw_1903 mw_12 (by decide +kernel) (by decide) mw_1901 mw_1902 rfl
theorem case_41 {p : Program} {l : Launch} {e : Env} {s : State} {m : MethodId} {below : List Frame} {meth : Method} {c : Code} {b : Nat} {xs : Nat → Int32} {D : va_G} {t : Nat → ClassId} {H : Heap} {locs : List Loc} {ls : Array Slot} {cells slots : Nat} (hC : LCTX p l e s m below meth c b xs D t H locs ls cells slots) : W p l e room_1 s m #[.ref b] below meth c H locs cells slots (lw_Z below #[.ref b] s) (F0 m 1296 ls []) := by
  obtain ⟨X, hX, hbl, hl, hRc, tail, f, hH, hT1, hT2, hT3, hV⟩ := hC
  have hbA : ¬ (fun q : Nat => s.heap.size ≤ q) b := Nat.not_le.mpr hbl
  refine law_two (E := E1) (Y1 := Y121) (Y2 := Y122) (M1 := M157) (M2 := M158) (i1 := 186) (i2 := 189) (n := 1) (pc1 := 1302) (pc2 := 1311) (kx := 0) (km := 33) (As := [.int (xs 1)]) (ps := [pI (-2147483648) 2147483647]) X hl hH hT1 hV ⟨⟨xs 1, rfl, rfl, (i32_b _).1, (i32_b _).2⟩, trivial⟩ ⟨rfl, rfl⟩ ⟨rfl, rfl⟩ (by decide +kernel) ⟨_, _, rfl⟩ (H157 l D t _) (H158 l D t _) lm1_41 lm2_41 (by decide +kernel) rfl (by decide +kernel) rfl (by decide) (by decide) hRc rfl (by decide +kernel) (by decide +kernel) (by decide +kernel) (by decide +kernel) (fun H locs st hS k => larg_ok X hX hbl hbA hS hl [1] 1297 st (by decide +kernel) k) (fun H locs st hS k => larg_ok X hX hbl hbA hS hl [1] 1306 st (by decide +kernel) k) ?_
  intro ov1 ov2 o1 o2 f1 f2 r2 m1 m2 q1 q2 H1 locs1 hH1
  have rc := agr_ok (rc := rceqI) (n := 1) (M1 := M157) (M2 := M158) (by decide +kernel) m1 m2 q1 q2 rfl
  obtain ⟨i, rfl, rfl⟩ := rceqI_ok q1.2.1 q2.2.1 rc
  exact law_caseI (off := 579) X (by decide +kernel) (by decide) (tail H1 locs1 f2 hH1)
theorem lm1_42 : ML1 RL Y124 190 0 1 10 := ML1.v (Y := Y124) mw_1074 mw_1077 mw_1 (by decide +kernel) (by decide) mw_1075 mw_1076 rfl
theorem lm2_42 : ML1 RL Y125 193 0 1 11 := ML1.v (Y := Y125) mw_1904 mw_1907 mw_12 (by decide +kernel) (by decide) mw_1905 mw_1906 rfl
theorem case_42 {p : Program} {l : Launch} {e : Env} {s : State} {m : MethodId} {below : List Frame} {meth : Method} {c : Code} {b : Nat} {xs : Nat → Int32} {D : va_G} {t : Nat → ClassId} {H : Heap} {locs : List Loc} {ls : Array Slot} {cells slots : Nat} (hC : LCTX p l e s m below meth c b xs D t H locs ls cells slots) : W p l e room_1 s m #[.ref b] below meth c H locs cells slots (lw_Z below #[.ref b] s) (F0 m 1319 ls []) := by
  obtain ⟨X, hX, hbl, hl, hRc, tail, f, hH, hT1, hT2, hT3, hV⟩ := hC
  have hbA : ¬ (fun q : Nat => s.heap.size ≤ q) b := Nat.not_le.mpr hbl
  refine law_two (E := E1) (Y1 := Y124) (Y2 := Y125) (M1 := M160) (M2 := M161) (i1 := 190) (i2 := 193) (n := 1) (pc1 := 1325) (pc2 := 1334) (kx := 0) (km := 33) (As := [.int (xs 1)]) (ps := [pI (-2147483648) 2147483647]) X hl hH hT1 hV ⟨⟨xs 1, rfl, rfl, (i32_b _).1, (i32_b _).2⟩, trivial⟩ ⟨rfl, rfl⟩ ⟨rfl, rfl⟩ (by decide +kernel) ⟨_, _, rfl⟩ (H160 l D t _) (H161 l D t _) lm1_42 lm2_42 (by decide +kernel) rfl (by decide +kernel) rfl (by decide) (by decide) hRc rfl (by decide +kernel) (by decide +kernel) (by decide +kernel) (by decide +kernel) (fun H locs st hS k => larg_ok X hX hbl hbA hS hl [1] 1320 st (by decide +kernel) k) (fun H locs st hS k => larg_ok X hX hbl hbA hS hl [1] 1329 st (by decide +kernel) k) ?_
  intro ov1 ov2 o1 o2 f1 f2 r2 m1 m2 q1 q2 H1 locs1 hH1
  have rc := agr_ok (rc := rceqI) (n := 1) (M1 := M160) (M2 := M161) (by decide +kernel) m1 m2 q1 q2 rfl
  obtain ⟨i, rfl, rfl⟩ := rceqI_ok q1.2.1 q2.2.1 rc
  exact law_caseI (off := 556) X (by decide +kernel) (by decide) (tail H1 locs1 f2 hH1)
theorem lm1_43 : ML1 RL Y126 194 0 1 10 := ML1.v (Y := Y126) mw_1087 mw_1090 mw_1 (by decide +kernel) (by decide) mw_1088 mw_1089 rfl
theorem lm2_43 : ML1 RL Y127 197 0 1 11 := ML1.v (Y := Y127) mw_1912 mw_1915 mw_12 (by decide +kernel) (by decide) mw_1913 mw_1914 rfl
theorem case_43 {p : Program} {l : Launch} {e : Env} {s : State} {m : MethodId} {below : List Frame} {meth : Method} {c : Code} {b : Nat} {xs : Nat → Int32} {D : va_G} {t : Nat → ClassId} {H : Heap} {locs : List Loc} {ls : Array Slot} {cells slots : Nat} (hC : LCTX p l e s m below meth c b xs D t H locs ls cells slots) : W p l e room_1 s m #[.ref b] below meth c H locs cells slots (lw_Z below #[.ref b] s) (F0 m 1342 ls []) := by
  obtain ⟨X, hX, hbl, hl, hRc, tail, f, hH, hT1, hT2, hT3, hV⟩ := hC
  have hbA : ¬ (fun q : Nat => s.heap.size ≤ q) b := Nat.not_le.mpr hbl
  refine law_two (E := E1) (Y1 := Y126) (Y2 := Y127) (M1 := M162) (M2 := M163) (i1 := 194) (i2 := 197) (n := 1) (pc1 := 1348) (pc2 := 1357) (kx := 0) (km := 33) (As := [.int (xs 1)]) (ps := [pI (-2147483648) 2147483647]) X hl hH hT1 hV ⟨⟨xs 1, rfl, rfl, (i32_b _).1, (i32_b _).2⟩, trivial⟩ ⟨rfl, rfl⟩ ⟨rfl, rfl⟩ (by decide +kernel) ⟨_, _, rfl⟩ (H162 l D t _) (H163 l D t _) lm1_43 lm2_43 (by decide +kernel) rfl (by decide +kernel) rfl (by decide) (by decide) hRc rfl (by decide +kernel) (by decide +kernel) (by decide +kernel) (by decide +kernel) (fun H locs st hS k => larg_ok X hX hbl hbA hS hl [1] 1343 st (by decide +kernel) k) (fun H locs st hS k => larg_ok X hX hbl hbA hS hl [1] 1352 st (by decide +kernel) k) ?_
  intro ov1 ov2 o1 o2 f1 f2 r2 m1 m2 q1 q2 H1 locs1 hH1
  have rc := agr_ok (rc := rceqI) (n := 1) (M1 := M162) (M2 := M163) (by decide +kernel) m1 m2 q1 q2 rfl
  obtain ⟨i, rfl, rfl⟩ := rceqI_ok q1.2.1 q2.2.1 rc
  exact law_caseI (off := 533) X (by decide +kernel) (by decide) (tail H1 locs1 f2 hH1)
theorem lm1_44 : ML1 RL Y128 198 0 0 10 := ML1.v (Y := Y128) mw_1091 mw_1094 mw_1 (by decide +kernel) (by decide) mw_1092 mw_1093 rfl
theorem lm2_44 : ML1 RL Y129 201 0 0 11 := ML1.v (Y := Y129) mw_1916 mw_1919 mw_12 (by decide +kernel) (by decide) mw_1917 mw_1918 rfl
theorem case_44 {p : Program} {l : Launch} {e : Env} {s : State} {m : MethodId} {below : List Frame} {meth : Method} {c : Code} {b : Nat} {xs : Nat → Int32} {D : va_G} {t : Nat → ClassId} {H : Heap} {locs : List Loc} {ls : Array Slot} {cells slots : Nat} (hC : LCTX p l e s m below meth c b xs D t H locs ls cells slots) : W p l e room_1 s m #[.ref b] below meth c H locs cells slots (lw_Z below #[.ref b] s) (F0 m 1365 ls []) := by
  obtain ⟨X, hX, hbl, hl, hRc, tail, f, hH, hT1, hT2, hT3, hV⟩ := hC
  have hbA : ¬ (fun q : Nat => s.heap.size ≤ q) b := Nat.not_le.mpr hbl
  refine law_two (E := E1) (Y1 := Y128) (Y2 := Y129) (M1 := M164) (M2 := M165) (i1 := 198) (i2 := 201) (n := 0) (pc1 := 1366) (pc2 := 1370) (kx := 0) (km := 33) (As := []) (ps := []) X hl hH hT1 hV trivial ⟨rfl, rfl⟩ ⟨rfl, rfl⟩ (by decide +kernel) ⟨_, _, rfl⟩ (H164 l D t _) (H165 l D t _) lm1_44 lm2_44 (by decide +kernel) rfl (by decide +kernel) rfl (by decide) (by decide) hRc rfl (by decide +kernel) (by decide +kernel) (by decide +kernel) (by decide +kernel) (fun H locs st hS k => larg_ok X hX hbl hbA hS hl [] 1366 st (by decide +kernel) k) (fun H locs st hS k => larg_ok X hX hbl hbA hS hl [] 1370 st (by decide +kernel) k) ?_
  intro ov1 ov2 o1 o2 f1 f2 r2 m1 m2 q1 q2 H1 locs1 hH1
  have rc := agr_ok (rc := rceqI) (n := 0) (M1 := M164) (M2 := M165) (by decide +kernel) m1 m2 q1 q2 rfl
  obtain ⟨i, rfl, rfl⟩ := rceqI_ok q1.2.1 q2.2.1 rc
  exact law_caseI (off := 520) X (by decide +kernel) (by decide) (tail H1 locs1 f2 hH1)
theorem lm1_45 : ML1 RL Y130 202 0 0 10 := ML1.v (Y := Y130) mw_1100 mw_1103 mw_1 (by decide +kernel) (by decide) mw_1101 mw_1102 rfl
theorem lm2_45 : ML1 RL Y131 205 0 0 11 := ML1.v (Y := Y131) mw_1920 mw_1923 mw_12 (by decide +kernel) (by decide) mw_1921 mw_1922 rfl
theorem case_45 {p : Program} {l : Launch} {e : Env} {s : State} {m : MethodId} {below : List Frame} {meth : Method} {c : Code} {b : Nat} {xs : Nat → Int32} {D : va_G} {t : Nat → ClassId} {H : Heap} {locs : List Loc} {ls : Array Slot} {cells slots : Nat} (hC : LCTX p l e s m below meth c b xs D t H locs ls cells slots) : W p l e room_1 s m #[.ref b] below meth c H locs cells slots (lw_Z below #[.ref b] s) (F0 m 1378 ls []) := by
  obtain ⟨X, hX, hbl, hl, hRc, tail, f, hH, hT1, hT2, hT3, hV⟩ := hC
  have hbA : ¬ (fun q : Nat => s.heap.size ≤ q) b := Nat.not_le.mpr hbl
  refine law_two (E := E1) (Y1 := Y130) (Y2 := Y131) (M1 := M166) (M2 := M167) (i1 := 202) (i2 := 205) (n := 0) (pc1 := 1379) (pc2 := 1383) (kx := 0) (km := 33) (As := []) (ps := []) X hl hH hT1 hV trivial ⟨rfl, rfl⟩ ⟨rfl, rfl⟩ (by decide +kernel) ⟨_, _, rfl⟩ (H166 l D t _) (H167 l D t _) lm1_45 lm2_45 (by decide +kernel) rfl (by decide +kernel) rfl (by decide) (by decide) hRc rfl (by decide +kernel) (by decide +kernel) (by decide +kernel) (by decide +kernel) (fun H locs st hS k => larg_ok X hX hbl hbA hS hl [] 1379 st (by decide +kernel) k) (fun H locs st hS k => larg_ok X hX hbl hbA hS hl [] 1383 st (by decide +kernel) k) ?_
  intro ov1 ov2 o1 o2 f1 f2 r2 m1 m2 q1 q2 H1 locs1 hH1
  have rc := agr_ok (rc := rceqI) (n := 0) (M1 := M166) (M2 := M167) (by decide +kernel) m1 m2 q1 q2 rfl
  obtain ⟨i, rfl, rfl⟩ := rceqI_ok q1.2.1 q2.2.1 rc
  exact law_caseI (off := 507) X (by decide +kernel) (by decide) (tail H1 locs1 f2 hH1)
theorem lm1_46 : ML1 RL Y132 206 0 1 10 := ML1.v (Y := Y132) mw_1104 mw_1107 mw_1 (by decide +kernel) (by decide) mw_1105 mw_1106 rfl
theorem lm2_46 : ML1 RL Y133 209 0 1 11 := ML1.v (Y := Y133) mw_1924 mw_1927 mw_12 (by decide +kernel) (by decide) mw_1925 mw_1926 rfl
theorem case_46 {p : Program} {l : Launch} {e : Env} {s : State} {m : MethodId} {below : List Frame} {meth : Method} {c : Code} {b : Nat} {xs : Nat → Int32} {D : va_G} {t : Nat → ClassId} {H : Heap} {locs : List Loc} {ls : Array Slot} {cells slots : Nat} (hC : LCTX p l e s m below meth c b xs D t H locs ls cells slots) : W p l e room_1 s m #[.ref b] below meth c H locs cells slots (lw_Z below #[.ref b] s) (F0 m 1391 ls []) := by
  obtain ⟨X, hX, hbl, hl, hRc, tail, f, hH, hT1, hT2, hT3, hV⟩ := hC
  have hbA : ¬ (fun q : Nat => s.heap.size ≤ q) b := Nat.not_le.mpr hbl
  refine law_two (E := E1) (Y1 := Y132) (Y2 := Y133) (M1 := M168) (M2 := M169) (i1 := 206) (i2 := 209) (n := 1) (pc1 := 1397) (pc2 := 1406) (kx := 0) (km := 33) (As := [.int (xs 1)]) (ps := [pI (-2147483648) 2147483647]) X hl hH hT1 hV ⟨⟨xs 1, rfl, rfl, (i32_b _).1, (i32_b _).2⟩, trivial⟩ ⟨rfl, rfl⟩ ⟨rfl, rfl⟩ (by decide +kernel) ⟨_, _, rfl⟩ (H168 l D t _) (H169 l D t _) lm1_46 lm2_46 (by decide +kernel) rfl (by decide +kernel) rfl (by decide) (by decide) hRc rfl (by decide +kernel) (by decide +kernel) (by decide +kernel) (by decide +kernel) (fun H locs st hS k => larg_ok X hX hbl hbA hS hl [1] 1392 st (by decide +kernel) k) (fun H locs st hS k => larg_ok X hX hbl hbA hS hl [1] 1401 st (by decide +kernel) k) ?_
  intro ov1 ov2 o1 o2 f1 f2 r2 m1 m2 q1 q2 H1 locs1 hH1
  have rc := agr_ok (rc := rceqI) (n := 1) (M1 := M168) (M2 := M169) (by decide +kernel) m1 m2 q1 q2 rfl
  obtain ⟨i, rfl, rfl⟩ := rceqI_ok q1.2.1 q2.2.1 rc
  exact law_caseI (off := 484) X (by decide +kernel) (by decide) (tail H1 locs1 f2 hH1)
theorem lm1_47 : ML1 RL Y134 210 0 0 10 := ML1.v (Y := Y134) mw_1112 mw_1115 mw_1 (by decide +kernel) (by decide) mw_1113 mw_1114 rfl
theorem lm2_47 : ML1 RL Y135 213 0 0 11 := ML1.v (Y := Y135) mw_1928 mw_1931 mw_12 (by decide +kernel) (by decide) mw_1929 mw_1930 rfl
theorem case_47 {p : Program} {l : Launch} {e : Env} {s : State} {m : MethodId} {below : List Frame} {meth : Method} {c : Code} {b : Nat} {xs : Nat → Int32} {D : va_G} {t : Nat → ClassId} {H : Heap} {locs : List Loc} {ls : Array Slot} {cells slots : Nat} (hC : LCTX p l e s m below meth c b xs D t H locs ls cells slots) : W p l e room_1 s m #[.ref b] below meth c H locs cells slots (lw_Z below #[.ref b] s) (F0 m 1414 ls []) := by
  obtain ⟨X, hX, hbl, hl, hRc, tail, f, hH, hT1, hT2, hT3, hV⟩ := hC
  have hbA : ¬ (fun q : Nat => s.heap.size ≤ q) b := Nat.not_le.mpr hbl
  refine law_two (E := E1) (Y1 := Y134) (Y2 := Y135) (M1 := M170) (M2 := M171) (i1 := 210) (i2 := 213) (n := 0) (pc1 := 1415) (pc2 := 1419) (kx := 0) (km := 33) (As := []) (ps := []) X hl hH hT1 hV trivial ⟨rfl, rfl⟩ ⟨rfl, rfl⟩ (by decide +kernel) ⟨_, _, rfl⟩ (H170 l D t _) (H171 l D t _) lm1_47 lm2_47 (by decide +kernel) rfl (by decide +kernel) rfl (by decide) (by decide) hRc rfl (by decide +kernel) (by decide +kernel) (by decide +kernel) (by decide +kernel) (fun H locs st hS k => larg_ok X hX hbl hbA hS hl [] 1415 st (by decide +kernel) k) (fun H locs st hS k => larg_ok X hX hbl hbA hS hl [] 1419 st (by decide +kernel) k) ?_
  intro ov1 ov2 o1 o2 f1 f2 r2 m1 m2 q1 q2 H1 locs1 hH1
  have rc := agr_ok (rc := rceqI) (n := 0) (M1 := M170) (M2 := M171) (by decide +kernel) m1 m2 q1 q2 rfl
  obtain ⟨i, rfl, rfl⟩ := rceqI_ok q1.2.1 q2.2.1 rc
  exact law_caseI (off := 471) X (by decide +kernel) (by decide) (tail H1 locs1 f2 hH1)
theorem lm1_48 : ML1 RL Y137 214 0 1 10 := ML1.v (Y := Y137) mw_1120 mw_1123 mw_1 (by decide +kernel) (by decide) mw_1121 mw_1122 rfl
theorem lm2_48 : ML1 RL Y139 217 0 1 11 := ML1.v (Y := Y139) mw_1932 mw_1935 mw_12 (by decide +kernel) (by decide) mw_1933 mw_1934 rfl
theorem case_48 {p : Program} {l : Launch} {e : Env} {s : State} {m : MethodId} {below : List Frame} {meth : Method} {c : Code} {b : Nat} {xs : Nat → Int32} {D : va_G} {t : Nat → ClassId} {H : Heap} {locs : List Loc} {ls : Array Slot} {cells slots : Nat} (hC : LCTX p l e s m below meth c b xs D t H locs ls cells slots) : W p l e room_1 s m #[.ref b] below meth c H locs cells slots (lw_Z below #[.ref b] s) (F0 m 1427 ls []) := by
  obtain ⟨X, hX, hbl, hl, hRc, tail, f, hH, hT1, hT2, hT3, hV⟩ := hC
  have hbA : ¬ (fun q : Nat => s.heap.size ≤ q) b := Nat.not_le.mpr hbl
  refine law_two (E := E1) (Y1 := Y137) (Y2 := Y139) (M1 := M173) (M2 := M175) (i1 := 214) (i2 := 217) (n := 1) (pc1 := 1433) (pc2 := 1442) (kx := 0) (km := 33) (As := [.int (xs 1)]) (ps := [pI (-2147483648) 2147483647]) X hl hH hT1 hV ⟨⟨xs 1, rfl, rfl, (i32_b _).1, (i32_b _).2⟩, trivial⟩ ⟨rfl, rfl⟩ ⟨rfl, rfl⟩ (by decide +kernel) ⟨_, _, rfl⟩ (H173 l D t _) (H175 l D t _) lm1_48 lm2_48 (by decide +kernel) rfl (by decide +kernel) rfl (by decide) (by decide) hRc rfl (by decide +kernel) (by decide +kernel) (by decide +kernel) (by decide +kernel) (fun H locs st hS k => larg_ok X hX hbl hbA hS hl [1] 1428 st (by decide +kernel) k) (fun H locs st hS k => larg_ok X hX hbl hbA hS hl [1] 1437 st (by decide +kernel) k) ?_
  intro ov1 ov2 o1 o2 f1 f2 r2 m1 m2 q1 q2 H1 locs1 hH1
  have rc := agr_ok (rc := rceqL) (n := 1) (M1 := M173) (M2 := M175) (by decide +kernel) m1 m2 q1 q2 rfl
  obtain ⟨i, rfl, rfl⟩ := rceqL_ok q1.2.1 q2.2.1 rc
  exact law_caseL (off := 447) X (by decide +kernel) (by decide +kernel) (by decide) (tail H1 locs1 f2 hH1)
theorem lm1_49 : ML1 RL Y140 218 0 1 10 := ML1.v (Y := Y140) mw_1129 mw_1132 mw_1 (by decide +kernel) (by decide) mw_1130 mw_1131 rfl
theorem lm2_49 : ML1 RL Y141 221 0 1 11 := ML1.v (Y := Y141) mw_1941 mw_1944 mw_12 (by decide +kernel) (by decide) mw_1942 mw_1943 rfl
theorem case_49 {p : Program} {l : Launch} {e : Env} {s : State} {m : MethodId} {below : List Frame} {meth : Method} {c : Code} {b : Nat} {xs : Nat → Int32} {D : va_G} {t : Nat → ClassId} {H : Heap} {locs : List Loc} {ls : Array Slot} {cells slots : Nat} (hC : LCTX p l e s m below meth c b xs D t H locs ls cells slots) : W p l e room_1 s m #[.ref b] below meth c H locs cells slots (lw_Z below #[.ref b] s) (F0 m 1451 ls []) := by
  obtain ⟨X, hX, hbl, hl, hRc, tail, f, hH, hT1, hT2, hT3, hV⟩ := hC
  have hbA : ¬ (fun q : Nat => s.heap.size ≤ q) b := Nat.not_le.mpr hbl
  refine law_two (E := E1) (Y1 := Y140) (Y2 := Y141) (M1 := M176) (M2 := M177) (i1 := 218) (i2 := 221) (n := 1) (pc1 := 1457) (pc2 := 1466) (kx := 0) (km := 33) (As := [.int (xs 1)]) (ps := [pI (-2147483648) 2147483647]) X hl hH hT1 hV ⟨⟨xs 1, rfl, rfl, (i32_b _).1, (i32_b _).2⟩, trivial⟩ ⟨rfl, rfl⟩ ⟨rfl, rfl⟩ (by decide +kernel) ⟨_, _, rfl⟩ (H176 l D t _) (H177 l D t _) lm1_49 lm2_49 (by decide +kernel) rfl (by decide +kernel) rfl (by decide) (by decide) hRc rfl (by decide +kernel) (by decide +kernel) (by decide +kernel) (by decide +kernel) (fun H locs st hS k => larg_ok X hX hbl hbA hS hl [1] 1452 st (by decide +kernel) k) (fun H locs st hS k => larg_ok X hX hbl hbA hS hl [1] 1461 st (by decide +kernel) k) ?_
  intro ov1 ov2 o1 o2 f1 f2 r2 m1 m2 q1 q2 H1 locs1 hH1
  have rc := agr_ok (rc := rceqI) (n := 1) (M1 := M176) (M2 := M177) (by decide +kernel) m1 m2 q1 q2 rfl
  obtain ⟨i, rfl, rfl⟩ := rceqI_ok q1.2.1 q2.2.1 rc
  exact law_caseI (off := 424) X (by decide +kernel) (by decide) (tail H1 locs1 f2 hH1)
theorem lm1_50 : ML1 RL Y142 222 0 0 10 := ML1.v (Y := Y142) mw_1133 mw_1136 mw_1 (by decide +kernel) (by decide) mw_1134 mw_1135 rfl
theorem lm2_50 : ML1 RL Y143 225 0 0 11 := ML1.v (Y := Y143) mw_1945 mw_1948 mw_12 (by decide +kernel) (by decide) mw_1946 mw_1947 rfl
theorem case_50 {p : Program} {l : Launch} {e : Env} {s : State} {m : MethodId} {below : List Frame} {meth : Method} {c : Code} {b : Nat} {xs : Nat → Int32} {D : va_G} {t : Nat → ClassId} {H : Heap} {locs : List Loc} {ls : Array Slot} {cells slots : Nat} (hC : LCTX p l e s m below meth c b xs D t H locs ls cells slots) : W p l e room_1 s m #[.ref b] below meth c H locs cells slots (lw_Z below #[.ref b] s) (F0 m 1474 ls []) := by
  obtain ⟨X, hX, hbl, hl, hRc, tail, f, hH, hT1, hT2, hT3, hV⟩ := hC
  have hbA : ¬ (fun q : Nat => s.heap.size ≤ q) b := Nat.not_le.mpr hbl
  refine law_two (E := E1) (Y1 := Y142) (Y2 := Y143) (M1 := M178) (M2 := M179) (i1 := 222) (i2 := 225) (n := 0) (pc1 := 1475) (pc2 := 1479) (kx := 0) (km := 33) (As := []) (ps := []) X hl hH hT1 hV trivial ⟨rfl, rfl⟩ ⟨rfl, rfl⟩ (by decide +kernel) ⟨_, _, rfl⟩ (H178 l D t _) (H179 l D t _) lm1_50 lm2_50 (by decide +kernel) rfl (by decide +kernel) rfl (by decide) (by decide) hRc rfl (by decide +kernel) (by decide +kernel) (by decide +kernel) (by decide +kernel) (fun H locs st hS k => larg_ok X hX hbl hbA hS hl [] 1475 st (by decide +kernel) k) (fun H locs st hS k => larg_ok X hX hbl hbA hS hl [] 1479 st (by decide +kernel) k) ?_
  intro ov1 ov2 o1 o2 f1 f2 r2 m1 m2 q1 q2 H1 locs1 hH1
  have rc := agr_ok (rc := rceqI) (n := 0) (M1 := M178) (M2 := M179) (by decide +kernel) m1 m2 q1 q2 rfl
  obtain ⟨i, rfl, rfl⟩ := rceqI_ok q1.2.1 q2.2.1 rc
  exact law_caseI (off := 411) X (by decide +kernel) (by decide) (tail H1 locs1 f2 hH1)
theorem lm1_51 : ML1 RL Y144 226 0 1 10 := ML1.v (Y := Y144) mw_1137 mw_1140 mw_1 (by decide +kernel) (by decide) mw_1138 mw_1139 rfl
theorem lm2_51 : ML1 RL Y145 229 0 1 11 := ML1.v (Y := Y145) mw_1949 mw_1952 mw_12 (by decide +kernel) (by decide) mw_1950 mw_1951 rfl
theorem case_51 {p : Program} {l : Launch} {e : Env} {s : State} {m : MethodId} {below : List Frame} {meth : Method} {c : Code} {b : Nat} {xs : Nat → Int32} {D : va_G} {t : Nat → ClassId} {H : Heap} {locs : List Loc} {ls : Array Slot} {cells slots : Nat} (hC : LCTX p l e s m below meth c b xs D t H locs ls cells slots) : W p l e room_1 s m #[.ref b] below meth c H locs cells slots (lw_Z below #[.ref b] s) (F0 m 1487 ls []) := by
  obtain ⟨X, hX, hbl, hl, hRc, tail, f, hH, hT1, hT2, hT3, hV⟩ := hC
  have hbA : ¬ (fun q : Nat => s.heap.size ≤ q) b := Nat.not_le.mpr hbl
  refine law_two (E := E1) (Y1 := Y144) (Y2 := Y145) (M1 := M180) (M2 := M181) (i1 := 226) (i2 := 229) (n := 1) (pc1 := 1493) (pc2 := 1502) (kx := 0) (km := 33) (As := [.int (xs 1)]) (ps := [pI (-2147483648) 2147483647]) X hl hH hT1 hV ⟨⟨xs 1, rfl, rfl, (i32_b _).1, (i32_b _).2⟩, trivial⟩ ⟨rfl, rfl⟩ ⟨rfl, rfl⟩ (by decide +kernel) ⟨_, _, rfl⟩ (H180 l D t _) (H181 l D t _) lm1_51 lm2_51 (by decide +kernel) rfl (by decide +kernel) rfl (by decide) (by decide) hRc rfl (by decide +kernel) (by decide +kernel) (by decide +kernel) (by decide +kernel) (fun H locs st hS k => larg_ok X hX hbl hbA hS hl [1] 1488 st (by decide +kernel) k) (fun H locs st hS k => larg_ok X hX hbl hbA hS hl [1] 1497 st (by decide +kernel) k) ?_
  intro ov1 ov2 o1 o2 f1 f2 r2 m1 m2 q1 q2 H1 locs1 hH1
  have rc := agr_ok (rc := rceqI) (n := 1) (M1 := M180) (M2 := M181) (by decide +kernel) m1 m2 q1 q2 rfl
  obtain ⟨i, rfl, rfl⟩ := rceqI_ok q1.2.1 q2.2.1 rc
  exact law_caseI (off := 388) X (by decide +kernel) (by decide) (tail H1 locs1 f2 hH1)
theorem lm1_52 : ML1 RL Y146 230 0 0 10 := ML1.v (Y := Y146) mw_1142 mw_1145 mw_1 (by decide +kernel) (by decide) mw_1143 mw_1144 rfl
theorem lm2_52 : ML1 RL Y147 233 0 0 11 := ML1.v (Y := Y147) mw_1953 mw_1956 mw_12 (by decide +kernel) (by decide) mw_1954 mw_1955 rfl
theorem case_52 {p : Program} {l : Launch} {e : Env} {s : State} {m : MethodId} {below : List Frame} {meth : Method} {c : Code} {b : Nat} {xs : Nat → Int32} {D : va_G} {t : Nat → ClassId} {H : Heap} {locs : List Loc} {ls : Array Slot} {cells slots : Nat} (hC : LCTX p l e s m below meth c b xs D t H locs ls cells slots) : W p l e room_1 s m #[.ref b] below meth c H locs cells slots (lw_Z below #[.ref b] s) (F0 m 1510 ls []) := by
  obtain ⟨X, hX, hbl, hl, hRc, tail, f, hH, hT1, hT2, hT3, hV⟩ := hC
  have hbA : ¬ (fun q : Nat => s.heap.size ≤ q) b := Nat.not_le.mpr hbl
  refine law_two (E := E1) (Y1 := Y146) (Y2 := Y147) (M1 := M182) (M2 := M183) (i1 := 230) (i2 := 233) (n := 0) (pc1 := 1511) (pc2 := 1515) (kx := 0) (km := 33) (As := []) (ps := []) X hl hH hT1 hV trivial ⟨rfl, rfl⟩ ⟨rfl, rfl⟩ (by decide +kernel) ⟨_, _, rfl⟩ (H182 l D t _) (H183 l D t _) lm1_52 lm2_52 (by decide +kernel) rfl (by decide +kernel) rfl (by decide) (by decide) hRc rfl (by decide +kernel) (by decide +kernel) (by decide +kernel) (by decide +kernel) (fun H locs st hS k => larg_ok X hX hbl hbA hS hl [] 1511 st (by decide +kernel) k) (fun H locs st hS k => larg_ok X hX hbl hbA hS hl [] 1515 st (by decide +kernel) k) ?_
  intro ov1 ov2 o1 o2 f1 f2 r2 m1 m2 q1 q2 H1 locs1 hH1
  have rc := agr_ok (rc := rceqI) (n := 0) (M1 := M182) (M2 := M183) (by decide +kernel) m1 m2 q1 q2 rfl
  obtain ⟨i, rfl, rfl⟩ := rceqI_ok q1.2.1 q2.2.1 rc
  exact law_caseI (off := 375) X (by decide +kernel) (by decide) (tail H1 locs1 f2 hH1)
theorem lm1_53 : ML1 RL Y148 234 0 2 10 := ML1.v (Y := Y148) mw_1155 mw_1158 mw_1 (by decide +kernel) (by decide) mw_1156 mw_1157 rfl
theorem lm2_53 : ML1 RL Y149 237 0 2 11 := ML1.v (Y := Y149) mw_1961 mw_1964 mw_12 (by decide +kernel) (by decide) mw_1962 mw_1963 rfl
theorem case_53 {p : Program} {l : Launch} {e : Env} {s : State} {m : MethodId} {below : List Frame} {meth : Method} {c : Code} {b : Nat} {xs : Nat → Int32} {D : va_G} {t : Nat → ClassId} {H : Heap} {locs : List Loc} {ls : Array Slot} {cells slots : Nat} (hC : LCTX p l e s m below meth c b xs D t H locs ls cells slots) : W p l e room_1 s m #[.ref b] below meth c H locs cells slots (lw_Z below #[.ref b] s) (F0 m 1523 ls []) := by
  obtain ⟨X, hX, hbl, hl, hRc, tail, f, hH, hT1, hT2, hT3, hV⟩ := hC
  have hbA : ¬ (fun q : Nat => s.heap.size ≤ q) b := Nat.not_le.mpr hbl
  refine law_two (E := E1) (Y1 := Y148) (Y2 := Y149) (M1 := M184) (M2 := M185) (i1 := 234) (i2 := 237) (n := 2) (pc1 := 1534) (pc2 := 1548) (kx := 0) (km := 33) (As := [.int (xs 1), .int (xs 2)]) (ps := [pI (-2147483648) 2147483647, pI (-2147483648) 2147483647]) X hl hH hT1 hV ⟨⟨xs 1, rfl, rfl, (i32_b _).1, (i32_b _).2⟩, ⟨⟨xs 2, rfl, rfl, (i32_b _).1, (i32_b _).2⟩, trivial⟩⟩ ⟨rfl, rfl⟩ ⟨rfl, rfl⟩ (by decide +kernel) ⟨_, _, rfl⟩ (H184 l D t _) (H185 l D t _) lm1_53 lm2_53 (by decide +kernel) rfl (by decide +kernel) rfl (by decide) (by decide) hRc rfl (by decide +kernel) (by decide +kernel) (by decide +kernel) (by decide +kernel) (fun H locs st hS k => larg_ok X hX hbl hbA hS hl [1, 2] 1524 st (by decide +kernel) k) (fun H locs st hS k => larg_ok X hX hbl hbA hS hl [1, 2] 1538 st (by decide +kernel) k) ?_
  intro ov1 ov2 o1 o2 f1 f2 r2 m1 m2 q1 q2 H1 locs1 hH1
  have rc := agr_ok (rc := rceqI) (n := 2) (M1 := M184) (M2 := M185) (by decide +kernel) m1 m2 q1 q2 rfl
  obtain ⟨i, rfl, rfl⟩ := rceqI_ok q1.2.1 q2.2.1 rc
  exact law_caseI (off := 342) X (by decide +kernel) (by decide) (tail H1 locs1 f2 hH1)
theorem lm1_54 : ML1 RL Y150 238 0 2 10 := ML1.v (Y := Y150) mw_1176 mw_1179 mw_1 (by decide +kernel) (by decide) mw_1177 mw_1178 rfl
theorem lm2_54 : ML1 RL Y151 241 0 2 11 := ML1.v (Y := Y151) mw_1975 mw_1978 mw_12 (by decide +kernel) (by decide) mw_1976 mw_1977 rfl
theorem case_54 {p : Program} {l : Launch} {e : Env} {s : State} {m : MethodId} {below : List Frame} {meth : Method} {c : Code} {b : Nat} {xs : Nat → Int32} {D : va_G} {t : Nat → ClassId} {H : Heap} {locs : List Loc} {ls : Array Slot} {cells slots : Nat} (hC : LCTX p l e s m below meth c b xs D t H locs ls cells slots) : W p l e room_1 s m #[.ref b] below meth c H locs cells slots (lw_Z below #[.ref b] s) (F0 m 1556 ls []) := by
  obtain ⟨X, hX, hbl, hl, hRc, tail, f, hH, hT1, hT2, hT3, hV⟩ := hC
  have hbA : ¬ (fun q : Nat => s.heap.size ≤ q) b := Nat.not_le.mpr hbl
  refine law_two (E := E1) (Y1 := Y150) (Y2 := Y151) (M1 := M186) (M2 := M187) (i1 := 238) (i2 := 241) (n := 2) (pc1 := 1567) (pc2 := 1581) (kx := 0) (km := 33) (As := [.int (xs 1), .int (xs 2)]) (ps := [pI (-2147483648) 2147483647, pI (-2147483648) 2147483647]) X hl hH hT1 hV ⟨⟨xs 1, rfl, rfl, (i32_b _).1, (i32_b _).2⟩, ⟨⟨xs 2, rfl, rfl, (i32_b _).1, (i32_b _).2⟩, trivial⟩⟩ ⟨rfl, rfl⟩ ⟨rfl, rfl⟩ (by decide +kernel) ⟨_, _, rfl⟩ (H186 l D t _) (H187 l D t _) lm1_54 lm2_54 (by decide +kernel) rfl (by decide +kernel) rfl (by decide) (by decide) hRc rfl (by decide +kernel) (by decide +kernel) (by decide +kernel) (by decide +kernel) (fun H locs st hS k => larg_ok X hX hbl hbA hS hl [1, 2] 1557 st (by decide +kernel) k) (fun H locs st hS k => larg_ok X hX hbl hbA hS hl [1, 2] 1571 st (by decide +kernel) k) ?_
  intro ov1 ov2 o1 o2 f1 f2 r2 m1 m2 q1 q2 H1 locs1 hH1
  have rc := agr_ok (rc := rceqI) (n := 2) (M1 := M186) (M2 := M187) (by decide +kernel) m1 m2 q1 q2 rfl
  obtain ⟨i, rfl, rfl⟩ := rceqI_ok q1.2.1 q2.2.1 rc
  exact law_caseI (off := 309) X (by decide +kernel) (by decide) (tail H1 locs1 f2 hH1)
theorem lm1_55 : ML1 RL Y152 242 0 2 10 := ML1.v (Y := Y152) mw_1180 mw_1183 mw_1 (by decide +kernel) (by decide) mw_1181 mw_1182 rfl
theorem lm2_55 : ML1 RL Y153 245 0 2 11 := ML1.v (Y := Y153) mw_1980 mw_1983 mw_12 (by decide +kernel) (by decide) mw_1981 mw_1982 rfl
theorem case_55 {p : Program} {l : Launch} {e : Env} {s : State} {m : MethodId} {below : List Frame} {meth : Method} {c : Code} {b : Nat} {xs : Nat → Int32} {D : va_G} {t : Nat → ClassId} {H : Heap} {locs : List Loc} {ls : Array Slot} {cells slots : Nat} (hC : LCTX p l e s m below meth c b xs D t H locs ls cells slots) : W p l e room_1 s m #[.ref b] below meth c H locs cells slots (lw_Z below #[.ref b] s) (F0 m 1589 ls []) := by
  obtain ⟨X, hX, hbl, hl, hRc, tail, f, hH, hT1, hT2, hT3, hV⟩ := hC
  have hbA : ¬ (fun q : Nat => s.heap.size ≤ q) b := Nat.not_le.mpr hbl
  refine law_two (E := E1) (Y1 := Y152) (Y2 := Y153) (M1 := M188) (M2 := M189) (i1 := 242) (i2 := 245) (n := 2) (pc1 := 1600) (pc2 := 1614) (kx := 0) (km := 33) (As := [.int (xs 1), .int (xs 2)]) (ps := [pI (-2147483648) 2147483647, pI (-2147483648) 2147483647]) X hl hH hT1 hV ⟨⟨xs 1, rfl, rfl, (i32_b _).1, (i32_b _).2⟩, ⟨⟨xs 2, rfl, rfl, (i32_b _).1, (i32_b _).2⟩, trivial⟩⟩ ⟨rfl, rfl⟩ ⟨rfl, rfl⟩ (by decide +kernel) ⟨_, _, rfl⟩ (H188 l D t _) (H189 l D t _) lm1_55 lm2_55 (by decide +kernel) rfl (by decide +kernel) rfl (by decide) (by decide) hRc rfl (by decide +kernel) (by decide +kernel) (by decide +kernel) (by decide +kernel) (fun H locs st hS k => larg_ok X hX hbl hbA hS hl [1, 2] 1590 st (by decide +kernel) k) (fun H locs st hS k => larg_ok X hX hbl hbA hS hl [1, 2] 1604 st (by decide +kernel) k) ?_
  intro ov1 ov2 o1 o2 f1 f2 r2 m1 m2 q1 q2 H1 locs1 hH1
  have rc := agr_ok (rc := rceqI) (n := 2) (M1 := M188) (M2 := M189) (by decide +kernel) m1 m2 q1 q2 rfl
  obtain ⟨i, rfl, rfl⟩ := rceqI_ok q1.2.1 q2.2.1 rc
  exact law_caseI (off := 276) X (by decide +kernel) (by decide) (tail H1 locs1 f2 hH1)
theorem lm1_56 : ML1 RL Y154 246 0 1 10 := ML1.v (Y := Y154) mw_1184 mw_1187 mw_1 (by decide +kernel) (by decide) mw_1185 mw_1186 rfl
theorem lm2_56 : ML1 RL Y155 249 0 1 11 := ML1.v (Y := Y155) mw_1984 mw_1987 mw_12 (by decide +kernel) (by decide) mw_1985 mw_1986 rfl
theorem case_56 {p : Program} {l : Launch} {e : Env} {s : State} {m : MethodId} {below : List Frame} {meth : Method} {c : Code} {b : Nat} {xs : Nat → Int32} {D : va_G} {t : Nat → ClassId} {H : Heap} {locs : List Loc} {ls : Array Slot} {cells slots : Nat} (hC : LCTX p l e s m below meth c b xs D t H locs ls cells slots) : W p l e room_1 s m #[.ref b] below meth c H locs cells slots (lw_Z below #[.ref b] s) (F0 m 1622 ls []) := by
  obtain ⟨X, hX, hbl, hl, hRc, tail, f, hH, hT1, hT2, hT3, hV⟩ := hC
  have hbA : ¬ (fun q : Nat => s.heap.size ≤ q) b := Nat.not_le.mpr hbl
  refine law_two (E := E1) (Y1 := Y154) (Y2 := Y155) (M1 := M190) (M2 := M191) (i1 := 246) (i2 := 249) (n := 1) (pc1 := 1628) (pc2 := 1637) (kx := 0) (km := 33) (As := [.int (xs 1)]) (ps := [pI (-2147483648) 2147483647]) X hl hH hT1 hV ⟨⟨xs 1, rfl, rfl, (i32_b _).1, (i32_b _).2⟩, trivial⟩ ⟨rfl, rfl⟩ ⟨rfl, rfl⟩ (by decide +kernel) ⟨_, _, rfl⟩ (H190 l D t _) (H191 l D t _) lm1_56 lm2_56 (by decide +kernel) rfl (by decide +kernel) rfl (by decide) (by decide) hRc rfl (by decide +kernel) (by decide +kernel) (by decide +kernel) (by decide +kernel) (fun H locs st hS k => larg_ok X hX hbl hbA hS hl [1] 1623 st (by decide +kernel) k) (fun H locs st hS k => larg_ok X hX hbl hbA hS hl [1] 1632 st (by decide +kernel) k) ?_
  intro ov1 ov2 o1 o2 f1 f2 r2 m1 m2 q1 q2 H1 locs1 hH1
  have rc := agr_ok (rc := rceqI) (n := 1) (M1 := M190) (M2 := M191) (by decide +kernel) m1 m2 q1 q2 rfl
  obtain ⟨i, rfl, rfl⟩ := rceqI_ok q1.2.1 q2.2.1 rc
  exact law_caseI (off := 253) X (by decide +kernel) (by decide) (tail H1 locs1 f2 hH1)
theorem lm1_57 : ML1 RL Y158 250 0 1 10 := ML1.v (Y := Y158) mw_1189 mw_1192 mw_1 (by decide +kernel) (by decide) mw_1190 mw_1191 rfl
theorem lm2_57 : ML1 RL Y160 253 0 1 11 := ML1.v (Y := Y160) mw_1989 mw_1992 mw_12 (by decide +kernel) (by decide) mw_1990 mw_1991 rfl
theorem case_57 {p : Program} {l : Launch} {e : Env} {s : State} {m : MethodId} {below : List Frame} {meth : Method} {c : Code} {b : Nat} {xs : Nat → Int32} {D : va_G} {t : Nat → ClassId} {H : Heap} {locs : List Loc} {ls : Array Slot} {cells slots : Nat} (hC : LCTX p l e s m below meth c b xs D t H locs ls cells slots) : W p l e room_1 s m #[.ref b] below meth c H locs cells slots (lw_Z below #[.ref b] s) (F0 m 1645 ls []) := by
  obtain ⟨X, hX, hbl, hl, hRc, tail, f, hH, hT1, hT2, hT3, hV⟩ := hC
  have hbA : ¬ (fun q : Nat => s.heap.size ≤ q) b := Nat.not_le.mpr hbl
  refine law_two (E := E1) (Y1 := Y158) (Y2 := Y160) (M1 := M194) (M2 := M196) (i1 := 250) (i2 := 253) (n := 1) (pc1 := 1651) (pc2 := 1660) (kx := 0) (km := 33) (As := [.int (xs 1)]) (ps := [pI (-2147483648) 2147483647]) X hl hH hT1 hV ⟨⟨xs 1, rfl, rfl, (i32_b _).1, (i32_b _).2⟩, trivial⟩ ⟨rfl, rfl⟩ ⟨rfl, rfl⟩ (by decide +kernel) ⟨_, _, rfl⟩ (H194 l D t _) (H196 l D t _) lm1_57 lm2_57 (by decide +kernel) rfl (by decide +kernel) rfl (by decide) (by decide) hRc rfl (by decide +kernel) (by decide +kernel) (by decide +kernel) (by decide +kernel) (fun H locs st hS k => larg_ok X hX hbl hbA hS hl [1] 1646 st (by decide +kernel) k) (fun H locs st hS k => larg_ok X hX hbl hbA hS hl [1] 1655 st (by decide +kernel) k) ?_
  intro ov1 ov2 o1 o2 f1 f2 r2 m1 m2 q1 q2 H1 locs1 hH1
  have rc := agr_ok (rc := rceqI) (n := 1) (M1 := M194) (M2 := M196) (by decide +kernel) m1 m2 q1 q2 rfl
  obtain ⟨i, rfl, rfl⟩ := rceqI_ok q1.2.1 q2.2.1 rc
  exact law_caseI (off := 230) X (by decide +kernel) (by decide) (tail H1 locs1 f2 hH1)
theorem lm1_58 : ML1 RL Y173 254 0 1 10 := ML1.v (Y := Y173) mw_1197 mw_1200 mw_1 (by decide +kernel) (by decide) mw_1198 mw_1199 rfl
theorem lm2_58 : ML1 RL Y174 257 0 1 11 := ML1.v (Y := Y174) mw_1993 mw_1996 mw_12 (by decide +kernel) (by decide) mw_1994 mw_1995 rfl
theorem case_58 {p : Program} {l : Launch} {e : Env} {s : State} {m : MethodId} {below : List Frame} {meth : Method} {c : Code} {b : Nat} {xs : Nat → Int32} {D : va_G} {t : Nat → ClassId} {H : Heap} {locs : List Loc} {ls : Array Slot} {cells slots : Nat} (hC : LCTX p l e s m below meth c b xs D t H locs ls cells slots) : W p l e room_1 s m #[.ref b] below meth c H locs cells slots (lw_Z below #[.ref b] s) (F0 m 1668 ls []) := by
  obtain ⟨X, hX, hbl, hl, hRc, tail, f, hH, hT1, hT2, hT3, hV⟩ := hC
  have hbA : ¬ (fun q : Nat => s.heap.size ≤ q) b := Nat.not_le.mpr hbl
  refine law_two (E := E2) (Y1 := Y173) (Y2 := Y174) (M1 := M219) (M2 := M229) (i1 := 254) (i2 := 257) (n := 1) (pc1 := 1674) (pc2 := 1683) (kx := 0) (km := 33) (As := [.int (xs 1)]) (ps := [pI (-2147483648) 2147483647]) X hl hH hT2 hV ⟨⟨xs 1, rfl, rfl, (i32_b _).1, (i32_b _).2⟩, trivial⟩ ⟨rfl, rfl⟩ ⟨rfl, rfl⟩ (by decide +kernel) ⟨_, _, rfl⟩ (H219 l D t _) (H229 l D t _) lm1_58 lm2_58 (by decide +kernel) rfl (by decide +kernel) rfl (by decide) (by decide) hRc rfl (by decide +kernel) (by decide +kernel) (by decide +kernel) (by decide +kernel) (fun H locs st hS k => larg_ok X hX hbl hbA hS hl [1] 1669 st (by decide +kernel) k) (fun H locs st hS k => larg_ok X hX hbl hbA hS hl [1] 1678 st (by decide +kernel) k) ?_
  intro ov1 ov2 o1 o2 f1 f2 r2 m1 m2 q1 q2 H1 locs1 hH1
  have rc := agr_ok (rc := rceqI) (n := 1) (M1 := M219) (M2 := M229) (by decide +kernel) m1 m2 q1 q2 rfl
  obtain ⟨i, rfl, rfl⟩ := rceqI_ok q1.2.1 q2.2.1 rc
  exact law_caseI (off := 207) X (by decide +kernel) (by decide) (tail H1 locs1 f2 hH1)
theorem lm1_59 : ML1 RL Y161 258 0 1 10 := ML1.v (Y := Y161) mw_1222 mw_1225 mw_1 (by decide +kernel) (by decide) mw_1223 mw_1224 rfl
theorem lm2_59 : ML1 RL Y162 261 0 1 11 := ML1.v (Y := Y162) mw_1997 mw_2000 mw_12 (by decide +kernel) (by decide) mw_1998 mw_1999 rfl
theorem case_59 {p : Program} {l : Launch} {e : Env} {s : State} {m : MethodId} {below : List Frame} {meth : Method} {c : Code} {b : Nat} {xs : Nat → Int32} {D : va_G} {t : Nat → ClassId} {H : Heap} {locs : List Loc} {ls : Array Slot} {cells slots : Nat} (hC : LCTX p l e s m below meth c b xs D t H locs ls cells slots) : W p l e room_1 s m #[.ref b] below meth c H locs cells slots (lw_Z below #[.ref b] s) (F0 m 1691 ls []) := by
  obtain ⟨X, hX, hbl, hl, hRc, tail, f, hH, hT1, hT2, hT3, hV⟩ := hC
  have hbA : ¬ (fun q : Nat => s.heap.size ≤ q) b := Nat.not_le.mpr hbl
  refine law_two (E := E1) (Y1 := Y161) (Y2 := Y162) (M1 := M197) (M2 := M199) (i1 := 258) (i2 := 261) (n := 1) (pc1 := 1697) (pc2 := 1706) (kx := 0) (km := 33) (As := [.int (xs 1)]) (ps := [pI (-2147483648) 2147483647]) X hl hH hT1 hV ⟨⟨xs 1, rfl, rfl, (i32_b _).1, (i32_b _).2⟩, trivial⟩ ⟨rfl, rfl⟩ ⟨rfl, rfl⟩ (by decide +kernel) ⟨_, _, rfl⟩ (H197 l D t _) (H199 l D t _) lm1_59 lm2_59 (by decide +kernel) rfl (by decide +kernel) rfl (by decide) (by decide) hRc rfl (by decide +kernel) (by decide +kernel) (by decide +kernel) (by decide +kernel) (fun H locs st hS k => larg_ok X hX hbl hbA hS hl [1] 1692 st (by decide +kernel) k) (fun H locs st hS k => larg_ok X hX hbl hbA hS hl [1] 1701 st (by decide +kernel) k) ?_
  intro ov1 ov2 o1 o2 f1 f2 r2 m1 m2 q1 q2 H1 locs1 hH1
  have rc := agr_ok (rc := rceqI) (n := 1) (M1 := M197) (M2 := M199) (by decide +kernel) m1 m2 q1 q2 rfl
  obtain ⟨i, rfl, rfl⟩ := rceqI_ok q1.2.1 q2.2.1 rc
  exact law_caseI (off := 184) X (by decide +kernel) (by decide) (tail H1 locs1 f2 hH1)
theorem lm1_60 : ML1 RL Y177 262 0 3 10 := ML1.v (Y := Y177) mw_1226 mw_1229 mw_1 (by decide +kernel) (by decide) mw_1227 mw_1228 rfl
theorem lm2_60 : ML1 RL Y178 265 0 3 11 := ML1.v (Y := Y178) mw_1408 mw_1411 mw_12 (by decide +kernel) (by decide) mw_1409 mw_1410 rfl
theorem case_60 {p : Program} {l : Launch} {e : Env} {s : State} {m : MethodId} {below : List Frame} {meth : Method} {c : Code} {b : Nat} {xs : Nat → Int32} {D : va_G} {t : Nat → ClassId} {H : Heap} {locs : List Loc} {ls : Array Slot} {cells slots : Nat} (hC : LCTX p l e s m below meth c b xs D t H locs ls cells slots) : W p l e room_1 s m #[.ref b] below meth c H locs cells slots (lw_Z below #[.ref b] s) (F0 m 1714 ls []) := by
  obtain ⟨X, hX, hbl, hl, hRc, tail, f, hH, hT1, hT2, hT3, hV⟩ := hC
  have hbA : ¬ (fun q : Nat => s.heap.size ≤ q) b := Nat.not_le.mpr hbl
  refine law_two (E := E3) (Y1 := Y177) (Y2 := Y178) (M1 := M233) (M2 := M236) (i1 := 262) (i2 := 265) (n := 3) (pc1 := 1730) (pc2 := 1749) (kx := 0) (km := 33) (As := [.int (xs 1), .int (xs 2), .int (xs 3)]) (ps := [pI (-2147483648) 2147483647, pI (-2147483648) 2147483647, pI (-2147483648) 2147483647]) X hl hH hT3 hV ⟨⟨xs 1, rfl, rfl, (i32_b _).1, (i32_b _).2⟩, ⟨⟨xs 2, rfl, rfl, (i32_b _).1, (i32_b _).2⟩, ⟨⟨xs 3, rfl, rfl, (i32_b _).1, (i32_b _).2⟩, trivial⟩⟩⟩ ⟨rfl, rfl⟩ ⟨rfl, rfl⟩ (by decide +kernel) ⟨_, _, rfl⟩ (H233 l D t _) (H236 l D t _) lm1_60 lm2_60 (by decide +kernel) rfl (by decide +kernel) rfl (by decide) (by decide) hRc rfl (by decide +kernel) (by decide +kernel) (by decide +kernel) (by decide +kernel) (fun H locs st hS k => larg_ok X hX hbl hbA hS hl [1, 2, 3] 1715 st (by decide +kernel) k) (fun H locs st hS k => larg_ok X hX hbl hbA hS hl [1, 2, 3] 1734 st (by decide +kernel) k) ?_
  intro ov1 ov2 o1 o2 f1 f2 r2 m1 m2 q1 q2 H1 locs1 hH1
  have rc := agr_ok (rc := rceqI) (n := 3) (M1 := M233) (M2 := M236) (by decide +kernel) m1 m2 q1 q2 rfl
  obtain ⟨i, rfl, rfl⟩ := rceqI_ok q1.2.1 q2.2.1 rc
  exact law_caseI (off := 141) X (by decide +kernel) (by decide) (tail H1 locs1 f2 hH1)
theorem lm1_61 : ML1 RL Y163 268 0 3 10 := ML1.v (Y := Y163) mw_1237 mw_1240 mw_1 (by decide +kernel) (by decide) mw_1238 mw_1239 rfl
theorem lm2_61 : ML1 RL Y164 272 0 3 11 := ML1.v (Y := Y164) mw_1419 mw_1422 mw_12 (by decide +kernel) (by decide) mw_1420 mw_1421 rfl
theorem case_61 {p : Program} {l : Launch} {e : Env} {s : State} {m : MethodId} {below : List Frame} {meth : Method} {c : Code} {b : Nat} {xs : Nat → Int32} {D : va_G} {t : Nat → ClassId} {H : Heap} {locs : List Loc} {ls : Array Slot} {cells slots : Nat} (hC : LCTX p l e s m below meth c b xs D t H locs ls cells slots) : W p l e room_1 s m #[.ref b] below meth c H locs cells slots (lw_Z below #[.ref b] s) (F0 m 1757 ls []) := by
  obtain ⟨X, hX, hbl, hl, hRc, tail, f, hH, hT1, hT2, hT3, hV⟩ := hC
  have hbA : ¬ (fun q : Nat => s.heap.size ≤ q) b := Nat.not_le.mpr hbl
  refine law_two (E := E1) (Y1 := Y163) (Y2 := Y164) (M1 := M200) (M2 := M201) (i1 := 268) (i2 := 272) (n := 3) (pc1 := 1788) (pc2 := 1822) (kx := 0) (km := 33) (As := [.int (xs 1), .int (xs 2), .long (wrV xs)]) (ps := [pI (-2147483648) 2147483647, pI (-2147483648) 2147483647, pL (-9223372036854775808) 9223372036854775807]) X hl hH hT1 hV ⟨⟨xs 1, rfl, rfl, (i32_b _).1, (i32_b _).2⟩, ⟨xs 2, rfl, rfl, (i32_b _).1, (i32_b _).2⟩, ⟨wrV xs, rfl, rfl, (i64_b _).1, (i64_b _).2⟩, trivial⟩ ⟨rfl, rfl⟩ ⟨rfl, rfl⟩ (by decide +kernel) ⟨_, _, rfl⟩ (H200 l D t _) (H201 l D t _) lm1_61 lm2_61 (by decide +kernel) rfl (by decide +kernel) rfl (by decide) (by decide) hRc rfl (by decide +kernel) (by decide +kernel) (by decide +kernel) (by decide +kernel) (fun H locs st hS k => lwr_ok X hX hbl hbA hS hl 1758 st (by decide +kernel) k) (fun H locs st hS k => lwr_ok X hX hbl hbA hS hl 1792 st (by decide +kernel) k) ?_
  intro ov1 ov2 o1 o2 f1 f2 r2 m1 m2 q1 q2 H1 locs1 hH1
  have rc := agr_ok (rc := rceqI) (n := 3) (M1 := M200) (M2 := M201) (by decide +kernel) m1 m2 q1 q2 rfl
  obtain ⟨i, rfl, rfl⟩ := rceqI_ok q1.2.1 q2.2.1 rc
  exact law_caseI (off := 68) X (by decide +kernel) (by decide) (tail H1 locs1 f2 hH1)
theorem lm1_62 : ML1 RL Y165 273 0 5 10 := ML1.v (Y := Y165) mw_1245 mw_1248 mw_1 (by decide +kernel) (by decide) mw_1246 mw_1247 rfl
theorem lm2_62 : ML1 RL Y166 276 0 5 11 := ML1.v (Y := Y166) mw_1426 mw_1429 mw_12 (by decide +kernel) (by decide) mw_1427 mw_1428 rfl
theorem case_62 {p : Program} {l : Launch} {e : Env} {s : State} {m : MethodId} {below : List Frame} {meth : Method} {c : Code} {b : Nat} {xs : Nat → Int32} {D : va_G} {t : Nat → ClassId} {H : Heap} {locs : List Loc} {ls : Array Slot} {cells slots : Nat} (hC : LCTX p l e s m below meth c b xs D t H locs ls cells slots) : W p l e room_1 s m #[.ref b] below meth c H locs cells slots (lw_Z below #[.ref b] s) (F0 m 1830 ls []) := by
  obtain ⟨X, hX, hbl, hl, hRc, tail, f, hH, hT1, hT2, hT3, hV⟩ := hC
  have hbA : ¬ (fun q : Nat => s.heap.size ≤ q) b := Nat.not_le.mpr hbl
  refine law_two (E := E1) (Y1 := Y165) (Y2 := Y166) (M1 := M202) (M2 := M203) (i1 := 273) (i2 := 276) (n := 5) (pc1 := 1856) (pc2 := 1885) (kx := 0) (km := 33) (As := [.int (xs 1), .int (xs 2), .int (xs 3), .int (xs 4), .int (xs 5)]) (ps := [pI (-2147483648) 2147483647, pI (-2147483648) 2147483647, pI (-2147483648) 2147483647, pI (-2147483648) 2147483647, pI (-2147483648) 2147483647]) X hl hH hT1 hV ⟨⟨xs 1, rfl, rfl, (i32_b _).1, (i32_b _).2⟩, ⟨⟨xs 2, rfl, rfl, (i32_b _).1, (i32_b _).2⟩, ⟨⟨xs 3, rfl, rfl, (i32_b _).1, (i32_b _).2⟩, ⟨⟨xs 4, rfl, rfl, (i32_b _).1, (i32_b _).2⟩, ⟨⟨xs 5, rfl, rfl, (i32_b _).1, (i32_b _).2⟩, trivial⟩⟩⟩⟩⟩ ⟨rfl, rfl⟩ ⟨rfl, rfl⟩ (by decide +kernel) ⟨_, _, rfl⟩ (H202 l D t _) (H203 l D t _) lm1_62 lm2_62 (by decide +kernel) rfl (by decide +kernel) rfl (by decide) (by decide) hRc rfl (by decide +kernel) (by decide +kernel) (by decide +kernel) (by decide +kernel) (fun H locs st hS k => larg_ok X hX hbl hbA hS hl [1, 2, 3, 4, 5] 1831 st (by decide +kernel) k) (fun H locs st hS k => larg_ok X hX hbl hbA hS hl [1, 2, 3, 4, 5] 1860 st (by decide +kernel) k) ?_
  intro ov1 ov2 o1 o2 f1 f2 r2 m1 m2 q1 q2 H1 locs1 hH1
  have rc := agr_ok (rc := rceqI) (n := 5) (M1 := M202) (M2 := M203) (by decide +kernel) m1 m2 q1 q2 rfl
  obtain ⟨i, rfl, rfl⟩ := rceqI_ok q1.2.1 q2.2.1 rc
  exact law_caseI (off := 5) X (by decide +kernel) (by decide) (tail H1 locs1 f2 hH1)
