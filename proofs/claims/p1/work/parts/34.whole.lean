theorem fresh_1 (t : Nat → ClassId) (lo b : Nat) : px_f lo (KL.map (kcell t lo [b])) (lo + 1) = .inr (7, [.ref (lo + 2), .int (Int32.ofInt 0)]) := by
  simp only [px_f]
  rw [show lo + 1 - lo = 1 by omega]
  rfl
/-- from the entry, for every script of at most 6 ints, the law comes to its end with true -/
theorem whole_start {p : Program} {e : Env} {s : State} {m : MethodId} {below : List Frame} {meth : Method} {c : Code} (l : Launch) {b L : Nat} {xs : Nat → Int32} (hL : L ≤ 6) (C0 : lw_At p s m meth c b L xs) : W p l e room_1 s m #[Value.ref b] below meth c s.heap [] 0 0 (lw_Z below #[Value.ref b] s) (entryFrame m ([Value.ref b] : List Value).toArray 4) := by
  obtain ⟨hx, hb, hr, hml, hown, hts, hX, hbl, hlocks, hgv⟩ := C0
  have X : CX p s m #[.ref b] meth c RL code 4 ret := ⟨hx, hb, hml, hown, fun w h => hts w (Wd_in w h), hlocks, hr⟩
  obtain ⟨D, t, hK⟩ := lw_known hts
  have hN := lw_nest hts
  have hl := lv_entry ([.ref b]) (n := 4) (Nat.le_of_ble_eq_true rfl)
  rw [lg_entry_eq]
  generalize (lg_sl ([.ref b]) ++ List.replicate (4 - (lg_sl ([.ref b])).length) Slot.unset).toArray = ls at hl ⊢
  have hl : lv_has ls 4 [(0, .ref b)] := hl
  have hN0 : NL D t s.heap.size [] s s.heap [] := ⟨⟨hK, px_Pof (fun a h1 h2 => by simp at h2; omega), fun q h1 _ => h1, va_S.rf⟩, by simp, Nat.le_refl _, hN⟩
  refine krun_ok (lo := s.heap.size) (ext := [b]) (R := room_1) X (kt_L_ok l D t) (Or.inl rfl) (by decide) (by decide) ?_ 11 (0, [], [(0, kvE 0)], [], 0, 0) KL_run s.heap [] ls ⟨hN0, hl⟩
  intro H locs ls hs
  obtain ⟨hNL, hl⟩ := hs
  have hl : lv_has ls 4 [(2, .ref (s.heap.size + 304)), (1, .ref (s.heap.size + 0)), (0, .ref b)] := hl
  have hH : HX D t s.heap.size kdP.length (px_f s.heap.size (KL.map (kcell t s.heap.size [b]))) (fun q => s.heap.size ≤ q) s H locs := by
    have h1 := hNL.1
    rw [List.length_map] at h1
    rw [← KL_len]
    exact h1
  have hS := hH.2.2.2
  have hc : (321 : Nat) ≤ 600000 ∧ (26018 : Nat) ≤ 7302249 := by decide
  have hbA : ¬ (fun q : Nat => s.heap.size ≤ q) b := Nat.not_le.mpr hbl
  refine lv_iconst (v := 0) X.1 X.2.1 (show decode code 16 = .ok (.iconst 0, 1) from dq_ok (by decide +kernel)) (by decide) ?_
  refine lv_istore_n (lv' := lawL b s.heap.size) X.1 X.2.1 (show decode code 17 = .ok (.istore_n 3, 1) from dq_ok (by decide +kernel)) rfl hl (by decide) rfl (fun ls hl => ?_)
  refine lv_iload_n X.1 X.2.1 (show decode code 18 = .ok (.iload_n 3, 1) from dq_ok (by decide +kernel)) rfl (lv_at hl 0 rfl) ?_
  refine lv_aload_n X.1 X.2.1 (show decode code 19 = .ok (.aload_n 0, 1) from dq_ok (by decide +kernel)) rfl (lv_at hl 3 rfl) ?_
  refine va_slen X.1 X.2.1 hX hbl hbA hS (show decode code 20 = .ok (.arraylength, 1) from dq_ok (by decide +kernel)) ?_
  refine lv_bipush (v := 6) X.1 X.2.1 (show decode code 21 = .ok (.bipush 6, 2) from dq_ok (by decide +kernel)) (by decide) ?_
  refine lv_isub X.1 X.2.1 (show decode code 23 = .ok (.isub, 1) from dq_ok (by decide +kernel)) ?_
  have eL : (Int32.ofNat L).toInt = L := Int32.toInt_ofNat_of_lt (by omega)
  have e6 : (6 : Int32).toInt = 6 := rfl
  have e0 : (0 : Int32).toInt = 0 := rfl
  have eS : (Int32.ofNat L - 6).toInt = (L : Int) - 6 := by
    rw [Int32.toInt_sub, eL, e6]
    exact Int.bmod_eq_of_le (by omega) (by omega)
  refine lv_icmp_gt (tgt := 1899) X.1 X.2.1 (show decode code 24 = .ok (.if_icmp .gt 1875, 3) from dq_ok (by decide +kernel)) (by decide) (fun _ => law_exit X hS.2.2 hc) (fun h => ?_)
  have hL6 : L = 6 := by
    have h2 : ¬ (Int32.ofNat L - 6).toInt < (0 : Int32).toInt := fun q => h (Int32.lt_iff_toInt_lt.mpr q)
    omega
  subst hL6
  have hC : LCTX p l e s m below meth c b xs D t H locs ls 321 26018 := ⟨X, hX, hbl, hl, hc, fun H1 locs1 f2 hH1 => law_tail X hX hbl hl hc hH1.2.2.2, _, hH, typ1 t _ b, typ2 t _ b, typ3 t _ b, by
    intro j o k v g1 g2
    match j, g1, g2 with
    | 0, g1, g2 => cases g1; cases g2; exact ⟨_, _, fresh_1 t s.heap.size b, rfl⟩
    | 1, g1, g2 => cases g1; cases g2; exact ⟨_, _, fresh_304 t s.heap.size b, rfl⟩
    | j + 2, g1, g2 => exact absurd g1 (by simp [E1, trP])⟩
  refine lv_aload_n X.1 X.2.1 (show decode code 27 = .ok (.aload_n 0, 1) from dq_ok (by decide +kernel)) rfl (lv_at hl 3 rfl) ?_
  refine lv_iload_n X.1 X.2.1 (show decode code 28 = .ok (.iload_n 3, 1) from dq_ok (by decide +kernel)) rfl (lv_at hl 0 rfl) ?_
  refine va_sld X.1 X.2.1 hX hbl hbA hS (vp_in_iff.mpr ⟨by omega, by omega⟩) (show decode code 29 = .ok (.iaload, 1) from dq_ok (by decide +kernel)) ?_
  refine lv_bipush (v := 63) X.1 X.2.1 (show decode code 30 = .ok (.bipush 63, 2) from dq_ok (by decide +kernel)) (by decide) ?_
  refine lv_iand X.1 X.2.1 (show decode code 32 = .ok (.iand, 1) from dq_ok (by decide +kernel)) ?_
  have h63 : (63 : Int32).toInt = 63 := rfl
  generalize xs (0 : Int32).toNatClampNeg &&& 63 = z at *
  by_cases hz : z.toInt < 0 ∨ 62 < z.toInt
  · exact lv_tableOut (tgt := 1893) X.1 X.2.1 dsw hz (by decide) (law_tail X hX hbl hl hc hS)
  · obtain ⟨off, tgt, o1, o2, o3⟩ := law_switch hC z.toInt.toNat (by omega)
    exact lv_tableIn X.1 X.2.1 dsw (by omega) (by omega) (by rw [Int.sub_zero]; exact o1) o2 o3
-- ===== YOUR PART ENDS =====
set_option maxHeartbeats 4000000 in
theorem lw_walk (l : Launch) (b : Addr) (xs : List Int32) : MetFree l x (headSpec (Jvm.Cond.code x code maxLocals ret :: tables_1) room_1) (lw_P b xs) (fun _ _ _ _ _ => True) lw_Q := by
  refine MetFree.of_bodyS (code := code) (maxLocals := maxLocals) (ret := ret) (by decide) ?_ ?_
  · intro args s m h hn
    obtain ⟨meth, c, h1, h2, h3, h4, h5, h6, -, -⟩ := Cond.code_spec hn (atoms_spec (ws := Jvm.Cond.code x code maxLocals ret :: tables_1) h _ List.mem_cons_self)
    exact ⟨meth, c, h1, h2, h3, h4, h5, h6⟩
  · intro p e s m args below meth c s₁ B hml0 hP _
    obtain ⟨rfl, hx, hbd, hgv⟩ := hP
    obtain ⟨scr, harrAt, hlist, hof, hsmall⟩ := hx
    obtain ⟨hcb, hkn, -, -⟩ := State.arrayAt?_spec harrAt
    have hown : s.vm.findClass R_law = some m.cls := findClass_of_methodNamed B.named
    have hts0 : ∀ c ∈ (Jvm.Cond.code x code maxLocals ret :: tables_1), c.before #[Value.ref b] s = true := atoms_spec (ws := Jvm.Cond.code x code maxLocals ret :: tables_1) B.pre
    have hts : ∀ w ∈ lw_tbl, w.before #[Value.ref b] s = true := k2_hts_sels lw_privs (fun w hw => hts0 w (List.mem_cons_of_mem _ hw)) lw_privs_ok
    have hml : c.maxLocals = 4 := B.maxLocals_eq (hts0 _ List.mem_cons_self)
    have X₀ : Stand p l e room_1 s m #[Value.ref b] below meth c s₁ [] 0 0 := Stand.of_body B
    have hh0 : s₁.heap = s.heap := by rw [B.state]; rfl
    have hsz : scr.slots.size = xs.length := by rw [← Array.length_toList, hlist, List.length_map]
    have hval : ∀ j : Nat, j < xs.length → scr.slots[j]? = some (.int (xs.getD j 0)) := fun j hj => by
      rw [← Array.getElem?_toList, hlist]
      simp [hj]
    have hbl : b < s.heap.size := (Array.getElem?_eq_some_iff.mp hcb).1
    have hX : va_X b xs.length (fun j => xs.getD j 0) s s.heap := ⟨scr, hcb, hof, hkn, hsz, hval⟩
    have K : W p l e room_1 s m #[Value.ref b] below meth c s₁.heap [] 0 0 (lw_Z below #[Value.ref b] s) (entryFrame m ([Value.ref b] : List Value).toArray 4) := by
      rw [hh0]
      exact whole_start l hbd ⟨B.exec, B.bytes, B.returns, hml, hown, hts, hX, hbl, B.notSynchronized, hgv⟩
    obtain ⟨t, a1, o, b1, b2, b3⟩ := K s₁ rfl X₀
    exact ⟨t, o, a1, b1, b2, b3⟩
theorem lw_pre_spec {args : Array Value} {s : State} (h : (Jvm.Cond.and given_1 narrow_1).before args s = true) (hr : rest_1_c.before args s = true) : ∃ (b : Addr) (xs : List Int32), lw_P b xs args s := by
  have hs := flat_of_before _ h
  have hq := flat_of_before _ hr
  have hc : (Cond.count 1).before args s = true := hs _ (by decide +kernel)
  have harr : (Cond.arrayOf (.arg 0) .int).before args s = true := hs _ (by decide +kernel)
  have hle : (Cond.le (.length (.arg 0)) (.int 6)).before args s = true := hs _ (by decide +kernel)
  have hlen : (Cond.isInt (.length (.arg 0))).before args s = true := hq _ (by decide +kernel)
  have hall : (Cond.all (.arg 0) (.isInt (.elem (.arg 0) (.index 0)))).before args s = true := hq _ (by decide +kernel)
  obtain ⟨b, xs, hb, hx⟩ := State.ints_of_pre rfl harr hlen hall
  have hsm : xs.length < 2 ^ 31 := hx.choose_spec.2.2.2
  have hev : (Term.length (.arg 0)).eval args s none [] s = some (.int xs.length.toInt32) := hx.length_eval hb
  have hv := Cond.le_ints hev (show (Term.int 6).eval args s none [] s = some (.int 6) from rfl)
  have hd : xs.length.toInt32 ≤ 6 := by
    simpa [Cond.before, Cond.holds, hv] using hle
  have hN : xs.length ≤ 6 := (Int32.ofNat_le_ofNat hsm (by decide)).mp (show Int32.ofNat xs.length ≤ Int32.ofNat 6 from hd)
  exact ⟨b, xs, Cond.one_arg hc (show args[0]? = some (.ref b) from hb), hx, hN, h⟩
theorem lw_comes (l : Launch) : Comes l x (Jvm.Cond.code x code maxLocals ret :: tables_1) room_1 (fun tb e args s => Calls_1 tb e args s ∧ rest_1 tb e args s ∧ Pre_1 tb e args s)
    (fun _ _ args s o t => lw_Q args s o t) := by
  intro p e ha hc hk s m args below hf hfit hheap happ hpre
  obtain ⟨b, xs, hP⟩ := lw_pre_spec hpre.2.2 hpre.2.1
  obtain ⟨k, o, h1, h2, h3, hQ⟩ := lw_walk l b xs p e ha hc hk s m args below hf ((Spec.applies_iff_loose hf).mp happ).1 hP trivial
  exact ⟨k, o, h1, h2, h3, hQ⟩
theorem lw_frame {s t : State} {o : Outcome} {args : Array Value} (h : Framed s o t [] 600000 7302249) :
    Framed s o t (fieldLocs frame_1_writes args s ++ arrayLocs frame_1_arrays args s ++ staticLocs frame_1_statics s) 600000 7302249 := h
theorem lw_limb (L : Cond) (hL : ∀ (args : Array Value) (s t : State), L.after args s (.returned (some (.int 1))) t = true) :
    ArmFor flags0 classFile x code maxLocals ret World_1 tables_1 room_1 Calls_1 rest_1 Pre_1
      (fun tb e a s o t => postC L tb e a s o t ∧ Framed s o t (fieldLocs frame_1_writes a s ++ arrayLocs frame_1_arrays a s ++ staticLocs frame_1_statics s) 600000 7302249) := by
  intro l _ _ _ p e ha hc hk s m args below hf hfit hheap happ hpre
  obtain ⟨k, o, h1, h2, h3, rfl, hF⟩ := lw_comes l p e ha hc hk s m args below hf hfit hheap happ hpre
  exact ⟨k, _, h1, h2, h3, hL args s _, lw_frame hF⟩
theorem i_vc : Claimed_1_1 ∧ Claimed_1_2 := ⟨lw_limb limb_1_1 (fun args s t => by simp [limb_1_1, Cond.after, Cond.holds, Cond.value]), lw_limb limb_1_2 (fun args s t => Cond.after_iff.mpr (by
  first | (rw [show limb_1_2 = Cond.eq .result (.int 1) from rfl, Cond.eq_ints (x := 1) (y := 1) rfl rfl]; simp; done) | (simp [limb_1_2, Cond.value, Term.eval]; done)))⟩
