theorem kac_0 : Jvm.Cond.arrayClass Jvm.ClassFile.FieldType.int ∈ Wd := List.mem_filter.mpr ⟨List.mem_of_getElem? (i := 248) (by decide +kernel), by decide +kernel⟩
theorem kac_1 : Jvm.Cond.arrayClass Jvm.ClassFile.FieldType.long ∈ Wd := List.mem_filter.mpr ⟨List.mem_of_getElem? (i := 247) (by decide +kernel), by decide +kernel⟩
theorem kac_2 : Jvm.Cond.arrayClass Jvm.ClassFile.FieldType.byte ∈ Wd := List.mem_filter.mpr ⟨List.mem_of_getElem? (i := 147) (by decide +kernel), by decide +kernel⟩
theorem kac_3 : Jvm.Cond.arrayClass Jvm.ClassFile.FieldType.boolean ∈ Wd := List.mem_filter.mpr ⟨List.mem_of_getElem? (i := 287) (by decide +kernel), by decide +kernel⟩
/-! makings: the steps are sound -/
section KZ
variable {D : va_G} {t : Nat → ClassId} {lo : Nat} {ext : List Nat}
variable {p : Program} {l : Launch} {e : Env} {R : Room} {s : State} {m : MethodId} {args : Array Value} {below : List Frame} {meth : Method} {c : Code} {H : Heap} {locs : List Loc} {Q : State → Prop}
variable {cc : ByteArray} {own : String} {nl : Nat} {ret : Option FieldType} {ls : Array Slot}
theorem kld {i k : Nat} {L : List (Nat × KV)} {v : KV} (hl : lv_has ls nl (L.map (fun q => (q.1, kval lo ext q.2)))) (h : klook L i = some v) : ls[i]? = some (.val (kval lo ext v)) := by
  obtain ⟨k, hk⟩ := klook_at (lo := lo) (ext := ext) h
  exact lv_at hl k hk
theorem kstep_ok {T : KT} {kc MC MS len : Nat} {ins : Instr} {x y : KX} (X : CX p s m args meth c own cc nl ret) (hT : KTok l D t own T) (hin : T.1 = [] ∨ meth.name = "<init>") (hR : MC ≤ R.cells ∧ MS ≤ R.slots) (hRk : kc ≤ R.frames ∧ 60 * kc ≤ R.locals) (hd : decode cc x.1 = .ok (ins, len)) (h : kstep T nl kc MC MS ins len x = some y) (hs : SK D t lo ext s nl x H locs ls)
    (kk : GOK D t lo ext nl p l e R s m args below meth c Q y) : W p l e R s m args below meth c H locs x.2.2.2.2.1 x.2.2.2.2.2 Q (F0 m x.1 ls (x.2.2.2.1.map (kval lo ext))) := by
  obtain ⟨t1, t2, t3, t4, t5⟩ := hT
  unfold kstep at h
  split at h
  · -- aload_n
    rename_i i pc es L S mc ms
    obtain ⟨hN, hl⟩ := hs
    dsimp only at hN hl hd ⊢
    split at h
    · rename_i hlen
      subst hlen
      split at h
      · rename_i r hr
        simp only [Option.some.injEq] at h
        subst h
        exact lv_aload_n X.1 X.2.1 hd rfl (kld (k := 0) hl hr) (kk _ _ _ ⟨hN, hl⟩)
      · cases h
    · cases h
  · -- iload_n
    rename_i i pc es L S mc ms
    obtain ⟨hN, hl⟩ := hs
    dsimp only at hN hl hd ⊢
    split at h
    · rename_i hlen
      subst hlen
      split at h
      · rename_i r hr
        simp only [Option.some.injEq] at h
        subst h
        exact lv_iload_n X.1 X.2.1 hd rfl (kld (k := 0) hl hr) (kk _ _ _ ⟨hN, hl⟩)
      · cases h
    · cases h
  · -- astore_n
    rename_i i pc es L r S mc ms
    obtain ⟨hN, hl⟩ := hs
    dsimp only at hN hl hd ⊢
    split at h
    · rename_i hc
      obtain ⟨hlen, hi⟩ := hc
      subst hlen
      simp only [Option.some.injEq] at h
      subst h
      exact lv_astore_n X.1 X.2.1 hd rfl hl hi (kput_map (lo := lo) (ext := ext) (L := L) (i := i) (v := .inr (.inr (some r)))) (fun ls' hl' => kk _ _ _ ⟨hN, hl'⟩)
    · cases h
  · -- istore_n
    rename_i i pc es L r S mc ms
    obtain ⟨hN, hl⟩ := hs
    dsimp only at hN hl hd ⊢
    split at h
    · rename_i hc
      obtain ⟨hlen, hi⟩ := hc
      subst hlen
      simp only [Option.some.injEq] at h
      subst h
      exact lv_istore_n X.1 X.2.1 hd rfl hl hi (kput_map (lo := lo) (ext := ext) (L := L) (i := i) (v := .inl r)) (fun ls' hl' => kk _ _ _ ⟨hN, hl'⟩)
    · cases h
  · -- iinc
    rename_i i n pc es L S mc ms
    obtain ⟨hN, hl⟩ := hs
    dsimp only at hN hl hd ⊢
    split at h
    · rename_i hc
      obtain ⟨hlen, hi⟩ := hc
      subst hlen
      split at h
      · rename_i a ha
        simp only [Option.some.injEq] at h
        subst h
        obtain ⟨k, hk⟩ := klook_at (lo := lo) (ext := ext) ha
        exact lv_iinc X.1 X.2.1 hd hl hk (v := Int32.ofInt (a + n)) (by rw [Int32.ofInt_add]) hi (kput_map (lo := lo) (ext := ext) (L := L) (i := i) (v := .inl (a + n))) (fun ls' hl' => kk _ _ _ ⟨hN, hl'⟩)
      · cases h
    · cases h
  · -- iconst
    rename_i n pc es L S mc ms
    split at h
    · rename_i hlen
      subst hlen
      simp only [Option.some.injEq] at h
      subst h
      exact lv_iconst X.1 X.2.1 hd rfl (kk _ _ _ hs)
    · cases h
  · -- bipush
    rename_i n pc es L S mc ms
    split at h
    · rename_i hc
      obtain ⟨hlen, h1, h2⟩ := hc
      subst hlen
      simp only [Option.some.injEq] at h
      subst h
      have hv : (Int8.ofInt n).toInt32 = Int32.ofInt n := Int32.toInt_inj.mp (by
        rw [Int8.toInt_toInt32, Int8.toInt_ofInt_of_le (by omega) (by omega), Int32.toInt_ofInt_of_le (by omega) (by omega)])
      exact lv_bipush X.1 X.2.1 hd hv (kk _ _ _ hs)
    · cases h
  · -- sipush
    rename_i n pc es L S mc ms
    split at h
    · rename_i hc
      obtain ⟨hlen, h1, h2⟩ := hc
      subst hlen
      simp only [Option.some.injEq] at h
      subst h
      have hv : (Int16.ofInt n).toInt32 = Int32.ofInt n := Int32.toInt_inj.mp (by
        rw [Int16.toInt_toInt32, Int16.toInt_ofInt_of_le (by omega) (by omega), Int32.toInt_ofInt_of_le (by omega) (by omega)])
      exact lv_sipush X.1 X.2.1 hd hv (kk _ _ _ hs)
    · cases h
  · -- lconst
    rename_i n pc es L S mc ms
    split at h
    · rename_i hlen
      subst hlen
      simp only [Option.some.injEq] at h
      subst h
      exact lv_lconst X.1 X.2.1 hd (by rw [Int64.ofInt_eq_ofNat]) (kk _ _ _ hs)
    · cases h
  · -- dup
    rename_i pc es L v S mc ms
    split at h
    · rename_i hc
      obtain ⟨hlen, h1⟩ := hc
      subst hlen
      simp only [Option.some.injEq] at h
      subst h
      exact lv_dup X.1 X.2.1 hd (by rw [kcat_ok]; exact h1) (kk _ _ _ hs)
    · cases h
  · -- goto
    rename_i off pc es L S mc ms
    split at h
    · rename_i hlen
      subst hlen
      split at h
      · rename_i tg ht
        simp only [Option.some.injEq] at h
        subst h
        exact lv_goto X.1 X.2.1 hd (xtgt_ok ht) (kk _ _ _ hs)
      · cases h
    · cases h
  · -- if_icmp
    rename_i co off pc es L b a S mc ms
    split at h
    · rename_i hc
      obtain ⟨hlen, h1, h2, h3, h4⟩ := hc
      subst hlen
      split at h
      · rename_i tg ht
        simp only [Option.some.injEq] at h
        have z1 : lo32 = -2147483648 ∧ hi32 = 2147483647 := ⟨rfl, rfl⟩
        have ea : (Int32.ofInt a).toInt = a := Int32.toInt_ofInt_of_le (by omega) (by omega)
        have eb : (Int32.ofInt b).toInt = b := Int32.toInt_ofInt_of_le (by omega) (by omega)
        refine row_icmp X hd (xtgt_ok ht) (fun q => ?_) (fun q => ?_)
        · rw [ea, eb] at q
          have : kcmp co a b = true := by
            cases co <;> simpa [cnd, kcmp] using q
          rw [if_pos this] at h
          subst h
          exact kk _ _ _ hs
        · rw [ea, eb] at q
          have : ¬ kcmp co a b = true := by
            cases co <;> simpa [cnd, kcmp] using q
          rw [if_neg this] at h
          subst h
          exact kk _ _ _ hs
      · cases h
    · cases h
  · -- getfield
    rename_i i pc es L o S mc ms
    obtain ⟨hN, hl⟩ := hs
    dsimp only at hN hl hd ⊢
    split at h
    · rename_i hlen
      subst hlen
      split at h
      · rename_i ci k b fin ci' fs e1 e2
        split at h
        · rename_i hci
          subst hci
          split at h
          · rename_i v hv
            simp only [Option.some.injEq] at h
            subst h
            obtain ⟨C, TT, N, ty0, u1, u2, u3, u4, u5, u6, u7, u8, u9⟩ := t1 i _ e1
            exact nl_getf X hN o (kcell_at e2) u1 u2 k u5 u6 rfl (by rw [List.getElem?_map, hv]; rfl) hd (kk _ _ _ ⟨hN, hl⟩)
          · cases h
        · cases h
      · cases h
    · cases h
  · -- putfield
    rename_i i pc es L v o S mc ms
    obtain ⟨hN, hl⟩ := hs
    dsimp only at hN hl hd ⊢
    split at h
    · rename_i hlen
      subst hlen
      split at h
      · rename_i ci k b fin ci' fs e1 e2
        split at h
        · rename_i hci
          obtain ⟨hci, hk, hf⟩ := hci
          subst hci
          simp only [Option.some.injEq] at h
          subst h
          obtain ⟨C, TT, N, ty0, u1, u2, u3, u4, u5, u6, u7, u8, u9⟩ := t1 i _ e1
          obtain ⟨n1, n2⟩ := kfit_ok (lo := lo) (ext := ext) hf u9
          have he : (es.map (kcell t lo ext)).set o (.inr (ci, (fs.map (kval lo ext)).set k (kval lo ext v))) = (es.set o (.inl (ci, fs.set k v))).map (kcell t lo ext) := by
            rw [List.map_set]
            congr 1
            simp only [kcell, List.map_set]
          cases fin with
          | false => exact nl_put X hN o (kcell_at e2) u1 u2 u3 u4 k u5 u6 rfl u7 n1 n2 (by simpa using hk) he hd (fun H1 locs1 h1 => kk _ _ _ ⟨h1, hl⟩)
          | true =>
            have hname : meth.name = "<init>" := by
              rcases hin with q | q
              · rw [q] at e1; cases e1
              · exact q
            exact nl_putF X hname hN o (kcell_at e2) u1 u2 u3 u4 k u5 u6 rfl u7 (u8 rfl (fun q => by have q' : b = 4 := q; subst q'; simp [kfit] at hf)) n1 n2 (by simpa using hk) he hd (fun H1 locs1 h1 => kk _ _ _ ⟨h1, hl⟩)
        · cases h
      · cases h
    · cases h
  · -- new
    rename_i i pc es L S mc ms
    obtain ⟨hN, hl⟩ := hs
    dsimp only at hN hl hd ⊢
    split at h
    · rename_i hlen
      subst hlen
      split at h
      · rename_i ci fs e1
        split at h
        · rename_i hc
          simp only [Option.some.injEq] at h
          subst h
          obtain ⟨C, TT, N, ty, u1, u2, u3, u4, u5, u6, u7, u8⟩ := t2 i _ e1
          have u7' : N = fs.length := u7
          subst u7'
          exact nl_new X hN u1 u2 u3 u4 u5 u6 (u8 lo ext) (by rw [List.length_map]) (by rw [List.map_append]; rfl) (by omega) (by omega) hd (fun H1 h1 => kk _ _ _ ⟨h1, hl⟩)
        · cases h
      · cases h
    · cases h
  · -- newarray
    rename_i a pc es L n S mc ms
    obtain ⟨hN, hl⟩ := hs
    dsimp only at hN hl hd ⊢
    split at h
    · rename_i hc
      obtain ⟨hlen, h1, h2⟩ := hc
      subst hlen
      obtain ⟨q1, q2, q3⟩ := of32 h1 h2
      split at h
      · rename_i tt htt
        split at h
        · rename_i hc
          simp only [Option.some.injEq] at h
          subst h
          have hb : n.toNat ≤ 60000 := by omega
          cases a with
          | int =>
            simp only [kty, Option.some.injEq] at htt
            subst htt
            exact nl_newa (ty := .int) (a0 := (n.toNat, .inl (fun _ => 0))) X hN rfl kac_0 0 rfl rfl rfl q1 q2 (by show n.toNat * 4 ≤ _; omega) (by rw [List.length_map]) (by rw [List.map_append]; rfl) (by omega) (by omega) hd (fun H1 h1 => kk _ _ _ ⟨h1, hl⟩)
          | long =>
            simp only [kty, Option.some.injEq] at htt
            subst htt
            exact nl_newa (ty := .long) (a0 := (n.toNat, .inr (.inl (fun _ => 0)))) X hN rfl kac_1 1 rfl rfl rfl q1 q2 (by show n.toNat * 8 ≤ _; omega) (by rw [List.length_map]) (by rw [List.map_append]; rfl) (by omega) (by omega) hd (fun H1 h1 => kk _ _ _ ⟨h1, hl⟩)
          | byte =>
            simp only [kty, Option.some.injEq] at htt
            subst htt
            exact nl_newa (ty := .byte) (a0 := (n.toNat, .inl (fun _ => 0))) X hN rfl kac_2 2 rfl rfl rfl q1 q2 (by show n.toNat * 1 ≤ _; omega) (by rw [List.length_map]) (by rw [List.map_append]; rfl) (by omega) (by omega) hd (fun H1 h1 => kk _ _ _ ⟨h1, hl⟩)
          | boolean =>
            simp only [kty, Option.some.injEq] at htt
            subst htt
            exact nl_newa (ty := .boolean) (a0 := (n.toNat, .inl (fun _ => 0))) X hN rfl kac_3 3 rfl rfl rfl q1 q2 (by show n.toNat * 1 ≤ _; omega) (by rw [List.length_map]) (by rw [List.map_append]; rfl) (by omega) (by omega) hd (fun H1 h1 => kk _ _ _ ⟨h1, hl⟩)
          | char => cases htt
          | float => cases htt
          | double => cases htt
          | short => cases htt
        · cases h
      · cases h
    · cases h
  · -- anewarray
    rename_i i pc es L n S mc ms
    obtain ⟨hN, hl⟩ := hs
    dsimp only at hN hl hd ⊢
    split at h
    · rename_i hc
      obtain ⟨hlen, h1, h2⟩ := hc
      subst hlen
      obtain ⟨q1, q2, q3⟩ := of32 h1 h2
      split at h
      · rename_i tt htt
        split at h
        · rename_i hc
          simp only [Option.some.injEq] at h
          subst h
          have hb : n.toNat ≤ 60000 := by omega
          rcases t3 i tt htt with ⟨rfl, w⟩ | ⟨rfl, w⟩ | ⟨rfl, w⟩
          · exact nl_newq X hN w hN.2.2.2.2.1 4 rfl q1 q2 (by omega) (by rw [List.length_map]) (by rw [List.map_append]; rfl) (by omega) (by omega) hd (fun H1 h1 => kk _ _ _ ⟨h1, hl⟩)
          · exact nl_newq X hN w hN.2.2.2.2.2.1 5 rfl q1 q2 (by omega) (by rw [List.length_map]) (by rw [List.map_append]; rfl) (by omega) (by omega) hd (fun H1 h1 => kk _ _ _ ⟨h1, hl⟩)
          · exact nl_newq X hN w hN.2.2.2.2.2.2 6 rfl q1 q2 (by omega) (by rw [List.length_map]) (by rw [List.map_append]; rfl) (by omega) (by omega) hd (fun H1 h1 => kk _ _ _ ⟨h1, hl⟩)
        · cases h
      · cases h
    · cases h
  · -- arraylength
    rename_i pc es L o S mc ms
    obtain ⟨hN, hl⟩ := hs
    dsimp only at hN hl hd ⊢
    split at h
    · rename_i hlen
      subst hlen
      split at h
      · rename_i tt z el e1
        split at h
        · rename_i hc
          simp only [Option.some.injEq] at h
          subst h
          obtain ⟨ty, hty⟩ := px_Tat t tt hc.1
          have e0 : ∃ u : vp_A, kcell t lo ext (.inr (tt, z, el)) = .inl (t tt, u) ∧ u.1 = z := by
            match el with
            | .inl us =>
              simp only [kcell]
              by_cases c2 : tt = 1
              · rw [if_pos c2, c2]; exact ⟨_, rfl, rfl⟩
              · rw [if_neg c2]; exact ⟨_, rfl, rfl⟩
            | .inr rs => exact ⟨_, rfl, rfl⟩
          obtain ⟨u, w1, w2⟩ := e0
          exact nl_alen X hN o tt (by rw [kcell_at e1, w1]) hty (by rw [w2]; exact Int32.ofInt_eq_ofNat.symm) hd (kk _ _ _ ⟨hN, hl⟩)
        · cases h
      · cases h
    · cases h
  · -- iastore
    rename_i pc es L v i o S mc ms
    obtain ⟨hN, hl⟩ := hs
    dsimp only at hN hl hd ⊢
    split at h
    · rename_i hlen
      subst hlen
      split at h
      · rename_i z us e1
        split at h
        · rename_i hc
          obtain ⟨h1, h2, h3⟩ := hc
          obtain ⟨q1, q2, q3⟩ := of32 h1 h3
          simp only [Option.some.injEq] at h
          subst h
          refine nl_iast (g := kI us) X hN o (by rw [kcell_at e1]; rfl) (vp_in_iff.mpr ⟨by omega, by omega⟩) ?_ hd (fun H1 locs1 h1 => kk _ _ _ ⟨h1, hl⟩)
          rw [List.map_set, q2]
          rfl
        · cases h
      · cases h
    · cases h
  · -- aastore
    rename_i pc es L j i o S mc ms
    obtain ⟨hN, hl⟩ := hs
    dsimp only at hN hl hd ⊢
    split at h
    · rename_i hlen
      subst hlen
      split at h
      · rename_i tt z rs ci fs e1 e2
        split at h
        · rename_i hc
          obtain ⟨h1, h2, h3, h4⟩ := hc
          obtain ⟨q1, q2, q3⟩ := of32 h1 h3
          simp only [Option.some.injEq] at h
          subst h
          have hin2 : vp_in (Int32.ofInt i) z := vp_in_iff.mpr ⟨by omega, by omega⟩
          have hset : (es.map (kcell t lo ext)).set o (.inl (t tt, z, .inr (.inr (.inr (.inr (va_up (kR lo ext rs) (Int32.ofInt i).toNatClampNeg (some (lo + j)))))))) = (es.set o (.inr (tt, z, .inr ((i.toNat, .inl j) :: rs)))).map (kcell t lo ext) := by
            rw [List.map_set, q2]
            rfl
          rcases h4 with ⟨rfl, rfl⟩ | ⟨rfl, rfl⟩ | ⟨rfl, rfl⟩
          · exact nl_aast (r := (RX6, TX6, 8)) X hN o 4 j 6 (by rw [kcell_at e1]; rfl) rfl (by rw [kcell_at e2]; rfl) rfl hin2 hset hd (fun H1 locs1 h1 => kk _ _ _ ⟨h1, hl⟩)
          · exact nl_aast (r := (RX9, TX9, 5)) X hN o 5 j 9 (by rw [kcell_at e1]; rfl) rfl (by rw [kcell_at e2]; rfl) rfl hin2 hset hd (fun H1 locs1 h1 => kk _ _ _ ⟨h1, hl⟩)
          · exact nl_aast (r := (RX5, TX5, 4)) X hN o 6 j 5 (by rw [kcell_at e1]; rfl) rfl (by rw [kcell_at e2]; rfl) rfl hin2 hset hd (fun H1 locs1 h1 => kk _ _ _ ⟨h1, hl⟩)
        · cases h
      · cases h
    · cases h
  · -- invokespecial
    rename_i i pc es L S mc ms
    obtain ⟨hN, hl⟩ := hs
    dsimp only at hN hl hd ⊢
    split at h
    · rename_i hlen
      subst hlen
      split at h
      · rename_i ho
        obtain ⟨a1, a2, a3⟩ := t4 i ho
        split at h
        · rename_i r S'
          split at h
          · rename_i hc
            simp only [Option.some.injEq] at h
            subst h
            refine nl_obj X hl.1 a1 a2 a3 (by omega) ?_ hd (kk _ _ _ ⟨hN, hl⟩)
            rw [kcat_sum]
            omega
          · cases h
        · cases h
      · split at h
        · rename_i nest na mc' ms' ci k fs0 res e1
          split at h
          · rename_i as b0 S' e2
            split at h
            · rename_i es2 e3
              split at h
              · rename_i hc
                obtain ⟨c1, c2, c3, c4, c5, c6, c7⟩ := hc
                simp only [Option.some.injEq] at h
                subst h
                obtain ⟨y, cy, ny, w1, w2, w3, w4, w5, w6, w7, w8⟩ := t5 i _ e1
                obtain ⟨ws, p1, p2, p3⟩ := kpop_ok na [] S as _ e2
                simp only [List.append_nil] at p1
                subst p1
                have hM := w8 (lo + b0) (kaddr lo ext as) (by rw [kaddr, List.length_map]; exact p3)
                have hlt : b0 < es.length := by omega
                have hes : es.map (kcell t lo ext) = (es.take b0).map (kcell t lo ext) ++ [kcell t (lo + b0) (kaddr lo ext as) (.inl (ci, fs0))] := by
                  have h0 : es = es.take b0 ++ [.inl (ci, fs0)] := by
                    have hd0 : es.drop b0 = [.inl (ci, fs0)] := by
                      have hg := kobj_ok c2
                      rw [List.drop_eq_getElem_cons hlt]
                      have : es.drop (b0 + 1) = [] := by rw [c1]; exact List.drop_length
                      rw [this]
                      congr 1
                      exact (List.getElem?_eq_some_iff.mp hg).2
                    rw [← hd0, List.take_append_drop]
                  have hk0 : kcell t lo ext (.inl (ci, fs0)) = kcell t (lo + b0) (kaddr lo ext as) (.inl (ci, fs0)) := by
                    have hdv : ∀ (fs : List KV), kdefl fs fs = true → fs.map (kval lo ext) = fs.map (kval (lo + b0) (kaddr lo ext as)) := by
                      intro fs
                      induction fs with
                      | nil => intro _; rfl
                      | cons v fs ih =>
                        intro hv
                        match v, hv with
                        | .inl n, hv => simp only [kdefl, Bool.and_eq_true] at hv; simp only [List.map_cons, ih hv.2, kval]
                        | .inr (.inl n), hv => simp only [kdefl, Bool.and_eq_true] at hv; simp only [List.map_cons, ih hv.2, kval]
                        | .inr (.inr none), hv => simp only [kdefl] at hv; simp only [List.map_cons, ih hv, kval]
                    have hself : kdefl fs0 fs0 = true := by
                      unfold kobj at c2
                      split at c2
                      · rename_i ci' fs e
                        simp only [Bool.and_eq_true, beq_iff_eq] at c2
                        have := kdefl_ok c2.2
                        rw [this] at c2
                        exact c2.2
                      · cases c2
                    simp only [kcell, hdv fs0 hself]
                  rw [← hk0]
                  conv => lhs; rw [h0]
                  rw [List.map_append]
                  rfl
                have hb : lo + b0 = lo + ((es.take b0).map (kcell t lo ext)).length := by
                  rw [List.length_map, List.length_take]; omega
                have he2 : (es.take b0).map (kcell t lo ext) ++ res.map (kcell t (lo + b0) (kaddr lo ext as)) = (es.take b0 ++ es2).map (kcell t lo ext) := by
                  rw [List.map_append, kshl_ok (F := kcell t lo ext) (G := kcell t (lo + b0) (kaddr lo ext as)) (fun a b hab => kshc_ok hab) e3]
                have hst : S.map (kval lo ext) = ((kaddr lo ext as).map Value.ref).reverse ++ .ref (lo + b0) :: S'.map (kval lo ext) := by
                  rw [p2, List.map_append, List.map_reverse, kref_map c3]
                  rfl
                have hna : ((kaddr lo ext as).map Value.ref).length = na := by simp [kaddr, p3]
                have hRR : k + 1 ≤ R.frames ∧ 8 + (ny + 11) + 60 * k ≤ R.locals := by omega
                by_cases cn : nest = true
                · rw [if_pos cn] at w1
                  exact nl_callN X hN hM hes hb he2 w1 w2 w3 w4 w5 w6 hRR (show mc + mc' ≤ R.cells ∧ ms + ms' ≤ R.slots from by omega) hl.1 hna hst (by rw [kcat_sum]; omega) hd (fun H1 locs1 h1 => kk _ _ _ ⟨h1, hl⟩)
                · rw [if_neg cn] at w1
                  exact nl_callI X hN hM hes hb he2 w1 w2 w3 w4 w5 w6 hRR (show mc + mc' ≤ R.cells ∧ ms + ms' ≤ R.slots from by omega) hl.1 hna hst (by rw [kcat_sum]; omega) hd (fun H1 locs1 h1 => kk _ _ _ ⟨h1, hl⟩)
              · cases h
            · cases h
          · cases h
        · cases h
    · cases h
  · cases h
end KZ
