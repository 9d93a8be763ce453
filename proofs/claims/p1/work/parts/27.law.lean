/-! THE CLAIM OUT OF ONE WALK OF THE LAW'S BODY. Your part is whole_start (and what it stands on); all else here is the same for every law, but numbers. -/
def R_law : String := "BellMoneyLaw"
def lw_P (b : Addr) (xs : List Int32) (args : Array Value) (s : State) : Prop := args = #[.ref b] ∧ s.IntsAt b xs ∧ xs.length ≤ 6 ∧ (Jvm.Cond.and given_1 narrow_1).before args s = true
def lw_Q (_ : Array Value) (s : State) (o : Outcome) (t : State) : Prop := o = .returned (some (.int 1)) ∧ Framed s o t [] 600000 7302249
def lw_Z (below : List Frame) (a : Array Value) (s : State) : State → Prop := fun t => ∃ o, t.status = .running ∧ Ended t below o ∧ lw_Q a s o t
/-- the law's own end, with 1 on the stack, nothing written that was there before, its room as the claim has it -/
theorem lw_ret {p : Program} {l : Launch} {e : Env} {s : State} {m : MethodId} {below : List Frame} {meth : Method} {c : Code} {b : Nat} (hx : p.tables.exec = Jvm.exec) (hb : c.code = code) (hr : meth.sig.returnType = ret) (hlocks : meth.locks = false) {pc : Nat} {H : Heap} {ls : Array Slot} (hdg : decode code pc = .ok (.ireturn, 1)) : W p l e room_1 s m #[Value.ref b] below meth c H [] 600000 7302249 (lw_Z below #[Value.ref b] s) (F0 m pc ls [.int 1]) := by
  intro T hT X
  obtain ⟨fs, hret, hrun, hended, hW, hframe⟩ := X.leave (v := some (.int 1)) (hlocks := hlocks) (fun h => by rw [hr] at h; cases h)
  have hmeth' : T.vm.method? m = some meth := X.method'
  refine ⟨T.setFrames fs, ?_, .returned (some (.int 1)), hrun, hended, rfl, ⟨_, rfl⟩, hW, hframe⟩
  jvm_step X.here [X.here.top, hx, hb, hdg, hmeth', hr, ret, narrow_b1]
  (try refine ⟨rfl, ?_⟩); (try refine ⟨rfl, ?_⟩)
  first | (intro acts; rw [hret _ acts rfl rfl rfl]) | rw [hret _ _ rfl rfl rfl]
  exact Steps.refl _
/-- what holds at the law's entry: the machine, the code, the tables' words (any of lw_tbl by 'hts w (by decide +kernel)'), the script of L ints xs at the cell b, what the Statement gives of the start (any of its parts by flat_of_before) -/
def lw_At (p : Program) (s : State) (m : MethodId) (meth : Method) (c : Code) (b L : Nat) (xs : Nat → Int32) : Prop :=
  p.tables.exec = Jvm.exec ∧ c.code = code ∧ meth.sig.returnType = ret ∧ c.maxLocals = 4 ∧ s.vm.findClass R_law = some m.cls ∧ (∀ w ∈ lw_tbl, w.before #[Value.ref b] s = true) ∧ va_X b L xs s s.heap ∧ b < s.heap.size ∧ meth.locks = false ∧ (Jvm.Cond.and given_1 narrow_1).before #[Value.ref b] s = true
/-! THE LAW: its calls -/
def dq (cc : ByteArray) (pc : Nat) (ins : Instr) (len : Nat) : Bool := match decode cc pc with
  | .ok (i, l) => decide (i = ins) && l == len
  | .error _ => false
theorem dq_ok {cc : ByteArray} {pc : Nat} {ins : Instr} {len : Nat} (h : dq cc pc ins len = true) : decode cc pc = .ok (ins, len) := by
  unfold dq at h
  split at h
  · rename_i i l e
    simp only [Bool.and_eq_true, decide_eq_true_eq, beq_iff_eq] at h
    rw [e, h.1, h.2]
  · cases h
/-- arguments out of the script: aload_0, iload_3, iconst k, iadd, iaload -/
def ldec (cc : ByteArray) : Nat → List Nat → Bool
  | _, [] => true
  | pc, k :: ks => dq cc pc (.aload_n 0) 1 && dq cc (pc + 1) (.iload_n 3) 1 && dq cc (pc + 2) (.iconst (k : Int)) 1 && dq cc (pc + 3) .iadd 1 && dq cc (pc + 4) .iaload 1 && decide (k ≤ 5) && ldec cc (pc + 5) ks
def disj : Nat → List (Int × Int) → List (Int × Int) → Bool
  | n + 1, (a, b) :: r, (c, d) :: q => decide (b < c) || decide (d < a) || disj n r q
  | _, _, _ => false
theorem disj_no : ∀ {n : Nat} {bs cs : List (Int × Int)} {zs : List Int}, disj n bs cs = true → (∀ (g : Nat) (u w z : Int), bs[g]? = some (u, w) → zs[g]? = some z → u ≤ z ∧ z ≤ w) → (∀ (g : Nat) (u w z : Int), cs[g]? = some (u, w) → zs[g]? = some z → u ≤ z ∧ z ≤ w) → n ≤ zs.length → False
  | n + 1, (a, b) :: r, (c, d) :: q, z :: zs, h, h1, h2, hn => by
    simp only [disj, Bool.or_eq_true, decide_eq_true_eq] at h
    have q1 := h1 0 a b z rfl rfl
    have q2 := h2 0 c d z rfl rfl
    rcases h with (h | h) | h
    · omega
    · omega
    · exact disj_no h (fun g u w z' x y => h1 (g + 1) u w z' (by simpa using x) (by simpa using y)) (fun g u w z' x y => h2 (g + 1) u w z' (by simpa using x) (by simpa using y)) (by simpa using hn)
def rceqI (a b : Option XP) : Bool := match a, b with
  | some (.inl (.inl (a, b))), some (.inl (.inl (c, d))) => a == b && c == d && a == c
  | _, _ => false
def rceqL (a b : Option XP) : Bool := match a, b with
  | some (.inl (.inr (a, b))), some (.inl (.inr (c, d))) => a == b && c == d && a == c
  | _, _ => false
def agr (rc : Option XP → Option XP → Bool) (n : Nat) (M1 M2 : XM) : Bool := M1.2.2.all (fun o1 => M2.2.2.all (fun o2 => disj n o1.1.tail o2.1.tail || rc o1.2.1 o2.2.1))
theorem rceqI_ok {B : Nat → Nat → Prop} {G1 G2 : List Int} {a b : Option XP} {v1 v2 : Option Value} (h1 : match a, v1 with | none, none => True | some P, some v => rok B G1 P v | _, _ => False) (h2 : match b, v2 with | none, none => True | some P, some v => rok B G2 P v | _, _ => False) (h : rceqI a b = true) : ∃ i : Int32, v1 = some (.int i) ∧ v2 = some (.int i) := by
  unfold rceqI at h
  split at h
  · rename_i a b c d
    simp only [Bool.and_eq_true, beq_iff_eq] at h
    cases v1 with
    | none => exact absurd h1 (by simp)
    | some v1 =>
      cases v2 with
      | none => exact absurd h2 (by simp)
      | some v2 =>
        obtain ⟨i, rfl, a1, a2⟩ := h1
        obtain ⟨j, rfl, b1, b2⟩ := h2
        have : i = j := Int32.toInt_inj.mp (by omega)
        subst this
        exact ⟨i, rfl, rfl⟩
  · cases h
theorem rceqL_ok {B : Nat → Nat → Prop} {G1 G2 : List Int} {a b : Option XP} {v1 v2 : Option Value} (h1 : match a, v1 with | none, none => True | some P, some v => rok B G1 P v | _, _ => False) (h2 : match b, v2 with | none, none => True | some P, some v => rok B G2 P v | _, _ => False) (h : rceqL a b = true) : ∃ i : Int64, v1 = some (.long i) ∧ v2 = some (.long i) := by
  unfold rceqL at h
  split at h
  · rename_i a b c d
    simp only [Bool.and_eq_true, beq_iff_eq] at h
    cases v1 with
    | none => exact absurd h1 (by simp)
    | some v1 =>
      cases v2 with
      | none => exact absurd h2 (by simp)
      | some v2 =>
        obtain ⟨i, rfl, a1, a2⟩ := h1
        obtain ⟨j, rfl, b1, b2⟩ := h2
        have : i = j := Int64.toInt_inj.mp (by omega)
        subst this
        exact ⟨i, rfl, rfl⟩
  · cases h
theorem agr_ok {rc : Option XP → Option XP → Bool} {E : XE} {lo n : Nat} {M1 M2 : XM} {o1 o2 : XO} {zs r1 r2 : List Int} {z1 z2 : Int} {v1 v2 : Option Value} {f1 f2 : Nat → va_E} (h : agr rc n M1 M2 = true) (h1 : o1 ∈ M1.2.2) (h2 : o2 ∈ M2.2.2) (q1 : OOK E lo (z1 :: (zs ++ r1)) o1 v1 f1) (q2 : OOK E lo (z2 :: (zs ++ r2)) o2 v2 f2) (hn : zs.length = n) : rc o1.2.1 o2.2.1 = true := by
  have a := List.all_eq_true.mp (List.all_eq_true.mp h o1 h1) o2 h2
  simp only [Bool.or_eq_true] at a
  have tl : ∀ (o : XO) (z0 : Int) (r : List Int), (∀ (g : Nat) (u w z : Int), o.1[g]? = some (u, w) → (z0 :: (zs ++ r))[g]? = some z → u ≤ z ∧ z ≤ w) → ∀ (g : Nat) (u w z : Int), o.1.tail[g]? = some (u, w) → zs[g]? = some z → u ≤ z ∧ z ≤ w := by
    intro o z0 r hb g u w z x y
    have hlt : g < zs.length := (List.getElem?_eq_some_iff.mp y).1
    refine hb (g + 1) u w z ?_ ?_
    · rw [← x]; cases o.1 <;> simp
    · simp only [List.getElem?_cons_succ]
      rw [List.getElem?_append_left hlt]; exact y
  rcases a with a | a
  · exact (disj_no a (tl o1 z1 r1 q1.1) (tl o2 z2 r2 q2.1) (by omega)).elim
  · exact a
section LAW
variable {p : Program} {l : Launch} {e : Env} {s : State} {m : MethodId} {below : List Frame} {meth : Method} {c : Code} {H : Heap} {locs : List Loc} {cells slots : Nat} {Q : State → Prop} {R : Room} {args : Array Value}
variable {D : va_G} {t : Nat → ClassId} {lo b pc : Nat} {cc : ByteArray} {xs : Nat → Int32} {ls : Array Slot} {st : List Value} {A : Nat → Prop} {E : XE}
abbrev lawL (b lo : Nat) : List (Nat × Value) := [(3, .int 0), (2, .ref (lo + 304)), (1, .ref (lo + 0)), (0, .ref b)]
theorem larg_ok {rt : Option FieldType} (X : CX p s m args meth c RL cc 4 rt) (hX : va_X b 6 xs s s.heap) (hbl : b < s.heap.size) (hbA : ¬ A b) (hS : va_S A s.heap H locs) (hl : lv_has ls 4 (lawL b lo)) : ∀ (ks : List Nat) (pc : Nat) (st : List Value), ldec cc pc ks = true → W p l e R s m args below meth c H locs cells slots Q (F0 m (pc + 5 * ks.length) ls ((ks.map (fun k => Value.int (xs k))).reverse ++ st)) → W p l e R s m args below meth c H locs cells slots Q (F0 m pc ls st)
  | [], pc, st, _, kk => kk
  | k :: ks, pc, st, h, kk => by
    simp only [ldec, Bool.and_eq_true, decide_eq_true_eq] at h
    obtain ⟨⟨⟨⟨⟨⟨h0, h1⟩, h2⟩, h3⟩, h4⟩, h5⟩, h6⟩ := h
    have hk : (Int32.ofInt (k : Int)).toInt = k := Int32.toInt_ofInt_of_le (by omega) (by omega)
    refine lv_aload_n X.1 X.2.1 (dq_ok h0) rfl (lv_at hl 3 rfl) ?_
    refine lv_iload_n X.1 X.2.1 (dq_ok h1) rfl (lv_at hl 0 rfl) ?_
    refine lv_iconst X.1 X.2.1 (dq_ok h2) rfl ?_
    refine lv_iadd X.1 X.2.1 (dq_ok h3) ?_
    have e0 : (0 : Int32) + Int32.ofInt (k : Int) = Int32.ofInt (k : Int) := Int32.zero_add _
    rw [e0]
    have hc : (Int32.ofInt (k : Int)).toNatClampNeg = k := by
      show (Int32.ofInt (k : Int)).toInt.toNat = k
      rw [hk]; rfl
    refine va_sld X.1 X.2.1 hX hbl hbA hS (vp_in_iff.mpr ⟨by omega, by omega⟩) (dq_ok h4) ?_
    rw [hc]
    refine larg_ok X hX hbl hbA hS hl ks (pc + 5) _ h6 ?_
    simp only [List.length_cons, List.map_cons, List.reverse_cons, List.append_assoc, List.cons_append, List.nil_append] at kk
    rw [show pc + 5 + 5 * ks.length = pc + 5 * (ks.length + 1) by omega]
    exact kk
/-- a call of the law -/
theorem lcall {rt : Option FieldType} {Y : XY} {M : XM} {G : List Int} {f : Nat → va_E} {ob ci κ i na : Nat} {ts : List XT} {As rest : List Value} (X : CX p s m args meth c RL cc 4 rt) (hl : ls.size = 4) (hH : HX D t lo E.2.1.length f A s H locs) (hT : TYP E t lo f) (hM : Met l Y.1 (px_ws Y.1 Y.2.1 Y.2.2.1 Y.2.2.2.1) (px_rm Y.2.2.2.2) (PcM D t lo E.2.1.length f (.ref (lo + ob) :: As)) (QcX E D t lo M G f) 0 0 (px_A lo E.2.1.length)) (hml : ML1 RL Y i 0 na ci) (hob : E.2.1[ob]? = some κ) (hκ : E.1[κ]? = some (.inl (ci, ts))) (hR : Y.2.2.2.2 + 1 ≤ R.frames ∧ 60 * (Y.2.2.2.2 + 1) ≤ R.locals) (hRc : cells ≤ R.cells ∧ slots ≤ R.slots) (hna : As.length = na) (hcat : (rest.map fun v => v.category).sum ≤ 8) (hd : decode cc pc = .ok (.invokevirtual i, 3))
    (kk : ∀ (ov : Option Value) (f2 : Nat → va_E), (∃ o, o ∈ M.2.2 ∧ OOK E lo G o ov f2 ∧ TYP E t lo f2 ∧ FZ E lo f f2) → ∀ (H1 : Heap) (locs1 : List Loc), HX D t lo E.2.1.length f2 A s H1 locs1 → W p l e R s m args below meth c H1 locs1 cells slots Q (F0 m (pc + 3) ls (ov.toList ++ rest))) : W p l e R s m args below meth c H locs cells slots Q (F0 m pc ls (As.reverse ++ .ref (lo + ob) :: rest)) := by
  obtain ⟨m1, m2, m3, m4, m5, m6⟩ := hml
  rw [if_neg (by decide)] at m6
  obtain ⟨m6, m7, TT, N, m8⟩ := m6
  obtain ⟨κ2, k1, k2⟩ := hT ob κ hob
  rw [hκ] at k1
  cases k1
  obtain ⟨fs, e1, e2, e3⟩ := k2
  have hat : px_at lo E.2.1.length f (lo + ob) (.inr (ci, fs)) := ⟨⟨by omega, by have := xB_lt hob; omega⟩, e1⟩
  have hG : GoodIn Wd (wsV RL i Y.1.cls Y.1 (px_ws Y.1 Y.2.1 Y.2.2.1 Y.2.2.2.1)) := by
    intro w hw
    unfold wsV at hw
    rcases List.mem_append.mp hw with q | q
    · simp only [List.mem_cons, List.not_mem_nil, or_false] at q
      rcases q with rfl | rfl | rfl | rfl
      · exact Wd_good _ m1
      · exact Wd_good _ m6
      · exact Wd_good _ m7
      · exact Wd_good _ m3
    · exact wd_all m2 w q
  have hR2 : Y.2.2.2.2 + 1 ≤ R.frames ∧ 8 + (Y.2.2.1 + 11) + 60 * Y.2.2.2.2 ≤ R.locals := by omega
  exact x_back hH (rest := rest) (va_runV (As := As) (rest := rest) ⟨X.1, X.2.1, X.2.2.1, X.2.2.2.1, X.2.2.2.2.1⟩ hM (cwV na X.2.2.2.2.1 hG rfl rfl rfl ⟨rfl, m4⟩ hR2) ⟨PcM.blind, va_recv hH.1 hH.2.1 m8 (q0 := lo + ob - lo) (by rw [px_get hat.1, hat.2]), fun U hU hW => ⟨rfl, va_K.moved hW.alike hH.1, by rw [hU]; exact hH.2.1⟩⟩ rfl hna hl rfl (lv_room hcat) hd hRc) QcX_back kk
end LAW
