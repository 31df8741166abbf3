/-! THE CLAIM OUT OF ONE WALK OF THE LAW'S BODY. Your part is whole_start (and what it stands on); all else here is the same for every law, but numbers. -/
def R_law : String := "TwoLevelsLaw"
def lw_P (b : Addr) (xs : List Int32) (args : Array Value) (s : State) : Prop := args = #[.ref b] ∧ s.IntsAt b xs ∧ xs.length ≤ 2560 ∧ (Jvm.Cond.and given_1 narrow_1).before args s = true
def lw_Q (_ : Array Value) (s : State) (o : Outcome) (t : State) : Prop := o = .returned (some (.int 1)) ∧ Framed s o t [] 12 10409
def lw_Z (below : List Frame) (a : Array Value) (s : State) : State → Prop := fun t => ∃ o, t.status = .running ∧ Ended t below o ∧ lw_Q a s o t
/-- the law's own end, with 1 on the stack, nothing written that was there before, its room as the claim has it -/
theorem lw_ret {p : Program} {l : Launch} {e : Env} {s : State} {m : MethodId} {below : List Frame} {meth : Method} {c : Code} {b : Nat} (hx : p.tables.exec = Jvm.exec) (hb : c.code = code) (hr : meth.sig.returnType = ret) (hlocks : meth.locks = false) {pc : Nat} {H : Heap} {ls : Array Slot} (hdg : decode code pc = .ok (.ireturn, 1)) : W p l e room_1 s m #[Value.ref b] below meth c H [] 12 10409 (lw_Z below #[Value.ref b] s) (F0 m pc ls [.int 1]) := by
  intro T hT X
  obtain ⟨fs, hret, hrun, hended, hW, hframe⟩ := X.leave (v := some (.int 1)) (hlocks := hlocks) (fun h => by rw [hr] at h; cases h)
  have hmeth' : T.vm.method? m = some meth := X.method'
  refine ⟨T.setFrames fs, ?_, .returned (some (.int 1)), hrun, hended, rfl, ⟨_, rfl⟩, hW, hframe⟩
  jvm_step X.here [X.here.top, hx, hb, hdg, hmeth', hr, ret, narrow_b1]
  (try refine ⟨rfl, ?_⟩); (try refine ⟨rfl, ?_⟩)
  first | (intro acts; rw [hret _ acts rfl rfl rfl]) | rw [hret _ _ rfl rfl rfl]
  exact Steps.refl _
/-- what holds at the law's entry: the machine, the code, the tables' words (any of lw_tbl by 'hts w (by decide +kernel)'), the script of L ints xs at the cell b, what the Statement gives of the start (any of its parts by flat_of_before) -/
def lw_At (p : Program) (s : State) (m : MethodId) (meth : Method) (c : Code) (b L : Nat) (xs : Nat → Int32) : Prop :=
  p.tables.exec = Jvm.exec ∧ c.code = code ∧ meth.sig.returnType = ret ∧ c.maxLocals = 4 ∧ s.vm.findClass R_law = some m.cls ∧ (∀ w ∈ lw_tbl, w.before #[Value.ref b] s = true) ∧ va_X b L xs s s.heap ∧ b < s.heap.size ∧ meth.locks = false ∧ (Jvm.Cond.and given_1 narrow_1).before #[Value.ref b] s = true
/-! ===== the law: its judgement and its rows ===== -/
def zLC (g : zE) (κ : zK) (h : zH) (k : zG) (b L : Nat) (xs : Nat → Int32) : Prop :=
  CallFix g.1 g.2.2.2.2.2.1 g.2.2.2.2.2.2.2.2.2 cL_law 4 g.2.2.2.2.1 g.2.2.2.2.2.2.1 zT RL ∧ g.2.2.2.2.2.2.2.2.1.sig.returnType = ret ∧ g.2.2.2.2.2.2.2.2.1.locks = false ∧ va_K κ.1 vwCl (zty κ) g.2.2.2.2.1 ∧ zN g.2.2.2.2.1 ∧ g.2.2.2.1 = room_1 ∧ g.2.2.2.2.2.2.1 = #[Value.ref b] ∧ (zDT κ h ∧ zDM κ k) ∧ ((∀ q ∈ hsT h, g.2.2.2.2.1.heap.size ≤ q) ∧ (∀ q ∈ hsM k, g.2.2.2.2.1.heap.size ≤ q) ∧ (∀ q ∈ hsT h, q ∉ hsM k)) ∧ va_X b L xs g.2.2.2.2.1 g.2.2.2.2.1.heap ∧ b < g.2.2.2.2.1.heap.size
def zL (g : zE) (κ : zK) (h : zH) (k : zG) (u : TS) (v : MS) (lv : List (Nat × Value)) (pc : Nat) (st : List Value) : Prop :=
  ∀ (H : Heap) (locs : List Loc) (ls : Array Slot), va_P κ.1 vwCl (wT κ h u) H → va_P κ.1 vwCl (wM κ k v) H → va_S (fun q => g.2.2.2.2.1.heap.size ≤ q) g.2.2.2.2.1.heap H locs → lv_has ls 4 lv →
    W g.1 g.2.1 g.2.2.1 g.2.2.2.1 g.2.2.2.2.1 g.2.2.2.2.2.1 g.2.2.2.2.2.2.1 g.2.2.2.2.2.2.2.1 g.2.2.2.2.2.2.2.2.1 g.2.2.2.2.2.2.2.2.2 H locs 12 10409 (lw_Z g.2.2.2.2.2.2.2.1 g.2.2.2.2.2.2.1 g.2.2.2.2.1) (F0 g.2.2.2.2.2.1 pc ls st)
section YI
variable {g : zE} {κ : zK} {h : zH} {k : zG} {b L : Nat} {xs : Nat → Int32} {u : TS} {v : MS} {lv : List (Nat × Value)} {pc : Nat} {st : List Value}
theorem y_sub {lv' : List (Nat × Value)} (kk : zL g κ h k u v lv' pc st) (ks : List Nat) (hk : lv_pick lv ks = lv') : zL g κ h k u v lv pc st := fun H locs ls hP hM hS hl => kk H locs ls hP hM hS (lv_sub hl ks hk)
theorem y_iconst (X : zLC g κ h k b L xs) {n : Int} {w : Int32} (d : decode cL_law pc = .ok (.iconst n, 1)) (hv : Int32.ofInt n = w) (kk : zL g κ h k u v lv (pc + 1) (.int w :: st)) : zL g κ h k u v lv pc st := fun H locs ls hP hM hS hl => lv_iconst X.1.1 X.1.2.1 d hv (kk H locs ls hP hM hS hl)
theorem y_bipush (X : zLC g κ h k b L xs) {n : Int} {w : Int32} (d : decode cL_law pc = .ok (.bipush n, 2)) (hv : (Int8.ofInt n).toInt32 = w) (kk : zL g κ h k u v lv (pc + 2) (.int w :: st)) : zL g κ h k u v lv pc st := fun H locs ls hP hM hS hl => lv_bipush X.1.1 X.1.2.1 d hv (kk H locs ls hP hM hS hl)
theorem y_iload_n (X : zLC g κ h k b L xs) {n : Fin 4} {i : Nat} {x : Int32} (d : decode cL_law pc = .ok (.iload_n n, 1)) (j : Nat) (hi : (n : Nat) = i) (hj : lv[j]? = some (i, .int x)) (kk : zL g κ h k u v lv (pc + 1) (.int x :: st)) : zL g κ h k u v lv pc st := fun H locs ls hP hM hS hl => lv_iload_n X.1.1 X.1.2.1 d hi (lv_at hl j hj) (kk H locs ls hP hM hS hl)
theorem y_aload_n (X : zLC g κ h k b L xs) {n : Fin 4} {i : Nat} {x : Nat} (d : decode cL_law pc = .ok (.aload_n n, 1)) (j : Nat) (hi : (n : Nat) = i) (hj : lv[j]? = some (i, .ref x)) (kk : zL g κ h k u v lv (pc + 1) (.ref x :: st)) : zL g κ h k u v lv pc st := fun H locs ls hP hM hS hl => lv_aload_n X.1.1 X.1.2.1 d hi (lv_at hl j hj) (kk H locs ls hP hM hS hl)
theorem y_iinc (X : zLC g κ h k b L xs) {i j : Nat} {n : Int} {x w : Int32} {lv' : List (Nat × Value)} (d : decode cL_law pc = .ok (.iinc i n, 3)) (hk : lv[j]? = some (i, .int x)) (hv : x + Int32.ofInt n = w) (hn : i < 4) (hl1 : (i, Value.int w) :: lv.filter (fun q => !(q.1 == i) && !(q.1 + 1 == i && q.2.category == 2)) = lv') (kk : zL g κ h k u v lv' (pc + 3) st) : zL g κ h k u v lv pc st := fun H locs ls hP hM hS hl => lv_iinc X.1.1 X.1.2.1 d hl hk hv hn hl1 (fun ls1 hl1 => kk H locs ls1 hP hM hS hl1)
theorem y_iadd (X : zLC g κ h k b L xs) {x y : Int32} (d : decode cL_law pc = .ok (.iadd, 1)) (kk : zL g κ h k u v lv (pc + 1) (.int (x + y) :: st)) : zL g κ h k u v lv pc (.int y :: .int x :: st) := fun H locs ls hP hM hS hl => lv_iadd X.1.1 X.1.2.1 d (kk H locs ls hP hM hS hl)
theorem y_isub (X : zLC g κ h k b L xs) {x y : Int32} (d : decode cL_law pc = .ok (.isub, 1)) (kk : zL g κ h k u v lv (pc + 1) (.int (x - y) :: st)) : zL g κ h k u v lv pc (.int y :: .int x :: st) := fun H locs ls hP hM hS hl => lv_isub X.1.1 X.1.2.1 d (kk H locs ls hP hM hS hl)
theorem y_iand (X : zLC g κ h k b L xs) {x y : Int32} (d : decode cL_law pc = .ok (.iand, 1)) (kk : zL g κ h k u v lv (pc + 1) (.int (x &&& y) :: st)) : zL g κ h k u v lv pc (.int y :: .int x :: st) := fun H locs ls hP hM hS hl => lv_iand X.1.1 X.1.2.1 d (kk H locs ls hP hM hS hl)
theorem y_land (X : zLC g κ h k b L xs) {x y : Int64} (d : decode cL_law pc = .ok (.land, 1)) (kk : zL g κ h k u v lv (pc + 1) (.long (x &&& y) :: st)) : zL g κ h k u v lv pc (.long y :: .long x :: st) := fun H locs ls hP hM hS hl => lv_land X.1.1 X.1.2.1 d (kk H locs ls hP hM hS hl)
theorem y_lor (X : zLC g κ h k b L xs) {x y : Int64} (d : decode cL_law pc = .ok (.lor, 1)) (kk : zL g κ h k u v lv (pc + 1) (.long (x ||| y) :: st)) : zL g κ h k u v lv pc (.long y :: .long x :: st) := fun H locs ls hP hM hS hl => lv_lor X.1.1 X.1.2.1 d (kk H locs ls hP hM hS hl)
theorem y_lshl (X : zLC g κ h k b L xs) {x : Int64} {y : Int32} (d : decode cL_law pc = .ok (.lshl, 1)) (kk : zL g κ h k u v lv (pc + 1) (.long (x <<< (y.toInt64 &&& 63)) :: st)) : zL g κ h k u v lv pc (.int y :: .long x :: st) := fun H locs ls hP hM hS hl => lv_lshl X.1.1 X.1.2.1 d rfl (kk H locs ls hP hM hS hl)
theorem y_i2l (X : zLC g κ h k b L xs) {x : Int32} (d : decode cL_law pc = .ok (.i2l, 1)) (kk : zL g κ h k u v lv (pc + 1) (.long x.toInt64 :: st)) : zL g κ h k u v lv pc (.int x :: st) := fun H locs ls hP hM hS hl => lv_i2l X.1.1 X.1.2.1 d rfl (kk H locs ls hP hM hS hl)
theorem y_pop (X : zLC g κ h k b L xs) {va : Value} (d : decode cL_law pc = .ok (.pop, 1)) (hva : va.category = 1) (kk : zL g κ h k u v lv (pc + 1) st) : zL g κ h k u v lv pc (va :: st) := fun H locs ls hP hM hS hl => lv_pop X.1.1 X.1.2.1 d hva (kk H locs ls hP hM hS hl)
theorem y_pop2_2 (X : zLC g κ h k b L xs) {va : Value} (d : decode cL_law pc = .ok (.pop2, 1)) (hva : va.category = 2) (kk : zL g κ h k u v lv (pc + 1) st) : zL g κ h k u v lv pc (va :: st) := fun H locs ls hP hM hS hl => lv_pop2_2 X.1.1 X.1.2.1 d hva (kk H locs ls hP hM hS hl)
theorem y_ldc2 (X : zLC g κ h k b L xs) {idx : Nat} {w : Int64} (hc : Cond.constantLong RL idx w ∈ zT) (d : decode cL_law pc = .ok (.ldc2_w idx, 3)) (kk : zL g κ h k u v lv (pc + 3) (.long w :: st)) : zL g κ h k u v lv pc st := fun H locs ls hP hM hS hl => lv_ldc2 X.1.1 X.1.2.1 X.1.2.2.2.1 (X.1.2.2.2.2 _ hc) d (kk H locs ls hP hM hS hl)
theorem y_goto (X : zLC g κ h k b L xs) {off : Int} {tgt : Nat} (d : decode cL_law pc = .ok (.goto off, 3)) (ht : (pc : Int) + off = (tgt : Int)) (kk : zL g κ h k u v lv tgt st) : zL g κ h k u v lv pc st := fun H locs ls hP hM hS hl => lv_goto X.1.1 X.1.2.1 d ht (kk H locs ls hP hM hS hl)
theorem y_icmp_eq (X : zLC g κ h k b L xs) {x y : Int32} {off : Int} {tgt : Nat} (d : decode cL_law pc = .ok (.if_icmp .eq off, 3)) (ht : (pc : Int) + off = (tgt : Int)) (kt : x = y → zL g κ h k u v lv tgt st) (kf : ¬ x = y → zL g κ h k u v lv (pc + 3) st) : zL g κ h k u v lv pc (.int y :: .int x :: st) := fun H locs ls hP hM hS hl => lv_icmp_eq X.1.1 X.1.2.1 d ht (fun q => kt q H locs ls hP hM hS hl) (fun q => kf q H locs ls hP hM hS hl)
theorem y_icmp_gt (X : zLC g κ h k b L xs) {x y : Int32} {off : Int} {tgt : Nat} (d : decode cL_law pc = .ok (.if_icmp .gt off, 3)) (ht : (pc : Int) + off = (tgt : Int)) (kt : y < x → zL g κ h k u v lv tgt st) (kf : ¬ y < x → zL g κ h k u v lv (pc + 3) st) : zL g κ h k u v lv pc (.int y :: .int x :: st) := fun H locs ls hP hM hS hl => lv_icmp_gt X.1.1 X.1.2.1 d ht (fun q => kt q H locs ls hP hM hS hl) (fun q => kf q H locs ls hP hM hS hl)
theorem y_if_eq (X : zLC g κ h k b L xs) {x : Int32} {off : Int} {tgt : Nat} (d : decode cL_law pc = .ok (.ifCond .eq off, 3)) (ht : (pc : Int) + off = (tgt : Int)) (kt : x = 0 → zL g κ h k u v lv tgt st) (kf : ¬ x = 0 → zL g κ h k u v lv (pc + 3) st) : zL g κ h k u v lv pc (.int x :: st) := fun H locs ls hP hM hS hl => lv_if_eq X.1.1 X.1.2.1 d ht (fun q => kt q H locs ls hP hM hS hl) (fun q => kf q H locs ls hP hM hS hl)
theorem y_lcmp_eq (X : zLC g κ h k b L xs) {x y : Int64} {off : Int} {tgt : Nat} (d0 : decode cL_law pc = .ok (.lcmp, 1)) (d : decode cL_law (pc + 1) = .ok (.ifCond .eq off, 3)) (ht : ((pc + 1 : Nat) : Int) + off = (tgt : Int)) (kt : x = y → zL g κ h k u v lv tgt st) (kf : ¬ x = y → zL g κ h k u v lv (pc + 1 + 3) st) : zL g κ h k u v lv pc (.long y :: .long x :: st) := fun H locs ls hP hM hS hl => W.lcmp X.1.1 X.1.2.1 d0 (lv_if_eq X.1.1 X.1.2.1 d ht (fun q => kt (lg_eq.mp q) H locs ls hP hM hS hl) (fun q => kf (fun z => q (lg_eq.mpr z)) H locs ls hP hM hS hl))
theorem y_tableOut (X : zLC g κ h k b L xs) {dflt lo hi : Int} {offs : Array Int} {len : Nat} {x : Int32} {tgt : Nat} (d : decode cL_law pc = .ok (.tableswitch dflt lo hi offs, len)) (hx : x.toInt < lo ∨ hi < x.toInt) (ht : (pc : Int) + dflt = (tgt : Int)) (kk : zL g κ h k u v lv tgt st) : zL g κ h k u v lv pc (.int x :: st) := fun H locs ls hP hM hS hl => lv_tableOut X.1.1 X.1.2.1 d hx ht (kk H locs ls hP hM hS hl)
theorem y_tableIn (X : zLC g κ h k b L xs) {dflt lo hi : Int} {offs : Array Int} {len : Nat} {x z : Int32} {off : Int} {tgt : Nat} (d : decode cL_law pc = .ok (.tableswitch dflt lo hi offs, len)) (hxz : x = z) (h1 : ¬ z.toInt < lo) (h2 : ¬ hi < z.toInt) (ho : offs[(z.toInt - lo).toNat]? = some off) (ht : (pc : Int) + off = (tgt : Int)) (kk : zL g κ h k u v lv tgt st) : zL g κ h k u v lv pc (.int x :: st) := fun H locs ls hP hM hS hl => by subst hxz; exact lv_tableIn X.1.1 X.1.2.1 d h1 h2 ho ht (kk H locs ls hP hM hS hl)
theorem y_sld (X : zLC g κ h k b L xs) {x : Int32} (hin : vp_in x L) (d : decode cL_law pc = .ok (.iaload, 1)) (kk : zL g κ h k u v lv (pc + 1) (.int (xs x.toNatClampNeg) :: st)) : zL g κ h k u v lv pc (.int x :: .ref b :: st) := fun H locs ls hP hM hS hl => va_sld (A := fun q => g.2.2.2.2.1.heap.size ≤ q) X.1.1 X.1.2.1 X.2.2.2.2.2.2.2.2.2.1 X.2.2.2.2.2.2.2.2.2.2 (Nat.not_le.mpr X.2.2.2.2.2.2.2.2.2.2) hS hin d (kk H locs ls hP hM hS hl)
theorem y_slen (X : zLC g κ h k b L xs) (d : decode cL_law pc = .ok (.arraylength, 1)) (kk : zL g κ h k u v lv (pc + 1) (.int (nI L) :: st)) : zL g κ h k u v lv pc (.ref b :: st) := fun H locs ls hP hM hS hl => va_slen (A := fun q => g.2.2.2.2.1.heap.size ≤ q) X.1.1 X.1.2.1 X.2.2.2.2.2.2.2.2.2.1 X.2.2.2.2.2.2.2.2.2.2 (Nat.not_le.mpr X.2.2.2.2.2.2.2.2.2.2) hS d (kk H locs ls hP hM hS hl)
theorem y_ret (X : zLC g κ h k b L xs) (d : decode cL_law pc = .ok (.ireturn, 1)) : zL g κ h k u v lv pc [.int 1] := fun H locs ls hP hM hS hl => by
  obtain ⟨p, l, e, R, s, m, args, below, meth, c⟩ := g
  obtain ⟨S, hr, hlk, hK, hN, hR, hargs, hx⟩ := X
  have hR : R = room_1 := hR
  have hargs : args = #[Value.ref b] := hargs
  subst hR
  subst hargs
  exact va_forget (fun q hq => hS.2.2 q hq) (lw_ret S.1 S.2.1 hr hlk d)
theorem y_callT {y : MethodName} {bytes : ByteArray} {maxL : Nat} {ret1 : Option FieldType} {rm1 : Room} {As rest st0 : List Value} {Φ1 : TS → Option Value → Prop} {idx n : Nat} {C : String} {T : u_T} {N : Nat} {fs : List Value} (X : zLC g κ h k b L xs) (Y : zY y bytes maxL ret1 n) (hml : Cond.methodLink RL idx y ∈ zT) (him : Cond.instanceMethod y ∈ zT) (hse : Cond.selects C y y ∈ zT)
    (M : zM g.2.1 κ (hsT h) (wT κ h) y bytes maxL ret1 rm1 (.ref h.1 :: As) u Φ1) (ci q0 : Nat) (hc : vwCl[ci]? = some (C, T, N)) (he : (wT κ h u)[q0]? = some (h.1, .inr (ci, fs))) (hn : As.length = n)
    (hz : rm1.cells = 0 ∧ rm1.slots = 0) (hR : rm1.frames + 1 ≤ room_1.frames ∧ 8 + (maxL + 11) + rm1.locals ≤ room_1.locals) (hst : st0 = As.reverse ++ .ref h.1 :: rest) (hroom : (rest.map fun v => v.category).sum ≤ 8) (d : decode cL_law pc = .ok (.invokevirtual idx, 3))
    (kk : ∀ (u1 : TS) (r : Option Value), Φ1 u1 r → zL g κ h k u1 v lv (pc + 3) (r.toList ++ rest)) : zL g κ h k u v lv pc st0 := by
  intro H locs ls hP hM hS hl
  obtain ⟨p, l, e, R, s, m, args, below, meth, c⟩ := g
  obtain ⟨S, hret, hlk, hK, hN, hRr, hargs, hD, ⟨hf1, hf2, hf3⟩, hx⟩ := X
  have hRr : R = room_1 := hRr
  subst hRr
  subst hst
  have hts : ∀ w ∈ zT, w.before args s = true := S.2.2.2.2
  have cw : CallW room_1 s args RL C idx y bytes maxL ret1 (.code y bytes maxL ret1 :: zT) rm1 0 0 n := ⟨callB_of n hts (zT_code Y.1) rfl hz.1 hz.2 (hts _ Y.2.1) (hts _ hml) Y.2.2 hR, hts _ him, hts _ hse⟩
  have hp : PreV s H C h.1 (zP κ (.ref h.1 :: As) (wT κ h u)) As := ⟨zP_blind _ _ _, va_recv hK hP hc he, fun U hU hW => ⟨rfl, by rw [hU]; exact hP, va_K.moved hW.alike hK, hN.warm hW⟩⟩
  intro T0 hT X0
  obtain ⟨vv, st₀, t, T', LL, h0, X', hL, e1, e2, ⟨⟨u', r, hv, hΦ, hP'⟩, hsz, hkk⟩, stp⟩ := va_runV (g := F0 m pc ls (As.reverse ++ .ref h.1 :: rest)) S M cw hp rfl hn hl.1 rfl (lv_room hroom) d ⟨Nat.le_of_ble_eq_true rfl, Nat.le_of_ble_eq_true rfl⟩ T0 hT X0
  cases hv
  rw [h0] at hsz hkk
  obtain ⟨t2, a1, b1⟩ := kk u' _ hΦ T'.heap (locs ++ LL) ls (by rw [e1]; exact hP') (hM.kept (fun j q hq => by rw [e1]; exact hkk _ (hM j q hq).lt (fun z => hf3 _ z ((hD.2 v).2 j q hq)))) ⟨Nat.le_trans hS.1 (by rw [e1]; exact hsz), fun q h1 h2 => by rw [e1, hkk q (Nat.lt_of_lt_of_le h1 hS.1) (fun z => h2 (hf1 q z))]; exact hS.2.1 q h1 h2, fun q hq => (List.mem_append.mp hq).elim (hS.2.2 q) (fun z => hf1 _ (hL q z))⟩ hl T' rfl X'
  exact ⟨t2, stp t2 a1, b1⟩
theorem y_callM {y : MethodName} {bytes : ByteArray} {maxL : Nat} {ret1 : Option FieldType} {rm1 : Room} {As rest st0 : List Value} {Φ1 : MS → Option Value → Prop} {idx n : Nat} {C : String} {T : u_T} {N : Nat} {fs : List Value} (X : zLC g κ h k b L xs) (Y : zY y bytes maxL ret1 n) (hml : Cond.methodLink RL idx y ∈ zT) (him : Cond.instanceMethod y ∈ zT) (hse : Cond.selects C y y ∈ zT)
    (M : zM g.2.1 κ (hsM k) (wM κ k) y bytes maxL ret1 rm1 (.ref k.1 :: As) v Φ1) (ci q0 : Nat) (hc : vwCl[ci]? = some (C, T, N)) (he : (wM κ k v)[q0]? = some (k.1, .inr (ci, fs))) (hn : As.length = n)
    (hz : rm1.cells = 0 ∧ rm1.slots = 0) (hR : rm1.frames + 1 ≤ room_1.frames ∧ 8 + (maxL + 11) + rm1.locals ≤ room_1.locals) (hst : st0 = As.reverse ++ .ref k.1 :: rest) (hroom : (rest.map fun v => v.category).sum ≤ 8) (d : decode cL_law pc = .ok (.invokevirtual idx, 3))
    (kk : ∀ (v1 : MS) (r : Option Value), Φ1 v1 r → zL g κ h k u v1 lv (pc + 3) (r.toList ++ rest)) : zL g κ h k u v lv pc st0 := by
  intro H locs ls hP hM hS hl
  obtain ⟨p, l, e, R, s, m, args, below, meth, c⟩ := g
  obtain ⟨S, hret, hlk, hK, hN, hRr, hargs, hD, ⟨hf1, hf2, hf3⟩, hx⟩ := X
  have hRr : R = room_1 := hRr
  subst hRr
  subst hst
  have hts : ∀ w ∈ zT, w.before args s = true := S.2.2.2.2
  have cw : CallW room_1 s args RL C idx y bytes maxL ret1 (.code y bytes maxL ret1 :: zT) rm1 0 0 n := ⟨callB_of n hts (zT_code Y.1) rfl hz.1 hz.2 (hts _ Y.2.1) (hts _ hml) Y.2.2 hR, hts _ him, hts _ hse⟩
  have hp : PreV s H C k.1 (zP κ (.ref k.1 :: As) (wM κ k v)) As := ⟨zP_blind _ _ _, va_recv hK hM hc he, fun U hU hW => ⟨rfl, by rw [hU]; exact hM, va_K.moved hW.alike hK, hN.warm hW⟩⟩
  intro T0 hT X0
  obtain ⟨vv, st₀, t, T', LL, h0, X', hL, e1, e2, ⟨⟨u', r, hv, hΦ, hP'⟩, hsz, hkk⟩, stp⟩ := va_runV (g := F0 m pc ls (As.reverse ++ .ref k.1 :: rest)) S M cw hp rfl hn hl.1 rfl (lv_room hroom) d ⟨Nat.le_of_ble_eq_true rfl, Nat.le_of_ble_eq_true rfl⟩ T0 hT X0
  cases hv
  rw [h0] at hsz hkk
  obtain ⟨t2, a1, b1⟩ := kk u' _ hΦ T'.heap (locs ++ LL) ls (hP.kept (fun j q hq => by rw [e1]; exact hkk _ (hP j q hq).lt (fun z => hf3 _ ((hD.1 u).2 j q hq) z))) (by rw [e1]; exact hP') ⟨Nat.le_trans hS.1 (by rw [e1]; exact hsz), fun q h1 h2 => by rw [e1, hkk q (Nat.lt_of_lt_of_le h1 hS.1) (fun z => h2 (hf2 q z))]; exact hS.2.1 q h1 h2, fun q hq => (List.mem_append.mp hq).elim (hS.2.2 q) (fun z => hf2 _ (hL q z))⟩ hl T' rfl X'
  exact ⟨t2, stp t2 a1, b1⟩
end YI
def w_law (N : Nat) (xs : Nat → Int32) (L : Nat) : Nat → TS → MS → Int32 → Prop
  | 0, _, _, _ => False
  | n + 1, u, v, x3 => ((((nI L) - (5 : Int32)) < x3 → True) ∧ (¬ ((nI L) - (5 : Int32)) < x3 → (vp_in x3 L ∧ ((((xs (x3).toNatClampNeg) &&& (31 : Int32)) = 0 → (vp_in (x3 + (1 : Int32)) L ∧ (w_X4_open N u (xs ((x3 + (1 : Int32))).toNatClampNeg) fun u6 r5 => (vp_in (x3 + (1 : Int32)) L ∧ (w_X5_open N v (xs ((x3 + (1 : Int32))).toNatClampNeg) fun v9 r8 => (w_law N xs L n u6 v9 (x3 + (5 : Int32)))))))) ∧
    (¬ ((xs (x3).toNatClampNeg) &&& (31 : Int32)) = 0 → ((((xs (x3).toNatClampNeg) &&& (31 : Int32)) = 1 → (vp_in (x3 + (1 : Int32)) L ∧ (w_X4_alloc N u (xs ((x3 + (1 : Int32))).toNatClampNeg) fun u13 r12 => (vp_in (x3 + (1 : Int32)) L ∧ (w_X5_alloc N v (xs ((x3 + (1 : Int32))).toNatClampNeg) fun v16 r15 => (w_law N xs L n u13 v16 (x3 + (5 : Int32)))))))) ∧
    (¬ ((xs (x3).toNatClampNeg) &&& (31 : Int32)) = 1 → ((((xs (x3).toNatClampNeg) &&& (31 : Int32)) = 2 → (vp_in (x3 + (1 : Int32)) L ∧ (vp_in (x3 + (2 : Int32)) L ∧ (w_X4_aligned N u (xs ((x3 + (1 : Int32))).toNatClampNeg) (xs ((x3 + (2 : Int32))).toNatClampNeg) fun u21 r20 => (vp_in (x3 + (1 : Int32)) L ∧ (vp_in (x3 + (2 : Int32)) L ∧ (w_X5_aligned N v (xs ((x3 + (1 : Int32))).toNatClampNeg) (xs ((x3 + (2 : Int32))).toNatClampNeg) fun v25 r24 => (w_law N xs L n u21 v25 (x3 + (5 : Int32)))))))))) ∧
    (¬ ((xs (x3).toNatClampNeg) &&& (31 : Int32)) = 2 → ((((xs (x3).toNatClampNeg) &&& (31 : Int32)) = 3 → (vp_in (x3 + (1 : Int32)) L ∧ (w_X4_free N u (xs ((x3 + (1 : Int32))).toNatClampNeg) fun u29 r28 => (vp_in (x3 + (1 : Int32)) L ∧ (w_X5_free N v (xs ((x3 + (1 : Int32))).toNatClampNeg) fun v32 r31 => (w_law N xs L n u29 v32 (x3 + (5 : Int32)))))))) ∧
    (¬ ((xs (x3).toNatClampNeg) &&& (31 : Int32)) = 3 → ((((xs (x3).toNatClampNeg) &&& (31 : Int32)) = 4 → (vp_in (x3 + (1 : Int32)) L ∧ (vp_in (x3 + (2 : Int32)) L ∧ (w_X4_resize N u (xs ((x3 + (1 : Int32))).toNatClampNeg) (xs ((x3 + (2 : Int32))).toNatClampNeg) fun u37 r36 => (vp_in (x3 + (1 : Int32)) L ∧ (vp_in (x3 + (2 : Int32)) L ∧ (w_X5_resize N v (xs ((x3 + (1 : Int32))).toNatClampNeg) (xs ((x3 + (2 : Int32))).toNatClampNeg) fun v41 r40 => (w_law N xs L n u37 v41 (x3 + (5 : Int32)))))))))) ∧
    (¬ ((xs (x3).toNatClampNeg) &&& (31 : Int32)) = 4 → ((((xs (x3).toNatClampNeg) &&& (31 : Int32)) = 5 → (vp_in (x3 + (1 : Int32)) L ∧ (w_X4_grow N u (xs ((x3 + (1 : Int32))).toNatClampNeg) fun u45 r44 => (vp_in (x3 + (1 : Int32)) L ∧ (w_X5_grow N v (xs ((x3 + (1 : Int32))).toNatClampNeg) fun v48 r47 => (w_law N xs L n u45 v48 (x3 + (5 : Int32)))))))) ∧
    (¬ ((xs (x3).toNatClampNeg) &&& (31 : Int32)) = 5 → ((((xs (x3).toNatClampNeg) &&& (31 : Int32)) = 6 → (vp_in (x3 + (1 : Int32)) L ∧ (w_X4_size N u (xs ((x3 + (1 : Int32))).toNatClampNeg) fun u52 r51 => (vp_in (x3 + (1 : Int32)) L ∧ (w_X5_size N v (xs ((x3 + (1 : Int32))).toNatClampNeg) fun v55 r54 => (w_law N xs L n u52 v55 (x3 + (5 : Int32)))))))) ∧
    (¬ ((xs (x3).toNatClampNeg) &&& (31 : Int32)) = 6 → ((((xs (x3).toNatClampNeg) &&& (31 : Int32)) = 7 → (vp_in (x3 + (1 : Int32)) L ∧ (vp_in (x3 + (2 : Int32)) L ∧ (vp_in (x3 + (3 : Int32)) L ∧ (vp_in (x3 + (4 : Int32)) L ∧ (w_X4_put N u (xs ((x3 + (1 : Int32))).toNatClampNeg) (xs ((x3 + (2 : Int32))).toNatClampNeg) ((((xs ((x3 + (3 : Int32))).toNatClampNeg)).toInt64 <<< (((32 : Int32)).toInt64 &&& 63)) ||| (((xs ((x3 + (4 : Int32))).toNatClampNeg)).toInt64 &&& (4294967295 : Int64))) fun u62 r61 => (vp_in (x3 + (1 : Int32)) L ∧ (vp_in (x3 + (2 : Int32)) L ∧ (vp_in (x3 + (3 : Int32)) L ∧ (vp_in (x3 + (4 : Int32)) L ∧ (w_X5_put N v (xs ((x3 + (1 : Int32))).toNatClampNeg) (xs ((x3 + (2 : Int32))).toNatClampNeg) ((((xs ((x3 + (3 : Int32))).toNatClampNeg)).toInt64 <<< (((32 : Int32)).toInt64 &&& 63)) ||| (((xs ((x3 + (4 : Int32))).toNatClampNeg)).toInt64 &&& (4294967295 : Int64))) fun v68 r67 => (w_law N xs L n u62 v68 (x3 + (5 : Int32)))))))))))))) ∧
    (¬ ((xs (x3).toNatClampNeg) &&& (31 : Int32)) = 7 → ((((xs (x3).toNatClampNeg) &&& (31 : Int32)) = 8 → (vp_in (x3 + (1 : Int32)) L ∧ (w_X4_word N u (xs ((x3 + (1 : Int32))).toNatClampNeg) fun u72 r71 => (vp_in (x3 + (1 : Int32)) L ∧ (w_X5_word N v (xs ((x3 + (1 : Int32))).toNatClampNeg) fun v75 r74 => (w_law N xs L n u72 v75 (x3 + (5 : Int32)))))))) ∧
    (¬ ((xs (x3).toNatClampNeg) &&& (31 : Int32)) = 8 → ((((xs (x3).toNatClampNeg) &&& (31 : Int32)) = 9 → (vp_in (x3 + (1 : Int32)) L ∧ (vp_in (x3 + (2 : Int32)) L ∧ (vp_in (x3 + (3 : Int32)) L ∧ (w_X4_spoil N u (xs ((x3 + (1 : Int32))).toNatClampNeg) ((((xs ((x3 + (2 : Int32))).toNatClampNeg)).toInt64 <<< (((32 : Int32)).toInt64 &&& 63)) ||| (((xs ((x3 + (3 : Int32))).toNatClampNeg)).toInt64 &&& (4294967295 : Int64))) fun u81 r80 => (vp_in (x3 + (1 : Int32)) L ∧ (vp_in (x3 + (2 : Int32)) L ∧ (vp_in (x3 + (3 : Int32)) L ∧ (w_X5_spoil N v (xs ((x3 + (1 : Int32))).toNatClampNeg) ((((xs ((x3 + (2 : Int32))).toNatClampNeg)).toInt64 <<< (((32 : Int32)).toInt64 &&& 63)) ||| (((xs ((x3 + (3 : Int32))).toNatClampNeg)).toInt64 &&& (4294967295 : Int64))) fun v86 r85 => (w_law N xs L n u81 v86 (x3 + (5 : Int32)))))))))))) ∧
    (¬ ((xs (x3).toNatClampNeg) &&& (31 : Int32)) = 9 → ((((xs (x3).toNatClampNeg) &&& (31 : Int32)) = 10 → (w_X4_check N u  fun u89 r88 => (w_X5_check N v  fun v91 r90 => ((r88 = r90 → (w_law N xs L n u89 v91 (x3 + (5 : Int32)))) ∧ (¬ r88 = r90 → False))))) ∧
    (¬ ((xs (x3).toNatClampNeg) &&& (31 : Int32)) = 10 → ((((xs (x3).toNatClampNeg) &&& (31 : Int32)) = 11 → (w_X4_where N u  fun u95 r94 => (w_X5_where N v  fun v97 r96 => (w_law N xs L n u95 v97 (x3 + (5 : Int32)))))) ∧
    (¬ ((xs (x3).toNatClampNeg) &&& (31 : Int32)) = 11 → ((((xs (x3).toNatClampNeg) &&& (31 : Int32)) = 12 → (vp_in (x3 + (1 : Int32)) L ∧ (vp_in (x3 + (2 : Int32)) L ∧ (((xs ((x3 + (2 : Int32))).toNatClampNeg) = 0 → (w_X4_classOf N u (xs ((x3 + (1 : Int32))).toNatClampNeg) (0 : Int32) fun u103 r102 => (vp_in (x3 + (1 : Int32)) L ∧ (vp_in (x3 + (2 : Int32)) L ∧ (((xs ((x3 + (2 : Int32))).toNatClampNeg) = 0 → (w_X5_classOf N v (xs ((x3 + (1 : Int32))).toNatClampNeg) (0 : Int32) fun v108 r107 => (w_law N xs L n u103 v108 (x3 + (5 : Int32))))) ∧ (¬ (xs ((x3 + (2 : Int32))).toNatClampNeg) = 0 → (w_X5_classOf N v (xs ((x3 + (1 : Int32))).toNatClampNeg) (1 : Int32) fun v110 r109 => (w_law N xs L n u103 v110 (x3 + (5 : Int32)))))))))) ∧ (¬ (xs ((x3 + (2 : Int32))).toNatClampNeg) = 0 → (w_X4_classOf N u (xs ((x3 + (1 : Int32))).toNatClampNeg) (1 : Int32) fun u112 r111 => (vp_in (x3 + (1 : Int32)) L ∧ (vp_in (x3 + (2 : Int32)) L ∧ (((xs ((x3 + (2 : Int32))).toNatClampNeg) = 0 → (w_X5_classOf N v (xs ((x3 + (1 : Int32))).toNatClampNeg) (0 : Int32) fun v117 r116 => (w_law N xs L n u112 v117 (x3 + (5 : Int32))))) ∧ (¬ (xs ((x3 + (2 : Int32))).toNatClampNeg) = 0 → (w_X5_classOf N v (xs ((x3 + (1 : Int32))).toNatClampNeg) (1 : Int32) fun v119 r118 => (w_law N xs L n u112 v119 (x3 + (5 : Int32)))))))))))))) ∧
    (¬ ((xs (x3).toNatClampNeg) &&& (31 : Int32)) = 12 → ((((xs (x3).toNatClampNeg) &&& (31 : Int32)) = 13 → (vp_in (x3 + (1 : Int32)) L ∧ (vp_in (x3 + (2 : Int32)) L ∧ (w_X4_listed N u (xs ((x3 + (1 : Int32))).toNatClampNeg) (xs ((x3 + (2 : Int32))).toNatClampNeg) fun u124 r123 => (vp_in (x3 + (1 : Int32)) L ∧ (vp_in (x3 + (2 : Int32)) L ∧ (w_X5_listed N v (xs ((x3 + (1 : Int32))).toNatClampNeg) (xs ((x3 + (2 : Int32))).toNatClampNeg) fun v128 r127 => (w_law N xs L n u124 v128 (x3 + (5 : Int32)))))))))) ∧
    (¬ ((xs (x3).toNatClampNeg) &&& (31 : Int32)) = 13 → ((((xs (x3).toNatClampNeg) &&& (31 : Int32)) = 14 → (vp_in (x3 + (1 : Int32)) L ∧ (w_X4_bits N u (xs ((x3 + (1 : Int32))).toNatClampNeg) fun u132 r131 => (vp_in (x3 + (1 : Int32)) L ∧ (w_X5_bits N v (xs ((x3 + (1 : Int32))).toNatClampNeg) fun v135 r134 => (w_law N xs L n u132 v135 (x3 + (5 : Int32)))))))) ∧
    (¬ ((xs (x3).toNatClampNeg) &&& (31 : Int32)) = 14 → ((((xs (x3).toNatClampNeg) &&& (31 : Int32)) = 15 → (vp_in (x3 + (1 : Int32)) L ∧ (vp_in (x3 + (2 : Int32)) L ∧ (w_X4_block N u (xs ((x3 + (1 : Int32))).toNatClampNeg) (xs ((x3 + (2 : Int32))).toNatClampNeg) fun u140 r139 => (vp_in (x3 + (1 : Int32)) L ∧ (vp_in (x3 + (2 : Int32)) L ∧ (w_X5_block N v (xs ((x3 + (1 : Int32))).toNatClampNeg) (xs ((x3 + (2 : Int32))).toNatClampNeg) fun v144 r143 => (w_law N xs L n u140 v144 (x3 + (5 : Int32)))))))))) ∧
    (¬ ((xs (x3).toNatClampNeg) &&& (31 : Int32)) = 15 → ((((xs (x3).toNatClampNeg) &&& (31 : Int32)) = 16 → (vp_in (x3 + (1 : Int32)) L ∧ (w_X4_found N u (xs ((x3 + (1 : Int32))).toNatClampNeg) fun u148 r147 => (vp_in (x3 + (1 : Int32)) L ∧ (w_X5_found N v (xs ((x3 + (1 : Int32))).toNatClampNeg) fun v151 r150 => (w_law N xs L n u148 v151 (x3 + (5 : Int32)))))))) ∧
    (¬ ((xs (x3).toNatClampNeg) &&& (31 : Int32)) = 16 → ((((xs (x3).toNatClampNeg) &&& (31 : Int32)) = 17 → (vp_in (x3 + (1 : Int32)) L ∧ (w_X4_count N u (xs ((x3 + (1 : Int32))).toNatClampNeg) fun u155 r154 => (vp_in (x3 + (1 : Int32)) L ∧ (w_X5_count N v (xs ((x3 + (1 : Int32))).toNatClampNeg) fun v158 r157 => (w_law N xs L n u155 v158 (x3 + (5 : Int32)))))))) ∧
    (¬ ((xs (x3).toNatClampNeg) &&& (31 : Int32)) = 17 → (w_law N xs L n u v (x3 + (5 : Int32))))))))))))))))))))))))))))))))))))))))))
set_option maxHeartbeats 4000000 in
set_option maxRecDepth 100000 in
theorem j_law {g : zE} {κ : zK} {h : zH} {k : zG} {b L : Nat} {xs : Nat → Int32} (X : zLC g κ h k b L xs) (N : Nat) : ∀ (n : Nat) (u : TS) (v : MS) (x3 : Int32), w_law N xs L n u v x3 → zL g κ h k u v [(0, .ref b), (1, .ref h.1), (2, .ref k.1), (3, .int x3)] 18 [] := by
  intro n
  induction n with
  | zero => intro u v x3 H; exact absurd H (by rw [w_law]; exact id)
  | succ n ih =>
    intro u v x3 H
    rw [w_law] at H
    refine y_iload_n X dL_law_18 3 rfl rfl ?_
    refine y_aload_n X dL_law_19 0 rfl rfl ?_
    refine y_slen X dL_law_20 ?_
    refine y_iconst (w := 5) X dL_law_21 (by decide) ?_
    refine y_isub X dL_law_22 ?_
    refine y_icmp_gt (tgt := 676) X dL_law_23 (by decide) (fun q1 => ?_) (fun q1 => ?_)
    · have H := H.1 q1
      refine y_iconst (w := 1) X dL_law_676 (by decide) ?_
      exact y_ret X dL_law_677
    · have H := H.2 q1
      refine y_aload_n X dL_law_26 0 rfl rfl ?_
      refine y_iload_n X dL_law_27 3 rfl rfl ?_
      obtain ⟨q2, H⟩ := H
      refine y_sld X q2 dL_law_28 ?_
      refine y_bipush (w := 31) X dL_law_29 (by decide) ?_
      refine y_iand X dL_law_31 ?_
      by_cases q3 : ((xs (x3).toNatClampNeg) &&& (31 : Int32)) = 0
      · have H := H.1 q3
        refine y_tableIn (tgt := 120) (z := 0) X dL_law_32 q3 (by decide) (by decide) rfl (by decide) ?_
        refine y_aload_n X dL_law_120 1 rfl rfl ?_
        refine y_aload_n X dL_law_121 0 rfl rfl ?_
        refine y_iload_n X dL_law_122 3 rfl rfl ?_
        refine y_iconst (w := 1) X dL_law_123 (by decide) ?_
        refine y_iadd X dL_law_124 ?_
        obtain ⟨q4, H⟩ := H
        refine y_sld X q4 dL_law_125 ?_
        refine y_callT (As := [.int (xs ((x3 + (1 : Int32))).toNatClampNeg)]) X yy_X4_open ml_L_13 im_X4_open se_X4_open (c_X4_open X.2.2.2.2.2.2.2.1.1 N _ (xs ((x3 + (1 : Int32))).toNatClampNeg) _ H) 3 0 rfl rfl rfl ⟨rfl, rfl⟩ ⟨by decide, by decide⟩ rfl (Nat.le_of_ble_eq_true rfl) dL_law_126 (fun u6 rz H => ?_)
        obtain ⟨r5, hr, H⟩ := H
        subst hr
        refine y_pop X dL_law_129 rfl ?_
        refine y_aload_n X dL_law_130 2 rfl rfl ?_
        refine y_aload_n X dL_law_131 0 rfl rfl ?_
        refine y_iload_n X dL_law_132 3 rfl rfl ?_
        refine y_iconst (w := 1) X dL_law_133 (by decide) ?_
        refine y_iadd X dL_law_134 ?_
        obtain ⟨q7, H⟩ := H
        refine y_sld X q7 dL_law_135 ?_
        refine y_callM (As := [.int (xs ((x3 + (1 : Int32))).toNatClampNeg)]) X yy_X5_open ml_L_17 im_X5_open se_X5_open (c_X5_open X.2.2.2.2.2.2.2.1.2 N _ (xs ((x3 + (1 : Int32))).toNatClampNeg) _ H) 4 0 rfl rfl rfl ⟨rfl, rfl⟩ ⟨by decide, by decide⟩ rfl (Nat.le_of_ble_eq_true rfl) dL_law_136 (fun v9 rz H => ?_)
        obtain ⟨r8, hr, H⟩ := H
        subst hr
        refine y_pop X dL_law_139 rfl ?_
        refine y_goto (tgt := 670) X dL_law_140 (by decide) ?_
        refine y_iinc (j := 3) (w := (x3 + (5 : Int32))) (lv' := [(3, .int (x3 + (5 : Int32))), (0, .ref b), (1, .ref h.1), (2, .ref k.1)]) X dL_law_670 rfl rfl (by decide) rfl ?_
        refine y_goto (tgt := 18) X dL_law_673 (by decide) ?_
        exact y_sub (ih u6 v9 (x3 + (5 : Int32)) H) [1, 2, 3, 0] rfl
      have H := H.2 q3
      by_cases q10 : ((xs (x3).toNatClampNeg) &&& (31 : Int32)) = 1
      · have H := H.1 q10
        refine y_tableIn (tgt := 143) (z := 1) X dL_law_32 q10 (by decide) (by decide) rfl (by decide) ?_
        refine y_aload_n X dL_law_143 1 rfl rfl ?_
        refine y_aload_n X dL_law_144 0 rfl rfl ?_
        refine y_iload_n X dL_law_145 3 rfl rfl ?_
        refine y_iconst (w := 1) X dL_law_146 (by decide) ?_
        refine y_iadd X dL_law_147 ?_
        obtain ⟨q11, H⟩ := H
        refine y_sld X q11 dL_law_148 ?_
        refine y_callT (As := [.int (xs ((x3 + (1 : Int32))).toNatClampNeg)]) X yy_X4_alloc ml_L_18 im_X4_alloc se_X4_alloc (c_X4_alloc X.2.2.2.2.2.2.2.1.1 N _ (xs ((x3 + (1 : Int32))).toNatClampNeg) _ H) 3 0 rfl rfl rfl ⟨rfl, rfl⟩ ⟨by decide, by decide⟩ rfl (Nat.le_of_ble_eq_true rfl) dL_law_149 (fun u13 rz H => ?_)
        obtain ⟨r12, hr, H⟩ := H
        subst hr
        refine y_pop X dL_law_152 rfl ?_
        refine y_aload_n X dL_law_153 2 rfl rfl ?_
        refine y_aload_n X dL_law_154 0 rfl rfl ?_
        refine y_iload_n X dL_law_155 3 rfl rfl ?_
        refine y_iconst (w := 1) X dL_law_156 (by decide) ?_
        refine y_iadd X dL_law_157 ?_
        obtain ⟨q14, H⟩ := H
        refine y_sld X q14 dL_law_158 ?_
        refine y_callM (As := [.int (xs ((x3 + (1 : Int32))).toNatClampNeg)]) X yy_X5_alloc ml_L_21 im_X5_alloc se_X5_alloc (c_X5_alloc X.2.2.2.2.2.2.2.1.2 N _ (xs ((x3 + (1 : Int32))).toNatClampNeg) _ H) 4 0 rfl rfl rfl ⟨rfl, rfl⟩ ⟨by decide, by decide⟩ rfl (Nat.le_of_ble_eq_true rfl) dL_law_159 (fun v16 rz H => ?_)
        obtain ⟨r15, hr, H⟩ := H
        subst hr
        refine y_pop X dL_law_162 rfl ?_
        refine y_goto (tgt := 670) X dL_law_163 (by decide) ?_
        refine y_iinc (j := 3) (w := (x3 + (5 : Int32))) (lv' := [(3, .int (x3 + (5 : Int32))), (0, .ref b), (1, .ref h.1), (2, .ref k.1)]) X dL_law_670 rfl rfl (by decide) rfl ?_
        refine y_goto (tgt := 18) X dL_law_673 (by decide) ?_
        exact y_sub (ih u13 v16 (x3 + (5 : Int32)) H) [1, 2, 3, 0] rfl
      have H := H.2 q10
      by_cases q17 : ((xs (x3).toNatClampNeg) &&& (31 : Int32)) = 2
      · have H := H.1 q17
        refine y_tableIn (tgt := 166) (z := 2) X dL_law_32 q17 (by decide) (by decide) rfl (by decide) ?_
        refine y_aload_n X dL_law_166 1 rfl rfl ?_
        refine y_aload_n X dL_law_167 0 rfl rfl ?_
        refine y_iload_n X dL_law_168 3 rfl rfl ?_
        refine y_iconst (w := 1) X dL_law_169 (by decide) ?_
        refine y_iadd X dL_law_170 ?_
        obtain ⟨q18, H⟩ := H
        refine y_sld X q18 dL_law_171 ?_
        refine y_aload_n X dL_law_172 0 rfl rfl ?_
        refine y_iload_n X dL_law_173 3 rfl rfl ?_
        refine y_iconst (w := 2) X dL_law_174 (by decide) ?_
        refine y_iadd X dL_law_175 ?_
        obtain ⟨q19, H⟩ := H
        refine y_sld X q19 dL_law_176 ?_
        refine y_callT (As := [.int (xs ((x3 + (1 : Int32))).toNatClampNeg), .int (xs ((x3 + (2 : Int32))).toNatClampNeg)]) X yy_X4_aligned ml_L_22 im_X4_aligned se_X4_aligned (c_X4_aligned X.2.2.2.2.2.2.2.1.1 N _ (xs ((x3 + (1 : Int32))).toNatClampNeg) (xs ((x3 + (2 : Int32))).toNatClampNeg) _ H) 3 0 rfl rfl rfl ⟨rfl, rfl⟩ ⟨by decide, by decide⟩ rfl (Nat.le_of_ble_eq_true rfl) dL_law_177 (fun u21 rz H => ?_)
        obtain ⟨r20, hr, H⟩ := H
        subst hr
        refine y_pop X dL_law_180 rfl ?_
        refine y_aload_n X dL_law_181 2 rfl rfl ?_
        refine y_aload_n X dL_law_182 0 rfl rfl ?_
        refine y_iload_n X dL_law_183 3 rfl rfl ?_
        refine y_iconst (w := 1) X dL_law_184 (by decide) ?_
        refine y_iadd X dL_law_185 ?_
        obtain ⟨q22, H⟩ := H
        refine y_sld X q22 dL_law_186 ?_
        refine y_aload_n X dL_law_187 0 rfl rfl ?_
        refine y_iload_n X dL_law_188 3 rfl rfl ?_
        refine y_iconst (w := 2) X dL_law_189 (by decide) ?_
        refine y_iadd X dL_law_190 ?_
        obtain ⟨q23, H⟩ := H
        refine y_sld X q23 dL_law_191 ?_
        refine y_callM (As := [.int (xs ((x3 + (1 : Int32))).toNatClampNeg), .int (xs ((x3 + (2 : Int32))).toNatClampNeg)]) X yy_X5_aligned ml_L_26 im_X5_aligned se_X5_aligned (c_X5_aligned X.2.2.2.2.2.2.2.1.2 N _ (xs ((x3 + (1 : Int32))).toNatClampNeg) (xs ((x3 + (2 : Int32))).toNatClampNeg) _ H) 4 0 rfl rfl rfl ⟨rfl, rfl⟩ ⟨by decide, by decide⟩ rfl (Nat.le_of_ble_eq_true rfl) dL_law_192 (fun v25 rz H => ?_)
        obtain ⟨r24, hr, H⟩ := H
        subst hr
        refine y_pop X dL_law_195 rfl ?_
        refine y_goto (tgt := 670) X dL_law_196 (by decide) ?_
        refine y_iinc (j := 3) (w := (x3 + (5 : Int32))) (lv' := [(3, .int (x3 + (5 : Int32))), (0, .ref b), (1, .ref h.1), (2, .ref k.1)]) X dL_law_670 rfl rfl (by decide) rfl ?_
        refine y_goto (tgt := 18) X dL_law_673 (by decide) ?_
        exact y_sub (ih u21 v25 (x3 + (5 : Int32)) H) [1, 2, 3, 0] rfl
      have H := H.2 q17
      by_cases q26 : ((xs (x3).toNatClampNeg) &&& (31 : Int32)) = 3
      · have H := H.1 q26
        refine y_tableIn (tgt := 199) (z := 3) X dL_law_32 q26 (by decide) (by decide) rfl (by decide) ?_
        refine y_aload_n X dL_law_199 1 rfl rfl ?_
        refine y_aload_n X dL_law_200 0 rfl rfl ?_
        refine y_iload_n X dL_law_201 3 rfl rfl ?_
        refine y_iconst (w := 1) X dL_law_202 (by decide) ?_
        refine y_iadd X dL_law_203 ?_
        obtain ⟨q27, H⟩ := H
        refine y_sld X q27 dL_law_204 ?_
        refine y_callT (As := [.int (xs ((x3 + (1 : Int32))).toNatClampNeg)]) X yy_X4_free ml_L_27 im_X4_free se_X4_free (c_X4_free X.2.2.2.2.2.2.2.1.1 N _ (xs ((x3 + (1 : Int32))).toNatClampNeg) _ H) 3 0 rfl rfl rfl ⟨rfl, rfl⟩ ⟨by decide, by decide⟩ rfl (Nat.le_of_ble_eq_true rfl) dL_law_205 (fun u29 rz H => ?_)
        obtain ⟨r28, hr, H⟩ := H
        subst hr
        refine y_pop X dL_law_208 rfl ?_
        refine y_aload_n X dL_law_209 2 rfl rfl ?_
        refine y_aload_n X dL_law_210 0 rfl rfl ?_
        refine y_iload_n X dL_law_211 3 rfl rfl ?_
        refine y_iconst (w := 1) X dL_law_212 (by decide) ?_
        refine y_iadd X dL_law_213 ?_
        obtain ⟨q30, H⟩ := H
        refine y_sld X q30 dL_law_214 ?_
        refine y_callM (As := [.int (xs ((x3 + (1 : Int32))).toNatClampNeg)]) X yy_X5_free ml_L_30 im_X5_free se_X5_free (c_X5_free X.2.2.2.2.2.2.2.1.2 N _ (xs ((x3 + (1 : Int32))).toNatClampNeg) _ H) 4 0 rfl rfl rfl ⟨rfl, rfl⟩ ⟨by decide, by decide⟩ rfl (Nat.le_of_ble_eq_true rfl) dL_law_215 (fun v32 rz H => ?_)
        obtain ⟨r31, hr, H⟩ := H
        subst hr
        refine y_pop X dL_law_218 rfl ?_
        refine y_goto (tgt := 670) X dL_law_219 (by decide) ?_
        refine y_iinc (j := 3) (w := (x3 + (5 : Int32))) (lv' := [(3, .int (x3 + (5 : Int32))), (0, .ref b), (1, .ref h.1), (2, .ref k.1)]) X dL_law_670 rfl rfl (by decide) rfl ?_
        refine y_goto (tgt := 18) X dL_law_673 (by decide) ?_
        exact y_sub (ih u29 v32 (x3 + (5 : Int32)) H) [1, 2, 3, 0] rfl
      have H := H.2 q26
      by_cases q33 : ((xs (x3).toNatClampNeg) &&& (31 : Int32)) = 4
      · have H := H.1 q33
        refine y_tableIn (tgt := 222) (z := 4) X dL_law_32 q33 (by decide) (by decide) rfl (by decide) ?_
        refine y_aload_n X dL_law_222 1 rfl rfl ?_
        refine y_aload_n X dL_law_223 0 rfl rfl ?_
        refine y_iload_n X dL_law_224 3 rfl rfl ?_
        refine y_iconst (w := 1) X dL_law_225 (by decide) ?_
        refine y_iadd X dL_law_226 ?_
        obtain ⟨q34, H⟩ := H
        refine y_sld X q34 dL_law_227 ?_
        refine y_aload_n X dL_law_228 0 rfl rfl ?_
        refine y_iload_n X dL_law_229 3 rfl rfl ?_
        refine y_iconst (w := 2) X dL_law_230 (by decide) ?_
        refine y_iadd X dL_law_231 ?_
        obtain ⟨q35, H⟩ := H
        refine y_sld X q35 dL_law_232 ?_
        refine y_callT (As := [.int (xs ((x3 + (1 : Int32))).toNatClampNeg), .int (xs ((x3 + (2 : Int32))).toNatClampNeg)]) X yy_X4_resize ml_L_31 im_X4_resize se_X4_resize (c_X4_resize X.2.2.2.2.2.2.2.1.1 N _ (xs ((x3 + (1 : Int32))).toNatClampNeg) (xs ((x3 + (2 : Int32))).toNatClampNeg) _ H) 3 0 rfl rfl rfl ⟨rfl, rfl⟩ ⟨by decide, by decide⟩ rfl (Nat.le_of_ble_eq_true rfl) dL_law_233 (fun u37 rz H => ?_)
        obtain ⟨r36, hr, H⟩ := H
        subst hr
        refine y_pop X dL_law_236 rfl ?_
        refine y_aload_n X dL_law_237 2 rfl rfl ?_
        refine y_aload_n X dL_law_238 0 rfl rfl ?_
        refine y_iload_n X dL_law_239 3 rfl rfl ?_
        refine y_iconst (w := 1) X dL_law_240 (by decide) ?_
        refine y_iadd X dL_law_241 ?_
        obtain ⟨q38, H⟩ := H
        refine y_sld X q38 dL_law_242 ?_
        refine y_aload_n X dL_law_243 0 rfl rfl ?_
        refine y_iload_n X dL_law_244 3 rfl rfl ?_
        refine y_iconst (w := 2) X dL_law_245 (by decide) ?_
        refine y_iadd X dL_law_246 ?_
        obtain ⟨q39, H⟩ := H
        refine y_sld X q39 dL_law_247 ?_
        refine y_callM (As := [.int (xs ((x3 + (1 : Int32))).toNatClampNeg), .int (xs ((x3 + (2 : Int32))).toNatClampNeg)]) X yy_X5_resize ml_L_34 im_X5_resize se_X5_resize (c_X5_resize X.2.2.2.2.2.2.2.1.2 N _ (xs ((x3 + (1 : Int32))).toNatClampNeg) (xs ((x3 + (2 : Int32))).toNatClampNeg) _ H) 4 0 rfl rfl rfl ⟨rfl, rfl⟩ ⟨by decide, by decide⟩ rfl (Nat.le_of_ble_eq_true rfl) dL_law_248 (fun v41 rz H => ?_)
        obtain ⟨r40, hr, H⟩ := H
        subst hr
        refine y_pop X dL_law_251 rfl ?_
        refine y_goto (tgt := 670) X dL_law_252 (by decide) ?_
        refine y_iinc (j := 3) (w := (x3 + (5 : Int32))) (lv' := [(3, .int (x3 + (5 : Int32))), (0, .ref b), (1, .ref h.1), (2, .ref k.1)]) X dL_law_670 rfl rfl (by decide) rfl ?_
        refine y_goto (tgt := 18) X dL_law_673 (by decide) ?_
        exact y_sub (ih u37 v41 (x3 + (5 : Int32)) H) [1, 2, 3, 0] rfl
      have H := H.2 q33
      by_cases q42 : ((xs (x3).toNatClampNeg) &&& (31 : Int32)) = 5
      · have H := H.1 q42
        refine y_tableIn (tgt := 255) (z := 5) X dL_law_32 q42 (by decide) (by decide) rfl (by decide) ?_
        refine y_aload_n X dL_law_255 1 rfl rfl ?_
        refine y_aload_n X dL_law_256 0 rfl rfl ?_
        refine y_iload_n X dL_law_257 3 rfl rfl ?_
        refine y_iconst (w := 1) X dL_law_258 (by decide) ?_
        refine y_iadd X dL_law_259 ?_
        obtain ⟨q43, H⟩ := H
        refine y_sld X q43 dL_law_260 ?_
        refine y_callT (As := [.int (xs ((x3 + (1 : Int32))).toNatClampNeg)]) X yy_X4_grow ml_L_35 im_X4_grow se_X4_grow (c_X4_grow X.2.2.2.2.2.2.2.1.1 N _ (xs ((x3 + (1 : Int32))).toNatClampNeg) _ H) 3 0 rfl rfl rfl ⟨rfl, rfl⟩ ⟨by decide, by decide⟩ rfl (Nat.le_of_ble_eq_true rfl) dL_law_261 (fun u45 rz H => ?_)
        obtain ⟨r44, hr, H⟩ := H
        subst hr
        refine y_pop X dL_law_264 rfl ?_
        refine y_aload_n X dL_law_265 2 rfl rfl ?_
        refine y_aload_n X dL_law_266 0 rfl rfl ?_
        refine y_iload_n X dL_law_267 3 rfl rfl ?_
        refine y_iconst (w := 1) X dL_law_268 (by decide) ?_
        refine y_iadd X dL_law_269 ?_
        obtain ⟨q46, H⟩ := H
        refine y_sld X q46 dL_law_270 ?_
        refine y_callM (As := [.int (xs ((x3 + (1 : Int32))).toNatClampNeg)]) X yy_X5_grow ml_L_38 im_X5_grow se_X5_grow (c_X5_grow X.2.2.2.2.2.2.2.1.2 N _ (xs ((x3 + (1 : Int32))).toNatClampNeg) _ H) 4 0 rfl rfl rfl ⟨rfl, rfl⟩ ⟨by decide, by decide⟩ rfl (Nat.le_of_ble_eq_true rfl) dL_law_271 (fun v48 rz H => ?_)
        obtain ⟨r47, hr, H⟩ := H
        subst hr
        refine y_pop X dL_law_274 rfl ?_
        refine y_goto (tgt := 670) X dL_law_275 (by decide) ?_
        refine y_iinc (j := 3) (w := (x3 + (5 : Int32))) (lv' := [(3, .int (x3 + (5 : Int32))), (0, .ref b), (1, .ref h.1), (2, .ref k.1)]) X dL_law_670 rfl rfl (by decide) rfl ?_
        refine y_goto (tgt := 18) X dL_law_673 (by decide) ?_
        exact y_sub (ih u45 v48 (x3 + (5 : Int32)) H) [1, 2, 3, 0] rfl
      have H := H.2 q42
      by_cases q49 : ((xs (x3).toNatClampNeg) &&& (31 : Int32)) = 6
      · have H := H.1 q49
        refine y_tableIn (tgt := 278) (z := 6) X dL_law_32 q49 (by decide) (by decide) rfl (by decide) ?_
        refine y_aload_n X dL_law_278 1 rfl rfl ?_
        refine y_aload_n X dL_law_279 0 rfl rfl ?_
        refine y_iload_n X dL_law_280 3 rfl rfl ?_
        refine y_iconst (w := 1) X dL_law_281 (by decide) ?_
        refine y_iadd X dL_law_282 ?_
        obtain ⟨q50, H⟩ := H
        refine y_sld X q50 dL_law_283 ?_
        refine y_callT (As := [.int (xs ((x3 + (1 : Int32))).toNatClampNeg)]) X yy_X4_size ml_L_39 im_X4_size se_X4_size (c_X4_size X.2.2.2.2.2.2.2.1.1 N _ (xs ((x3 + (1 : Int32))).toNatClampNeg) _ H) 3 0 rfl rfl rfl ⟨rfl, rfl⟩ ⟨by decide, by decide⟩ rfl (Nat.le_of_ble_eq_true rfl) dL_law_284 (fun u52 rz H => ?_)
        obtain ⟨r51, hr, H⟩ := H
        subst hr
        refine y_pop X dL_law_287 rfl ?_
        refine y_aload_n X dL_law_288 2 rfl rfl ?_
        refine y_aload_n X dL_law_289 0 rfl rfl ?_
        refine y_iload_n X dL_law_290 3 rfl rfl ?_
        refine y_iconst (w := 1) X dL_law_291 (by decide) ?_
        refine y_iadd X dL_law_292 ?_
        obtain ⟨q53, H⟩ := H
        refine y_sld X q53 dL_law_293 ?_
        refine y_callM (As := [.int (xs ((x3 + (1 : Int32))).toNatClampNeg)]) X yy_X5_size ml_L_42 im_X5_size se_X5_size (c_X5_size X.2.2.2.2.2.2.2.1.2 N _ (xs ((x3 + (1 : Int32))).toNatClampNeg) _ H) 4 0 rfl rfl rfl ⟨rfl, rfl⟩ ⟨by decide, by decide⟩ rfl (Nat.le_of_ble_eq_true rfl) dL_law_294 (fun v55 rz H => ?_)
        obtain ⟨r54, hr, H⟩ := H
        subst hr
        refine y_pop X dL_law_297 rfl ?_
        refine y_goto (tgt := 670) X dL_law_298 (by decide) ?_
        refine y_iinc (j := 3) (w := (x3 + (5 : Int32))) (lv' := [(3, .int (x3 + (5 : Int32))), (0, .ref b), (1, .ref h.1), (2, .ref k.1)]) X dL_law_670 rfl rfl (by decide) rfl ?_
        refine y_goto (tgt := 18) X dL_law_673 (by decide) ?_
        exact y_sub (ih u52 v55 (x3 + (5 : Int32)) H) [1, 2, 3, 0] rfl
      have H := H.2 q49
      by_cases q56 : ((xs (x3).toNatClampNeg) &&& (31 : Int32)) = 7
      · have H := H.1 q56
        refine y_tableIn (tgt := 301) (z := 7) X dL_law_32 q56 (by decide) (by decide) rfl (by decide) ?_
        refine y_aload_n X dL_law_301 1 rfl rfl ?_
        refine y_aload_n X dL_law_302 0 rfl rfl ?_
        refine y_iload_n X dL_law_303 3 rfl rfl ?_
        refine y_iconst (w := 1) X dL_law_304 (by decide) ?_
        refine y_iadd X dL_law_305 ?_
        obtain ⟨q57, H⟩ := H
        refine y_sld X q57 dL_law_306 ?_
        refine y_aload_n X dL_law_307 0 rfl rfl ?_
        refine y_iload_n X dL_law_308 3 rfl rfl ?_
        refine y_iconst (w := 2) X dL_law_309 (by decide) ?_
        refine y_iadd X dL_law_310 ?_
        obtain ⟨q58, H⟩ := H
        refine y_sld X q58 dL_law_311 ?_
        refine y_aload_n X dL_law_312 0 rfl rfl ?_
        refine y_iload_n X dL_law_313 3 rfl rfl ?_
        refine y_iconst (w := 3) X dL_law_314 (by decide) ?_
        refine y_iadd X dL_law_315 ?_
        obtain ⟨q59, H⟩ := H
        refine y_sld X q59 dL_law_316 ?_
        refine y_i2l X dL_law_317 ?_
        refine y_bipush (w := 32) X dL_law_318 (by decide) ?_
        refine y_lshl X dL_law_320 ?_
        refine y_aload_n X dL_law_321 0 rfl rfl ?_
        refine y_iload_n X dL_law_322 3 rfl rfl ?_
        refine y_iconst (w := 4) X dL_law_323 (by decide) ?_
        refine y_iadd X dL_law_324 ?_
        obtain ⟨q60, H⟩ := H
        refine y_sld X q60 dL_law_325 ?_
        refine y_i2l X dL_law_326 ?_
        refine y_ldc2 X kl_L_43 dL_law_327 ?_
        refine y_land X dL_law_330 ?_
        refine y_lor X dL_law_331 ?_
        refine y_callT (As := [.int (xs ((x3 + (1 : Int32))).toNatClampNeg), .int (xs ((x3 + (2 : Int32))).toNatClampNeg), .long ((((xs ((x3 + (3 : Int32))).toNatClampNeg)).toInt64 <<< (((32 : Int32)).toInt64 &&& 63)) ||| (((xs ((x3 + (4 : Int32))).toNatClampNeg)).toInt64 &&& (4294967295 : Int64)))]) X yy_X4_put ml_L_45 im_X4_put se_X4_put (c_X4_put X.2.2.2.2.2.2.2.1.1 N _ (xs ((x3 + (1 : Int32))).toNatClampNeg) (xs ((x3 + (2 : Int32))).toNatClampNeg) ((((xs ((x3 + (3 : Int32))).toNatClampNeg)).toInt64 <<< (((32 : Int32)).toInt64 &&& 63)) ||| (((xs ((x3 + (4 : Int32))).toNatClampNeg)).toInt64 &&& (4294967295 : Int64))) _ H) 3 0 rfl rfl rfl ⟨rfl, rfl⟩ ⟨by decide, by decide⟩ rfl (Nat.le_of_ble_eq_true rfl) dL_law_332 (fun u62 rz H => ?_)
        obtain ⟨r61, hr, H⟩ := H
        subst hr
        refine y_pop X dL_law_335 rfl ?_
        refine y_aload_n X dL_law_336 2 rfl rfl ?_
        refine y_aload_n X dL_law_337 0 rfl rfl ?_
        refine y_iload_n X dL_law_338 3 rfl rfl ?_
        refine y_iconst (w := 1) X dL_law_339 (by decide) ?_
        refine y_iadd X dL_law_340 ?_
        obtain ⟨q63, H⟩ := H
        refine y_sld X q63 dL_law_341 ?_
        refine y_aload_n X dL_law_342 0 rfl rfl ?_
        refine y_iload_n X dL_law_343 3 rfl rfl ?_
        refine y_iconst (w := 2) X dL_law_344 (by decide) ?_
        refine y_iadd X dL_law_345 ?_
        obtain ⟨q64, H⟩ := H
        refine y_sld X q64 dL_law_346 ?_
        refine y_aload_n X dL_law_347 0 rfl rfl ?_
        refine y_iload_n X dL_law_348 3 rfl rfl ?_
        refine y_iconst (w := 3) X dL_law_349 (by decide) ?_
        refine y_iadd X dL_law_350 ?_
        obtain ⟨q65, H⟩ := H
        refine y_sld X q65 dL_law_351 ?_
        refine y_i2l X dL_law_352 ?_
        refine y_bipush (w := 32) X dL_law_353 (by decide) ?_
        refine y_lshl X dL_law_355 ?_
        refine y_aload_n X dL_law_356 0 rfl rfl ?_
        refine y_iload_n X dL_law_357 3 rfl rfl ?_
        refine y_iconst (w := 4) X dL_law_358 (by decide) ?_
        refine y_iadd X dL_law_359 ?_
        obtain ⟨q66, H⟩ := H
        refine y_sld X q66 dL_law_360 ?_
        refine y_i2l X dL_law_361 ?_
        refine y_ldc2 X kl_L_43 dL_law_362 ?_
        refine y_land X dL_law_365 ?_
        refine y_lor X dL_law_366 ?_
        refine y_callM (As := [.int (xs ((x3 + (1 : Int32))).toNatClampNeg), .int (xs ((x3 + (2 : Int32))).toNatClampNeg), .long ((((xs ((x3 + (3 : Int32))).toNatClampNeg)).toInt64 <<< (((32 : Int32)).toInt64 &&& 63)) ||| (((xs ((x3 + (4 : Int32))).toNatClampNeg)).toInt64 &&& (4294967295 : Int64)))]) X yy_X5_put ml_L_49 im_X5_put se_X5_put (c_X5_put X.2.2.2.2.2.2.2.1.2 N _ (xs ((x3 + (1 : Int32))).toNatClampNeg) (xs ((x3 + (2 : Int32))).toNatClampNeg) ((((xs ((x3 + (3 : Int32))).toNatClampNeg)).toInt64 <<< (((32 : Int32)).toInt64 &&& 63)) ||| (((xs ((x3 + (4 : Int32))).toNatClampNeg)).toInt64 &&& (4294967295 : Int64))) _ H) 4 0 rfl rfl rfl ⟨rfl, rfl⟩ ⟨by decide, by decide⟩ rfl (Nat.le_of_ble_eq_true rfl) dL_law_367 (fun v68 rz H => ?_)
        obtain ⟨r67, hr, H⟩ := H
        subst hr
        refine y_pop X dL_law_370 rfl ?_
        refine y_goto (tgt := 670) X dL_law_371 (by decide) ?_
        refine y_iinc (j := 3) (w := (x3 + (5 : Int32))) (lv' := [(3, .int (x3 + (5 : Int32))), (0, .ref b), (1, .ref h.1), (2, .ref k.1)]) X dL_law_670 rfl rfl (by decide) rfl ?_
        refine y_goto (tgt := 18) X dL_law_673 (by decide) ?_
        exact y_sub (ih u62 v68 (x3 + (5 : Int32)) H) [1, 2, 3, 0] rfl
      have H := H.2 q56
      by_cases q69 : ((xs (x3).toNatClampNeg) &&& (31 : Int32)) = 8
      · have H := H.1 q69
        refine y_tableIn (tgt := 374) (z := 8) X dL_law_32 q69 (by decide) (by decide) rfl (by decide) ?_
        refine y_aload_n X dL_law_374 1 rfl rfl ?_
        refine y_aload_n X dL_law_375 0 rfl rfl ?_
        refine y_iload_n X dL_law_376 3 rfl rfl ?_
        refine y_iconst (w := 1) X dL_law_377 (by decide) ?_
        refine y_iadd X dL_law_378 ?_
        obtain ⟨q70, H⟩ := H
        refine y_sld X q70 dL_law_379 ?_
        refine y_callT (As := [.int (xs ((x3 + (1 : Int32))).toNatClampNeg)]) X yy_X4_word ml_L_50 im_X4_word se_X4_word (c_X4_word X.2.2.2.2.2.2.2.1.1 N _ (xs ((x3 + (1 : Int32))).toNatClampNeg) _ H) 3 0 rfl rfl rfl ⟨rfl, rfl⟩ ⟨by decide, by decide⟩ rfl (Nat.le_of_ble_eq_true rfl) dL_law_380 (fun u72 rz H => ?_)
        obtain ⟨r71, hr, H⟩ := H
        subst hr
        refine y_pop2_2 X dL_law_383 rfl ?_
        refine y_aload_n X dL_law_384 2 rfl rfl ?_
        refine y_aload_n X dL_law_385 0 rfl rfl ?_
        refine y_iload_n X dL_law_386 3 rfl rfl ?_
        refine y_iconst (w := 1) X dL_law_387 (by decide) ?_
        refine y_iadd X dL_law_388 ?_
        obtain ⟨q73, H⟩ := H
        refine y_sld X q73 dL_law_389 ?_
        refine y_callM (As := [.int (xs ((x3 + (1 : Int32))).toNatClampNeg)]) X yy_X5_word ml_L_54 im_X5_word se_X5_word (c_X5_word X.2.2.2.2.2.2.2.1.2 N _ (xs ((x3 + (1 : Int32))).toNatClampNeg) _ H) 4 0 rfl rfl rfl ⟨rfl, rfl⟩ ⟨by decide, by decide⟩ rfl (Nat.le_of_ble_eq_true rfl) dL_law_390 (fun v75 rz H => ?_)
        obtain ⟨r74, hr, H⟩ := H
        subst hr
        refine y_pop2_2 X dL_law_393 rfl ?_
        refine y_goto (tgt := 670) X dL_law_394 (by decide) ?_
        refine y_iinc (j := 3) (w := (x3 + (5 : Int32))) (lv' := [(3, .int (x3 + (5 : Int32))), (0, .ref b), (1, .ref h.1), (2, .ref k.1)]) X dL_law_670 rfl rfl (by decide) rfl ?_
        refine y_goto (tgt := 18) X dL_law_673 (by decide) ?_
        exact y_sub (ih u72 v75 (x3 + (5 : Int32)) H) [1, 2, 3, 0] rfl
      have H := H.2 q69
      by_cases q76 : ((xs (x3).toNatClampNeg) &&& (31 : Int32)) = 9
      · have H := H.1 q76
        refine y_tableIn (tgt := 397) (z := 9) X dL_law_32 q76 (by decide) (by decide) rfl (by decide) ?_
        refine y_aload_n X dL_law_397 1 rfl rfl ?_
        refine y_aload_n X dL_law_398 0 rfl rfl ?_
        refine y_iload_n X dL_law_399 3 rfl rfl ?_
        refine y_iconst (w := 1) X dL_law_400 (by decide) ?_
        refine y_iadd X dL_law_401 ?_
        obtain ⟨q77, H⟩ := H
        refine y_sld X q77 dL_law_402 ?_
        refine y_aload_n X dL_law_403 0 rfl rfl ?_
        refine y_iload_n X dL_law_404 3 rfl rfl ?_
        refine y_iconst (w := 2) X dL_law_405 (by decide) ?_
        refine y_iadd X dL_law_406 ?_
        obtain ⟨q78, H⟩ := H
        refine y_sld X q78 dL_law_407 ?_
        refine y_i2l X dL_law_408 ?_
        refine y_bipush (w := 32) X dL_law_409 (by decide) ?_
        refine y_lshl X dL_law_411 ?_
        refine y_aload_n X dL_law_412 0 rfl rfl ?_
        refine y_iload_n X dL_law_413 3 rfl rfl ?_
        refine y_iconst (w := 3) X dL_law_414 (by decide) ?_
        refine y_iadd X dL_law_415 ?_
        obtain ⟨q79, H⟩ := H
        refine y_sld X q79 dL_law_416 ?_
        refine y_i2l X dL_law_417 ?_
        refine y_ldc2 X kl_L_43 dL_law_418 ?_
        refine y_land X dL_law_421 ?_
        refine y_lor X dL_law_422 ?_
        refine y_callT (As := [.int (xs ((x3 + (1 : Int32))).toNatClampNeg), .long ((((xs ((x3 + (2 : Int32))).toNatClampNeg)).toInt64 <<< (((32 : Int32)).toInt64 &&& 63)) ||| (((xs ((x3 + (3 : Int32))).toNatClampNeg)).toInt64 &&& (4294967295 : Int64)))]) X yy_X4_spoil ml_L_55 im_X4_spoil se_X4_spoil (c_X4_spoil X.2.2.2.2.2.2.2.1.1 N _ (xs ((x3 + (1 : Int32))).toNatClampNeg) ((((xs ((x3 + (2 : Int32))).toNatClampNeg)).toInt64 <<< (((32 : Int32)).toInt64 &&& 63)) ||| (((xs ((x3 + (3 : Int32))).toNatClampNeg)).toInt64 &&& (4294967295 : Int64))) _ H) 3 0 rfl rfl rfl ⟨rfl, rfl⟩ ⟨by decide, by decide⟩ rfl (Nat.le_of_ble_eq_true rfl) dL_law_423 (fun u81 rz H => ?_)
        obtain ⟨r80, hr, H⟩ := H
        subst hr
        refine y_pop X dL_law_426 rfl ?_
        refine y_aload_n X dL_law_427 2 rfl rfl ?_
        refine y_aload_n X dL_law_428 0 rfl rfl ?_
        refine y_iload_n X dL_law_429 3 rfl rfl ?_
        refine y_iconst (w := 1) X dL_law_430 (by decide) ?_
        refine y_iadd X dL_law_431 ?_
        obtain ⟨q82, H⟩ := H
        refine y_sld X q82 dL_law_432 ?_
        refine y_aload_n X dL_law_433 0 rfl rfl ?_
        refine y_iload_n X dL_law_434 3 rfl rfl ?_
        refine y_iconst (w := 2) X dL_law_435 (by decide) ?_
        refine y_iadd X dL_law_436 ?_
        obtain ⟨q83, H⟩ := H
        refine y_sld X q83 dL_law_437 ?_
        refine y_i2l X dL_law_438 ?_
        refine y_bipush (w := 32) X dL_law_439 (by decide) ?_
        refine y_lshl X dL_law_441 ?_
        refine y_aload_n X dL_law_442 0 rfl rfl ?_
        refine y_iload_n X dL_law_443 3 rfl rfl ?_
        refine y_iconst (w := 3) X dL_law_444 (by decide) ?_
        refine y_iadd X dL_law_445 ?_
        obtain ⟨q84, H⟩ := H
        refine y_sld X q84 dL_law_446 ?_
        refine y_i2l X dL_law_447 ?_
        refine y_ldc2 X kl_L_43 dL_law_448 ?_
        refine y_land X dL_law_451 ?_
        refine y_lor X dL_law_452 ?_
        refine y_callM (As := [.int (xs ((x3 + (1 : Int32))).toNatClampNeg), .long ((((xs ((x3 + (2 : Int32))).toNatClampNeg)).toInt64 <<< (((32 : Int32)).toInt64 &&& 63)) ||| (((xs ((x3 + (3 : Int32))).toNatClampNeg)).toInt64 &&& (4294967295 : Int64)))]) X yy_X5_spoil ml_L_59 im_X5_spoil se_X5_spoil (c_X5_spoil X.2.2.2.2.2.2.2.1.2 N _ (xs ((x3 + (1 : Int32))).toNatClampNeg) ((((xs ((x3 + (2 : Int32))).toNatClampNeg)).toInt64 <<< (((32 : Int32)).toInt64 &&& 63)) ||| (((xs ((x3 + (3 : Int32))).toNatClampNeg)).toInt64 &&& (4294967295 : Int64))) _ H) 4 0 rfl rfl rfl ⟨rfl, rfl⟩ ⟨by decide, by decide⟩ rfl (Nat.le_of_ble_eq_true rfl) dL_law_453 (fun v86 rz H => ?_)
        obtain ⟨r85, hr, H⟩ := H
        subst hr
        refine y_pop X dL_law_456 rfl ?_
        refine y_goto (tgt := 670) X dL_law_457 (by decide) ?_
        refine y_iinc (j := 3) (w := (x3 + (5 : Int32))) (lv' := [(3, .int (x3 + (5 : Int32))), (0, .ref b), (1, .ref h.1), (2, .ref k.1)]) X dL_law_670 rfl rfl (by decide) rfl ?_
        refine y_goto (tgt := 18) X dL_law_673 (by decide) ?_
        exact y_sub (ih u81 v86 (x3 + (5 : Int32)) H) [1, 2, 3, 0] rfl
      have H := H.2 q76
      by_cases q87 : ((xs (x3).toNatClampNeg) &&& (31 : Int32)) = 10
      · have H := H.1 q87
        refine y_tableIn (tgt := 460) (z := 10) X dL_law_32 q87 (by decide) (by decide) rfl (by decide) ?_
        refine y_aload_n X dL_law_460 1 rfl rfl ?_
        refine y_callT (As := []) X yy_X4_check ml_L_60 im_X4_check se_X4_check (c_X4_check X.2.2.2.2.2.2.2.1.1 N _  _ H) 3 0 rfl rfl rfl ⟨rfl, rfl⟩ ⟨by decide, by decide⟩ rfl (Nat.le_of_ble_eq_true rfl) dL_law_461 (fun u89 rz H => ?_)
        obtain ⟨r88, hr, H⟩ := H
        subst hr
        refine y_aload_n X dL_law_464 2 rfl rfl ?_
        refine y_callM (As := []) X yy_X5_check ml_L_64 im_X5_check se_X5_check (c_X5_check X.2.2.2.2.2.2.2.1.2 N _  _ H) 4 0 rfl rfl rfl ⟨rfl, rfl⟩ ⟨by decide, by decide⟩ rfl (Nat.le_of_ble_eq_true rfl) dL_law_465 (fun v91 rz H => ?_)
        obtain ⟨r90, hr, H⟩ := H
        subst hr
        refine y_icmp_eq (tgt := 670) X dL_law_468 (by decide) (fun q92 => ?_) (fun q92 => ?_)
        · have H := H.1 q92
          refine y_iinc (j := 3) (w := (x3 + (5 : Int32))) (lv' := [(3, .int (x3 + (5 : Int32))), (0, .ref b), (1, .ref h.1), (2, .ref k.1)]) X dL_law_670 rfl rfl (by decide) rfl ?_
          refine y_goto (tgt := 18) X dL_law_673 (by decide) ?_
          exact y_sub (ih u89 v91 (x3 + (5 : Int32)) H) [1, 2, 3, 0] rfl
        · have H := H.2 q92
          refine y_iconst (w := 0) X dL_law_471 (by decide) ?_
          exact absurd H id
      have H := H.2 q87
      by_cases q93 : ((xs (x3).toNatClampNeg) &&& (31 : Int32)) = 11
      · have H := H.1 q93
        refine y_tableIn (tgt := 473) (z := 11) X dL_law_32 q93 (by decide) (by decide) rfl (by decide) ?_
        refine y_aload_n X dL_law_473 1 rfl rfl ?_
        refine y_callT (As := []) X yy_X4_where ml_L_65 im_X4_where se_X4_where (c_X4_where X.2.2.2.2.2.2.2.1.1 N _  _ H) 3 0 rfl rfl rfl ⟨rfl, rfl⟩ ⟨by decide, by decide⟩ rfl (Nat.le_of_ble_eq_true rfl) dL_law_474 (fun u95 rz H => ?_)
        obtain ⟨r94, hr, H⟩ := H
        subst hr
        refine y_pop X dL_law_477 rfl ?_
        refine y_aload_n X dL_law_478 2 rfl rfl ?_
        refine y_callM (As := []) X yy_X5_where ml_L_68 im_X5_where se_X5_where (c_X5_where X.2.2.2.2.2.2.2.1.2 N _  _ H) 4 0 rfl rfl rfl ⟨rfl, rfl⟩ ⟨by decide, by decide⟩ rfl (Nat.le_of_ble_eq_true rfl) dL_law_479 (fun v97 rz H => ?_)
        obtain ⟨r96, hr, H⟩ := H
        subst hr
        refine y_pop X dL_law_482 rfl ?_
        refine y_goto (tgt := 670) X dL_law_483 (by decide) ?_
        refine y_iinc (j := 3) (w := (x3 + (5 : Int32))) (lv' := [(3, .int (x3 + (5 : Int32))), (0, .ref b), (1, .ref h.1), (2, .ref k.1)]) X dL_law_670 rfl rfl (by decide) rfl ?_
        refine y_goto (tgt := 18) X dL_law_673 (by decide) ?_
        exact y_sub (ih u95 v97 (x3 + (5 : Int32)) H) [1, 2, 3, 0] rfl
      have H := H.2 q93
      by_cases q98 : ((xs (x3).toNatClampNeg) &&& (31 : Int32)) = 12
      · have H := H.1 q98
        refine y_tableIn (tgt := 486) (z := 12) X dL_law_32 q98 (by decide) (by decide) rfl (by decide) ?_
        refine y_aload_n X dL_law_486 1 rfl rfl ?_
        refine y_aload_n X dL_law_487 0 rfl rfl ?_
        refine y_iload_n X dL_law_488 3 rfl rfl ?_
        refine y_iconst (w := 1) X dL_law_489 (by decide) ?_
        refine y_iadd X dL_law_490 ?_
        obtain ⟨q99, H⟩ := H
        refine y_sld X q99 dL_law_491 ?_
        refine y_aload_n X dL_law_492 0 rfl rfl ?_
        refine y_iload_n X dL_law_493 3 rfl rfl ?_
        refine y_iconst (w := 2) X dL_law_494 (by decide) ?_
        refine y_iadd X dL_law_495 ?_
        obtain ⟨q100, H⟩ := H
        refine y_sld X q100 dL_law_496 ?_
        refine y_if_eq (tgt := 504) X dL_law_497 (by decide) (fun q101 => ?_) (fun q101 => ?_)
        · have H := H.1 q101
          refine y_iconst (w := 0) X dL_law_504 (by decide) ?_
          refine y_callT (As := [.int (xs ((x3 + (1 : Int32))).toNatClampNeg), .int (0 : Int32)]) X yy_X4_classOf ml_L_69 im_X4_classOf se_X4_classOf (c_X4_classOf X.2.2.2.2.2.2.2.1.1 N _ (xs ((x3 + (1 : Int32))).toNatClampNeg) (0 : Int32) _ H) 3 0 rfl rfl rfl ⟨rfl, rfl⟩ ⟨by decide, by decide⟩ rfl (Nat.le_of_ble_eq_true rfl) dL_law_505 (fun u103 rz H => ?_)
          obtain ⟨r102, hr, H⟩ := H
          subst hr
          refine y_pop X dL_law_508 rfl ?_
          refine y_aload_n X dL_law_509 2 rfl rfl ?_
          refine y_aload_n X dL_law_510 0 rfl rfl ?_
          refine y_iload_n X dL_law_511 3 rfl rfl ?_
          refine y_iconst (w := 1) X dL_law_512 (by decide) ?_
          refine y_iadd X dL_law_513 ?_
          obtain ⟨q104, H⟩ := H
          refine y_sld X q104 dL_law_514 ?_
          refine y_aload_n X dL_law_515 0 rfl rfl ?_
          refine y_iload_n X dL_law_516 3 rfl rfl ?_
          refine y_iconst (w := 2) X dL_law_517 (by decide) ?_
          refine y_iadd X dL_law_518 ?_
          obtain ⟨q105, H⟩ := H
          refine y_sld X q105 dL_law_519 ?_
          refine y_if_eq (tgt := 527) X dL_law_520 (by decide) (fun q106 => ?_) (fun q106 => ?_)
          · have H := H.1 q106
            refine y_iconst (w := 0) X dL_law_527 (by decide) ?_
            refine y_callM (As := [.int (xs ((x3 + (1 : Int32))).toNatClampNeg), .int (0 : Int32)]) X yy_X5_classOf ml_L_73 im_X5_classOf se_X5_classOf (c_X5_classOf X.2.2.2.2.2.2.2.1.2 N _ (xs ((x3 + (1 : Int32))).toNatClampNeg) (0 : Int32) _ H) 4 0 rfl rfl rfl ⟨rfl, rfl⟩ ⟨by decide, by decide⟩ rfl (Nat.le_of_ble_eq_true rfl) dL_law_528 (fun v108 rz H => ?_)
            obtain ⟨r107, hr, H⟩ := H
            subst hr
            refine y_pop X dL_law_531 rfl ?_
            refine y_goto (tgt := 670) X dL_law_532 (by decide) ?_
            refine y_iinc (j := 3) (w := (x3 + (5 : Int32))) (lv' := [(3, .int (x3 + (5 : Int32))), (0, .ref b), (1, .ref h.1), (2, .ref k.1)]) X dL_law_670 rfl rfl (by decide) rfl ?_
            refine y_goto (tgt := 18) X dL_law_673 (by decide) ?_
            exact y_sub (ih u103 v108 (x3 + (5 : Int32)) H) [1, 2, 3, 0] rfl
          · have H := H.2 q106
            refine y_iconst (w := 1) X dL_law_523 (by decide) ?_
            refine y_goto (tgt := 528) X dL_law_524 (by decide) ?_
            refine y_callM (As := [.int (xs ((x3 + (1 : Int32))).toNatClampNeg), .int (1 : Int32)]) X yy_X5_classOf ml_L_73 im_X5_classOf se_X5_classOf (c_X5_classOf X.2.2.2.2.2.2.2.1.2 N _ (xs ((x3 + (1 : Int32))).toNatClampNeg) (1 : Int32) _ H) 4 0 rfl rfl rfl ⟨rfl, rfl⟩ ⟨by decide, by decide⟩ rfl (Nat.le_of_ble_eq_true rfl) dL_law_528 (fun v110 rz H => ?_)
            obtain ⟨r109, hr, H⟩ := H
            subst hr
            refine y_pop X dL_law_531 rfl ?_
            refine y_goto (tgt := 670) X dL_law_532 (by decide) ?_
            refine y_iinc (j := 3) (w := (x3 + (5 : Int32))) (lv' := [(3, .int (x3 + (5 : Int32))), (0, .ref b), (1, .ref h.1), (2, .ref k.1)]) X dL_law_670 rfl rfl (by decide) rfl ?_
            refine y_goto (tgt := 18) X dL_law_673 (by decide) ?_
            exact y_sub (ih u103 v110 (x3 + (5 : Int32)) H) [1, 2, 3, 0] rfl
        · have H := H.2 q101
          refine y_iconst (w := 1) X dL_law_500 (by decide) ?_
          refine y_goto (tgt := 505) X dL_law_501 (by decide) ?_
          refine y_callT (As := [.int (xs ((x3 + (1 : Int32))).toNatClampNeg), .int (1 : Int32)]) X yy_X4_classOf ml_L_69 im_X4_classOf se_X4_classOf (c_X4_classOf X.2.2.2.2.2.2.2.1.1 N _ (xs ((x3 + (1 : Int32))).toNatClampNeg) (1 : Int32) _ H) 3 0 rfl rfl rfl ⟨rfl, rfl⟩ ⟨by decide, by decide⟩ rfl (Nat.le_of_ble_eq_true rfl) dL_law_505 (fun u112 rz H => ?_)
          obtain ⟨r111, hr, H⟩ := H
          subst hr
          refine y_pop X dL_law_508 rfl ?_
          refine y_aload_n X dL_law_509 2 rfl rfl ?_
          refine y_aload_n X dL_law_510 0 rfl rfl ?_
          refine y_iload_n X dL_law_511 3 rfl rfl ?_
          refine y_iconst (w := 1) X dL_law_512 (by decide) ?_
          refine y_iadd X dL_law_513 ?_
          obtain ⟨q113, H⟩ := H
          refine y_sld X q113 dL_law_514 ?_
          refine y_aload_n X dL_law_515 0 rfl rfl ?_
          refine y_iload_n X dL_law_516 3 rfl rfl ?_
          refine y_iconst (w := 2) X dL_law_517 (by decide) ?_
          refine y_iadd X dL_law_518 ?_
          obtain ⟨q114, H⟩ := H
          refine y_sld X q114 dL_law_519 ?_
          refine y_if_eq (tgt := 527) X dL_law_520 (by decide) (fun q115 => ?_) (fun q115 => ?_)
          · have H := H.1 q115
            refine y_iconst (w := 0) X dL_law_527 (by decide) ?_
            refine y_callM (As := [.int (xs ((x3 + (1 : Int32))).toNatClampNeg), .int (0 : Int32)]) X yy_X5_classOf ml_L_73 im_X5_classOf se_X5_classOf (c_X5_classOf X.2.2.2.2.2.2.2.1.2 N _ (xs ((x3 + (1 : Int32))).toNatClampNeg) (0 : Int32) _ H) 4 0 rfl rfl rfl ⟨rfl, rfl⟩ ⟨by decide, by decide⟩ rfl (Nat.le_of_ble_eq_true rfl) dL_law_528 (fun v117 rz H => ?_)
            obtain ⟨r116, hr, H⟩ := H
            subst hr
            refine y_pop X dL_law_531 rfl ?_
            refine y_goto (tgt := 670) X dL_law_532 (by decide) ?_
            refine y_iinc (j := 3) (w := (x3 + (5 : Int32))) (lv' := [(3, .int (x3 + (5 : Int32))), (0, .ref b), (1, .ref h.1), (2, .ref k.1)]) X dL_law_670 rfl rfl (by decide) rfl ?_
            refine y_goto (tgt := 18) X dL_law_673 (by decide) ?_
            exact y_sub (ih u112 v117 (x3 + (5 : Int32)) H) [1, 2, 3, 0] rfl
          · have H := H.2 q115
            refine y_iconst (w := 1) X dL_law_523 (by decide) ?_
            refine y_goto (tgt := 528) X dL_law_524 (by decide) ?_
            refine y_callM (As := [.int (xs ((x3 + (1 : Int32))).toNatClampNeg), .int (1 : Int32)]) X yy_X5_classOf ml_L_73 im_X5_classOf se_X5_classOf (c_X5_classOf X.2.2.2.2.2.2.2.1.2 N _ (xs ((x3 + (1 : Int32))).toNatClampNeg) (1 : Int32) _ H) 4 0 rfl rfl rfl ⟨rfl, rfl⟩ ⟨by decide, by decide⟩ rfl (Nat.le_of_ble_eq_true rfl) dL_law_528 (fun v119 rz H => ?_)
            obtain ⟨r118, hr, H⟩ := H
            subst hr
            refine y_pop X dL_law_531 rfl ?_
            refine y_goto (tgt := 670) X dL_law_532 (by decide) ?_
            refine y_iinc (j := 3) (w := (x3 + (5 : Int32))) (lv' := [(3, .int (x3 + (5 : Int32))), (0, .ref b), (1, .ref h.1), (2, .ref k.1)]) X dL_law_670 rfl rfl (by decide) rfl ?_
            refine y_goto (tgt := 18) X dL_law_673 (by decide) ?_
            exact y_sub (ih u112 v119 (x3 + (5 : Int32)) H) [1, 2, 3, 0] rfl
      have H := H.2 q98
      by_cases q120 : ((xs (x3).toNatClampNeg) &&& (31 : Int32)) = 13
      · have H := H.1 q120
        refine y_tableIn (tgt := 535) (z := 13) X dL_law_32 q120 (by decide) (by decide) rfl (by decide) ?_
        refine y_aload_n X dL_law_535 1 rfl rfl ?_
        refine y_aload_n X dL_law_536 0 rfl rfl ?_
        refine y_iload_n X dL_law_537 3 rfl rfl ?_
        refine y_iconst (w := 1) X dL_law_538 (by decide) ?_
        refine y_iadd X dL_law_539 ?_
        obtain ⟨q121, H⟩ := H
        refine y_sld X q121 dL_law_540 ?_
        refine y_aload_n X dL_law_541 0 rfl rfl ?_
        refine y_iload_n X dL_law_542 3 rfl rfl ?_
        refine y_iconst (w := 2) X dL_law_543 (by decide) ?_
        refine y_iadd X dL_law_544 ?_
        obtain ⟨q122, H⟩ := H
        refine y_sld X q122 dL_law_545 ?_
        refine y_callT (As := [.int (xs ((x3 + (1 : Int32))).toNatClampNeg), .int (xs ((x3 + (2 : Int32))).toNatClampNeg)]) X yy_X4_listed ml_L_74 im_X4_listed se_X4_listed (c_X4_listed X.2.2.2.2.2.2.2.1.1 N _ (xs ((x3 + (1 : Int32))).toNatClampNeg) (xs ((x3 + (2 : Int32))).toNatClampNeg) _ H) 3 0 rfl rfl rfl ⟨rfl, rfl⟩ ⟨by decide, by decide⟩ rfl (Nat.le_of_ble_eq_true rfl) dL_law_546 (fun u124 rz H => ?_)
        obtain ⟨r123, hr, H⟩ := H
        subst hr
        refine y_pop X dL_law_549 rfl ?_
        refine y_aload_n X dL_law_550 2 rfl rfl ?_
        refine y_aload_n X dL_law_551 0 rfl rfl ?_
        refine y_iload_n X dL_law_552 3 rfl rfl ?_
        refine y_iconst (w := 1) X dL_law_553 (by decide) ?_
        refine y_iadd X dL_law_554 ?_
        obtain ⟨q125, H⟩ := H
        refine y_sld X q125 dL_law_555 ?_
        refine y_aload_n X dL_law_556 0 rfl rfl ?_
        refine y_iload_n X dL_law_557 3 rfl rfl ?_
        refine y_iconst (w := 2) X dL_law_558 (by decide) ?_
        refine y_iadd X dL_law_559 ?_
        obtain ⟨q126, H⟩ := H
        refine y_sld X q126 dL_law_560 ?_
        refine y_callM (As := [.int (xs ((x3 + (1 : Int32))).toNatClampNeg), .int (xs ((x3 + (2 : Int32))).toNatClampNeg)]) X yy_X5_listed ml_L_77 im_X5_listed se_X5_listed (c_X5_listed X.2.2.2.2.2.2.2.1.2 N _ (xs ((x3 + (1 : Int32))).toNatClampNeg) (xs ((x3 + (2 : Int32))).toNatClampNeg) _ H) 4 0 rfl rfl rfl ⟨rfl, rfl⟩ ⟨by decide, by decide⟩ rfl (Nat.le_of_ble_eq_true rfl) dL_law_561 (fun v128 rz H => ?_)
        obtain ⟨r127, hr, H⟩ := H
        subst hr
        refine y_pop X dL_law_564 rfl ?_
        refine y_goto (tgt := 670) X dL_law_565 (by decide) ?_
        refine y_iinc (j := 3) (w := (x3 + (5 : Int32))) (lv' := [(3, .int (x3 + (5 : Int32))), (0, .ref b), (1, .ref h.1), (2, .ref k.1)]) X dL_law_670 rfl rfl (by decide) rfl ?_
        refine y_goto (tgt := 18) X dL_law_673 (by decide) ?_
        exact y_sub (ih u124 v128 (x3 + (5 : Int32)) H) [1, 2, 3, 0] rfl
      have H := H.2 q120
      by_cases q129 : ((xs (x3).toNatClampNeg) &&& (31 : Int32)) = 14
      · have H := H.1 q129
        refine y_tableIn (tgt := 568) (z := 14) X dL_law_32 q129 (by decide) (by decide) rfl (by decide) ?_
        refine y_aload_n X dL_law_568 1 rfl rfl ?_
        refine y_aload_n X dL_law_569 0 rfl rfl ?_
        refine y_iload_n X dL_law_570 3 rfl rfl ?_
        refine y_iconst (w := 1) X dL_law_571 (by decide) ?_
        refine y_iadd X dL_law_572 ?_
        obtain ⟨q130, H⟩ := H
        refine y_sld X q130 dL_law_573 ?_
        refine y_callT (As := [.int (xs ((x3 + (1 : Int32))).toNatClampNeg)]) X yy_X4_bits ml_L_78 im_X4_bits se_X4_bits (c_X4_bits X.2.2.2.2.2.2.2.1.1 N _ (xs ((x3 + (1 : Int32))).toNatClampNeg) _ H) 3 0 rfl rfl rfl ⟨rfl, rfl⟩ ⟨by decide, by decide⟩ rfl (Nat.le_of_ble_eq_true rfl) dL_law_574 (fun u132 rz H => ?_)
        obtain ⟨r131, hr, H⟩ := H
        subst hr
        refine y_pop X dL_law_577 rfl ?_
        refine y_aload_n X dL_law_578 2 rfl rfl ?_
        refine y_aload_n X dL_law_579 0 rfl rfl ?_
        refine y_iload_n X dL_law_580 3 rfl rfl ?_
        refine y_iconst (w := 1) X dL_law_581 (by decide) ?_
        refine y_iadd X dL_law_582 ?_
        obtain ⟨q133, H⟩ := H
        refine y_sld X q133 dL_law_583 ?_
        refine y_callM (As := [.int (xs ((x3 + (1 : Int32))).toNatClampNeg)]) X yy_X5_bits ml_L_81 im_X5_bits se_X5_bits (c_X5_bits X.2.2.2.2.2.2.2.1.2 N _ (xs ((x3 + (1 : Int32))).toNatClampNeg) _ H) 4 0 rfl rfl rfl ⟨rfl, rfl⟩ ⟨by decide, by decide⟩ rfl (Nat.le_of_ble_eq_true rfl) dL_law_584 (fun v135 rz H => ?_)
        obtain ⟨r134, hr, H⟩ := H
        subst hr
        refine y_pop X dL_law_587 rfl ?_
        refine y_goto (tgt := 670) X dL_law_588 (by decide) ?_
        refine y_iinc (j := 3) (w := (x3 + (5 : Int32))) (lv' := [(3, .int (x3 + (5 : Int32))), (0, .ref b), (1, .ref h.1), (2, .ref k.1)]) X dL_law_670 rfl rfl (by decide) rfl ?_
        refine y_goto (tgt := 18) X dL_law_673 (by decide) ?_
        exact y_sub (ih u132 v135 (x3 + (5 : Int32)) H) [1, 2, 3, 0] rfl
      have H := H.2 q129
      by_cases q136 : ((xs (x3).toNatClampNeg) &&& (31 : Int32)) = 15
      · have H := H.1 q136
        refine y_tableIn (tgt := 591) (z := 15) X dL_law_32 q136 (by decide) (by decide) rfl (by decide) ?_
        refine y_aload_n X dL_law_591 1 rfl rfl ?_
        refine y_aload_n X dL_law_592 0 rfl rfl ?_
        refine y_iload_n X dL_law_593 3 rfl rfl ?_
        refine y_iconst (w := 1) X dL_law_594 (by decide) ?_
        refine y_iadd X dL_law_595 ?_
        obtain ⟨q137, H⟩ := H
        refine y_sld X q137 dL_law_596 ?_
        refine y_aload_n X dL_law_597 0 rfl rfl ?_
        refine y_iload_n X dL_law_598 3 rfl rfl ?_
        refine y_iconst (w := 2) X dL_law_599 (by decide) ?_
        refine y_iadd X dL_law_600 ?_
        obtain ⟨q138, H⟩ := H
        refine y_sld X q138 dL_law_601 ?_
        refine y_callT (As := [.int (xs ((x3 + (1 : Int32))).toNatClampNeg), .int (xs ((x3 + (2 : Int32))).toNatClampNeg)]) X yy_X4_block ml_L_82 im_X4_block se_X4_block (c_X4_block X.2.2.2.2.2.2.2.1.1 N _ (xs ((x3 + (1 : Int32))).toNatClampNeg) (xs ((x3 + (2 : Int32))).toNatClampNeg) _ H) 3 0 rfl rfl rfl ⟨rfl, rfl⟩ ⟨by decide, by decide⟩ rfl (Nat.le_of_ble_eq_true rfl) dL_law_602 (fun u140 rz H => ?_)
        obtain ⟨r139, hr, H⟩ := H
        subst hr
        refine y_pop X dL_law_605 rfl ?_
        refine y_aload_n X dL_law_606 2 rfl rfl ?_
        refine y_aload_n X dL_law_607 0 rfl rfl ?_
        refine y_iload_n X dL_law_608 3 rfl rfl ?_
        refine y_iconst (w := 1) X dL_law_609 (by decide) ?_
        refine y_iadd X dL_law_610 ?_
        obtain ⟨q141, H⟩ := H
        refine y_sld X q141 dL_law_611 ?_
        refine y_aload_n X dL_law_612 0 rfl rfl ?_
        refine y_iload_n X dL_law_613 3 rfl rfl ?_
        refine y_iconst (w := 2) X dL_law_614 (by decide) ?_
        refine y_iadd X dL_law_615 ?_
        obtain ⟨q142, H⟩ := H
        refine y_sld X q142 dL_law_616 ?_
        refine y_callM (As := [.int (xs ((x3 + (1 : Int32))).toNatClampNeg), .int (xs ((x3 + (2 : Int32))).toNatClampNeg)]) X yy_X5_block ml_L_85 im_X5_block se_X5_block (c_X5_block X.2.2.2.2.2.2.2.1.2 N _ (xs ((x3 + (1 : Int32))).toNatClampNeg) (xs ((x3 + (2 : Int32))).toNatClampNeg) _ H) 4 0 rfl rfl rfl ⟨rfl, rfl⟩ ⟨by decide, by decide⟩ rfl (Nat.le_of_ble_eq_true rfl) dL_law_617 (fun v144 rz H => ?_)
        obtain ⟨r143, hr, H⟩ := H
        subst hr
        refine y_pop X dL_law_620 rfl ?_
        refine y_goto (tgt := 670) X dL_law_621 (by decide) ?_
        refine y_iinc (j := 3) (w := (x3 + (5 : Int32))) (lv' := [(3, .int (x3 + (5 : Int32))), (0, .ref b), (1, .ref h.1), (2, .ref k.1)]) X dL_law_670 rfl rfl (by decide) rfl ?_
        refine y_goto (tgt := 18) X dL_law_673 (by decide) ?_
        exact y_sub (ih u140 v144 (x3 + (5 : Int32)) H) [1, 2, 3, 0] rfl
      have H := H.2 q136
      by_cases q145 : ((xs (x3).toNatClampNeg) &&& (31 : Int32)) = 16
      · have H := H.1 q145
        refine y_tableIn (tgt := 624) (z := 16) X dL_law_32 q145 (by decide) (by decide) rfl (by decide) ?_
        refine y_aload_n X dL_law_624 1 rfl rfl ?_
        refine y_aload_n X dL_law_625 0 rfl rfl ?_
        refine y_iload_n X dL_law_626 3 rfl rfl ?_
        refine y_iconst (w := 1) X dL_law_627 (by decide) ?_
        refine y_iadd X dL_law_628 ?_
        obtain ⟨q146, H⟩ := H
        refine y_sld X q146 dL_law_629 ?_
        refine y_callT (As := [.int (xs ((x3 + (1 : Int32))).toNatClampNeg)]) X yy_X4_found ml_L_86 im_X4_found se_X4_found (c_X4_found X.2.2.2.2.2.2.2.1.1 N _ (xs ((x3 + (1 : Int32))).toNatClampNeg) _ H) 3 0 rfl rfl rfl ⟨rfl, rfl⟩ ⟨by decide, by decide⟩ rfl (Nat.le_of_ble_eq_true rfl) dL_law_630 (fun u148 rz H => ?_)
        obtain ⟨r147, hr, H⟩ := H
        subst hr
        refine y_pop X dL_law_633 rfl ?_
        refine y_aload_n X dL_law_634 2 rfl rfl ?_
        refine y_aload_n X dL_law_635 0 rfl rfl ?_
        refine y_iload_n X dL_law_636 3 rfl rfl ?_
        refine y_iconst (w := 1) X dL_law_637 (by decide) ?_
        refine y_iadd X dL_law_638 ?_
        obtain ⟨q149, H⟩ := H
        refine y_sld X q149 dL_law_639 ?_
        refine y_callM (As := [.int (xs ((x3 + (1 : Int32))).toNatClampNeg)]) X yy_X5_found ml_L_89 im_X5_found se_X5_found (c_X5_found X.2.2.2.2.2.2.2.1.2 N _ (xs ((x3 + (1 : Int32))).toNatClampNeg) _ H) 4 0 rfl rfl rfl ⟨rfl, rfl⟩ ⟨by decide, by decide⟩ rfl (Nat.le_of_ble_eq_true rfl) dL_law_640 (fun v151 rz H => ?_)
        obtain ⟨r150, hr, H⟩ := H
        subst hr
        refine y_pop X dL_law_643 rfl ?_
        refine y_goto (tgt := 670) X dL_law_644 (by decide) ?_
        refine y_iinc (j := 3) (w := (x3 + (5 : Int32))) (lv' := [(3, .int (x3 + (5 : Int32))), (0, .ref b), (1, .ref h.1), (2, .ref k.1)]) X dL_law_670 rfl rfl (by decide) rfl ?_
        refine y_goto (tgt := 18) X dL_law_673 (by decide) ?_
        exact y_sub (ih u148 v151 (x3 + (5 : Int32)) H) [1, 2, 3, 0] rfl
      have H := H.2 q145
      by_cases q152 : ((xs (x3).toNatClampNeg) &&& (31 : Int32)) = 17
      · have H := H.1 q152
        refine y_tableIn (tgt := 647) (z := 17) X dL_law_32 q152 (by decide) (by decide) rfl (by decide) ?_
        refine y_aload_n X dL_law_647 1 rfl rfl ?_
        refine y_aload_n X dL_law_648 0 rfl rfl ?_
        refine y_iload_n X dL_law_649 3 rfl rfl ?_
        refine y_iconst (w := 1) X dL_law_650 (by decide) ?_
        refine y_iadd X dL_law_651 ?_
        obtain ⟨q153, H⟩ := H
        refine y_sld X q153 dL_law_652 ?_
        refine y_callT (As := [.int (xs ((x3 + (1 : Int32))).toNatClampNeg)]) X yy_X4_count ml_L_90 im_X4_count se_X4_count (c_X4_count X.2.2.2.2.2.2.2.1.1 N _ (xs ((x3 + (1 : Int32))).toNatClampNeg) _ H) 3 0 rfl rfl rfl ⟨rfl, rfl⟩ ⟨by decide, by decide⟩ rfl (Nat.le_of_ble_eq_true rfl) dL_law_653 (fun u155 rz H => ?_)
        obtain ⟨r154, hr, H⟩ := H
        subst hr
        refine y_pop X dL_law_656 rfl ?_
        refine y_aload_n X dL_law_657 2 rfl rfl ?_
        refine y_aload_n X dL_law_658 0 rfl rfl ?_
        refine y_iload_n X dL_law_659 3 rfl rfl ?_
        refine y_iconst (w := 1) X dL_law_660 (by decide) ?_
        refine y_iadd X dL_law_661 ?_
        obtain ⟨q156, H⟩ := H
        refine y_sld X q156 dL_law_662 ?_
        refine y_callM (As := [.int (xs ((x3 + (1 : Int32))).toNatClampNeg)]) X yy_X5_count ml_L_93 im_X5_count se_X5_count (c_X5_count X.2.2.2.2.2.2.2.1.2 N _ (xs ((x3 + (1 : Int32))).toNatClampNeg) _ H) 4 0 rfl rfl rfl ⟨rfl, rfl⟩ ⟨by decide, by decide⟩ rfl (Nat.le_of_ble_eq_true rfl) dL_law_663 (fun v158 rz H => ?_)
        obtain ⟨r157, hr, H⟩ := H
        subst hr
        refine y_pop X dL_law_666 rfl ?_
        refine y_goto (tgt := 670) X dL_law_667 (by decide) ?_
        refine y_iinc (j := 3) (w := (x3 + (5 : Int32))) (lv' := [(3, .int (x3 + (5 : Int32))), (0, .ref b), (1, .ref h.1), (2, .ref k.1)]) X dL_law_670 rfl rfl (by decide) rfl ?_
        refine y_goto (tgt := 18) X dL_law_673 (by decide) ?_
        exact y_sub (ih u155 v158 (x3 + (5 : Int32)) H) [1, 2, 3, 0] rfl
      have H := H.2 q152
      refine y_tableOut (tgt := 670) X dL_law_32 (by have := lv_neT (a := 0) q3 rfl; have := lv_neT (a := 1) q10 rfl; have := lv_neT (a := 2) q17 rfl; have := lv_neT (a := 3) q26 rfl; have := lv_neT (a := 4) q33 rfl; have := lv_neT (a := 5) q42 rfl; have := lv_neT (a := 6) q49 rfl; have := lv_neT (a := 7) q56 rfl; have := lv_neT (a := 8) q69 rfl; have := lv_neT (a := 9) q76 rfl; have := lv_neT (a := 10) q87 rfl; have := lv_neT (a := 11) q93 rfl; have := lv_neT (a := 12) q98 rfl; have := lv_neT (a := 13) q120 rfl; have := lv_neT (a := 14) q129 rfl; have := lv_neT (a := 15) q136 rfl; have := lv_neT (a := 16) q145 rfl; have := lv_neT (a := 17) q152 rfl; omega) (by decide) ?_
      refine y_iinc (j := 3) (w := (x3 + (5 : Int32))) (lv' := [(3, .int (x3 + (5 : Int32))), (0, .ref b), (1, .ref h.1), (2, .ref k.1)]) X dL_law_670 rfl rfl (by decide) rfl ?_
      refine y_goto (tgt := 18) X dL_law_673 (by decide) ?_
      exact y_sub (ih u v (x3 + (5 : Int32)) H) [1, 2, 3, 0] rfl
