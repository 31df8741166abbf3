/-! ===== the constructors ===== -/
section ZB
variable {p : Program} {l : Launch} {e : Env} {R : Room} {s : State} {m : MethodId} {args : Array Value} {below : List Frame} {meth : Method} {c : Code} {H : Heap} {locs : List Loc} {cells slots : Nat} {Q : State → Prop}
variable {cc : ByteArray} {pc : Nat} {ls : Array Slot} {rest : List Value} {κ : zK} {A : Nat → Prop} {ws : va_W} {H0 : Heap}
theorem zb_newa (hexec : p.tables.exec = Jvm.exec) (hb : c.code = cc) {atype : ArrayType} (harr : (Cond.arrayClass (newarray.typeOf atype)).before args s = true) {ty : FieldType} (hty : newarray.typeOf atype = ty) (hra : ∀ x, va_RA s x ty → s.vm.findClass ("[" ++ ty.toString) = some x) (hK : va_K κ.1 vwCl (zty κ) s) (hP : va_P κ.1 vwCl ws H) (hD : va_D A ws) (hS : va_S A H0 H locs) (hA : ∀ q, H0.size ≤ q → A q)
    {n : Int32} {N' : Nat} {a0 : vp_A} {cA : ClassId} (t0 : Nat) (ht : (zty κ)[t0]? = some (cA, ty)) (ha : ∀ cA : ClassId, vp_cell cA a0 = arrV cA N' (fun _ => defaultValue ty)) (hn : ¬ n < 0) (hN : n.toNatClampNeg = N') (hbytes : N' * componentBytes ty ≤ 536870912) (hcells : cells + 1 ≤ R.cells) (hslots : slots + N' ≤ R.slots) (hdg : decode cc pc = .ok (.newarray atype, 2))
    (kk : ∀ (q : Nat) (H1 : Heap), va_P κ.1 vwCl (ws ++ [(q, .inl (cA, a0))]) H1 → va_D A (ws ++ [(q, .inl (cA, a0))]) → va_S A H0 H1 locs →
      W p l e R s m args below meth c H1 locs (cells + 1) (slots + N') Q (F0 m (pc + 2) ls (.ref q :: rest))) : W p l e R s m args below meth c H locs cells slots Q (F0 m pc ls (.int n :: rest)) := by
  refine va_newa hexec hb harr hty hK hP hD hS hA ha hn hN hbytes hcells hslots hdg (fun q cB H1 hK1 hP1 hD1 hS1 => ?_)
  have h1 := hra _ (hK.2 t0 _ ht).2
  have h2 := hra _ (hK1.2 3 (cB, ty) rfl).2
  have e : cB = cA := Option.some.inj (h2.symm.trans h1)
  subst e
  exact kk q H1 hP1 hD1 hS1
/-- a call of a method whose contract is a zM, from any walk whose world is that world -/
theorem zb_callV {σ : Type} {ω : σ → va_W} {hs : List Nat} {y : MethodName} {bytes : ByteArray} {maxL nL : Nat} {ret1 : Option FieldType} {rm1 : Room} {b : Nat} {As : List Value} {P : σ → Prop} {idx n : Nat} {C own : String} {T : u_T} {N : Nat} {fs : List Value} {u : σ} {st0 : List Value} (S : CallFix p m c cc nL s args zT own) (hK : va_K κ.1 vwCl (zty κ) s) (hN : zN s) (Y : zY y bytes maxL ret1 n) (hml : Cond.methodLink own idx y ∈ zT) (him : Cond.instanceMethod y ∈ zT) (hse : Cond.selects C y y ∈ zT)
    (M : zM l κ hs ω y bytes maxL ret1 rm1 (.ref b :: As) u (zv P)) (ci q0 : Nat) (hc : vwCl[ci]? = some (C, T, N)) (he : (ω u)[q0]? = some (b, .inr (ci, fs))) (hn : As.length = n)
    (hz : rm1.cells = 0 ∧ rm1.slots = 0) (hR : rm1.frames + 1 ≤ R.frames ∧ 8 + (maxL + 11) + rm1.locals ≤ R.locals) (hst : st0 = As.reverse ++ .ref b :: rest) (hroom : (rest.map fun v => v.category).sum ≤ 8) (hl : ls.size = nL) (hP : va_P κ.1 vwCl (ω u) H) (hS : va_S A H0 H locs) (hA : ∀ q ∈ hs, A q) (hf : cells ≤ R.cells ∧ slots ≤ R.slots) (d : decode cc pc = .ok (.invokevirtual idx, 3))
    (kk : ∀ (u' : σ) (H1 : Heap) (locs1 : List Loc), P u' → va_P κ.1 vwCl (ω u') H1 → va_S A H0 H1 locs1 → W p l e R s m args below meth c H1 locs1 cells slots Q (F0 m (pc + 3) ls rest)) : W p l e R s m args below meth c H locs cells slots Q (F0 m pc ls st0) := by
  subst hst
  have hts : ∀ w ∈ zT, w.before args s = true := S.2.2.2.2
  have cw : CallW R s args own C idx y bytes maxL ret1 (.code y bytes maxL ret1 :: zT) rm1 0 0 n := ⟨callB_of n hts (zT_code Y.1) rfl hz.1 hz.2 (hts _ Y.2.1) (hts _ hml) Y.2.2 hR, hts _ him, hts _ hse⟩
  have hp : PreV s H C b (zP κ (.ref b :: As) (ω u)) As := ⟨zP_blind _ _ _, va_recv hK hP hc he, fun U hU hW => ⟨rfl, by rw [hU]; exact hP, va_K.moved hW.alike hK, hN.warm hW⟩⟩
  intro T0 hT X0
  obtain ⟨v, st₀, t, T', L, h0, X', hL, e1, e2, ⟨⟨u', r, hv, ⟨hr, hΦ⟩, hP'⟩, hsz, hk⟩, stp⟩ := va_runV (g := F0 m pc ls (As.reverse ++ .ref b :: rest)) S M cw hp rfl hn hl rfl (lv_room hroom) d hf T0 hT X0
  cases hv
  cases hr
  rw [h0] at hsz hk
  obtain ⟨t2, a1, b1⟩ := kk u' T'.heap (locs ++ L) hΦ (by rw [e1]; exact hP') ⟨Nat.le_trans hS.1 (by rw [e1]; exact hsz), fun q h1 h2 => by rw [e1, hk q (Nat.lt_of_lt_of_le h1 hS.1) (fun z => h2 (hA q z))]; exact hS.2.1 q h1 h2, fun q hq => (List.mem_append.mp hq).elim (hS.2.2 q) (fun z => hA _ (hL q z))⟩ T' rfl X'
  exact ⟨t2, stp t2 a1, b1⟩
end ZB
set_option maxHeartbeats 4000000 in
set_option maxRecDepth 100000 in
theorem c_X3_init (l : Launch) (κ : zK) (h0 : Nat) (sz : Nat) : Met l yX3_init (.code yX3_init cX3_init 1 none :: zT) { frames := 1, cells := 1, slots := 2048, locals := 12 } (va_Pc [.ref h0] (fun U => U.heap.size = sz ∧ va_P κ.1 vwCl [(h0, .inr (2, [.null, .int 0]))] U.heap ∧ va_K κ.1 vwCl (zty κ) U ∧ va_D (fun _ => True) [(h0, .inr (2, [.null, .int 0]))] ∧ zN U)) (va_Qv (fun z : Nat => True) (fun z t => va_P κ.1 vwCl [(h0, .inr (2, [.ref z, .int 0])), (z, .inl (κ.2.2.1, 2048, .inr (.inl fun _ => 0)))] t.heap ∧ va_D (va_A [(h0, .inr (2, [.null, .int 0]))] sz) [(h0, .inr (2, [.ref z, .int 0])), (z, .inl (κ.2.2.1, 2048, .inr (.inl fun _ => 0)))]) (va_A [(h0, .inr (2, [.null, .int 0]))] sz)) 1 2048 (va_A [(h0, .inr (2, [.null, .int 0]))] sz) := by
  refine Met.ofW (cc := cX3_init) (maxL := 1) (ret := none) (by decide) rfl ?_
  intro p e s m args below meth c s₁ B hml hv
  obtain ⟨rfl, hsz, hP, hK, hD0, hN⟩ := hv
  have hx := B.exec
  have hb := B.bytes
  have hr := B.returns
  have hts0 := atoms_spec (ws := .code yX3_init cX3_init 1 none :: zT) B.pre
  have hts : ∀ w ∈ zT, w.before ([.ref h0] : List Value).toArray s = true := fun w hw => hts0 w (List.mem_cons_of_mem _ hw)
  have hown : s.vm.findClass RX3 = some m.cls := findClass_of_methodNamed B.named
  have hlocks := B.notSynchronized
  have hin : meth.name = "<init>" := (name_of_methodNamed B.named B.method).1
  subst hsz
  have hD := hD0.self (sz := s.heap.size)
  generalize hAe : va_A [(h0, .inr (2, [.null, .int 0]))] s.heap.size = A at hD ⊢
  have hA : ∀ q : Nat, s.heap.size ≤ q → A q := fun q h => by rw [← hAe]; exact Or.inr h
  have hS : va_S A s.heap s.heap [] := va_S.rf
  have hl := lv_entry ([.ref h0]) (n := 1) (Nat.le_of_ble_eq_true rfl)
  rw [lg_entry_eq]
  generalize (lg_sl ([.ref h0]) ++ List.replicate (1 - (lg_sl ([.ref h0])).length) Slot.unset).toArray = ls at hl ⊢
  have hl : lv_has ls 1 [(0, .ref h0)] := hl
  refine lv_aload_n hx hb dX3_init_0 rfl (lv_at hl 0 rfl) ?_
  refine W.objInit hx hb hown (hts _ ml_X3_3) (hts _ im_objectInit) (hts _ cd_objectInit) rfl (by rw [hml]; exact hl.1) rfl dX3_init_1 (Nat.le_of_ble_eq_true rfl) (Nat.le_of_ble_eq_true rfl) ?_
  refine W.eq (g2 := F0 m 4 ls []) rfl ?_
  refine lv_aload_n hx hb dX3_init_4 rfl (lv_at hl 0 rfl) ?_
  refine lv_sipush (v := 2048) hx hb dX3_init_5 (by decide) ?_
  refine zb_newa (atype := .long) (ty := .long) (a0 := (2048, .inr (.inl fun _ => 0))) (N' := 2048) hx hb (hts _ ac_long) rfl (fun _ h => h) hK hP hD hS hA 1 rfl (fun _ => rfl) (by decide) (by decide) (by decide) (Nat.le_of_ble_eq_true rfl) (Nat.le_of_ble_eq_true rfl) dX3_init_8 (fun q1 H hP hD hS => ?_)
  have hP : va_P κ.1 vwCl [(h0, .inr (2, [.null, .int 0])), (q1, .inl (κ.2.2.1, 2048, .inr (.inl fun _ => 0)))] H := hP
  have hD : va_D A [(h0, .inr (2, [.null, .int 0])), (q1, .inl (κ.2.2.1, 2048, .inr (.inl fun _ => 0)))] := hD
  refine va_putF (D := κ.1) (ci := 2) (v := .ref q1) (ty := .array .long) (C := RX3) (T := TX3) (N := 2) hx hb hts us_X3 tyX3 tyX3_ok nmX3 hown hK hP hD hS 0 rfl rfl 0 (by decide) (hts _ fl_X3_9) (fun _ h9 => h9) rfl hin rfl (by decide +kernel) rfl rfl (Nat.le_of_ble_eq_true rfl) dX3_init_10 (fun H locs hP hD hS => ?_)
  have hP : va_P κ.1 vwCl [(h0, .inr (2, [.ref q1, .int 0])), (q1, .inl (κ.2.2.1, 2048, .inr (.inl fun _ => 0)))] H := hP
  have hD : va_D A [(h0, .inr (2, [.ref q1, .int 0])), (q1, .inl (κ.2.2.1, 2048, .inr (.inl fun _ => 0)))] := hD
  subst hAe
  exact W.vret hx hb hr (fun t ht hW => ⟨⟨q1, rfl, trivial, by rw [ht]; exact hP, hD⟩, hS.F ht⟩) hS.2.2 dX3_init_13
set_option maxHeartbeats 4000000 in
set_option maxRecDepth 100000 in
theorem c_X2_init (l : Launch) (κ : zK) (h0 h1 : Nat) (sz : Nat) : Met l yX2_init (.code yX2_init cX2_init 2 none :: zT) { frames := 1, cells := 1, slots := 72, locals := 12 } (va_Pc [.ref h0, .ref h1] (fun U => U.heap.size = sz ∧ va_P κ.1 vwCl [(h0, .inr (1, [.null, .null, .int 0]))] U.heap ∧ va_K κ.1 vwCl (zty κ) U ∧ va_D (fun _ => True) [(h0, .inr (1, [.null, .null, .int 0]))] ∧ zN U)) (va_Qv (fun z : Nat => True) (fun z t => va_P κ.1 vwCl [(h0, .inr (1, [.ref h1, .ref z, .int 0])), (z, .inl (κ.2.1, 72, .inl fun _ => 0))] t.heap ∧ va_D (va_A [(h0, .inr (1, [.null, .null, .int 0]))] sz) [(h0, .inr (1, [.ref h1, .ref z, .int 0])), (z, .inl (κ.2.1, 72, .inl fun _ => 0))]) (va_A [(h0, .inr (1, [.null, .null, .int 0]))] sz)) 1 72 (va_A [(h0, .inr (1, [.null, .null, .int 0]))] sz) := by
  refine Met.ofW (cc := cX2_init) (maxL := 2) (ret := none) (by decide) rfl ?_
  intro p e s m args below meth c s₁ B hml hv
  obtain ⟨rfl, hsz, hP, hK, hD0, hN⟩ := hv
  have hx := B.exec
  have hb := B.bytes
  have hr := B.returns
  have hts0 := atoms_spec (ws := .code yX2_init cX2_init 2 none :: zT) B.pre
  have hts : ∀ w ∈ zT, w.before ([.ref h0, .ref h1] : List Value).toArray s = true := fun w hw => hts0 w (List.mem_cons_of_mem _ hw)
  have hown : s.vm.findClass RX2 = some m.cls := findClass_of_methodNamed B.named
  have hlocks := B.notSynchronized
  have hin : meth.name = "<init>" := (name_of_methodNamed B.named B.method).1
  subst hsz
  have hD := hD0.self (sz := s.heap.size)
  generalize hAe : va_A [(h0, .inr (1, [.null, .null, .int 0]))] s.heap.size = A at hD ⊢
  have hA : ∀ q : Nat, s.heap.size ≤ q → A q := fun q h => by rw [← hAe]; exact Or.inr h
  have hS : va_S A s.heap s.heap [] := va_S.rf
  have hl := lv_entry ([.ref h0, .ref h1]) (n := 2) (Nat.le_of_ble_eq_true rfl)
  rw [lg_entry_eq]
  generalize (lg_sl ([.ref h0, .ref h1]) ++ List.replicate (2 - (lg_sl ([.ref h0, .ref h1])).length) Slot.unset).toArray = ls at hl ⊢
  have hl : lv_has ls 2 [(0, .ref h0), (1, .ref h1)] := hl
  refine lv_aload_n hx hb dX2_init_0 rfl (lv_at hl 0 rfl) ?_
  refine W.objInit hx hb hown (hts _ ml_X2_3) (hts _ im_objectInit) (hts _ cd_objectInit) rfl (by rw [hml]; exact hl.1) rfl dX2_init_1 (Nat.le_of_ble_eq_true rfl) (Nat.le_of_ble_eq_true rfl) ?_
  refine W.eq (g2 := F0 m 4 ls []) rfl ?_
  refine lv_aload_n hx hb dX2_init_4 rfl (lv_at hl 0 rfl) ?_
  refine lv_bipush (v := 72) hx hb dX2_init_5 (by decide) ?_
  refine zb_newa (atype := .int) (ty := .int) (a0 := (72, .inl fun _ => 0)) (N' := 72) hx hb (hts _ ac_int) rfl (fun _ h => h) hK hP hD hS hA 0 rfl (fun _ => rfl) (by decide) (by decide) (by decide) (Nat.le_of_ble_eq_true rfl) (Nat.le_of_ble_eq_true rfl) dX2_init_7 (fun q1 H hP hD hS => ?_)
  have hP : va_P κ.1 vwCl [(h0, .inr (1, [.null, .null, .int 0])), (q1, .inl (κ.2.1, 72, .inl fun _ => 0))] H := hP
  have hD : va_D A [(h0, .inr (1, [.null, .null, .int 0])), (q1, .inl (κ.2.1, 72, .inl fun _ => 0))] := hD
  refine va_putF (D := κ.1) (ci := 1) (v := .ref q1) (ty := .array .int) (C := RX2) (T := TX2) (N := 3) hx hb hts us_X2 tyX2 tyX2_ok nmX2 hown hK hP hD hS 0 rfl rfl 1 (by decide) (hts _ fl_X2_9) (fun _ h9 => h9) rfl hin rfl (by decide +kernel) rfl rfl (Nat.le_of_ble_eq_true rfl) dX2_init_9 (fun H locs hP hD hS => ?_)
  have hP : va_P κ.1 vwCl [(h0, .inr (1, [.null, .ref q1, .int 0])), (q1, .inl (κ.2.1, 72, .inl fun _ => 0))] H := hP
  have hD : va_D A [(h0, .inr (1, [.null, .ref q1, .int 0])), (q1, .inl (κ.2.1, 72, .inl fun _ => 0))] := hD
  refine lv_aload_n hx hb dX2_init_12 rfl (lv_at hl 0 rfl) ?_
  refine lv_aload_n hx hb dX2_init_13 rfl (lv_at hl 1 rfl) ?_
  refine va_putF (D := κ.1) (ci := 1) (v := .ref h1) (ty := .object "TwoLevels$Pool") (C := RX2) (T := TX2) (N := 3) hx hb hts us_X2 tyX2 tyX2_ok nmX2 hown hK hP hD hS 0 rfl rfl 0 (by decide) (hts _ fl_X2_15) (fun _ h9 => h9) rfl hin rfl (by decide +kernel) rfl rfl (Nat.le_of_ble_eq_true rfl) dX2_init_14 (fun H locs hP hD hS => ?_)
  have hP : va_P κ.1 vwCl [(h0, .inr (1, [.ref h1, .ref q1, .int 0])), (q1, .inl (κ.2.1, 72, .inl fun _ => 0))] H := hP
  have hD : va_D A [(h0, .inr (1, [.ref h1, .ref q1, .int 0])), (q1, .inl (κ.2.1, 72, .inl fun _ => 0))] := hD
  subst hAe
  exact W.vret hx hb hr (fun t ht hW => ⟨⟨q1, rfl, trivial, by rw [ht]; exact hP, hD⟩, hS.F ht⟩) hS.2.2 dX2_init_17
set_option maxHeartbeats 4000000 in
set_option maxRecDepth 100000 in
theorem c_X0_init (l : Launch) (κ : zK) (h0 h1 h2 : Nat) (sz : Nat) : Met l yX0_init (.code yX0_init cX0_init 3 none :: zT) { frames := 1, cells := 1, slots := 2048, locals := 12 } (va_Pc [.ref h0, .ref h1, .ref h2] (fun U => U.heap.size = sz ∧ va_P κ.1 vwCl [(h0, .inr (0, [.null, .null, .null, .int 0]))] U.heap ∧ va_K κ.1 vwCl (zty κ) U ∧ va_D (fun _ => True) [(h0, .inr (0, [.null, .null, .null, .int 0]))] ∧ zN U)) (va_Qv (fun z : Nat => True) (fun z t => va_P κ.1 vwCl [(h0, .inr (0, [.ref h1, .ref h2, .ref z, .int 0])), (z, .inl (κ.2.1, 2048, .inl fun _ => 0))] t.heap ∧ va_D (va_A [(h0, .inr (0, [.null, .null, .null, .int 0]))] sz) [(h0, .inr (0, [.ref h1, .ref h2, .ref z, .int 0])), (z, .inl (κ.2.1, 2048, .inl fun _ => 0))]) (va_A [(h0, .inr (0, [.null, .null, .null, .int 0]))] sz)) 1 2048 (va_A [(h0, .inr (0, [.null, .null, .null, .int 0]))] sz) := by
  refine Met.ofW (cc := cX0_init) (maxL := 3) (ret := none) (by decide) rfl ?_
  intro p e s m args below meth c s₁ B hml hv
  obtain ⟨rfl, hsz, hP, hK, hD0, hN⟩ := hv
  have hx := B.exec
  have hb := B.bytes
  have hr := B.returns
  have hts0 := atoms_spec (ws := .code yX0_init cX0_init 3 none :: zT) B.pre
  have hts : ∀ w ∈ zT, w.before ([.ref h0, .ref h1, .ref h2] : List Value).toArray s = true := fun w hw => hts0 w (List.mem_cons_of_mem _ hw)
  have hown : s.vm.findClass RX0 = some m.cls := findClass_of_methodNamed B.named
  have hlocks := B.notSynchronized
  have hin : meth.name = "<init>" := (name_of_methodNamed B.named B.method).1
  subst hsz
  have hD := hD0.self (sz := s.heap.size)
  generalize hAe : va_A [(h0, .inr (0, [.null, .null, .null, .int 0]))] s.heap.size = A at hD ⊢
  have hA : ∀ q : Nat, s.heap.size ≤ q → A q := fun q h => by rw [← hAe]; exact Or.inr h
  have hS : va_S A s.heap s.heap [] := va_S.rf
  have hl := lv_entry ([.ref h0, .ref h1, .ref h2]) (n := 3) (Nat.le_of_ble_eq_true rfl)
  rw [lg_entry_eq]
  generalize (lg_sl ([.ref h0, .ref h1, .ref h2]) ++ List.replicate (3 - (lg_sl ([.ref h0, .ref h1, .ref h2])).length) Slot.unset).toArray = ls at hl ⊢
  have hl : lv_has ls 3 [(0, .ref h0), (1, .ref h1), (2, .ref h2)] := hl
  refine lv_aload_n hx hb dX0_init_0 rfl (lv_at hl 0 rfl) ?_
  refine W.objInit hx hb hown (hts _ ml_X0_3) (hts _ im_objectInit) (hts _ cd_objectInit) rfl (by rw [hml]; exact hl.1) rfl dX0_init_1 (Nat.le_of_ble_eq_true rfl) (Nat.le_of_ble_eq_true rfl) ?_
  refine W.eq (g2 := F0 m 4 ls []) rfl ?_
  refine lv_aload_n hx hb dX0_init_4 rfl (lv_at hl 0 rfl) ?_
  refine lv_sipush (v := 2048) hx hb dX0_init_5 (by decide) ?_
  refine zb_newa (atype := .int) (ty := .int) (a0 := (2048, .inl fun _ => 0)) (N' := 2048) hx hb (hts _ ac_int) rfl (fun _ h => h) hK hP hD hS hA 0 rfl (fun _ => rfl) (by decide) (by decide) (by decide) (Nat.le_of_ble_eq_true rfl) (Nat.le_of_ble_eq_true rfl) dX0_init_8 (fun q1 H hP hD hS => ?_)
  have hP : va_P κ.1 vwCl [(h0, .inr (0, [.null, .null, .null, .int 0])), (q1, .inl (κ.2.1, 2048, .inl fun _ => 0))] H := hP
  have hD : va_D A [(h0, .inr (0, [.null, .null, .null, .int 0])), (q1, .inl (κ.2.1, 2048, .inl fun _ => 0))] := hD
  refine va_putF (D := κ.1) (ci := 0) (v := .ref q1) (ty := .array .int) (C := RX0) (T := TX0) (N := 4) hx hb hts us_X0 tyX0 tyX0_ok nmX0 hown hK hP hD hS 0 rfl rfl 2 (by decide) (hts _ fl_X0_9) (fun _ h9 => h9) rfl hin rfl (by decide +kernel) rfl rfl (Nat.le_of_ble_eq_true rfl) dX0_init_10 (fun H locs hP hD hS => ?_)
  have hP : va_P κ.1 vwCl [(h0, .inr (0, [.null, .null, .ref q1, .int 0])), (q1, .inl (κ.2.1, 2048, .inl fun _ => 0))] H := hP
  have hD : va_D A [(h0, .inr (0, [.null, .null, .ref q1, .int 0])), (q1, .inl (κ.2.1, 2048, .inl fun _ => 0))] := hD
  refine lv_aload_n hx hb dX0_init_13 rfl (lv_at hl 0 rfl) ?_
  refine lv_aload_n hx hb dX0_init_14 rfl (lv_at hl 1 rfl) ?_
  refine va_putF (D := κ.1) (ci := 0) (v := .ref h1) (ty := .object "TwoLevels$Pool") (C := RX0) (T := TX0) (N := 4) hx hb hts us_X0 tyX0 tyX0_ok nmX0 hown hK hP hD hS 0 rfl rfl 0 (by decide) (hts _ fl_X0_15) (fun _ h9 => h9) rfl hin rfl (by decide +kernel) rfl rfl (Nat.le_of_ble_eq_true rfl) dX0_init_15 (fun H locs hP hD hS => ?_)
  have hP : va_P κ.1 vwCl [(h0, .inr (0, [.ref h1, .null, .ref q1, .int 0])), (q1, .inl (κ.2.1, 2048, .inl fun _ => 0))] H := hP
  have hD : va_D A [(h0, .inr (0, [.ref h1, .null, .ref q1, .int 0])), (q1, .inl (κ.2.1, 2048, .inl fun _ => 0))] := hD
  refine lv_aload_n hx hb dX0_init_18 rfl (lv_at hl 0 rfl) ?_
  refine lv_aload_n hx hb dX0_init_19 rfl (lv_at hl 2 rfl) ?_
  refine va_putF (D := κ.1) (ci := 0) (v := .ref h2) (ty := .object "TwoLevels$Lists") (C := RX0) (T := TX0) (N := 4) hx hb hts us_X0 tyX0 tyX0_ok nmX0 hown hK hP hD hS 0 rfl rfl 1 (by decide) (hts _ fl_X0_19) (fun _ h9 => h9) rfl hin rfl (by decide +kernel) rfl rfl (Nat.le_of_ble_eq_true rfl) dX0_init_20 (fun H locs hP hD hS => ?_)
  have hP : va_P κ.1 vwCl [(h0, .inr (0, [.ref h1, .ref h2, .ref q1, .int 0])), (q1, .inl (κ.2.1, 2048, .inl fun _ => 0))] H := hP
  have hD : va_D A [(h0, .inr (0, [.ref h1, .ref h2, .ref q1, .int 0])), (q1, .inl (κ.2.1, 2048, .inl fun _ => 0))] := hD
  subst hAe
  exact W.vret hx hb hr (fun t ht hW => ⟨⟨q1, rfl, trivial, by rw [ht]; exact hP, hD⟩, hS.F ht⟩) hS.2.2 dX0_init_23
abbrev uT0 : TS := ((fun _ => 0, 0, fun _ => 0, 0, 0, 0, 0), fun _ => 0)
abbrev uM0 : MS := ((fun _ => 0, 0, fun _ => 0, 0, 0, 0, -1), fun _ => 0, fun _ => 0)
set_option maxHeartbeats 4000000 in
set_option maxRecDepth 100000 in
theorem c_X4_init (l : Launch) (κ : zK) (N : Nat) (P : TS → Prop) (HB : w_X4_begin N uT0 64 P) (h0 : Nat) (sz : Nat) : Met l yX4_init (.code yX4_init cX4_init 1 none :: zT) { frames := 6, cells := 6, slots := 4177, locals := 129 } (va_Pc [.ref h0] (fun U => U.heap.size = sz ∧ va_P κ.1 vwCl [(h0, .inr (3, [.null, .null, .null, .int 0, .int 0]))] U.heap ∧ va_K κ.1 vwCl (zty κ) U ∧ va_D (fun _ => True) [(h0, .inr (3, [.null, .null, .null, .int 0, .int 0]))] ∧ zN U)) (va_Qv (fun z : zH × TS => z.1.1 = h0 ∧ P z.2) (fun z t => va_P κ.1 vwCl (wT κ z.1 z.2) t.heap ∧ va_D (va_A [(h0, .inr (3, [.null, .null, .null, .int 0, .int 0]))] sz) (wT κ z.1 z.2)) (va_A [(h0, .inr (3, [.null, .null, .null, .int 0, .int 0]))] sz)) 6 4177 (va_A [(h0, .inr (3, [.null, .null, .null, .int 0, .int 0]))] sz) := by
  refine Met.ofW (cc := cX4_init) (maxL := 1) (ret := none) (by decide) rfl ?_
  intro p e s m args below meth c s₁ B hml hv
  obtain ⟨rfl, hsz, hP, hK, hD0, hN⟩ := hv
  have hx := B.exec
  have hb := B.bytes
  have hr := B.returns
  have hts0 := atoms_spec (ws := .code yX4_init cX4_init 1 none :: zT) B.pre
  have hts : ∀ w ∈ zT, w.before ([.ref h0] : List Value).toArray s = true := fun w hw => hts0 w (List.mem_cons_of_mem _ hw)
  have hown : s.vm.findClass RX4 = some m.cls := findClass_of_methodNamed B.named
  have hlocks := B.notSynchronized
  have hin : meth.name = "<init>" := (name_of_methodNamed B.named B.method).1
  subst hsz
  have hD := hD0.self (sz := s.heap.size)
  generalize hAe : va_A [(h0, .inr (3, [.null, .null, .null, .int 0, .int 0]))] s.heap.size = A at hD ⊢
  have hA : ∀ q : Nat, s.heap.size ≤ q → A q := fun q h => by rw [← hAe]; exact Or.inr h
  have hS : va_S A s.heap s.heap [] := va_S.rf
  have hl := lv_entry ([.ref h0]) (n := 1) (Nat.le_of_ble_eq_true rfl)
  rw [lg_entry_eq]
  generalize (lg_sl ([.ref h0]) ++ List.replicate (1 - (lg_sl ([.ref h0])).length) Slot.unset).toArray = ls at hl ⊢
  have hl : lv_has ls 1 [(0, .ref h0)] := hl
  refine lv_aload_n hx hb dX4_init_0 rfl (lv_at hl 0 rfl) ?_
  refine W.objInit hx hb hown (hts _ ml_X4_3) (hts _ im_objectInit) (hts _ cd_objectInit) rfl (by rw [hml]; exact hl.1) rfl dX4_init_1 (Nat.le_of_ble_eq_true rfl) (Nat.le_of_ble_eq_true rfl) ?_
  refine W.eq (g2 := F0 m 4 ls []) rfl ?_
  refine lv_aload_n hx hb dX4_init_4 rfl (lv_at hl 0 rfl) ?_
  refine va_new (ci := 2) (fs := [.null, .int 0]) (C := RX3) (T := TX3) (N := 2) hx hb hts us_X3 tyX3 tyX3_ok hown (hts _ cl_X4_9) (hts _ it_X3) (hts _ in_X3) hK hP hD hS hA rfl (fun j hj => by rcases (show j = 0 ∨ j = 1 by omega) with rfl | rfl <;> rfl) (Nat.le_of_ble_eq_true rfl) (Nat.le_of_ble_eq_true rfl) dX4_init_5 (fun q1 H hP hD hS => ?_)
  have hP : va_P κ.1 vwCl [(h0, .inr (3, [.null, .null, .null, .int 0, .int 0])), (q1, .inr (2, [.null, .int 0]))] H := hP
  have hD : va_D A [(h0, .inr (3, [.null, .null, .null, .int 0, .int 0])), (q1, .inr (2, [.null, .int 0]))] := hD
  refine W.widen (k := 1) (n := 2) (Nat.le_of_ble_eq_true rfl) (Nat.le_of_ble_eq_true rfl) ?_
  refine lv_dup hx hb dX4_init_8 rfl ?_
  have hPc := hP.sub (ws' := [(q1, .inr (2, [.null, .int 0]))]) [1] rfl
  have hDc := hD.sub (ws' := [(q1, .inr (2, [.null, .int 0]))]) [1] (by decide) rfl
  have hFc := va_free (wc := [(q1, .inr (2, [.null, .int 0]))]) hD hS hA [1] rfl
  refine va_callv (va_runIN (As := []) (rest := [.ref q1, .ref h0]) ⟨hx, hb, hml, hown, hts⟩ (c_X3_init l κ q1 H.size) ⟨va_cnB 0 hts (zT_code cd_X3_init) rfl rfl rfl (hN.2.2.2.2.1) (hts _ in_X3) (by decide +kernel) ⟨Nat.le_of_ble_eq_true rfl, Nat.le_of_ble_eq_true rfl⟩, rfl, hts _ im_X3_init⟩ ⟨fun a U g mk q => ⟨q.1, q.2.1, q.2.2.1, va_K.moved (u := U) (U := U.calling g mk a) (Vm.Alike.refl U.vm) q.2.2.2.1, q.2.2.2.2.1, zN.same rfl q.2.2.2.2.2⟩, fun U hU hW => ⟨rfl, by rw [hU], by rw [hU]; exact hPc, va_K.moved hW.alike hK, hDc.weaken (fun _ _ _ _ => trivial), hN.warm hW⟩⟩ rfl rfl hl.1 rfl (lv_room (Nat.le_of_ble_eq_true rfl)) dX4_init_9 ⟨Nat.le_of_ble_eq_true rfl, Nat.le_of_ble_eq_true rfl⟩) hS (fun q _ h => hFc q h) hFc (fun q2 t H1 locs ht hvm hw hB hz1 hk1 hS => ?_)
  obtain ⟨hP1, hD1⟩ := hB
  rw [ht] at hP1
  obtain ⟨hP, hD⟩ := va_join (wr := [(h0, .inr (3, [.null, .null, .null, .int 0, .int 0]))]) (w1 := [(q1, .inr (2, [.ref q2, .int 0])), (q2, .inl (κ.2.2.1, 2048, .inr (.inl fun _ => 0)))]) hP hD [1] [0] rfl rfl (by decide) (by decide) hk1 hFc hP1 hD1
  generalize H1 = H at hP hS ⊢
  have hP : va_P κ.1 vwCl [(h0, .inr (3, [.null, .null, .null, .int 0, .int 0])), (q1, .inr (2, [.ref q2, .int 0])), (q2, .inl (κ.2.2.1, 2048, .inr (.inl fun _ => 0)))] H := hP
  have hD : va_D A [(h0, .inr (3, [.null, .null, .null, .int 0, .int 0])), (q1, .inr (2, [.ref q2, .int 0])), (q2, .inl (κ.2.2.1, 2048, .inr (.inl fun _ => 0)))] := hD
  refine W.widen (k := 2) (n := 2050) (Nat.le_of_ble_eq_true rfl) (Nat.le_of_ble_eq_true rfl) ?_
  refine va_putF (D := κ.1) (ci := 3) (v := .ref q1) (ty := .object "TwoLevels$Pool") (C := RX4) (T := TX4) (N := 5) hx hb hts us_X4 tyX4 tyX4_ok nmX4 hown hK hP hD hS 0 rfl rfl 0 (by decide) (hts _ fl_X4_12) (fun _ h9 => h9) rfl hin rfl (by decide +kernel) rfl rfl (Nat.le_of_ble_eq_true rfl) dX4_init_12 (fun H locs hP hD hS => ?_)
  have hP : va_P κ.1 vwCl [(h0, .inr (3, [.ref q1, .null, .null, .int 0, .int 0])), (q1, .inr (2, [.ref q2, .int 0])), (q2, .inl (κ.2.2.1, 2048, .inr (.inl fun _ => 0)))] H := hP
  have hD : va_D A [(h0, .inr (3, [.ref q1, .null, .null, .int 0, .int 0])), (q1, .inr (2, [.ref q2, .int 0])), (q2, .inl (κ.2.2.1, 2048, .inr (.inl fun _ => 0)))] := hD
  refine lv_aload_n hx hb dX4_init_15 rfl (lv_at hl 0 rfl) ?_
  refine va_new (ci := 1) (fs := [.null, .null, .int 0]) (C := RX2) (T := TX2) (N := 3) hx hb hts us_X2 tyX2 tyX2_ok hown (hts _ cl_X4_16) (hts _ it_X2) (hts _ in_X2) hK hP hD hS hA rfl (fun j hj => by rcases (show j = 0 ∨ j = 1 ∨ j = 2 by omega) with rfl | rfl | rfl <;> rfl) (Nat.le_of_ble_eq_true rfl) (Nat.le_of_ble_eq_true rfl) dX4_init_16 (fun q3 H hP hD hS => ?_)
  have hP : va_P κ.1 vwCl [(h0, .inr (3, [.ref q1, .null, .null, .int 0, .int 0])), (q1, .inr (2, [.ref q2, .int 0])), (q2, .inl (κ.2.2.1, 2048, .inr (.inl fun _ => 0))), (q3, .inr (1, [.null, .null, .int 0]))] H := hP
  have hD : va_D A [(h0, .inr (3, [.ref q1, .null, .null, .int 0, .int 0])), (q1, .inr (2, [.ref q2, .int 0])), (q2, .inl (κ.2.2.1, 2048, .inr (.inl fun _ => 0))), (q3, .inr (1, [.null, .null, .int 0]))] := hD
  refine W.widen (k := 3) (n := 2053) (Nat.le_of_ble_eq_true rfl) (Nat.le_of_ble_eq_true rfl) ?_
  refine lv_dup hx hb dX4_init_19 rfl ?_
  refine lv_aload_n hx hb dX4_init_20 rfl (lv_at hl 0 rfl) ?_
  refine va_get (D := κ.1) (ci := 3) (v := .ref q1) (C := RX4) (T := TX4) (N := 5) hx hb hts us_X4 hown hK hP 0 rfl rfl 0 (by decide) (hts _ fl_X4_12) (fun _ h9 => h9) rfl dX4_init_21 ?_
  have hPc := hP.sub (ws' := [(q3, .inr (1, [.null, .null, .int 0]))]) [3] rfl
  have hDc := hD.sub (ws' := [(q3, .inr (1, [.null, .null, .int 0]))]) [3] (by decide) rfl
  have hFc := va_free (wc := [(q3, .inr (1, [.null, .null, .int 0]))]) hD hS hA [3] rfl
  refine va_callv (va_runI (As := [.ref q1]) (rest := [.ref q3, .ref h0]) ⟨hx, hb, hml, hown, hts⟩ (c_X2_init l κ q3 q1 H.size) ⟨callB_of 1 hts (zT_code cd_X2_init) rfl rfl rfl (hts _ in_X2) (hts _ ml_X4_18) (by decide +kernel) ⟨Nat.le_of_ble_eq_true rfl, Nat.le_of_ble_eq_true rfl⟩, rfl, hts _ im_X2_init⟩ ⟨fun a U g mk q => ⟨q.1, q.2.1, q.2.2.1, va_K.moved (u := U) (U := U.calling g mk a) (Vm.Alike.refl U.vm) q.2.2.2.1, q.2.2.2.2.1, zN.same rfl q.2.2.2.2.2⟩, fun U hU hW => ⟨rfl, by rw [hU], by rw [hU]; exact hPc, va_K.moved hW.alike hK, hDc.weaken (fun _ _ _ _ => trivial), hN.warm hW⟩⟩ rfl rfl hl.1 rfl (lv_room (Nat.le_of_ble_eq_true rfl)) dX4_init_24 ⟨Nat.le_of_ble_eq_true rfl, Nat.le_of_ble_eq_true rfl⟩) hS (fun q _ h => hFc q h) hFc (fun q4 t H1 locs ht hvm hw hB hz1 hk1 hS => ?_)
  obtain ⟨hP1, hD1⟩ := hB
  rw [ht] at hP1
  obtain ⟨hP, hD⟩ := va_join (wr := [(h0, .inr (3, [.ref q1, .null, .null, .int 0, .int 0])), (q1, .inr (2, [.ref q2, .int 0])), (q2, .inl (κ.2.2.1, 2048, .inr (.inl fun _ => 0)))]) (w1 := [(q3, .inr (1, [.ref q1, .ref q4, .int 0])), (q4, .inl (κ.2.1, 72, .inl fun _ => 0))]) hP hD [3] [0, 1, 2] rfl rfl (by decide) (by decide) hk1 hFc hP1 hD1
  generalize H1 = H at hP hS ⊢
  have hP : va_P κ.1 vwCl [(h0, .inr (3, [.ref q1, .null, .null, .int 0, .int 0])), (q1, .inr (2, [.ref q2, .int 0])), (q2, .inl (κ.2.2.1, 2048, .inr (.inl fun _ => 0))), (q3, .inr (1, [.ref q1, .ref q4, .int 0])), (q4, .inl (κ.2.1, 72, .inl fun _ => 0))] H := hP
  have hD : va_D A [(h0, .inr (3, [.ref q1, .null, .null, .int 0, .int 0])), (q1, .inr (2, [.ref q2, .int 0])), (q2, .inl (κ.2.2.1, 2048, .inr (.inl fun _ => 0))), (q3, .inr (1, [.ref q1, .ref q4, .int 0])), (q4, .inl (κ.2.1, 72, .inl fun _ => 0))] := hD
  refine W.widen (k := 4) (n := 2125) (Nat.le_of_ble_eq_true rfl) (Nat.le_of_ble_eq_true rfl) ?_
  refine va_putF (D := κ.1) (ci := 3) (v := .ref q3) (ty := .object "TwoLevels$Lists") (C := RX4) (T := TX4) (N := 5) hx hb hts us_X4 tyX4 tyX4_ok nmX4 hown hK hP hD hS 0 rfl rfl 1 (by decide) (hts _ fl_X4_21) (fun _ h9 => h9) rfl hin rfl (by decide +kernel) rfl rfl (Nat.le_of_ble_eq_true rfl) dX4_init_27 (fun H locs hP hD hS => ?_)
  have hP : va_P κ.1 vwCl [(h0, .inr (3, [.ref q1, .ref q3, .null, .int 0, .int 0])), (q1, .inr (2, [.ref q2, .int 0])), (q2, .inl (κ.2.2.1, 2048, .inr (.inl fun _ => 0))), (q3, .inr (1, [.ref q1, .ref q4, .int 0])), (q4, .inl (κ.2.1, 72, .inl fun _ => 0))] H := hP
  have hD : va_D A [(h0, .inr (3, [.ref q1, .ref q3, .null, .int 0, .int 0])), (q1, .inr (2, [.ref q2, .int 0])), (q2, .inl (κ.2.2.1, 2048, .inr (.inl fun _ => 0))), (q3, .inr (1, [.ref q1, .ref q4, .int 0])), (q4, .inl (κ.2.1, 72, .inl fun _ => 0))] := hD
  refine lv_aload_n hx hb dX4_init_30 rfl (lv_at hl 0 rfl) ?_
  refine va_new (ci := 0) (fs := [.null, .null, .null, .int 0]) (C := RX0) (T := TX0) (N := 4) hx hb hts us_X0 tyX0 tyX0_ok hown (hts _ cl_X4_25) (hts _ it_X0) (hts _ in_X0) hK hP hD hS hA rfl (fun j hj => by rcases (show j = 0 ∨ j = 1 ∨ j = 2 ∨ j = 3 by omega) with rfl | rfl | rfl | rfl <;> rfl) (Nat.le_of_ble_eq_true rfl) (Nat.le_of_ble_eq_true rfl) dX4_init_31 (fun q5 H hP hD hS => ?_)
  have hP : va_P κ.1 vwCl [(h0, .inr (3, [.ref q1, .ref q3, .null, .int 0, .int 0])), (q1, .inr (2, [.ref q2, .int 0])), (q2, .inl (κ.2.2.1, 2048, .inr (.inl fun _ => 0))), (q3, .inr (1, [.ref q1, .ref q4, .int 0])), (q4, .inl (κ.2.1, 72, .inl fun _ => 0)), (q5, .inr (0, [.null, .null, .null, .int 0]))] H := hP
  have hD : va_D A [(h0, .inr (3, [.ref q1, .ref q3, .null, .int 0, .int 0])), (q1, .inr (2, [.ref q2, .int 0])), (q2, .inl (κ.2.2.1, 2048, .inr (.inl fun _ => 0))), (q3, .inr (1, [.ref q1, .ref q4, .int 0])), (q4, .inl (κ.2.1, 72, .inl fun _ => 0)), (q5, .inr (0, [.null, .null, .null, .int 0]))] := hD
  refine W.widen (k := 5) (n := 2129) (Nat.le_of_ble_eq_true rfl) (Nat.le_of_ble_eq_true rfl) ?_
  refine lv_dup hx hb dX4_init_34 rfl ?_
  refine lv_aload_n hx hb dX4_init_35 rfl (lv_at hl 0 rfl) ?_
  refine va_get (D := κ.1) (ci := 3) (v := .ref q1) (C := RX4) (T := TX4) (N := 5) hx hb hts us_X4 hown hK hP 0 rfl rfl 0 (by decide) (hts _ fl_X4_12) (fun _ h9 => h9) rfl dX4_init_36 ?_
  refine lv_aload_n hx hb dX4_init_39 rfl (lv_at hl 0 rfl) ?_
  refine va_get (D := κ.1) (ci := 3) (v := .ref q3) (C := RX4) (T := TX4) (N := 5) hx hb hts us_X4 hown hK hP 0 rfl rfl 1 (by decide) (hts _ fl_X4_21) (fun _ h9 => h9) rfl dX4_init_40 ?_
  have hPc := hP.sub (ws' := [(q5, .inr (0, [.null, .null, .null, .int 0]))]) [5] rfl
  have hDc := hD.sub (ws' := [(q5, .inr (0, [.null, .null, .null, .int 0]))]) [5] (by decide) rfl
  have hFc := va_free (wc := [(q5, .inr (0, [.null, .null, .null, .int 0]))]) hD hS hA [5] rfl
  refine va_callv (va_runI (As := [.ref q1, .ref q3]) (rest := [.ref q5, .ref h0]) ⟨hx, hb, hml, hown, hts⟩ (c_X0_init l κ q5 q1 q3 H.size) ⟨callB_of 2 hts (zT_code cd_X0_init) rfl rfl rfl (hts _ in_X0) (hts _ ml_X4_27) (by decide +kernel) ⟨Nat.le_of_ble_eq_true rfl, Nat.le_of_ble_eq_true rfl⟩, rfl, hts _ im_X0_init⟩ ⟨fun a U g mk q => ⟨q.1, q.2.1, q.2.2.1, va_K.moved (u := U) (U := U.calling g mk a) (Vm.Alike.refl U.vm) q.2.2.2.1, q.2.2.2.2.1, zN.same rfl q.2.2.2.2.2⟩, fun U hU hW => ⟨rfl, by rw [hU], by rw [hU]; exact hPc, va_K.moved hW.alike hK, hDc.weaken (fun _ _ _ _ => trivial), hN.warm hW⟩⟩ rfl rfl hl.1 rfl (lv_room (Nat.le_of_ble_eq_true rfl)) dX4_init_43 ⟨Nat.le_of_ble_eq_true rfl, Nat.le_of_ble_eq_true rfl⟩) hS (fun q _ h => hFc q h) hFc (fun q6 t H1 locs ht hvm hw hB hz1 hk1 hS => ?_)
  obtain ⟨hP1, hD1⟩ := hB
  rw [ht] at hP1
  obtain ⟨hP, hD⟩ := va_join (wr := [(h0, .inr (3, [.ref q1, .ref q3, .null, .int 0, .int 0])), (q1, .inr (2, [.ref q2, .int 0])), (q2, .inl (κ.2.2.1, 2048, .inr (.inl fun _ => 0))), (q3, .inr (1, [.ref q1, .ref q4, .int 0])), (q4, .inl (κ.2.1, 72, .inl fun _ => 0))]) (w1 := [(q5, .inr (0, [.ref q1, .ref q3, .ref q6, .int 0])), (q6, .inl (κ.2.1, 2048, .inl fun _ => 0))]) hP hD [5] [0, 1, 2, 3, 4] rfl rfl (by decide) (by decide) hk1 hFc hP1 hD1
  generalize H1 = H at hP hS ⊢
  have hP : va_P κ.1 vwCl [(h0, .inr (3, [.ref q1, .ref q3, .null, .int 0, .int 0])), (q1, .inr (2, [.ref q2, .int 0])), (q2, .inl (κ.2.2.1, 2048, .inr (.inl fun _ => 0))), (q3, .inr (1, [.ref q1, .ref q4, .int 0])), (q4, .inl (κ.2.1, 72, .inl fun _ => 0)), (q5, .inr (0, [.ref q1, .ref q3, .ref q6, .int 0])), (q6, .inl (κ.2.1, 2048, .inl fun _ => 0))] H := hP
  have hD : va_D A [(h0, .inr (3, [.ref q1, .ref q3, .null, .int 0, .int 0])), (q1, .inr (2, [.ref q2, .int 0])), (q2, .inl (κ.2.2.1, 2048, .inr (.inl fun _ => 0))), (q3, .inr (1, [.ref q1, .ref q4, .int 0])), (q4, .inl (κ.2.1, 72, .inl fun _ => 0)), (q5, .inr (0, [.ref q1, .ref q3, .ref q6, .int 0])), (q6, .inl (κ.2.1, 2048, .inl fun _ => 0))] := hD
  refine W.widen (k := 6) (n := 4177) (Nat.le_of_ble_eq_true rfl) (Nat.le_of_ble_eq_true rfl) ?_
  refine va_putF (D := κ.1) (ci := 3) (v := .ref q5) (ty := .object "TwoLevels$Checker") (C := RX4) (T := TX4) (N := 5) hx hb hts us_X4 tyX4 tyX4_ok nmX4 hown hK hP hD hS 0 rfl rfl 2 (by decide) (hts _ fl_X4_30) (fun _ h9 => h9) rfl hin rfl (by decide +kernel) rfl rfl (Nat.le_of_ble_eq_true rfl) dX4_init_46 (fun H locs hP hD hS => ?_)
  have hP : va_P κ.1 vwCl [(h0, .inr (3, [.ref q1, .ref q3, .ref q5, .int 0, .int 0])), (q1, .inr (2, [.ref q2, .int 0])), (q2, .inl (κ.2.2.1, 2048, .inr (.inl fun _ => 0))), (q3, .inr (1, [.ref q1, .ref q4, .int 0])), (q4, .inl (κ.2.1, 72, .inl fun _ => 0)), (q5, .inr (0, [.ref q1, .ref q3, .ref q6, .int 0])), (q6, .inl (κ.2.1, 2048, .inl fun _ => 0))] H := hP
  have hD : va_D A [(h0, .inr (3, [.ref q1, .ref q3, .ref q5, .int 0, .int 0])), (q1, .inr (2, [.ref q2, .int 0])), (q2, .inl (κ.2.2.1, 2048, .inr (.inl fun _ => 0))), (q3, .inr (1, [.ref q1, .ref q4, .int 0])), (q4, .inl (κ.2.1, 72, .inl fun _ => 0)), (q5, .inr (0, [.ref q1, .ref q3, .ref q6, .int 0])), (q6, .inl (κ.2.1, 2048, .inl fun _ => 0))] := hD
  have hP : va_P κ.1 vwCl (wT κ (h0, q1, q2, q3, q4, q5, q6) uT0) H := hP
  have hD : va_D A (wT κ (h0, q1, q2, q3, q4, q5, q6) uT0) := hD
  have hDT : zDT κ (h0, q1, q2, q3, q4, q5, q6) := zDT.of hD
  refine lv_aload_n hx hb dX4_init_49 rfl (lv_at hl 0 rfl) ?_
  refine lv_bipush (v := 64) hx hb dX4_init_50 (by decide) ?_
  have hAm : ∀ q ∈ hsT (h0, q1, q2, q3, q4, q5, q6), A q := fun q hq => by
    obtain ⟨x, hx1, hx2⟩ := List.mem_map.mp (show q ∈ (wT κ (h0, q1, q2, q3, q4, q5, q6) uT0).map (fun z => z.1) from hq)
    obtain ⟨j, hj⟩ := List.getElem?_of_mem hx1
    rw [← hx2]; exact hD.2 j x hj
  refine zb_callV (As := [.int 64]) (rest := []) ⟨hx, hb, hml, hown, hts⟩ hK hN yy_X4_begin ml_X4_34 im_X4_begin se_X4_begin (c_X4_begin hDT N uT0 64 P HB) 3 0 rfl rfl rfl ⟨rfl, rfl⟩ ⟨Nat.le_of_ble_eq_true rfl, Nat.le_of_ble_eq_true rfl⟩ rfl (Nat.le_of_ble_eq_true rfl) hl.1 hP hS hAm ⟨Nat.le_of_ble_eq_true rfl, Nat.le_of_ble_eq_true rfl⟩ dX4_init_52 (fun u1 H locs hp hP hS => ?_)
  have hD : va_D A (wT κ (h0, q1, q2, q3, q4, q5, q6) u1) := (hDT u1).weaken (fun j q hq hm => hAm _ hm)
  subst hAe
  exact W.vret hx hb hr (fun t ht hW => ⟨⟨((h0, q1, q2, q3, q4, q5, q6), u1), rfl, ⟨rfl, hp⟩, by rw [ht]; exact hP, hD⟩, hS.F ht⟩) hS.2.2 dX4_init_55
set_option maxHeartbeats 4000000 in
set_option maxRecDepth 100000 in
theorem c_X5_init (l : Launch) (κ : zK) (N : Nat) (P : MS → Prop) (HB : w_X5_lay N uM0 64 P) (h0 : Nat) (sz : Nat) : Met l yX5_init (.code yX5_init cX5_init 1 none :: zT) { frames := 4, cells := 4, slots := 6218, locals := 90 } (va_Pc [.ref h0] (fun U => U.heap.size = sz ∧ va_P κ.1 vwCl [(h0, .inr (4, [.null, .int 0, .null, .int 0, .int 0, .int 0, .int 0, .null, .null]))] U.heap ∧ va_K κ.1 vwCl (zty κ) U ∧ va_D (fun _ => True) [(h0, .inr (4, [.null, .int 0, .null, .int 0, .int 0, .int 0, .int 0, .null, .null]))] ∧ zN U)) (va_Qv (fun z : zG × MS => z.1.1 = h0 ∧ P z.2) (fun z t => va_P κ.1 vwCl (wM κ z.1 z.2) t.heap ∧ va_D (va_A [(h0, .inr (4, [.null, .int 0, .null, .int 0, .int 0, .int 0, .int 0, .null, .null]))] sz) (wM κ z.1 z.2)) (va_A [(h0, .inr (4, [.null, .int 0, .null, .int 0, .int 0, .int 0, .int 0, .null, .null]))] sz)) 4 6218 (va_A [(h0, .inr (4, [.null, .int 0, .null, .int 0, .int 0, .int 0, .int 0, .null, .null]))] sz) := by
  refine Met.ofW (cc := cX5_init) (maxL := 1) (ret := none) (by decide) rfl ?_
  intro p e s m args below meth c s₁ B hml hv
  obtain ⟨rfl, hsz, hP, hK, hD0, hN⟩ := hv
  have hx := B.exec
  have hb := B.bytes
  have hr := B.returns
  have hts0 := atoms_spec (ws := .code yX5_init cX5_init 1 none :: zT) B.pre
  have hts : ∀ w ∈ zT, w.before ([.ref h0] : List Value).toArray s = true := fun w hw => hts0 w (List.mem_cons_of_mem _ hw)
  have hown : s.vm.findClass RX5 = some m.cls := findClass_of_methodNamed B.named
  have hlocks := B.notSynchronized
  have hin : meth.name = "<init>" := (name_of_methodNamed B.named B.method).1
  subst hsz
  have hD := hD0.self (sz := s.heap.size)
  generalize hAe : va_A [(h0, .inr (4, [.null, .int 0, .null, .int 0, .int 0, .int 0, .int 0, .null, .null]))] s.heap.size = A at hD ⊢
  have hA : ∀ q : Nat, s.heap.size ≤ q → A q := fun q h => by rw [← hAe]; exact Or.inr h
  have hS : va_S A s.heap s.heap [] := va_S.rf
  have hl := lv_entry ([.ref h0]) (n := 1) (Nat.le_of_ble_eq_true rfl)
  rw [lg_entry_eq]
  generalize (lg_sl ([.ref h0]) ++ List.replicate (1 - (lg_sl ([.ref h0])).length) Slot.unset).toArray = ls at hl ⊢
  have hl : lv_has ls 1 [(0, .ref h0)] := hl
  refine lv_aload_n hx hb dX5_init_0 rfl (lv_at hl 0 rfl) ?_
  refine W.objInit hx hb hown (hts _ ml_X5_1) (hts _ im_objectInit) (hts _ cd_objectInit) rfl (by rw [hml]; exact hl.1) rfl dX5_init_1 (Nat.le_of_ble_eq_true rfl) (Nat.le_of_ble_eq_true rfl) ?_
  refine W.eq (g2 := F0 m 4 ls []) rfl ?_
  refine lv_aload_n hx hb dX5_init_4 rfl (lv_at hl 0 rfl) ?_
  refine lv_sipush (v := 2048) hx hb dX5_init_5 (by decide) ?_
  refine zb_newa (atype := .long) (ty := .long) (a0 := (2048, .inr (.inl fun _ => 0))) (N' := 2048) hx hb (hts _ ac_long) rfl (fun _ h => h) hK hP hD hS hA 1 rfl (fun _ => rfl) (by decide) (by decide) (by decide) (Nat.le_of_ble_eq_true rfl) (Nat.le_of_ble_eq_true rfl) dX5_init_8 (fun q1 H hP hD hS => ?_)
  have hP : va_P κ.1 vwCl [(h0, .inr (4, [.null, .int 0, .null, .int 0, .int 0, .int 0, .int 0, .null, .null])), (q1, .inl (κ.2.2.1, 2048, .inr (.inl fun _ => 0)))] H := hP
  have hD : va_D A [(h0, .inr (4, [.null, .int 0, .null, .int 0, .int 0, .int 0, .int 0, .null, .null])), (q1, .inl (κ.2.2.1, 2048, .inr (.inl fun _ => 0)))] := hD
  refine W.widen (k := 1) (n := 2048) (Nat.le_of_ble_eq_true rfl) (Nat.le_of_ble_eq_true rfl) ?_
  refine va_putF (D := κ.1) (ci := 4) (v := .ref q1) (ty := .array .long) (C := RX5) (T := TX5) (N := 9) hx hb hts us_X5 tyX5 tyX5_ok nmX5 hown hK hP hD hS 0 rfl rfl 0 (by decide) (hts _ fl_X5_7) (fun _ h9 => h9) rfl hin rfl (by decide +kernel) rfl rfl (Nat.le_of_ble_eq_true rfl) dX5_init_10 (fun H locs hP hD hS => ?_)
  have hP : va_P κ.1 vwCl [(h0, .inr (4, [.ref q1, .int 0, .null, .int 0, .int 0, .int 0, .int 0, .null, .null])), (q1, .inl (κ.2.2.1, 2048, .inr (.inl fun _ => 0)))] H := hP
  have hD : va_D A [(h0, .inr (4, [.ref q1, .int 0, .null, .int 0, .int 0, .int 0, .int 0, .null, .null])), (q1, .inl (κ.2.2.1, 2048, .inr (.inl fun _ => 0)))] := hD
  refine lv_aload_n hx hb dX5_init_13 rfl (lv_at hl 0 rfl) ?_
  refine lv_bipush (v := 72) hx hb dX5_init_14 (by decide) ?_
  refine zb_newa (atype := .int) (ty := .int) (a0 := (72, .inl fun _ => 0)) (N' := 72) hx hb (hts _ ac_int) rfl (fun _ h => h) hK hP hD hS hA 0 rfl (fun _ => rfl) (by decide) (by decide) (by decide) (Nat.le_of_ble_eq_true rfl) (Nat.le_of_ble_eq_true rfl) dX5_init_16 (fun q2 H hP hD hS => ?_)
  have hP : va_P κ.1 vwCl [(h0, .inr (4, [.ref q1, .int 0, .null, .int 0, .int 0, .int 0, .int 0, .null, .null])), (q1, .inl (κ.2.2.1, 2048, .inr (.inl fun _ => 0))), (q2, .inl (κ.2.1, 72, .inl fun _ => 0))] H := hP
  have hD : va_D A [(h0, .inr (4, [.ref q1, .int 0, .null, .int 0, .int 0, .int 0, .int 0, .null, .null])), (q1, .inl (κ.2.2.1, 2048, .inr (.inl fun _ => 0))), (q2, .inl (κ.2.1, 72, .inl fun _ => 0))] := hD
  refine W.widen (k := 2) (n := 2120) (Nat.le_of_ble_eq_true rfl) (Nat.le_of_ble_eq_true rfl) ?_
  refine va_putF (D := κ.1) (ci := 4) (v := .ref q2) (ty := .array .int) (C := RX5) (T := TX5) (N := 9) hx hb hts us_X5 tyX5 tyX5_ok nmX5 hown hK hP hD hS 0 rfl rfl 2 (by decide) (hts _ fl_X5_13) (fun _ h9 => h9) rfl hin rfl (by decide +kernel) rfl rfl (Nat.le_of_ble_eq_true rfl) dX5_init_18 (fun H locs hP hD hS => ?_)
  have hP : va_P κ.1 vwCl [(h0, .inr (4, [.ref q1, .int 0, .ref q2, .int 0, .int 0, .int 0, .int 0, .null, .null])), (q1, .inl (κ.2.2.1, 2048, .inr (.inl fun _ => 0))), (q2, .inl (κ.2.1, 72, .inl fun _ => 0))] H := hP
  have hD : va_D A [(h0, .inr (4, [.ref q1, .int 0, .ref q2, .int 0, .int 0, .int 0, .int 0, .null, .null])), (q1, .inl (κ.2.2.1, 2048, .inr (.inl fun _ => 0))), (q2, .inl (κ.2.1, 72, .inl fun _ => 0))] := hD
  refine lv_aload_n hx hb dX5_init_21 rfl (lv_at hl 0 rfl) ?_
  refine lv_iconst (v := -1) hx hb dX5_init_22 (by decide) ?_
  refine va_put (D := κ.1) (ci := 4) (v := .int (-1)) (ty := .int) (C := RX5) (T := TX5) (N := 9) hx hb hts us_X5 tyX5 tyX5_ok nmX5 hown hK hP hD hS 0 rfl rfl 6 (by decide) (hts _ fl_X5_17) (fun _ h9 => h9) rfl (by decide +kernel) rfl rfl (Nat.le_of_ble_eq_true rfl) dX5_init_23 (fun H locs hP hD hS => ?_)
  have hP : va_P κ.1 vwCl [(h0, .inr (4, [.ref q1, .int 0, .ref q2, .int 0, .int 0, .int 0, .int (-1), .null, .null])), (q1, .inl (κ.2.2.1, 2048, .inr (.inl fun _ => 0))), (q2, .inl (κ.2.1, 72, .inl fun _ => 0))] H := hP
  have hD : va_D A [(h0, .inr (4, [.ref q1, .int 0, .ref q2, .int 0, .int 0, .int 0, .int (-1), .null, .null])), (q1, .inl (κ.2.2.1, 2048, .inr (.inl fun _ => 0))), (q2, .inl (κ.2.1, 72, .inl fun _ => 0))] := hD
  refine lv_aload_n hx hb dX5_init_26 rfl (lv_at hl 0 rfl) ?_
  refine lv_sipush (v := 2049) hx hb dX5_init_27 (by decide) ?_
  refine zb_newa (atype := .boolean) (ty := .boolean) (a0 := (2049, .inl fun _ => 0)) (N' := 2049) hx hb (hts _ ac_boolean) rfl (fun _ h => h) hK hP hD hS hA 2 rfl (fun _ => rfl) (by decide) (by decide) (by decide) (Nat.le_of_ble_eq_true rfl) (Nat.le_of_ble_eq_true rfl) dX5_init_30 (fun q3 H hP hD hS => ?_)
  have hP : va_P κ.1 vwCl [(h0, .inr (4, [.ref q1, .int 0, .ref q2, .int 0, .int 0, .int 0, .int (-1), .null, .null])), (q1, .inl (κ.2.2.1, 2048, .inr (.inl fun _ => 0))), (q2, .inl (κ.2.1, 72, .inl fun _ => 0)), (q3, .inl (κ.2.2.2, 2049, .inl fun _ => 0))] H := hP
  have hD : va_D A [(h0, .inr (4, [.ref q1, .int 0, .ref q2, .int 0, .int 0, .int 0, .int (-1), .null, .null])), (q1, .inl (κ.2.2.1, 2048, .inr (.inl fun _ => 0))), (q2, .inl (κ.2.1, 72, .inl fun _ => 0)), (q3, .inl (κ.2.2.2, 2049, .inl fun _ => 0))] := hD
  refine W.widen (k := 3) (n := 4169) (Nat.le_of_ble_eq_true rfl) (Nat.le_of_ble_eq_true rfl) ?_
  refine va_putF (D := κ.1) (ci := 4) (v := .ref q3) (ty := .array .boolean) (C := RX5) (T := TX5) (N := 9) hx hb hts us_X5 tyX5 tyX5_ok nmX5 hown hK hP hD hS 0 rfl rfl 7 (by decide) (hts _ fl_X5_21) (fun _ h9 => h9) rfl hin rfl (by decide +kernel) rfl rfl (Nat.le_of_ble_eq_true rfl) dX5_init_32 (fun H locs hP hD hS => ?_)
  have hP : va_P κ.1 vwCl [(h0, .inr (4, [.ref q1, .int 0, .ref q2, .int 0, .int 0, .int 0, .int (-1), .ref q3, .null])), (q1, .inl (κ.2.2.1, 2048, .inr (.inl fun _ => 0))), (q2, .inl (κ.2.1, 72, .inl fun _ => 0)), (q3, .inl (κ.2.2.2, 2049, .inl fun _ => 0))] H := hP
  have hD : va_D A [(h0, .inr (4, [.ref q1, .int 0, .ref q2, .int 0, .int 0, .int 0, .int (-1), .ref q3, .null])), (q1, .inl (κ.2.2.1, 2048, .inr (.inl fun _ => 0))), (q2, .inl (κ.2.1, 72, .inl fun _ => 0)), (q3, .inl (κ.2.2.2, 2049, .inl fun _ => 0))] := hD
  refine lv_aload_n hx hb dX5_init_35 rfl (lv_at hl 0 rfl) ?_
  refine lv_sipush (v := 2049) hx hb dX5_init_36 (by decide) ?_
  refine zb_newa (atype := .boolean) (ty := .boolean) (a0 := (2049, .inl fun _ => 0)) (N' := 2049) hx hb (hts _ ac_boolean) rfl (fun _ h => h) hK hP hD hS hA 2 rfl (fun _ => rfl) (by decide) (by decide) (by decide) (Nat.le_of_ble_eq_true rfl) (Nat.le_of_ble_eq_true rfl) dX5_init_39 (fun q4 H hP hD hS => ?_)
  have hP : va_P κ.1 vwCl [(h0, .inr (4, [.ref q1, .int 0, .ref q2, .int 0, .int 0, .int 0, .int (-1), .ref q3, .null])), (q1, .inl (κ.2.2.1, 2048, .inr (.inl fun _ => 0))), (q2, .inl (κ.2.1, 72, .inl fun _ => 0)), (q3, .inl (κ.2.2.2, 2049, .inl fun _ => 0)), (q4, .inl (κ.2.2.2, 2049, .inl fun _ => 0))] H := hP
  have hD : va_D A [(h0, .inr (4, [.ref q1, .int 0, .ref q2, .int 0, .int 0, .int 0, .int (-1), .ref q3, .null])), (q1, .inl (κ.2.2.1, 2048, .inr (.inl fun _ => 0))), (q2, .inl (κ.2.1, 72, .inl fun _ => 0)), (q3, .inl (κ.2.2.2, 2049, .inl fun _ => 0)), (q4, .inl (κ.2.2.2, 2049, .inl fun _ => 0))] := hD
  refine W.widen (k := 4) (n := 6218) (Nat.le_of_ble_eq_true rfl) (Nat.le_of_ble_eq_true rfl) ?_
  refine va_putF (D := κ.1) (ci := 4) (v := .ref q4) (ty := .array .boolean) (C := RX5) (T := TX5) (N := 9) hx hb hts us_X5 tyX5 tyX5_ok nmX5 hown hK hP hD hS 0 rfl rfl 8 (by decide) (hts _ fl_X5_25) (fun _ h9 => h9) rfl hin rfl (by decide +kernel) rfl rfl (Nat.le_of_ble_eq_true rfl) dX5_init_41 (fun H locs hP hD hS => ?_)
  have hP : va_P κ.1 vwCl [(h0, .inr (4, [.ref q1, .int 0, .ref q2, .int 0, .int 0, .int 0, .int (-1), .ref q3, .ref q4])), (q1, .inl (κ.2.2.1, 2048, .inr (.inl fun _ => 0))), (q2, .inl (κ.2.1, 72, .inl fun _ => 0)), (q3, .inl (κ.2.2.2, 2049, .inl fun _ => 0)), (q4, .inl (κ.2.2.2, 2049, .inl fun _ => 0))] H := hP
  have hD : va_D A [(h0, .inr (4, [.ref q1, .int 0, .ref q2, .int 0, .int 0, .int 0, .int (-1), .ref q3, .ref q4])), (q1, .inl (κ.2.2.1, 2048, .inr (.inl fun _ => 0))), (q2, .inl (κ.2.1, 72, .inl fun _ => 0)), (q3, .inl (κ.2.2.2, 2049, .inl fun _ => 0)), (q4, .inl (κ.2.2.2, 2049, .inl fun _ => 0))] := hD
  have hP : va_P κ.1 vwCl (wM κ (h0, q1, q2, q3, q4) uM0) H := hP
  have hD : va_D A (wM κ (h0, q1, q2, q3, q4) uM0) := hD
  have hDT : zDM κ (h0, q1, q2, q3, q4) := zDM.of hD
  refine lv_aload_n hx hb dX5_init_44 rfl (lv_at hl 0 rfl) ?_
  refine lv_bipush (v := 64) hx hb dX5_init_45 (by decide) ?_
  have hAm : ∀ q ∈ hsM (h0, q1, q2, q3, q4), A q := fun q hq => by
    obtain ⟨x, hx1, hx2⟩ := List.mem_map.mp (show q ∈ (wM κ (h0, q1, q2, q3, q4) uM0).map (fun z => z.1) from hq)
    obtain ⟨j, hj⟩ := List.getElem?_of_mem hx1
    rw [← hx2]; exact hD.2 j x hj
  refine zb_callV (As := [.int 64]) (rest := []) ⟨hx, hb, hml, hown, hts⟩ hK hN yy_X5_lay ml_X5_28 im_X5_lay se_X5_lay (c_X5_lay hDT N uM0 64 P HB) 4 0 rfl rfl rfl ⟨rfl, rfl⟩ ⟨Nat.le_of_ble_eq_true rfl, Nat.le_of_ble_eq_true rfl⟩ rfl (Nat.le_of_ble_eq_true rfl) hl.1 hP hS hAm ⟨Nat.le_of_ble_eq_true rfl, Nat.le_of_ble_eq_true rfl⟩ dX5_init_47 (fun u1 H locs hp hP hS => ?_)
  have hD : va_D A (wM κ (h0, q1, q2, q3, q4) u1) := (hDT u1).weaken (fun j q hq hm => hAm _ hm)
  subst hAe
  exact W.vret hx hb hr (fun t ht hW => ⟨⟨((h0, q1, q2, q3, q4), u1), rfl, ⟨rfl, hp⟩, by rw [ht]; exact hP, hD⟩, hS.F ht⟩) hS.2.2 dX5_init_50
