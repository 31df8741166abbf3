def w_X4_makeFree (N : Nat) (u : TS) (a1 : Int32) (a2 : Int32) (P : TS → Prop) : Prop := (w_X3_layHeader N u a1 a2 (1 : Int32) fun u2 => (w_X3_lay N u2 (a1 + a2) (a2).toInt64 fun u4 => (w_X2_come N u4 a1 fun u6 => (w_X3_tellBehind N u6 a1 fun u8 => (P u8)))))
set_option maxHeartbeats 4000000 in
set_option maxRecDepth 100000 in
theorem c_X4_makeFree {l : Launch} {κ : zK} {h : zH} (hh : zDT κ h) (N : Nat) (u : TS) (a1 : Int32) (a2 : Int32) (P : TS → Prop) (H : w_X4_makeFree N u a1 a2 P) : zM l κ (hsT h) (wT κ h) yX4_makeFree cX4_makeFree 3 none { frames := 4, cells := 0, slots := 0, locals := 86 } [.ref h.1, .int a1, .int a2] u (zv P) := by
  refine z_met (own := RX4) (by decide) rfl (Nat.le_of_ble_eq_true rfl) hh (fun g X => ?_)
  show zJ g κ (hsT h) (wT κ h) (zv P) 3 u [(0, .ref h.1), (1, .int a1), (2, .int a2)] 0 []
  unfold w_X4_makeFree at H
  refine z_aload_n X dX4_makeFree_0 0 rfl rfl ?_
  refine gf_X4_12 X dX4_makeFree_1 ?_
  refine z_iload_n X dX4_makeFree_4 1 rfl rfl ?_
  refine z_iload_n X dX4_makeFree_5 2 rfl rfl ?_
  refine z_iconst (v := 1) X dX4_makeFree_6 (by decide) ?_
  refine k_X3_layHeader hh X ml_X4_108 H ⟨Nat.le_of_ble_eq_true rfl, Nat.le_of_ble_eq_true rfl⟩ (Nat.le_of_ble_eq_true rfl) dX4_makeFree_7 (fun u2 H => ?_)
  refine z_aload_n X dX4_makeFree_10 0 rfl rfl ?_
  refine gf_X4_12 X dX4_makeFree_11 ?_
  refine z_iload_n X dX4_makeFree_14 1 rfl rfl ?_
  refine z_iload_n X dX4_makeFree_15 2 rfl rfl ?_
  refine z_iadd X dX4_makeFree_16 ?_
  refine z_iload_n X dX4_makeFree_17 2 rfl rfl ?_
  refine z_i2l X dX4_makeFree_18 ?_
  refine k_X3_lay hh X ml_X4_112 H ⟨Nat.le_of_ble_eq_true rfl, Nat.le_of_ble_eq_true rfl⟩ (Nat.le_of_ble_eq_true rfl) dX4_makeFree_19 (fun u4 H => ?_)
  refine z_aload_n X dX4_makeFree_22 0 rfl rfl ?_
  refine gf_X4_21 X dX4_makeFree_23 ?_
  refine z_iload_n X dX4_makeFree_26 1 rfl rfl ?_
  refine k_X2_come hh X ml_X4_199 H ⟨Nat.le_of_ble_eq_true rfl, Nat.le_of_ble_eq_true rfl⟩ (Nat.le_of_ble_eq_true rfl) dX4_makeFree_27 (fun u6 H => ?_)
  refine z_aload_n X dX4_makeFree_30 0 rfl rfl ?_
  refine gf_X4_12 X dX4_makeFree_31 ?_
  refine z_iload_n X dX4_makeFree_34 1 rfl rfl ?_
  refine k_X3_tellBehind hh X ml_X4_187 H ⟨Nat.le_of_ble_eq_true rfl, Nat.le_of_ble_eq_true rfl⟩ (Nat.le_of_ble_eq_true rfl) dX4_makeFree_35 (fun u8 H => ?_)
  exact z_vret X dX4_makeFree_38 H
theorem k_X4_makeFree {g : zE} {κ : zK} {h : zH} (hh : zDT κ h) {u : TS} {Φ : TS → Option Value → Prop} {cc : ByteArray} {nL : Nat} {own : String} {ret : Option FieldType} {rm : Room} {lv : List (Nat × Value)} {pc : Nat} {st : List Value} {idx N : Nat} {a1 : Int32} {a2 : Int32} {P : TS → Prop} (X : zC g κ (hsT h) (wT κ h) cc nL own ret rm) (hml : Cond.methodLink own idx yX4_makeFree ∈ zT) (H : w_X4_makeFree N u a1 a2 P) (hR : 4 + 1 ≤ rm.frames ∧ 8 + (3 + 11) + 86 ≤ rm.locals) (hroom : (st.map fun v => v.category).sum ≤ 8) (d : decode cc pc = .ok (.invokevirtual idx, 3)) (kk : ∀ u1, P u1 → zJ g κ (hsT h) (wT κ h) Φ nL u1 lv (pc + 3) st) : zJ g κ (hsT h) (wT κ h) Φ nL u lv pc (.int a2 :: .int a1 :: .ref h.1 :: st) := z_callV (As := [.int a1, .int a2]) X yy_X4_makeFree hml im_X4_makeFree se_X4_makeFree (c_X4_makeFree hh N u a1 a2 P H) 3 0 rfl rfl rfl ⟨rfl, rfl⟩ hR rfl hroom d (fun u1 r hz => by obtain ⟨hr, hP⟩ := hz; subst hr; exact kk u1 hP)
def w_X4_begin (N : Nat) (u : TS) (a1 : Int32) (P : TS → Prop) : Prop := (w_X3_clear N u a1 fun u2 => (w_X2_clear N u2 fun u4 => (w_X4_makeFree N u4 (0 : Int32) (a1 - (1 : Int32)) fun u6 => (w_X2_forgetMoves N u6 fun u8 => (zlet (sWa u8.1 (-1 : Int32), u8.2) fun u9 => (zlet (sSp u9.1 (0 : Int32), u9.2) fun u10 => (zlet (sRf u10.1 (0 : Int32), u10.2) fun u11 => (P u11))))))))
set_option maxHeartbeats 4000000 in
set_option maxRecDepth 100000 in
theorem c_X4_begin {l : Launch} {κ : zK} {h : zH} (hh : zDT κ h) (N : Nat) (u : TS) (a1 : Int32) (P : TS → Prop) (H : w_X4_begin N u a1 P) : zM l κ (hsT h) (wT κ h) yX4_begin cX4_begin 2 none { frames := 5, cells := 0, slots := 0, locals := 108 } [.ref h.1, .int a1] u (zv P) := by
  refine z_met (own := RX4) (by decide) rfl (Nat.le_of_ble_eq_true rfl) hh (fun g X => ?_)
  show zJ g κ (hsT h) (wT κ h) (zv P) 2 u [(0, .ref h.1), (1, .int a1)] 0 []
  unfold w_X4_begin at H
  refine z_aload_n X dX4_begin_0 0 rfl rfl ?_
  refine gf_X4_12 X dX4_begin_1 ?_
  refine z_iload_n X dX4_begin_4 1 rfl rfl ?_
  refine k_X3_clear hh X ml_X4_165 H ⟨Nat.le_of_ble_eq_true rfl, Nat.le_of_ble_eq_true rfl⟩ (Nat.le_of_ble_eq_true rfl) dX4_begin_5 (fun u2 H => ?_)
  refine z_aload_n X dX4_begin_8 0 rfl rfl ?_
  refine gf_X4_21 X dX4_begin_9 ?_
  refine k_X2_clear hh X ml_X4_168 H ⟨Nat.le_of_ble_eq_true rfl, Nat.le_of_ble_eq_true rfl⟩ (Nat.le_of_ble_eq_true rfl) dX4_begin_12 (fun u4 H => ?_)
  refine z_aload_n X dX4_begin_15 0 rfl rfl ?_
  refine z_iconst (v := 0) X dX4_begin_16 (by decide) ?_
  refine z_iload_n X dX4_begin_17 1 rfl rfl ?_
  refine z_iconst (v := 1) X dX4_begin_18 (by decide) ?_
  refine z_isub X dX4_begin_19 ?_
  refine k_X4_makeFree hh X ml_X4_170 H ⟨Nat.le_of_ble_eq_true rfl, Nat.le_of_ble_eq_true rfl⟩ (Nat.le_of_ble_eq_true rfl) dX4_begin_20 (fun u6 H => ?_)
  refine z_aload_n X dX4_begin_23 0 rfl rfl ?_
  refine gf_X4_21 X dX4_begin_24 ?_
  refine k_X2_forgetMoves hh X ml_X4_57 H ⟨Nat.le_of_ble_eq_true rfl, Nat.le_of_ble_eq_true rfl⟩ (Nat.le_of_ble_eq_true rfl) dX4_begin_27 (fun u8 H => ?_)
  refine z_aload_n X dX4_begin_30 0 rfl rfl ?_
  refine gf_X4_30 X dX4_begin_31 ?_
  refine z_iconst (v := -1) X dX4_begin_34 (by decide) ?_
  refine pf_X4_126 X dX4_begin_35 H (fun u9 H => ?_)
  refine z_aload_n X dX4_begin_38 0 rfl rfl ?_
  refine z_iconst (v := 0) X dX4_begin_39 (by decide) ?_
  refine pf_X4_42 X ⟨rfl, rfl⟩ dX4_begin_40 H (fun u10 H => ?_)
  refine z_aload_n X dX4_begin_43 0 rfl rfl ?_
  refine z_iconst (v := 0) X dX4_begin_44 (by decide) ?_
  refine pf_X4_152 X dX4_begin_45 H (fun u11 H => ?_)
  exact z_vret X dX4_begin_48 H
theorem k_X4_begin {g : zE} {κ : zK} {h : zH} (hh : zDT κ h) {u : TS} {Φ : TS → Option Value → Prop} {cc : ByteArray} {nL : Nat} {own : String} {ret : Option FieldType} {rm : Room} {lv : List (Nat × Value)} {pc : Nat} {st : List Value} {idx N : Nat} {a1 : Int32} {P : TS → Prop} (X : zC g κ (hsT h) (wT κ h) cc nL own ret rm) (hml : Cond.methodLink own idx yX4_begin ∈ zT) (H : w_X4_begin N u a1 P) (hR : 5 + 1 ≤ rm.frames ∧ 8 + (2 + 11) + 108 ≤ rm.locals) (hroom : (st.map fun v => v.category).sum ≤ 8) (d : decode cc pc = .ok (.invokevirtual idx, 3)) (kk : ∀ u1, P u1 → zJ g κ (hsT h) (wT κ h) Φ nL u1 lv (pc + 3) st) : zJ g κ (hsT h) (wT κ h) Φ nL u lv pc (.int a1 :: .ref h.1 :: st) := z_callV (As := [.int a1]) X yy_X4_begin hml im_X4_begin se_X4_begin (c_X4_begin hh N u a1 P H) 3 0 rfl rfl rfl ⟨rfl, rfl⟩ hR rfl hroom d (fun u1 r hz => by obtain ⟨hr, hP⟩ := hz; subst hr; exact kk u1 hP)
def w_X4_open (N : Nat) (u : TS) (a1 : Int32) (P : TS → Int32 → Prop) : Prop := ((a1 < (16 : Int32) → (P u (-2 : Int32))) ∧ (¬ a1 < (16 : Int32) → (((2048 : Int32) < a1 → (P u (-2 : Int32))) ∧ (¬ (2048 : Int32) < a1 → (w_X4_begin N u a1 fun u4 => (P u4 (1 : Int32)))))))
set_option maxHeartbeats 4000000 in
set_option maxRecDepth 100000 in
theorem c_X4_open {l : Launch} {κ : zK} {h : zH} (hh : zDT κ h) (N : Nat) (u : TS) (a1 : Int32) (P : TS → Int32 → Prop) (H : w_X4_open N u a1 P) : zM l κ (hsT h) (wT κ h) yX4_open cX4_open 2 (some .int) { frames := 6, cells := 0, slots := 0, locals := 129 } [.ref h.1, .int a1] u (zi P) := by
  refine z_met (own := RX4) (by decide) rfl (Nat.le_of_ble_eq_true rfl) hh (fun g X => ?_)
  show zJ g κ (hsT h) (wT κ h) (zi P) 2 u [(0, .ref h.1), (1, .int a1)] 0 []
  unfold w_X4_open at H
  refine z_iload_n X dX4_open_0 1 rfl rfl ?_
  refine z_bipush (v := 16) X dX4_open_1 (by decide) ?_
  refine z_icmp_lt (tgt := 13) X dX4_open_3 (by decide) (fun q1 => ?_) (fun q1 => ?_)
  · have H := H.1 q1
    refine z_bipush (v := -2) X dX4_open_13 (by decide) ?_
    exact z_iret X dX4_open_15 H
  · have H := H.2 q1
    refine z_iload_n X dX4_open_6 1 rfl rfl ?_
    refine z_sipush (v := 2048) X dX4_open_7 (by decide) ?_
    refine z_icmp_le (tgt := 16) X dX4_open_10 (by decide) (fun q2 => ?_) (fun q2 => ?_)
    · have H := H.2 q2
      refine z_aload_n X dX4_open_16 0 rfl rfl ?_
      refine z_iload_n X dX4_open_17 1 rfl rfl ?_
      refine k_X4_begin hh X ml_X4_34 H ⟨Nat.le_of_ble_eq_true rfl, Nat.le_of_ble_eq_true rfl⟩ (Nat.le_of_ble_eq_true rfl) dX4_open_18 (fun u4 H => ?_)
      refine z_iconst (v := 1) X dX4_open_21 (by decide) ?_
      exact z_iret X dX4_open_22 H
    · have H := H.1 q2
      refine z_bipush (v := -2) X dX4_open_13 (by decide) ?_
      exact z_iret X dX4_open_15 H
theorem k_X4_open {g : zE} {κ : zK} {h : zH} (hh : zDT κ h) {u : TS} {Φ : TS → Option Value → Prop} {cc : ByteArray} {nL : Nat} {own : String} {ret : Option FieldType} {rm : Room} {lv : List (Nat × Value)} {pc : Nat} {st : List Value} {idx N : Nat} {a1 : Int32} {P : TS → Int32 → Prop} (X : zC g κ (hsT h) (wT κ h) cc nL own ret rm) (hml : Cond.methodLink own idx yX4_open ∈ zT) (H : w_X4_open N u a1 P) (hR : 6 + 1 ≤ rm.frames ∧ 8 + (2 + 11) + 129 ≤ rm.locals) (hroom : (st.map fun v => v.category).sum ≤ 8) (d : decode cc pc = .ok (.invokevirtual idx, 3)) (kk : ∀ u1 v, P u1 v → zJ g κ (hsT h) (wT κ h) Φ nL u1 lv (pc + 3) (.int v :: st)) : zJ g κ (hsT h) (wT κ h) Φ nL u lv pc (.int a1 :: .ref h.1 :: st) := z_callV (As := [.int a1]) X yy_X4_open hml im_X4_open se_X4_open (c_X4_open hh N u a1 P H) 3 0 rfl rfl rfl ⟨rfl, rfl⟩ hR rfl hroom d (fun u1 r hz => by obtain ⟨v, hr, hP⟩ := hz; subst hr; exact kk u1 v hP)
def w_X4_isWish (N : Nat) (a1 : Int32) (P : Int32 → Prop) : Prop := ((a1 < (1 : Int32) → (P (0 : Int32))) ∧ (¬ a1 < (1 : Int32) → (((2048 : Int32) < a1 → (P (0 : Int32))) ∧ (¬ (2048 : Int32) < a1 → (P (1 : Int32))))))
set_option maxHeartbeats 4000000 in
set_option maxRecDepth 100000 in
theorem c_X4_isWish {l : Launch} {κ : zK} (N : Nat) (a1 : Int32) (P : Int32 → Prop) (H : w_X4_isWish N a1 P) : zM l κ [] zw0 yX4_isWish cX4_isWish 1 (some .boolean) { frames := 0, cells := 0, slots := 0, locals := 0 } [.int a1] () (zsi P) := by
  refine z_met (own := RX4) (by decide) rfl (Nat.le_of_ble_eq_true rfl) z_D0 (fun g X => ?_)
  show zJ g κ [] zw0 (zsi P) 1 () [(0, .int a1)] 0 []
  unfold w_X4_isWish at H
  refine z_iload_n X dX4_isWish_0 0 rfl rfl ?_
  refine z_iconst (v := 1) X dX4_isWish_1 (by decide) ?_
  refine z_icmp_lt (tgt := 16) X dX4_isWish_2 (by decide) (fun q1 => ?_) (fun q1 => ?_)
  · have H := H.1 q1
    refine z_iconst (v := 0) X dX4_isWish_16 (by decide) ?_
    exact z_szret X rfl dX4_isWish_17 H
  · have H := H.2 q1
    refine z_iload_n X dX4_isWish_5 0 rfl rfl ?_
    refine z_sipush (v := 2048) X dX4_isWish_6 (by decide) ?_
    refine z_icmp_gt (tgt := 16) X dX4_isWish_9 (by decide) (fun q2 => ?_) (fun q2 => ?_)
    · have H := H.1 q2
      refine z_iconst (v := 0) X dX4_isWish_16 (by decide) ?_
      exact z_szret X rfl dX4_isWish_17 H
    · have H := H.2 q2
      refine z_iconst (v := 1) X dX4_isWish_12 (by decide) ?_
      refine z_goto (tgt := 17) X dX4_isWish_13 (by decide) ?_
      exact z_szret X rfl dX4_isWish_17 H
theorem k_X4_isWish {σ : Type} {g : zE} {hs : List Nat} {ω : σ → va_W} {κ : zK} {u : σ} {Φ : σ → Option Value → Prop} {cc : ByteArray} {nL : Nat} {own : String} {ret : Option FieldType} {rm : Room} {lv : List (Nat × Value)} {pc : Nat} {st : List Value} {idx N : Nat} {a1 : Int32} {P : Int32 → Prop} (X : zC g κ hs ω cc nL own ret rm) (hml : Cond.methodLink own idx yX4_isWish ∈ zT) (H : w_X4_isWish N a1 P) (hR : 0 + 1 ≤ rm.frames ∧ 8 + (1 + 11) + 0 ≤ rm.locals) (hroom : (st.map fun v => v.category).sum ≤ 8) (d : decode cc pc = .ok (.invokestatic idx, 3)) (kk : ∀ v, P v → zJ g κ hs ω Φ nL u lv (pc + 3) (.int v :: st)) : zJ g κ hs ω Φ nL u lv pc (.int a1 :: st) := z_callS (As := [.int a1]) X yy_X4_isWish hml st_X4_isWish (c_X4_isWish N a1 P H) rfl ⟨rfl, rfl⟩ hR rfl hroom d kk
def w_X4_refuse (N : Nat) (u : TS) (P : TS → Int32 → Prop) : Prop := (zlet (sRf u.1 ((u.1.2.2.2.2.1) + (1 : Int32)), u.2) fun u1 => (P u1 (-1 : Int32)))
set_option maxHeartbeats 4000000 in
set_option maxRecDepth 100000 in
theorem c_X4_refuse {l : Launch} {κ : zK} {h : zH} (hh : zDT κ h) (N : Nat) (u : TS) (P : TS → Int32 → Prop) (H : w_X4_refuse N u P) : zM l κ (hsT h) (wT κ h) yX4_refuse cX4_refuse 1 (some .int) { frames := 0, cells := 0, slots := 0, locals := 0 } [.ref h.1] u (zi P) := by
  refine z_met (own := RX4) (by decide) rfl (Nat.le_of_ble_eq_true rfl) hh (fun g X => ?_)
  show zJ g κ (hsT h) (wT κ h) (zi P) 1 u [(0, .ref h.1)] 0 []
  unfold w_X4_refuse at H
  refine z_aload_n X dX4_refuse_0 0 rfl rfl ?_
  refine z_dup X dX4_refuse_1 rfl ?_
  refine gf_X4_152 X dX4_refuse_2 ?_
  refine z_iconst (v := 1) X dX4_refuse_5 (by decide) ?_
  refine z_iadd X dX4_refuse_6 ?_
  refine pf_X4_152 X dX4_refuse_7 H (fun u1 H => ?_)
  refine z_iconst (v := -1) X dX4_refuse_10 (by decide) ?_
  exact z_iret X dX4_refuse_11 H
theorem k_X4_refuse {g : zE} {κ : zK} {h : zH} (hh : zDT κ h) {u : TS} {Φ : TS → Option Value → Prop} {cc : ByteArray} {nL : Nat} {own : String} {ret : Option FieldType} {rm : Room} {lv : List (Nat × Value)} {pc : Nat} {st : List Value} {idx N : Nat}  {P : TS → Int32 → Prop} (X : zC g κ (hsT h) (wT κ h) cc nL own ret rm) (hml : Cond.methodLink own idx yX4_refuse ∈ zT) (H : w_X4_refuse N u P) (hR : 0 + 1 ≤ rm.frames ∧ 8 + (1 + 11) + 0 ≤ rm.locals) (hroom : (st.map fun v => v.category).sum ≤ 8) (d : decode cc pc = .ok (.invokevirtual idx, 3)) (kk : ∀ u1 v, P u1 v → zJ g κ (hsT h) (wT κ h) Φ nL u1 lv (pc + 3) (.int v :: st)) : zJ g κ (hsT h) (wT κ h) Φ nL u lv pc (.ref h.1 :: st) := z_callV (As := []) X yy_X4_refuse hml im_X4_refuse se_X4_refuse (c_X4_refuse hh N u P H) 3 0 rfl rfl rfl ⟨rfl, rfl⟩ hR rfl hroom d (fun u1 r hz => by obtain ⟨v, hr, hP⟩ := hz; subst hr; exact kk u1 v hP)
def w_X4_take (N : Nat) (u : TS) (a1 : Int32) (P : TS → Prop) : Prop := (w_X2_leave N u a1 fun u2 => (w_X3_bodyOf N u2 a1 fun u4 r3 => (w_X3_layHeader N u4 a1 r3 (0 : Int32) fun u6 => (w_X3_tellBehind N u6 a1 fun u8 => (P u8)))))
set_option maxHeartbeats 4000000 in
set_option maxRecDepth 100000 in
theorem c_X4_take {l : Launch} {κ : zK} {h : zH} (hh : zDT κ h) (N : Nat) (u : TS) (a1 : Int32) (P : TS → Prop) (H : w_X4_take N u a1 P) : zM l κ (hsT h) (wT κ h) yX4_take cX4_take 2 none { frames := 4, cells := 0, slots := 0, locals := 86 } [.ref h.1, .int a1] u (zv P) := by
  refine z_met (own := RX4) (by decide) rfl (Nat.le_of_ble_eq_true rfl) hh (fun g X => ?_)
  show zJ g κ (hsT h) (wT κ h) (zv P) 2 u [(0, .ref h.1), (1, .int a1)] 0 []
  unfold w_X4_take at H
  refine z_aload_n X dX4_take_0 0 rfl rfl ?_
  refine gf_X4_21 X dX4_take_1 ?_
  refine z_iload_n X dX4_take_4 1 rfl rfl ?_
  refine k_X2_leave hh X ml_X4_184 H ⟨Nat.le_of_ble_eq_true rfl, Nat.le_of_ble_eq_true rfl⟩ (Nat.le_of_ble_eq_true rfl) dX4_take_5 (fun u2 H => ?_)
  refine z_aload_n X dX4_take_8 0 rfl rfl ?_
  refine gf_X4_12 X dX4_take_9 ?_
  refine z_iload_n X dX4_take_12 1 rfl rfl ?_
  refine z_aload_n X dX4_take_13 0 rfl rfl ?_
  refine gf_X4_12 X dX4_take_14 ?_
  refine z_iload_n X dX4_take_17 1 rfl rfl ?_
  refine k_X3_bodyOf hh X ml_X4_89 H ⟨Nat.le_of_ble_eq_true rfl, Nat.le_of_ble_eq_true rfl⟩ (Nat.le_of_ble_eq_true rfl) dX4_take_18 (fun u4 r3 H => ?_)
  refine z_iconst (v := 0) X dX4_take_21 (by decide) ?_
  refine k_X3_layHeader hh X ml_X4_108 H ⟨Nat.le_of_ble_eq_true rfl, Nat.le_of_ble_eq_true rfl⟩ (Nat.le_of_ble_eq_true rfl) dX4_take_22 (fun u6 H => ?_)
  refine z_aload_n X dX4_take_25 0 rfl rfl ?_
  refine gf_X4_12 X dX4_take_26 ?_
  refine z_iload_n X dX4_take_29 1 rfl rfl ?_
  refine k_X3_tellBehind hh X ml_X4_187 H ⟨Nat.le_of_ble_eq_true rfl, Nat.le_of_ble_eq_true rfl⟩ (Nat.le_of_ble_eq_true rfl) dX4_take_30 (fun u8 H => ?_)
  exact z_vret X dX4_take_33 H
theorem k_X4_take {g : zE} {κ : zK} {h : zH} (hh : zDT κ h) {u : TS} {Φ : TS → Option Value → Prop} {cc : ByteArray} {nL : Nat} {own : String} {ret : Option FieldType} {rm : Room} {lv : List (Nat × Value)} {pc : Nat} {st : List Value} {idx N : Nat} {a1 : Int32} {P : TS → Prop} (X : zC g κ (hsT h) (wT κ h) cc nL own ret rm) (hml : Cond.methodLink own idx yX4_take ∈ zT) (H : w_X4_take N u a1 P) (hR : 4 + 1 ≤ rm.frames ∧ 8 + (2 + 11) + 86 ≤ rm.locals) (hroom : (st.map fun v => v.category).sum ≤ 8) (d : decode cc pc = .ok (.invokevirtual idx, 3)) (kk : ∀ u1, P u1 → zJ g κ (hsT h) (wT κ h) Φ nL u1 lv (pc + 3) st) : zJ g κ (hsT h) (wT κ h) Φ nL u lv pc (.int a1 :: .ref h.1 :: st) := z_callV (As := [.int a1]) X yy_X4_take hml im_X4_take se_X4_take (c_X4_take hh N u a1 P H) 3 0 rfl rfl rfl ⟨rfl, rfl⟩ hR rfl hroom d (fun u1 r hz => by obtain ⟨hr, hP⟩ := hz; subst hr; exact kk u1 hP)
def w_X4_release_56 (N : Nat) (P : TS → Int32 → Prop) (u : TS) (x1 : Int32) (x2 : Int32) (x3 : Int32) : Prop := (w_X3_isAheadFree N u x1 fun u9 r8 => ((r8 = 0 → (w_X4_makeFree N u9 x2 x3 fun u12 => (P u12 x3))) ∧ (¬ r8 = 0 → (w_X3_freeAhead N u9 x1 fun u14 r13 => (w_X2_leave N u14 r13 fun u16 => (w_X3_bodyOf N u16 r13 fun u18 r17 => (w_X4_makeFree N u18 r13 (x3 + ((1 : Int32) + r17)) fun u20 => (P u20 (x3 + ((1 : Int32) + r17))))))))))
def w_X4_release (N : Nat) (u : TS) (a1 : Int32) (P : TS → Int32 → Prop) : Prop := (w_X3_bodyOf N u a1 fun u2 r1 => (w_X3_behind N u2 a1 fun u4 r3 => (w_X3_isFree N u4 r3 fun u6 r5 => ((r5 = 0 → (w_X4_release_56 N P u6 a1 a1 r1)) ∧ (¬ r5 = 0 → (w_X2_leave N u6 r3 fun u22 => (w_X3_bodyOf N u22 r3 fun u24 r23 => (w_X4_release_56 N P u24 a1 a1 (r1 + ((1 : Int32) + r23))))))))))
set_option maxHeartbeats 4000000 in
set_option maxRecDepth 100000 in
theorem j_X4_release_56 {κ : zK} {h : zH} (hh : zDT κ h) (N : Nat) {g : zE} (X : zC g κ (hsT h) (wT κ h) cX4_release 5 RX4 (some .int) { frames := 5, cells := 0, slots := 0, locals := 108 }) (P : TS → Int32 → Prop) (u : TS) (x1 : Int32) (x2 : Int32) (x3 : Int32) (H : w_X4_release_56 N P u x1 x2 x3) : zJ g κ (hsT h) (wT κ h) (zi P) 5 u [(0, .ref h.1), (1, .int x1), (2, .int x2), (3, .int x3)] 56 [] := by
  unfold w_X4_release_56 at H
  refine z_aload_n X dX4_release_56 0 rfl rfl ?_
  refine gf_X4_12 X dX4_release_57 ?_
  refine z_iload_n X dX4_release_60 1 rfl rfl ?_
  refine k_X3_isAheadFree hh X ml_X4_193 H ⟨Nat.le_of_ble_eq_true rfl, Nat.le_of_ble_eq_true rfl⟩ (Nat.le_of_ble_eq_true rfl) dX4_release_61 (fun u9 r8 H => ?_)
  refine z_if_eq (tgt := 97) X dX4_release_64 (by decide) (fun q10 => ?_) (fun q10 => ?_)
  · have H := H.1 q10
    refine z_aload_n X dX4_release_97 0 rfl rfl ?_
    refine z_iload_n X dX4_release_98 2 rfl rfl ?_
    refine z_iload_n X dX4_release_99 3 rfl rfl ?_
    refine k_X4_makeFree hh X ml_X4_170 H ⟨Nat.le_of_ble_eq_true rfl, Nat.le_of_ble_eq_true rfl⟩ (Nat.le_of_ble_eq_true rfl) dX4_release_100 (fun u12 H => ?_)
    refine z_iload_n X dX4_release_103 3 rfl rfl ?_
    exact z_iret X dX4_release_104 H
  · have H := H.2 q10
    refine z_aload_n X dX4_release_67 0 rfl rfl ?_
    refine gf_X4_12 X dX4_release_68 ?_
    refine z_iload_n X dX4_release_71 1 rfl rfl ?_
    refine k_X3_freeAhead hh X ml_X4_196 H ⟨Nat.le_of_ble_eq_true rfl, Nat.le_of_ble_eq_true rfl⟩ (Nat.le_of_ble_eq_true rfl) dX4_release_72 (fun u14 r13 H => ?_)
    refine z_istore_n (lv' := [(2, .int r13), (0, .ref h.1), (1, .int x1), (3, .int x3)]) X dX4_release_75 rfl (by decide) rfl ?_
    refine z_aload_n X dX4_release_76 1 rfl rfl ?_
    refine gf_X4_21 X dX4_release_77 ?_
    refine z_iload_n X dX4_release_80 0 rfl rfl ?_
    refine k_X2_leave hh X ml_X4_184 H ⟨Nat.le_of_ble_eq_true rfl, Nat.le_of_ble_eq_true rfl⟩ (Nat.le_of_ble_eq_true rfl) dX4_release_81 (fun u16 H => ?_)
    refine z_iload_n X dX4_release_84 3 rfl rfl ?_
    refine z_iconst (v := 1) X dX4_release_85 (by decide) ?_
    refine z_aload_n X dX4_release_86 1 rfl rfl ?_
    refine gf_X4_12 X dX4_release_87 ?_
    refine z_iload_n X dX4_release_90 0 rfl rfl ?_
    refine k_X3_bodyOf hh X ml_X4_89 H ⟨Nat.le_of_ble_eq_true rfl, Nat.le_of_ble_eq_true rfl⟩ (Nat.le_of_ble_eq_true rfl) dX4_release_91 (fun u18 r17 H => ?_)
    refine z_iadd X dX4_release_94 ?_
    refine z_iadd X dX4_release_95 ?_
    refine z_istore_n (lv' := [(3, .int (x3 + ((1 : Int32) + r17))), (2, .int r13), (0, .ref h.1), (1, .int x1)]) X dX4_release_96 rfl (by decide) rfl ?_
    refine z_aload_n X dX4_release_97 2 rfl rfl ?_
    refine z_iload_n X dX4_release_98 1 rfl rfl ?_
    refine z_iload_n X dX4_release_99 0 rfl rfl ?_
    refine k_X4_makeFree hh X ml_X4_170 H ⟨Nat.le_of_ble_eq_true rfl, Nat.le_of_ble_eq_true rfl⟩ (Nat.le_of_ble_eq_true rfl) dX4_release_100 (fun u20 H => ?_)
    refine z_iload_n X dX4_release_103 0 rfl rfl ?_
    exact z_iret X dX4_release_104 H
set_option maxHeartbeats 4000000 in
set_option maxRecDepth 100000 in
theorem c_X4_release {l : Launch} {κ : zK} {h : zH} (hh : zDT κ h) (N : Nat) (u : TS) (a1 : Int32) (P : TS → Int32 → Prop) (H : w_X4_release N u a1 P) : zM l κ (hsT h) (wT κ h) yX4_release cX4_release 5 (some .int) { frames := 5, cells := 0, slots := 0, locals := 108 } [.ref h.1, .int a1] u (zi P) := by
  refine z_met (own := RX4) (by decide) rfl (Nat.le_of_ble_eq_true rfl) hh (fun g X => ?_)
  show zJ g κ (hsT h) (wT κ h) (zi P) 5 u [(0, .ref h.1), (1, .int a1)] 0 []
  unfold w_X4_release at H
  refine z_iload_n X dX4_release_0 1 rfl rfl ?_
  refine z_istore_n (lv' := [(2, .int a1), (0, .ref h.1), (1, .int a1)]) X dX4_release_1 rfl (by decide) rfl ?_
  refine z_aload_n X dX4_release_2 1 rfl rfl ?_
  refine gf_X4_12 X dX4_release_3 ?_
  refine z_iload_n X dX4_release_6 2 rfl rfl ?_
  refine k_X3_bodyOf hh X ml_X4_89 H ⟨Nat.le_of_ble_eq_true rfl, Nat.le_of_ble_eq_true rfl⟩ (Nat.le_of_ble_eq_true rfl) dX4_release_7 (fun u2 r1 H => ?_)
  refine z_istore_n (lv' := [(3, .int r1), (2, .int a1), (0, .ref h.1), (1, .int a1)]) X dX4_release_10 rfl (by decide) rfl ?_
  refine z_aload_n X dX4_release_11 2 rfl rfl ?_
  refine gf_X4_12 X dX4_release_12 ?_
  refine z_iload_n X dX4_release_15 3 rfl rfl ?_
  refine k_X3_behind hh X ml_X4_181 H ⟨Nat.le_of_ble_eq_true rfl, Nat.le_of_ble_eq_true rfl⟩ (Nat.le_of_ble_eq_true rfl) dX4_release_16 (fun u4 r3 H => ?_)
  refine z_istore (lv' := [(4, .int r3), (3, .int r1), (2, .int a1), (0, .ref h.1), (1, .int a1)]) X dX4_release_19 (by decide) rfl ?_
  refine z_aload_n X dX4_release_21 3 rfl rfl ?_
  refine gf_X4_12 X dX4_release_22 ?_
  refine z_iload X dX4_release_25 0 rfl ?_
  refine k_X3_isFree hh X ml_X4_105 H ⟨Nat.le_of_ble_eq_true rfl, Nat.le_of_ble_eq_true rfl⟩ (Nat.le_of_ble_eq_true rfl) dX4_release_27 (fun u6 r5 H => ?_)
  refine z_if_eq (tgt := 56) X dX4_release_30 (by decide) (fun q7 => ?_) (fun q7 => ?_)
  · have H := H.1 q7
    exact z_sub (j_X4_release_56 hh N X P u6 a1 a1 r1 H) [3, 4, 2, 1] rfl
  · have H := H.2 q7
    refine z_aload_n X dX4_release_33 3 rfl rfl ?_
    refine gf_X4_21 X dX4_release_34 ?_
    refine z_iload X dX4_release_37 0 rfl ?_
    refine k_X2_leave hh X ml_X4_184 H ⟨Nat.le_of_ble_eq_true rfl, Nat.le_of_ble_eq_true rfl⟩ (Nat.le_of_ble_eq_true rfl) dX4_release_39 (fun u22 H => ?_)
    refine z_iload_n X dX4_release_42 1 rfl rfl ?_
    refine z_iconst (v := 1) X dX4_release_43 (by decide) ?_
    refine z_aload_n X dX4_release_44 3 rfl rfl ?_
    refine gf_X4_12 X dX4_release_45 ?_
    refine z_iload X dX4_release_48 0 rfl ?_
    refine k_X3_bodyOf hh X ml_X4_89 H ⟨Nat.le_of_ble_eq_true rfl, Nat.le_of_ble_eq_true rfl⟩ (Nat.le_of_ble_eq_true rfl) dX4_release_50 (fun u24 r23 H => ?_)
    refine z_iadd X dX4_release_53 ?_
    refine z_iadd X dX4_release_54 ?_
    refine z_istore_n (lv' := [(3, .int (r1 + ((1 : Int32) + r23))), (4, .int r3), (2, .int a1), (0, .ref h.1), (1, .int a1)]) X dX4_release_55 rfl (by decide) rfl ?_
    exact z_sub (j_X4_release_56 hh N X P u24 a1 a1 (r1 + ((1 : Int32) + r23)) H) [3, 4, 2, 0] rfl
theorem k_X4_release {g : zE} {κ : zK} {h : zH} (hh : zDT κ h) {u : TS} {Φ : TS → Option Value → Prop} {cc : ByteArray} {nL : Nat} {own : String} {ret : Option FieldType} {rm : Room} {lv : List (Nat × Value)} {pc : Nat} {st : List Value} {idx N : Nat} {a1 : Int32} {P : TS → Int32 → Prop} (X : zC g κ (hsT h) (wT κ h) cc nL own ret rm) (hml : Cond.methodLink own idx yX4_release ∈ zT) (H : w_X4_release N u a1 P) (hR : 5 + 1 ≤ rm.frames ∧ 8 + (5 + 11) + 108 ≤ rm.locals) (hroom : (st.map fun v => v.category).sum ≤ 8) (d : decode cc pc = .ok (.invokevirtual idx, 3)) (kk : ∀ u1 v, P u1 v → zJ g κ (hsT h) (wT κ h) Φ nL u1 lv (pc + 3) (.int v :: st)) : zJ g κ (hsT h) (wT κ h) Φ nL u lv pc (.int a1 :: .ref h.1 :: st) := z_callV (As := [.int a1]) X yy_X4_release hml im_X4_release se_X4_release (c_X4_release hh N u a1 P H) 3 0 rfl rfl rfl ⟨rfl, rfl⟩ hR rfl hroom d (fun u1 r hz => by obtain ⟨v, hr, hP⟩ := hz; subst hr; exact kk u1 v hP)
def w_X4_cutTo (N : Nat) (u : TS) (a1 : Int32) (a2 : Int32) (P : TS → Prop) : Prop := (w_X3_bodyOf N u a1 fun u2 r1 => (((r1 - a2) < (4 : Int32) → (P u2)) ∧ (¬ (r1 - a2) < (4 : Int32) → (w_X3_layBody N u2 a1 a2 fun u5 => (w_X3_behind N u5 a1 fun u7 r6 => (w_X3_layHeader N u7 r6 ((r1 - a2) - (1 : Int32)) (0 : Int32) fun u9 => (w_X4_release N u9 r6 fun u11 r10 => (P u11))))))))
set_option maxHeartbeats 4000000 in
set_option maxRecDepth 100000 in
theorem c_X4_cutTo {l : Launch} {κ : zK} {h : zH} (hh : zDT κ h) (N : Nat) (u : TS) (a1 : Int32) (a2 : Int32) (P : TS → Prop) (H : w_X4_cutTo N u a1 a2 P) : zM l κ (hsT h) (wT κ h) yX4_cutTo cX4_cutTo 5 none { frames := 6, cells := 0, slots := 0, locals := 132 } [.ref h.1, .int a1, .int a2] u (zv P) := by
  refine z_met (own := RX4) (by decide) rfl (Nat.le_of_ble_eq_true rfl) hh (fun g X => ?_)
  show zJ g κ (hsT h) (wT κ h) (zv P) 5 u [(0, .ref h.1), (1, .int a1), (2, .int a2)] 0 []
  unfold w_X4_cutTo at H
  refine z_aload_n X dX4_cutTo_0 0 rfl rfl ?_
  refine gf_X4_12 X dX4_cutTo_1 ?_
  refine z_iload_n X dX4_cutTo_4 1 rfl rfl ?_
  refine k_X3_bodyOf hh X ml_X4_89 H ⟨Nat.le_of_ble_eq_true rfl, Nat.le_of_ble_eq_true rfl⟩ (Nat.le_of_ble_eq_true rfl) dX4_cutTo_5 (fun u2 r1 H => ?_)
  refine z_iload_n X dX4_cutTo_8 2 rfl rfl ?_
  refine z_isub X dX4_cutTo_9 ?_
  refine z_istore_n (lv' := [(3, .int (r1 - a2)), (0, .ref h.1), (1, .int a1), (2, .int a2)]) X dX4_cutTo_10 rfl (by decide) rfl ?_
  refine z_iload_n X dX4_cutTo_11 0 rfl rfl ?_
  refine z_iconst (v := 4) X dX4_cutTo_12 (by decide) ?_
  refine z_icmp_ge (tgt := 17) X dX4_cutTo_13 (by decide) (fun q3 => ?_) (fun q3 => ?_)
  · have H := H.2 q3
    refine z_aload_n X dX4_cutTo_17 1 rfl rfl ?_
    refine gf_X4_12 X dX4_cutTo_18 ?_
    refine z_iload_n X dX4_cutTo_21 2 rfl rfl ?_
    refine z_iload_n X dX4_cutTo_22 3 rfl rfl ?_
    refine k_X3_layBody hh X ml_X4_190 H ⟨Nat.le_of_ble_eq_true rfl, Nat.le_of_ble_eq_true rfl⟩ (Nat.le_of_ble_eq_true rfl) dX4_cutTo_23 (fun u5 H => ?_)
    refine z_aload_n X dX4_cutTo_26 1 rfl rfl ?_
    refine gf_X4_12 X dX4_cutTo_27 ?_
    refine z_iload_n X dX4_cutTo_30 2 rfl rfl ?_
    refine k_X3_behind hh X ml_X4_181 H ⟨Nat.le_of_ble_eq_true rfl, Nat.le_of_ble_eq_true rfl⟩ (Nat.le_of_ble_eq_true rfl) dX4_cutTo_31 (fun u7 r6 H => ?_)
    refine z_istore (lv' := [(4, .int r6), (3, .int (r1 - a2)), (0, .ref h.1), (1, .int a1), (2, .int a2)]) X dX4_cutTo_34 (by decide) rfl ?_
    refine z_aload_n X dX4_cutTo_36 2 rfl rfl ?_
    refine gf_X4_12 X dX4_cutTo_37 ?_
    refine z_iload X dX4_cutTo_40 0 rfl ?_
    refine z_iload_n X dX4_cutTo_42 1 rfl rfl ?_
    refine z_iconst (v := 1) X dX4_cutTo_43 (by decide) ?_
    refine z_isub X dX4_cutTo_44 ?_
    refine z_iconst (v := 0) X dX4_cutTo_45 (by decide) ?_
    refine k_X3_layHeader hh X ml_X4_108 H ⟨Nat.le_of_ble_eq_true rfl, Nat.le_of_ble_eq_true rfl⟩ (Nat.le_of_ble_eq_true rfl) dX4_cutTo_46 (fun u9 H => ?_)
    refine z_aload_n X dX4_cutTo_49 2 rfl rfl ?_
    refine z_iload X dX4_cutTo_50 0 rfl ?_
    refine k_X4_release hh X ml_X4_83 H ⟨Nat.le_of_ble_eq_true rfl, Nat.le_of_ble_eq_true rfl⟩ (Nat.le_of_ble_eq_true rfl) dX4_cutTo_52 (fun u11 r10 H => ?_)
    refine z_pop X dX4_cutTo_55 rfl ?_
    exact z_vret X dX4_cutTo_56 H
  · have H := H.1 q3
    exact z_vret X dX4_cutTo_16 H
theorem k_X4_cutTo {g : zE} {κ : zK} {h : zH} (hh : zDT κ h) {u : TS} {Φ : TS → Option Value → Prop} {cc : ByteArray} {nL : Nat} {own : String} {ret : Option FieldType} {rm : Room} {lv : List (Nat × Value)} {pc : Nat} {st : List Value} {idx N : Nat} {a1 : Int32} {a2 : Int32} {P : TS → Prop} (X : zC g κ (hsT h) (wT κ h) cc nL own ret rm) (hml : Cond.methodLink own idx yX4_cutTo ∈ zT) (H : w_X4_cutTo N u a1 a2 P) (hR : 6 + 1 ≤ rm.frames ∧ 8 + (5 + 11) + 132 ≤ rm.locals) (hroom : (st.map fun v => v.category).sum ≤ 8) (d : decode cc pc = .ok (.invokevirtual idx, 3)) (kk : ∀ u1, P u1 → zJ g κ (hsT h) (wT κ h) Φ nL u1 lv (pc + 3) st) : zJ g κ (hsT h) (wT κ h) Φ nL u lv pc (.int a2 :: .int a1 :: .ref h.1 :: st) := z_callV (As := [.int a1, .int a2]) X yy_X4_cutTo hml im_X4_cutTo se_X4_cutTo (c_X4_cutTo hh N u a1 a2 P H) 3 0 rfl rfl rfl ⟨rfl, rfl⟩ hR rfl hroom d (fun u1 r hz => by obtain ⟨hr, hP⟩ := hz; subst hr; exact kk u1 hP)
def w_X4_alloc (N : Nat) (u : TS) (a1 : Int32) (P : TS → Int32 → Prop) : Prop := (w_X4_isWish N a1 fun r1 => ((r1 = 0 → (P u (-2 : Int32))) ∧ (¬ r1 = 0 → (((u.1.2.2.2.2.2.1) = 0 → (w_X4_bodyFor N a1 fun r5 => (w_X2_headerFor N u r5 fun u8 r7 => ((r7 = (-1 : Int32) → (w_X4_refuse N u8 fun u17 r16 => (P u17 r16))) ∧ (¬ r7 = (-1 : Int32) → (w_X2_forgetMoves N u8 fun u11 => (w_X4_take N u11 r7 fun u13 => (w_X4_cutTo N u13 r7 r5 fun u15 => (P u15 (r7 + (1 : Int32))))))))))) ∧ (¬ (u.1.2.2.2.2.2.1) = 0 → (P u (-3 : Int32)))))))
set_option maxHeartbeats 4000000 in
set_option maxRecDepth 100000 in
theorem c_X4_alloc {l : Launch} {κ : zK} {h : zH} (hh : zDT κ h) (N : Nat) (u : TS) (a1 : Int32) (P : TS → Int32 → Prop) (H : w_X4_alloc N u a1 P) : zM l κ (hsT h) (wT κ h) yX4_alloc cX4_alloc 4 (some .int) { frames := 7, cells := 0, slots := 0, locals := 156 } [.ref h.1, .int a1] u (zi P) := by
  refine z_met (own := RX4) (by decide) rfl (Nat.le_of_ble_eq_true rfl) hh (fun g X => ?_)
  show zJ g κ (hsT h) (wT κ h) (zi P) 4 u [(0, .ref h.1), (1, .int a1)] 0 []
  unfold w_X4_alloc at H
  refine z_iload_n X dX4_alloc_0 1 rfl rfl ?_
  refine k_X4_isWish X ml_X4_38 H ⟨Nat.le_of_ble_eq_true rfl, Nat.le_of_ble_eq_true rfl⟩ (Nat.le_of_ble_eq_true rfl) dX4_alloc_1 (fun r1 H => ?_)
  refine z_if_ne (tgt := 10) X dX4_alloc_4 (by decide) (fun q3 => ?_) (fun q3 => ?_)
  · have H := H.2 q3
    refine z_aload_n X dX4_alloc_10 0 rfl rfl ?_
    refine gf_X4_42 X dX4_alloc_11 ?_
    refine z_if_eq (tgt := 20) X dX4_alloc_14 (by decide) (fun q4 => ?_) (fun q4 => ?_)
    · have H := H.1 q4
      refine z_iload_n X dX4_alloc_20 1 rfl rfl ?_
      refine k_X4_bodyFor X ml_X4_46 H ⟨Nat.le_of_ble_eq_true rfl, Nat.le_of_ble_eq_true rfl⟩ (Nat.le_of_ble_eq_true rfl) dX4_alloc_21 (fun r5 H => ?_)
      refine z_istore_n (lv' := [(2, .int r5), (0, .ref h.1), (1, .int a1)]) X dX4_alloc_24 rfl (by decide) rfl ?_
      refine z_aload_n X dX4_alloc_25 1 rfl rfl ?_
      refine gf_X4_21 X dX4_alloc_26 ?_
      refine z_iload_n X dX4_alloc_29 0 rfl rfl ?_
      refine k_X2_headerFor hh X ml_X4_50 H ⟨Nat.le_of_ble_eq_true rfl, Nat.le_of_ble_eq_true rfl⟩ (Nat.le_of_ble_eq_true rfl) dX4_alloc_30 (fun u8 r7 H => ?_)
      refine z_istore_n (lv' := [(3, .int r7), (2, .int r5), (0, .ref h.1), (1, .int a1)]) X dX4_alloc_33 rfl (by decide) rfl ?_
      refine z_iload_n X dX4_alloc_34 0 rfl rfl ?_
      refine z_iconst (v := -1) X dX4_alloc_35 (by decide) ?_
      refine z_icmp_ne (tgt := 44) X dX4_alloc_36 (by decide) (fun q9 => ?_) (fun q9 => ?_)
      · have H := H.2 q9
        refine z_aload_n X dX4_alloc_44 2 rfl rfl ?_
        refine gf_X4_21 X dX4_alloc_45 ?_
        refine k_X2_forgetMoves hh X ml_X4_57 H ⟨Nat.le_of_ble_eq_true rfl, Nat.le_of_ble_eq_true rfl⟩ (Nat.le_of_ble_eq_true rfl) dX4_alloc_48 (fun u11 H => ?_)
        refine z_aload_n X dX4_alloc_51 2 rfl rfl ?_
        refine z_iload_n X dX4_alloc_52 0 rfl rfl ?_
        refine k_X4_take hh X ml_X4_60 H ⟨Nat.le_of_ble_eq_true rfl, Nat.le_of_ble_eq_true rfl⟩ (Nat.le_of_ble_eq_true rfl) dX4_alloc_53 (fun u13 H => ?_)
        refine z_aload_n X dX4_alloc_56 2 rfl rfl ?_
        refine z_iload_n X dX4_alloc_57 0 rfl rfl ?_
        refine z_iload_n X dX4_alloc_58 1 rfl rfl ?_
        refine k_X4_cutTo hh X ml_X4_63 H ⟨Nat.le_of_ble_eq_true rfl, Nat.le_of_ble_eq_true rfl⟩ (Nat.le_of_ble_eq_true rfl) dX4_alloc_59 (fun u15 H => ?_)
        refine z_iload_n X dX4_alloc_62 0 rfl rfl ?_
        refine z_iconst (v := 1) X dX4_alloc_63 (by decide) ?_
        refine z_iadd X dX4_alloc_64 ?_
        exact z_iret X dX4_alloc_65 H
      · have H := H.1 q9
        refine z_aload_n X dX4_alloc_39 2 rfl rfl ?_
        refine k_X4_refuse hh X ml_X4_53 H ⟨Nat.le_of_ble_eq_true rfl, Nat.le_of_ble_eq_true rfl⟩ (Nat.le_of_ble_eq_true rfl) dX4_alloc_40 (fun u17 r16 H => ?_)
        exact z_iret X dX4_alloc_43 H
    · have H := H.2 q4
      refine z_bipush (v := -3) X dX4_alloc_17 (by decide) ?_
      exact z_iret X dX4_alloc_19 H
  · have H := H.1 q3
    refine z_bipush (v := -2) X dX4_alloc_7 (by decide) ?_
    exact z_iret X dX4_alloc_9 H
theorem k_X4_alloc {g : zE} {κ : zK} {h : zH} (hh : zDT κ h) {u : TS} {Φ : TS → Option Value → Prop} {cc : ByteArray} {nL : Nat} {own : String} {ret : Option FieldType} {rm : Room} {lv : List (Nat × Value)} {pc : Nat} {st : List Value} {idx N : Nat} {a1 : Int32} {P : TS → Int32 → Prop} (X : zC g κ (hsT h) (wT κ h) cc nL own ret rm) (hml : Cond.methodLink own idx yX4_alloc ∈ zT) (H : w_X4_alloc N u a1 P) (hR : 7 + 1 ≤ rm.frames ∧ 8 + (4 + 11) + 156 ≤ rm.locals) (hroom : (st.map fun v => v.category).sum ≤ 8) (d : decode cc pc = .ok (.invokevirtual idx, 3)) (kk : ∀ u1 v, P u1 v → zJ g κ (hsT h) (wT κ h) Φ nL u1 lv (pc + 3) (.int v :: st)) : zJ g κ (hsT h) (wT κ h) Φ nL u lv pc (.int a1 :: .ref h.1 :: st) := z_callV (As := [.int a1]) X yy_X4_alloc hml im_X4_alloc se_X4_alloc (c_X4_alloc hh N u a1 P H) 3 0 rfl rfl rfl ⟨rfl, rfl⟩ hR rfl hroom d (fun u1 r hz => by obtain ⟨v, hr, hP⟩ := hz; subst hr; exact kk u1 v hP)
def w_X4_isAlignment (N : Nat) (a1 : Int32) (P : Int32 → Prop) : Prop := ((a1 < (2 : Int32) → (P (0 : Int32))) ∧ (¬ a1 < (2 : Int32) → (((64 : Int32) < a1 → (P (0 : Int32))) ∧ (¬ (64 : Int32) < a1 → (((a1 &&& (a1 - (1 : Int32))) = 0 → (P (1 : Int32))) ∧ (¬ (a1 &&& (a1 - (1 : Int32))) = 0 → (P (0 : Int32))))))))
set_option maxHeartbeats 4000000 in
set_option maxRecDepth 100000 in
theorem c_X4_isAlignment {l : Launch} {κ : zK} (N : Nat) (a1 : Int32) (P : Int32 → Prop) (H : w_X4_isAlignment N a1 P) : zM l κ [] zw0 yX4_isAlignment cX4_isAlignment 1 (some .boolean) { frames := 0, cells := 0, slots := 0, locals := 0 } [.int a1] () (zsi P) := by
  refine z_met (own := RX4) (by decide) rfl (Nat.le_of_ble_eq_true rfl) z_D0 (fun g X => ?_)
  show zJ g κ [] zw0 (zsi P) 1 () [(0, .int a1)] 0 []
  unfold w_X4_isAlignment at H
  refine z_iload_n X dX4_isAlignment_0 0 rfl rfl ?_
  refine z_iconst (v := 2) X dX4_isAlignment_1 (by decide) ?_
  refine z_icmp_lt (tgt := 23) X dX4_isAlignment_2 (by decide) (fun q1 => ?_) (fun q1 => ?_)
  · have H := H.1 q1
    refine z_iconst (v := 0) X dX4_isAlignment_23 (by decide) ?_
    exact z_szret X rfl dX4_isAlignment_24 H
  · have H := H.2 q1
    refine z_iload_n X dX4_isAlignment_5 0 rfl rfl ?_
    refine z_bipush (v := 64) X dX4_isAlignment_6 (by decide) ?_
    refine z_icmp_gt (tgt := 23) X dX4_isAlignment_8 (by decide) (fun q2 => ?_) (fun q2 => ?_)
    · have H := H.1 q2
      refine z_iconst (v := 0) X dX4_isAlignment_23 (by decide) ?_
      exact z_szret X rfl dX4_isAlignment_24 H
    · have H := H.2 q2
      refine z_iload_n X dX4_isAlignment_11 0 rfl rfl ?_
      refine z_iload_n X dX4_isAlignment_12 0 rfl rfl ?_
      refine z_iconst (v := 1) X dX4_isAlignment_13 (by decide) ?_
      refine z_isub X dX4_isAlignment_14 ?_
      refine z_iand X dX4_isAlignment_15 ?_
      refine z_if_ne (tgt := 23) X dX4_isAlignment_16 (by decide) (fun q3 => ?_) (fun q3 => ?_)
      · have H := H.2 q3
        refine z_iconst (v := 0) X dX4_isAlignment_23 (by decide) ?_
        exact z_szret X rfl dX4_isAlignment_24 H
      · have H := H.1 q3
        refine z_iconst (v := 1) X dX4_isAlignment_19 (by decide) ?_
        refine z_goto (tgt := 24) X dX4_isAlignment_20 (by decide) ?_
        exact z_szret X rfl dX4_isAlignment_24 H
theorem k_X4_isAlignment {σ : Type} {g : zE} {hs : List Nat} {ω : σ → va_W} {κ : zK} {u : σ} {Φ : σ → Option Value → Prop} {cc : ByteArray} {nL : Nat} {own : String} {ret : Option FieldType} {rm : Room} {lv : List (Nat × Value)} {pc : Nat} {st : List Value} {idx N : Nat} {a1 : Int32} {P : Int32 → Prop} (X : zC g κ hs ω cc nL own ret rm) (hml : Cond.methodLink own idx yX4_isAlignment ∈ zT) (H : w_X4_isAlignment N a1 P) (hR : 0 + 1 ≤ rm.frames ∧ 8 + (1 + 11) + 0 ≤ rm.locals) (hroom : (st.map fun v => v.category).sum ≤ 8) (d : decode cc pc = .ok (.invokestatic idx, 3)) (kk : ∀ v, P v → zJ g κ hs ω Φ nL u lv (pc + 3) (.int v :: st)) : zJ g κ hs ω Φ nL u lv pc (.int a1 :: st) := z_callS (As := [.int a1]) X yy_X4_isAlignment hml st_X4_isAlignment (c_X4_isAlignment N a1 P H) rfl ⟨rfl, rfl⟩ hR rfl hroom d kk
def w_X4_mostAhead (N : Nat) (a1 : Int32) (P : Int32 → Prop) : Prop := (P (((4 : Int32) + a1) - (1 : Int32)))
set_option maxHeartbeats 4000000 in
set_option maxRecDepth 100000 in
theorem c_X4_mostAhead {l : Launch} {κ : zK} (N : Nat) (a1 : Int32) (P : Int32 → Prop) (H : w_X4_mostAhead N a1 P) : zM l κ [] zw0 yX4_mostAhead cX4_mostAhead 1 (some .int) { frames := 0, cells := 0, slots := 0, locals := 0 } [.int a1] () (zsi P) := by
  refine z_met (own := RX4) (by decide) rfl (Nat.le_of_ble_eq_true rfl) z_D0 (fun g X => ?_)
  show zJ g κ [] zw0 (zsi P) 1 () [(0, .int a1)] 0 []
  unfold w_X4_mostAhead at H
  refine z_iconst (v := 4) X dX4_mostAhead_0 (by decide) ?_
  refine z_iload_n X dX4_mostAhead_1 0 rfl rfl ?_
  refine z_iadd X dX4_mostAhead_2 ?_
  refine z_iconst (v := 1) X dX4_mostAhead_3 (by decide) ?_
  refine z_isub X dX4_mostAhead_4 ?_
  exact z_siret X dX4_mostAhead_5 H
theorem k_X4_mostAhead {σ : Type} {g : zE} {hs : List Nat} {ω : σ → va_W} {κ : zK} {u : σ} {Φ : σ → Option Value → Prop} {cc : ByteArray} {nL : Nat} {own : String} {ret : Option FieldType} {rm : Room} {lv : List (Nat × Value)} {pc : Nat} {st : List Value} {idx N : Nat} {a1 : Int32} {P : Int32 → Prop} (X : zC g κ hs ω cc nL own ret rm) (hml : Cond.methodLink own idx yX4_mostAhead ∈ zT) (H : w_X4_mostAhead N a1 P) (hR : 0 + 1 ≤ rm.frames ∧ 8 + (1 + 11) + 0 ≤ rm.locals) (hroom : (st.map fun v => v.category).sum ≤ 8) (d : decode cc pc = .ok (.invokestatic idx, 3)) (kk : ∀ v, P v → zJ g κ hs ω Φ nL u lv (pc + 3) (.int v :: st)) : zJ g κ hs ω Φ nL u lv pc (.int a1 :: st) := z_callS (As := [.int a1]) X yy_X4_mostAhead hml st_X4_mostAhead (c_X4_mostAhead N a1 P H) rfl ⟨rfl, rfl⟩ hR rfl hroom d kk
def w_X4_alignedPlace (N : Nat) (a1 : Int32) (a2 : Int32) (P : Int32 → Prop) : Prop := (((a1 &&& (a2 - (1 : Int32))) = 0 → (P a1)) ∧ (¬ (a1 &&& (a2 - (1 : Int32))) = 0 → (P (((a1 + (4 : Int32)) + (a2 - (1 : Int32))) &&& ((a2 - (1 : Int32)) ^^^ (-1 : Int32))))))
set_option maxHeartbeats 4000000 in
set_option maxRecDepth 100000 in
theorem c_X4_alignedPlace {l : Launch} {κ : zK} (N : Nat) (a1 : Int32) (a2 : Int32) (P : Int32 → Prop) (H : w_X4_alignedPlace N a1 a2 P) : zM l κ [] zw0 yX4_alignedPlace cX4_alignedPlace 3 (some .int) { frames := 0, cells := 0, slots := 0, locals := 0 } [.int a1, .int a2] () (zsi P) := by
  refine z_met (own := RX4) (by decide) rfl (Nat.le_of_ble_eq_true rfl) z_D0 (fun g X => ?_)
  show zJ g κ [] zw0 (zsi P) 3 () [(0, .int a1), (1, .int a2)] 0 []
  unfold w_X4_alignedPlace at H
  refine z_iload_n X dX4_alignedPlace_0 1 rfl rfl ?_
  refine z_iconst (v := 1) X dX4_alignedPlace_1 (by decide) ?_
  refine z_isub X dX4_alignedPlace_2 ?_
  refine z_istore_n (lv' := [(2, .int (a2 - (1 : Int32))), (0, .int a1), (1, .int a2)]) X dX4_alignedPlace_3 rfl (by decide) rfl ?_
  refine z_iload_n X dX4_alignedPlace_4 1 rfl rfl ?_
  refine z_iload_n X dX4_alignedPlace_5 0 rfl rfl ?_
  refine z_iand X dX4_alignedPlace_6 ?_
  refine z_if_ne (tgt := 14) X dX4_alignedPlace_7 (by decide) (fun q1 => ?_) (fun q1 => ?_)
  · have H := H.2 q1
    refine z_iload_n X dX4_alignedPlace_14 1 rfl rfl ?_
    refine z_iconst (v := 4) X dX4_alignedPlace_15 (by decide) ?_
    refine z_iadd X dX4_alignedPlace_16 ?_
    refine z_iload_n X dX4_alignedPlace_17 0 rfl rfl ?_
    refine z_iadd X dX4_alignedPlace_18 ?_
    refine z_iload_n X dX4_alignedPlace_19 0 rfl rfl ?_
    refine z_iconst (v := -1) X dX4_alignedPlace_20 (by decide) ?_
    refine z_ixor X dX4_alignedPlace_21 ?_
    refine z_iand X dX4_alignedPlace_22 ?_
    exact z_siret X dX4_alignedPlace_23 H
  · have H := H.1 q1
    refine z_iload_n X dX4_alignedPlace_10 1 rfl rfl ?_
    refine z_goto (tgt := 23) X dX4_alignedPlace_11 (by decide) ?_
    exact z_siret X dX4_alignedPlace_23 H
theorem k_X4_alignedPlace {σ : Type} {g : zE} {hs : List Nat} {ω : σ → va_W} {κ : zK} {u : σ} {Φ : σ → Option Value → Prop} {cc : ByteArray} {nL : Nat} {own : String} {ret : Option FieldType} {rm : Room} {lv : List (Nat × Value)} {pc : Nat} {st : List Value} {idx N : Nat} {a1 : Int32} {a2 : Int32} {P : Int32 → Prop} (X : zC g κ hs ω cc nL own ret rm) (hml : Cond.methodLink own idx yX4_alignedPlace ∈ zT) (H : w_X4_alignedPlace N a1 a2 P) (hR : 0 + 1 ≤ rm.frames ∧ 8 + (3 + 11) + 0 ≤ rm.locals) (hroom : (st.map fun v => v.category).sum ≤ 8) (d : decode cc pc = .ok (.invokestatic idx, 3)) (kk : ∀ v, P v → zJ g κ hs ω Φ nL u lv (pc + 3) (.int v :: st)) : zJ g κ hs ω Φ nL u lv pc (.int a2 :: .int a1 :: st) := z_callS (As := [.int a1, .int a2]) X yy_X4_alignedPlace hml st_X4_alignedPlace (c_X4_alignedPlace N a1 a2 P H) rfl ⟨rfl, rfl⟩ hR rfl hroom d kk
def w_X4_splitBefore (N : Nat) (u : TS) (a1 : Int32) (a2 : Int32) (P : TS → Prop) : Prop := (w_X3_bodyOf N u a1 fun u2 r1 => (w_X3_layHeader N u2 a2 (r1 - (a2 - a1)) (0 : Int32) fun u4 => (w_X4_makeFree N u4 a1 ((a2 - a1) - (1 : Int32)) fun u6 => (P u6))))
set_option maxHeartbeats 4000000 in
set_option maxRecDepth 100000 in
theorem c_X4_splitBefore {l : Launch} {κ : zK} {h : zH} (hh : zDT κ h) (N : Nat) (u : TS) (a1 : Int32) (a2 : Int32) (P : TS → Prop) (H : w_X4_splitBefore N u a1 a2 P) : zM l κ (hsT h) (wT κ h) yX4_splitBefore cX4_splitBefore 3 none { frames := 5, cells := 0, slots := 0, locals := 108 } [.ref h.1, .int a1, .int a2] u (zv P) := by
  refine z_met (own := RX4) (by decide) rfl (Nat.le_of_ble_eq_true rfl) hh (fun g X => ?_)
  show zJ g κ (hsT h) (wT κ h) (zv P) 3 u [(0, .ref h.1), (1, .int a1), (2, .int a2)] 0 []
  unfold w_X4_splitBefore at H
  refine z_aload_n X dX4_splitBefore_0 0 rfl rfl ?_
  refine gf_X4_12 X dX4_splitBefore_1 ?_
  refine z_iload_n X dX4_splitBefore_4 2 rfl rfl ?_
  refine z_aload_n X dX4_splitBefore_5 0 rfl rfl ?_
  refine gf_X4_12 X dX4_splitBefore_6 ?_
  refine z_iload_n X dX4_splitBefore_9 1 rfl rfl ?_
  refine k_X3_bodyOf hh X ml_X4_89 H ⟨Nat.le_of_ble_eq_true rfl, Nat.le_of_ble_eq_true rfl⟩ (Nat.le_of_ble_eq_true rfl) dX4_splitBefore_10 (fun u2 r1 H => ?_)
  refine z_iload_n X dX4_splitBefore_13 2 rfl rfl ?_
  refine z_iload_n X dX4_splitBefore_14 1 rfl rfl ?_
  refine z_isub X dX4_splitBefore_15 ?_
  refine z_isub X dX4_splitBefore_16 ?_
  refine z_iconst (v := 0) X dX4_splitBefore_17 (by decide) ?_
  refine k_X3_layHeader hh X ml_X4_108 H ⟨Nat.le_of_ble_eq_true rfl, Nat.le_of_ble_eq_true rfl⟩ (Nat.le_of_ble_eq_true rfl) dX4_splitBefore_18 (fun u4 H => ?_)
  refine z_aload_n X dX4_splitBefore_21 0 rfl rfl ?_
  refine z_iload_n X dX4_splitBefore_22 1 rfl rfl ?_
  refine z_iload_n X dX4_splitBefore_23 2 rfl rfl ?_
  refine z_iload_n X dX4_splitBefore_24 1 rfl rfl ?_
  refine z_isub X dX4_splitBefore_25 ?_
  refine z_iconst (v := 1) X dX4_splitBefore_26 (by decide) ?_
  refine z_isub X dX4_splitBefore_27 ?_
  refine k_X4_makeFree hh X ml_X4_170 H ⟨Nat.le_of_ble_eq_true rfl, Nat.le_of_ble_eq_true rfl⟩ (Nat.le_of_ble_eq_true rfl) dX4_splitBefore_28 (fun u6 H => ?_)
  exact z_vret X dX4_splitBefore_31 H
theorem k_X4_splitBefore {g : zE} {κ : zK} {h : zH} (hh : zDT κ h) {u : TS} {Φ : TS → Option Value → Prop} {cc : ByteArray} {nL : Nat} {own : String} {ret : Option FieldType} {rm : Room} {lv : List (Nat × Value)} {pc : Nat} {st : List Value} {idx N : Nat} {a1 : Int32} {a2 : Int32} {P : TS → Prop} (X : zC g κ (hsT h) (wT κ h) cc nL own ret rm) (hml : Cond.methodLink own idx yX4_splitBefore ∈ zT) (H : w_X4_splitBefore N u a1 a2 P) (hR : 5 + 1 ≤ rm.frames ∧ 8 + (3 + 11) + 108 ≤ rm.locals) (hroom : (st.map fun v => v.category).sum ≤ 8) (d : decode cc pc = .ok (.invokevirtual idx, 3)) (kk : ∀ u1, P u1 → zJ g κ (hsT h) (wT κ h) Φ nL u1 lv (pc + 3) st) : zJ g κ (hsT h) (wT κ h) Φ nL u lv pc (.int a2 :: .int a1 :: .ref h.1 :: st) := z_callV (As := [.int a1, .int a2]) X yy_X4_splitBefore hml im_X4_splitBefore se_X4_splitBefore (c_X4_splitBefore hh N u a1 a2 P H) 3 0 rfl rfl rfl ⟨rfl, rfl⟩ hR rfl hroom d (fun u1 r hz => by obtain ⟨hr, hP⟩ := hz; subst hr; exact kk u1 hP)
def w_X4_aligned_100 (N : Nat) (P : TS → Int32 → Prop) (u : TS) (x3 : Int32) (x5 : Int32) : Prop := (w_X4_cutTo N u (x5 - (1 : Int32)) x3 fun u23 => (P u23 x5))
def w_X4_aligned (N : Nat) (u : TS) (a1 : Int32) (a2 : Int32) (P : TS → Int32 → Prop) : Prop := (w_X4_isWish N a1 fun r1 => ((r1 = 0 → (P u (-2 : Int32))) ∧ (¬ r1 = 0 → (w_X4_isAlignment N a2 fun r4 => ((r4 = 0 → (P u (-2 : Int32))) ∧ (¬ r4 = 0 → (((u.1.2.2.2.2.2.1) = 0 → (w_X4_bodyFor N a1 fun r8 => (w_X4_mostAhead N a2 fun r10 => (w_X2_headerFor N u (r8 + r10) fun u13 r12 => ((r12 = (-1 : Int32) → (w_X4_refuse N u13 fun u27 r26 => (P u27 r26))) ∧ (¬ r12 = (-1 : Int32) → (w_X2_forgetMoves N u13 fun u16 => (w_X4_take N u16 r12 fun u18 => (w_X4_alignedPlace N (r12 + (1 : Int32)) a2 fun r19 => ((r19 = (r12 + (1 : Int32)) → (w_X4_aligned_100 N P u18 r8 r19)) ∧ (¬ r19 = (r12 + (1 : Int32)) → (w_X4_splitBefore N u18 r12 (r19 - (1 : Int32)) fun u25 => (w_X4_aligned_100 N P u25 r8 r19))))))))))))) ∧ (¬ (u.1.2.2.2.2.2.1) = 0 → (P u (-3 : Int32))))))))))
set_option maxHeartbeats 4000000 in
set_option maxRecDepth 100000 in
theorem j_X4_aligned_100 {κ : zK} {h : zH} (hh : zDT κ h) (N : Nat) {g : zE} (X : zC g κ (hsT h) (wT κ h) cX4_aligned 6 RX4 (some .int) { frames := 7, cells := 0, slots := 0, locals := 156 }) (P : TS → Int32 → Prop) (u : TS) (x3 : Int32) (x5 : Int32) (H : w_X4_aligned_100 N P u x3 x5) : zJ g κ (hsT h) (wT κ h) (zi P) 6 u [(0, .ref h.1), (3, .int x3), (5, .int x5)] 100 [] := by
  unfold w_X4_aligned_100 at H
  refine z_aload_n X dX4_aligned_100 0 rfl rfl ?_
  refine z_iload X dX4_aligned_101 2 rfl ?_
  refine z_iconst (v := 1) X dX4_aligned_103 (by decide) ?_
  refine z_isub X dX4_aligned_104 ?_
  refine z_iload_n X dX4_aligned_105 1 rfl rfl ?_
  refine k_X4_cutTo hh X ml_X4_63 H ⟨Nat.le_of_ble_eq_true rfl, Nat.le_of_ble_eq_true rfl⟩ (Nat.le_of_ble_eq_true rfl) dX4_aligned_106 (fun u23 H => ?_)
  refine z_iload X dX4_aligned_109 2 rfl ?_
  exact z_iret X dX4_aligned_111 H
set_option maxHeartbeats 4000000 in
set_option maxRecDepth 100000 in
theorem c_X4_aligned {l : Launch} {κ : zK} {h : zH} (hh : zDT κ h) (N : Nat) (u : TS) (a1 : Int32) (a2 : Int32) (P : TS → Int32 → Prop) (H : w_X4_aligned N u a1 a2 P) : zM l κ (hsT h) (wT κ h) yX4_aligned cX4_aligned 6 (some .int) { frames := 7, cells := 0, slots := 0, locals := 156 } [.ref h.1, .int a1, .int a2] u (zi P) := by
  refine z_met (own := RX4) (by decide) rfl (Nat.le_of_ble_eq_true rfl) hh (fun g X => ?_)
  show zJ g κ (hsT h) (wT κ h) (zi P) 6 u [(0, .ref h.1), (1, .int a1), (2, .int a2)] 0 []
  unfold w_X4_aligned at H
  refine z_iload_n X dX4_aligned_0 1 rfl rfl ?_
  refine k_X4_isWish X ml_X4_38 H ⟨Nat.le_of_ble_eq_true rfl, Nat.le_of_ble_eq_true rfl⟩ (Nat.le_of_ble_eq_true rfl) dX4_aligned_1 (fun r1 H => ?_)
  refine z_if_eq (tgt := 14) X dX4_aligned_4 (by decide) (fun q3 => ?_) (fun q3 => ?_)
  · have H := H.1 q3
    refine z_bipush (v := -2) X dX4_aligned_14 (by decide) ?_
    exact z_iret X dX4_aligned_16 H
  · have H := H.2 q3
    refine z_iload_n X dX4_aligned_7 2 rfl rfl ?_
    refine k_X4_isAlignment X ml_X4_67 H ⟨Nat.le_of_ble_eq_true rfl, Nat.le_of_ble_eq_true rfl⟩ (Nat.le_of_ble_eq_true rfl) dX4_aligned_8 (fun r4 H => ?_)
    refine z_if_ne (tgt := 17) X dX4_aligned_11 (by decide) (fun q6 => ?_) (fun q6 => ?_)
    · have H := H.2 q6
      refine z_aload_n X dX4_aligned_17 0 rfl rfl ?_
      refine gf_X4_42 X dX4_aligned_18 ?_
      refine z_if_eq (tgt := 27) X dX4_aligned_21 (by decide) (fun q7 => ?_) (fun q7 => ?_)
      · have H := H.1 q7
        refine z_iload_n X dX4_aligned_27 1 rfl rfl ?_
        refine k_X4_bodyFor X ml_X4_46 H ⟨Nat.le_of_ble_eq_true rfl, Nat.le_of_ble_eq_true rfl⟩ (Nat.le_of_ble_eq_true rfl) dX4_aligned_28 (fun r8 H => ?_)
        refine z_istore_n (lv' := [(3, .int r8), (0, .ref h.1), (1, .int a1), (2, .int a2)]) X dX4_aligned_31 rfl (by decide) rfl ?_
        refine z_aload_n X dX4_aligned_32 1 rfl rfl ?_
        refine gf_X4_21 X dX4_aligned_33 ?_
        refine z_iload_n X dX4_aligned_36 0 rfl rfl ?_
        refine z_iload_n X dX4_aligned_37 3 rfl rfl ?_
        refine k_X4_mostAhead X ml_X4_70 H ⟨Nat.le_of_ble_eq_true rfl, Nat.le_of_ble_eq_true rfl⟩ (Nat.le_of_ble_eq_true rfl) dX4_aligned_38 (fun r10 H => ?_)
        refine z_iadd X dX4_aligned_41 ?_
        refine k_X2_headerFor hh X ml_X4_50 H ⟨Nat.le_of_ble_eq_true rfl, Nat.le_of_ble_eq_true rfl⟩ (Nat.le_of_ble_eq_true rfl) dX4_aligned_42 (fun u13 r12 H => ?_)
        refine z_istore (lv' := [(4, .int r12), (3, .int r8), (0, .ref h.1), (1, .int a1), (2, .int a2)]) X dX4_aligned_45 (by decide) rfl ?_
        refine z_iload X dX4_aligned_47 0 rfl ?_
        refine z_iconst (v := -1) X dX4_aligned_49 (by decide) ?_
        refine z_icmp_ne (tgt := 58) X dX4_aligned_50 (by decide) (fun q14 => ?_) (fun q14 => ?_)
        · have H := H.2 q14
          refine z_aload_n X dX4_aligned_58 2 rfl rfl ?_
          refine gf_X4_21 X dX4_aligned_59 ?_
          refine k_X2_forgetMoves hh X ml_X4_57 H ⟨Nat.le_of_ble_eq_true rfl, Nat.le_of_ble_eq_true rfl⟩ (Nat.le_of_ble_eq_true rfl) dX4_aligned_62 (fun u16 H => ?_)
          refine z_aload_n X dX4_aligned_65 2 rfl rfl ?_
          refine z_iload X dX4_aligned_66 0 rfl ?_
          refine k_X4_take hh X ml_X4_60 H ⟨Nat.le_of_ble_eq_true rfl, Nat.le_of_ble_eq_true rfl⟩ (Nat.le_of_ble_eq_true rfl) dX4_aligned_68 (fun u18 H => ?_)
          refine z_iload X dX4_aligned_71 0 rfl ?_
          refine z_iconst (v := 1) X dX4_aligned_73 (by decide) ?_
          refine z_iadd X dX4_aligned_74 ?_
          refine z_iload_n X dX4_aligned_75 4 rfl rfl ?_
          refine k_X4_alignedPlace X ml_X4_73 H ⟨Nat.le_of_ble_eq_true rfl, Nat.le_of_ble_eq_true rfl⟩ (Nat.le_of_ble_eq_true rfl) dX4_aligned_76 (fun r19 H => ?_)
          refine z_istore (lv' := [(5, .int r19), (4, .int r12), (3, .int r8), (0, .ref h.1), (1, .int a1), (2, .int a2)]) X dX4_aligned_79 (by decide) rfl ?_
          refine z_iload X dX4_aligned_81 0 rfl ?_
          refine z_iload X dX4_aligned_83 1 rfl ?_
          refine z_iconst (v := 1) X dX4_aligned_85 (by decide) ?_
          refine z_iadd X dX4_aligned_86 ?_
          refine z_icmp_eq (tgt := 100) X dX4_aligned_87 (by decide) (fun q21 => ?_) (fun q21 => ?_)
          · have H := H.1 q21
            exact z_sub (j_X4_aligned_100 hh N X P u18 r8 r19 H) [3, 2, 0] rfl
          · have H := H.2 q21
            refine z_aload_n X dX4_aligned_90 3 rfl rfl ?_
            refine z_iload X dX4_aligned_91 1 rfl ?_
            refine z_iload X dX4_aligned_93 0 rfl ?_
            refine z_iconst (v := 1) X dX4_aligned_95 (by decide) ?_
            refine z_isub X dX4_aligned_96 ?_
            refine k_X4_splitBefore hh X ml_X4_77 H ⟨Nat.le_of_ble_eq_true rfl, Nat.le_of_ble_eq_true rfl⟩ (Nat.le_of_ble_eq_true rfl) dX4_aligned_97 (fun u25 H => ?_)
            exact z_sub (j_X4_aligned_100 hh N X P u25 r8 r19 H) [3, 2, 0] rfl
        · have H := H.1 q14
          refine z_aload_n X dX4_aligned_53 2 rfl rfl ?_
          refine k_X4_refuse hh X ml_X4_53 H ⟨Nat.le_of_ble_eq_true rfl, Nat.le_of_ble_eq_true rfl⟩ (Nat.le_of_ble_eq_true rfl) dX4_aligned_54 (fun u27 r26 H => ?_)
          exact z_iret X dX4_aligned_57 H
      · have H := H.2 q7
        refine z_bipush (v := -3) X dX4_aligned_24 (by decide) ?_
        exact z_iret X dX4_aligned_26 H
    · have H := H.1 q6
      refine z_bipush (v := -2) X dX4_aligned_14 (by decide) ?_
      exact z_iret X dX4_aligned_16 H
theorem k_X4_aligned {g : zE} {κ : zK} {h : zH} (hh : zDT κ h) {u : TS} {Φ : TS → Option Value → Prop} {cc : ByteArray} {nL : Nat} {own : String} {ret : Option FieldType} {rm : Room} {lv : List (Nat × Value)} {pc : Nat} {st : List Value} {idx N : Nat} {a1 : Int32} {a2 : Int32} {P : TS → Int32 → Prop} (X : zC g κ (hsT h) (wT κ h) cc nL own ret rm) (hml : Cond.methodLink own idx yX4_aligned ∈ zT) (H : w_X4_aligned N u a1 a2 P) (hR : 7 + 1 ≤ rm.frames ∧ 8 + (6 + 11) + 156 ≤ rm.locals) (hroom : (st.map fun v => v.category).sum ≤ 8) (d : decode cc pc = .ok (.invokevirtual idx, 3)) (kk : ∀ u1 v, P u1 v → zJ g κ (hsT h) (wT κ h) Φ nL u1 lv (pc + 3) (.int v :: st)) : zJ g κ (hsT h) (wT κ h) Φ nL u lv pc (.int a2 :: .int a1 :: .ref h.1 :: st) := z_callV (As := [.int a1, .int a2]) X yy_X4_aligned hml im_X4_aligned se_X4_aligned (c_X4_aligned hh N u a1 a2 P H) 3 0 rfl rfl rfl ⟨rfl, rfl⟩ hR rfl hroom d (fun u1 r hz => by obtain ⟨v, hr, hP⟩ := hz; subst hr; exact kk u1 v hP)
def w_X4_isUsedPlace_33 (N : Nat) (P : TS → Int32 → Prop) (u : TS) (x1 : Int32) (x2 : Int32) : Prop := ((x2 = (x1 - (1 : Int32)) → (w_X3_has N u x2 fun u4 r3 => ((r3 = 0 → (P u4 (0 : Int32))) ∧ (¬ r3 = 0 → (w_X3_isFree N u4 x2 fun u7 r6 => ((r6 = 0 → (P u7 (1 : Int32))) ∧ (¬ r6 = 0 → (P u7 (0 : Int32))))))))) ∧ (¬ x2 = (x1 - (1 : Int32)) → (P u (0 : Int32))))
def w_X4_isUsedPlace_4 (N : Nat) (P : TS → Int32 → Prop) : Nat → TS → Int32 → Int32 → Int32 → Prop
  | 0, _, _, _, _ => False
  | n + 1, u, x1, x2, x3 => ((x3 < (512 : Int32) → ((x2 < (x1 - (1 : Int32)) → (w_X3_behind N u x2 fun u11 r10 => (w_X4_isUsedPlace_4 N P n u11 x1 r10 (x3 + (1 : Int32))))) ∧ (¬ x2 < (x1 - (1 : Int32)) → (w_X4_isUsedPlace_33 N P u x1 x2)))) ∧ (¬ x3 < (512 : Int32) → (w_X4_isUsedPlace_33 N P u x1 x2)))
def w_X4_isUsedPlace (N : Nat) (u : TS) (a1 : Int32) (P : TS → Int32 → Prop) : Prop := (w_X4_isUsedPlace_4 N P N u a1 (0 : Int32) (0 : Int32))
set_option maxHeartbeats 4000000 in
set_option maxRecDepth 100000 in
theorem j_X4_isUsedPlace_33 {κ : zK} {h : zH} (hh : zDT κ h) (N : Nat) {g : zE} (X : zC g κ (hsT h) (wT κ h) cX4_isUsedPlace 4 RX4 (some .boolean) { frames := 2, cells := 0, slots := 0, locals := 42 }) (P : TS → Int32 → Prop) (u : TS) (x1 : Int32) (x2 : Int32) (H : w_X4_isUsedPlace_33 N P u x1 x2) : zJ g κ (hsT h) (wT κ h) (zi P) 4 u [(0, .ref h.1), (1, .int x1), (2, .int x2)] 33 [] := by
  unfold w_X4_isUsedPlace_33 at H
  refine z_iload_n X dX4_isUsedPlace_33 2 rfl rfl ?_
  refine z_iload_n X dX4_isUsedPlace_34 1 rfl rfl ?_
  refine z_iconst (v := 1) X dX4_isUsedPlace_35 (by decide) ?_
  refine z_isub X dX4_isUsedPlace_36 ?_
  refine z_icmp_ne (tgt := 66) X dX4_isUsedPlace_37 (by decide) (fun q2 => ?_) (fun q2 => ?_)
  · have H := H.2 q2
    refine z_iconst (v := 0) X dX4_isUsedPlace_66 (by decide) ?_
    exact z_zret X rfl dX4_isUsedPlace_67 H
  · have H := H.1 q2
    refine z_aload_n X dX4_isUsedPlace_40 0 rfl rfl ?_
    refine gf_X4_12 X dX4_isUsedPlace_41 ?_
    refine z_iload_n X dX4_isUsedPlace_44 2 rfl rfl ?_
    refine k_X3_has hh X ml_X4_120 H ⟨Nat.le_of_ble_eq_true rfl, Nat.le_of_ble_eq_true rfl⟩ (Nat.le_of_ble_eq_true rfl) dX4_isUsedPlace_45 (fun u4 r3 H => ?_)
    refine z_if_eq (tgt := 66) X dX4_isUsedPlace_48 (by decide) (fun q5 => ?_) (fun q5 => ?_)
    · have H := H.1 q5
      refine z_iconst (v := 0) X dX4_isUsedPlace_66 (by decide) ?_
      exact z_zret X rfl dX4_isUsedPlace_67 H
    · have H := H.2 q5
      refine z_aload_n X dX4_isUsedPlace_51 0 rfl rfl ?_
      refine gf_X4_12 X dX4_isUsedPlace_52 ?_
      refine z_iload_n X dX4_isUsedPlace_55 2 rfl rfl ?_
      refine k_X3_isFree hh X ml_X4_105 H ⟨Nat.le_of_ble_eq_true rfl, Nat.le_of_ble_eq_true rfl⟩ (Nat.le_of_ble_eq_true rfl) dX4_isUsedPlace_56 (fun u7 r6 H => ?_)
      refine z_if_ne (tgt := 66) X dX4_isUsedPlace_59 (by decide) (fun q8 => ?_) (fun q8 => ?_)
      · have H := H.2 q8
        refine z_iconst (v := 0) X dX4_isUsedPlace_66 (by decide) ?_
        exact z_zret X rfl dX4_isUsedPlace_67 H
      · have H := H.1 q8
        refine z_iconst (v := 1) X dX4_isUsedPlace_62 (by decide) ?_
        refine z_goto (tgt := 67) X dX4_isUsedPlace_63 (by decide) ?_
        exact z_zret X rfl dX4_isUsedPlace_67 H
set_option maxHeartbeats 4000000 in
set_option maxRecDepth 100000 in
theorem j_X4_isUsedPlace_4 {κ : zK} {h : zH} (hh : zDT κ h) (N : Nat) {g : zE} (X : zC g κ (hsT h) (wT κ h) cX4_isUsedPlace 4 RX4 (some .boolean) { frames := 2, cells := 0, slots := 0, locals := 42 }) (P : TS → Int32 → Prop) : ∀ (n : Nat) (u : TS) (x1 : Int32) (x2 : Int32) (x3 : Int32), w_X4_isUsedPlace_4 N P n u x1 x2 x3 → zJ g κ (hsT h) (wT κ h) (zi P) 4 u [(0, .ref h.1), (1, .int x1), (2, .int x2), (3, .int x3)] 4 [] := by
  intro n
  induction n with
  | zero => intro u x1 x2 x3 H; exact absurd H (by rw [w_X4_isUsedPlace_4]; exact id)
  | succ n ih =>
    intro u x1 x2 x3 H
    rw [w_X4_isUsedPlace_4] at H
    refine z_iload_n X dX4_isUsedPlace_4 3 rfl rfl ?_
    refine z_sipush (v := 512) X dX4_isUsedPlace_5 (by decide) ?_
    refine z_icmp_ge (tgt := 33) X dX4_isUsedPlace_8 (by decide) (fun q1 => ?_) (fun q1 => ?_)
    · have H := H.2 q1
      exact z_sub (j_X4_isUsedPlace_33 hh N X P u x1 x2 H) [0, 1, 2] rfl
    · have H := H.1 q1
      refine z_iload_n X dX4_isUsedPlace_11 2 rfl rfl ?_
      refine z_iload_n X dX4_isUsedPlace_12 1 rfl rfl ?_
      refine z_iconst (v := 1) X dX4_isUsedPlace_13 (by decide) ?_
      refine z_isub X dX4_isUsedPlace_14 ?_
      refine z_icmp_ge (tgt := 33) X dX4_isUsedPlace_15 (by decide) (fun q9 => ?_) (fun q9 => ?_)
      · have H := H.2 q9
        exact z_sub (j_X4_isUsedPlace_33 hh N X P u x1 x2 H) [0, 1, 2] rfl
      · have H := H.1 q9
        refine z_aload_n X dX4_isUsedPlace_18 0 rfl rfl ?_
        refine gf_X4_12 X dX4_isUsedPlace_19 ?_
        refine z_iload_n X dX4_isUsedPlace_22 2 rfl rfl ?_
        refine k_X3_behind hh X ml_X4_181 H ⟨Nat.le_of_ble_eq_true rfl, Nat.le_of_ble_eq_true rfl⟩ (Nat.le_of_ble_eq_true rfl) dX4_isUsedPlace_23 (fun u11 r10 H => ?_)
        refine z_istore_n (lv' := [(2, .int r10), (0, .ref h.1), (1, .int x1), (3, .int x3)]) X dX4_isUsedPlace_26 rfl (by decide) rfl ?_
        refine z_iinc (k := 3) (v := (x3 + (1 : Int32))) (lv' := [(3, .int (x3 + (1 : Int32))), (2, .int r10), (0, .ref h.1), (1, .int x1)]) X dX4_isUsedPlace_27 rfl rfl (by decide) rfl ?_
        refine z_goto (tgt := 4) X dX4_isUsedPlace_30 (by decide) ?_
        exact z_sub (ih u11 x1 r10 (x3 + (1 : Int32)) H) [2, 3, 1, 0] rfl
set_option maxHeartbeats 4000000 in
set_option maxRecDepth 100000 in
theorem c_X4_isUsedPlace {l : Launch} {κ : zK} {h : zH} (hh : zDT κ h) (N : Nat) (u : TS) (a1 : Int32) (P : TS → Int32 → Prop) (H : w_X4_isUsedPlace N u a1 P) : zM l κ (hsT h) (wT κ h) yX4_isUsedPlace cX4_isUsedPlace 4 (some .boolean) { frames := 2, cells := 0, slots := 0, locals := 42 } [.ref h.1, .int a1] u (zi P) := by
  refine z_met (own := RX4) (by decide) rfl (Nat.le_of_ble_eq_true rfl) hh (fun g X => ?_)
  show zJ g κ (hsT h) (wT κ h) (zi P) 4 u [(0, .ref h.1), (1, .int a1)] 0 []
  unfold w_X4_isUsedPlace at H
  refine z_iconst (v := 0) X dX4_isUsedPlace_0 (by decide) ?_
  refine z_istore_n (lv' := [(2, .int (0 : Int32)), (0, .ref h.1), (1, .int a1)]) X dX4_isUsedPlace_1 rfl (by decide) rfl ?_
  refine z_iconst (v := 0) X dX4_isUsedPlace_2 (by decide) ?_
  refine z_istore_n (lv' := [(3, .int (0 : Int32)), (2, .int (0 : Int32)), (0, .ref h.1), (1, .int a1)]) X dX4_isUsedPlace_3 rfl (by decide) rfl ?_
  exact z_sub (j_X4_isUsedPlace_4 hh N X P N u a1 (0 : Int32) (0 : Int32) H) [2, 3, 1, 0] rfl
theorem k_X4_isUsedPlace {g : zE} {κ : zK} {h : zH} (hh : zDT κ h) {u : TS} {Φ : TS → Option Value → Prop} {cc : ByteArray} {nL : Nat} {own : String} {ret : Option FieldType} {rm : Room} {lv : List (Nat × Value)} {pc : Nat} {st : List Value} {idx N : Nat} {a1 : Int32} {P : TS → Int32 → Prop} (X : zC g κ (hsT h) (wT κ h) cc nL own ret rm) (hml : Cond.methodLink own idx yX4_isUsedPlace ∈ zT) (H : w_X4_isUsedPlace N u a1 P) (hR : 2 + 1 ≤ rm.frames ∧ 8 + (4 + 11) + 42 ≤ rm.locals) (hroom : (st.map fun v => v.category).sum ≤ 8) (d : decode cc pc = .ok (.invokevirtual idx, 3)) (kk : ∀ u1 v, P u1 v → zJ g κ (hsT h) (wT κ h) Φ nL u1 lv (pc + 3) (.int v :: st)) : zJ g κ (hsT h) (wT κ h) Φ nL u lv pc (.int a1 :: .ref h.1 :: st) := z_callV (As := [.int a1]) X yy_X4_isUsedPlace hml im_X4_isUsedPlace se_X4_isUsedPlace (c_X4_isUsedPlace hh N u a1 P H) 3 0 rfl rfl rfl ⟨rfl, rfl⟩ hR rfl hroom d (fun u1 r hz => by obtain ⟨v, hr, hP⟩ := hz; subst hr; exact kk u1 v hP)
def w_X4_refusalOf (N : Nat) (u : TS) (a1 : Int32) (P : TS → Int32 → Prop) : Prop := ((a1 < (1 : Int32) → (P u (-2 : Int32))) ∧ (¬ a1 < (1 : Int32) → ((a1 < (u.1.2.1) → (((u.1.2.2.2.2.2.1) = 0 → (w_X4_isUsedPlace N u a1 fun u5 r4 => ((r4 = 0 → (P u5 (-2 : Int32))) ∧ (¬ r4 = 0 → (P u5 (0 : Int32)))))) ∧ (¬ (u.1.2.2.2.2.2.1) = 0 → (P u (-3 : Int32))))) ∧ (¬ a1 < (u.1.2.1) → (P u (-2 : Int32))))))
set_option maxHeartbeats 4000000 in
set_option maxRecDepth 100000 in
theorem c_X4_refusalOf {l : Launch} {κ : zK} {h : zH} (hh : zDT κ h) (N : Nat) (u : TS) (a1 : Int32) (P : TS → Int32 → Prop) (H : w_X4_refusalOf N u a1 P) : zM l κ (hsT h) (wT κ h) yX4_refusalOf cX4_refusalOf 2 (some .int) { frames := 3, cells := 0, slots := 0, locals := 65 } [.ref h.1, .int a1] u (zi P) := by
  refine z_met (own := RX4) (by decide) rfl (Nat.le_of_ble_eq_true rfl) hh (fun g X => ?_)
  show zJ g κ (hsT h) (wT κ h) (zi P) 2 u [(0, .ref h.1), (1, .int a1)] 0 []
  unfold w_X4_refusalOf at H
  refine z_iload_n X dX4_refusalOf_0 1 rfl rfl ?_
  refine z_iconst (v := 1) X dX4_refusalOf_1 (by decide) ?_
  refine z_icmp_lt (tgt := 16) X dX4_refusalOf_2 (by decide) (fun q1 => ?_) (fun q1 => ?_)
  · have H := H.1 q1
    refine z_bipush (v := -2) X dX4_refusalOf_16 (by decide) ?_
    exact z_iret X dX4_refusalOf_18 H
  · have H := H.2 q1
    refine z_iload_n X dX4_refusalOf_5 1 rfl rfl ?_
    refine z_aload_n X dX4_refusalOf_6 0 rfl rfl ?_
    refine gf_X4_12 X dX4_refusalOf_7 ?_
    refine gf_X4_98 X dX4_refusalOf_10 ?_
    refine z_icmp_lt (tgt := 19) X dX4_refusalOf_13 (by decide) (fun q2 => ?_) (fun q2 => ?_)
    · have H := H.1 q2
      refine z_aload_n X dX4_refusalOf_19 0 rfl rfl ?_
      refine gf_X4_42 X dX4_refusalOf_20 ?_
      refine z_if_eq (tgt := 29) X dX4_refusalOf_23 (by decide) (fun q3 => ?_) (fun q3 => ?_)
      · have H := H.1 q3
        refine z_aload_n X dX4_refusalOf_29 0 rfl rfl ?_
        refine z_iload_n X dX4_refusalOf_30 1 rfl rfl ?_
        refine k_X4_isUsedPlace hh X ml_X4_178 H ⟨Nat.le_of_ble_eq_true rfl, Nat.le_of_ble_eq_true rfl⟩ (Nat.le_of_ble_eq_true rfl) dX4_refusalOf_31 (fun u5 r4 H => ?_)
        refine z_if_eq (tgt := 41) X dX4_refusalOf_34 (by decide) (fun q6 => ?_) (fun q6 => ?_)
        · have H := H.1 q6
          refine z_bipush (v := -2) X dX4_refusalOf_41 (by decide) ?_
          exact z_iret X dX4_refusalOf_43 H
        · have H := H.2 q6
          refine z_iconst (v := 0) X dX4_refusalOf_37 (by decide) ?_
          refine z_goto (tgt := 43) X dX4_refusalOf_38 (by decide) ?_
          exact z_iret X dX4_refusalOf_43 H
      · have H := H.2 q3
        refine z_bipush (v := -3) X dX4_refusalOf_26 (by decide) ?_
        exact z_iret X dX4_refusalOf_28 H
    · have H := H.2 q2
      refine z_bipush (v := -2) X dX4_refusalOf_16 (by decide) ?_
      exact z_iret X dX4_refusalOf_18 H
theorem k_X4_refusalOf {g : zE} {κ : zK} {h : zH} (hh : zDT κ h) {u : TS} {Φ : TS → Option Value → Prop} {cc : ByteArray} {nL : Nat} {own : String} {ret : Option FieldType} {rm : Room} {lv : List (Nat × Value)} {pc : Nat} {st : List Value} {idx N : Nat} {a1 : Int32} {P : TS → Int32 → Prop} (X : zC g κ (hsT h) (wT κ h) cc nL own ret rm) (hml : Cond.methodLink own idx yX4_refusalOf ∈ zT) (H : w_X4_refusalOf N u a1 P) (hR : 3 + 1 ≤ rm.frames ∧ 8 + (2 + 11) + 65 ≤ rm.locals) (hroom : (st.map fun v => v.category).sum ≤ 8) (d : decode cc pc = .ok (.invokevirtual idx, 3)) (kk : ∀ u1 v, P u1 v → zJ g κ (hsT h) (wT κ h) Φ nL u1 lv (pc + 3) (.int v :: st)) : zJ g κ (hsT h) (wT κ h) Φ nL u lv pc (.int a1 :: .ref h.1 :: st) := z_callV (As := [.int a1]) X yy_X4_refusalOf hml im_X4_refusalOf se_X4_refusalOf (c_X4_refusalOf hh N u a1 P H) 3 0 rfl rfl rfl ⟨rfl, rfl⟩ hR rfl hroom d (fun u1 r hz => by obtain ⟨v, hr, hP⟩ := hz; subst hr; exact kk u1 v hP)
def w_X4_free (N : Nat) (u : TS) (a1 : Int32) (P : TS → Int32 → Prop) : Prop := (w_X4_refusalOf N u a1 fun u2 r1 => ((r1 = 0 → (w_X2_forgetMoves N u2 fun u5 => (w_X4_release N u5 (a1 - (1 : Int32)) fun u7 r6 => (P u7 r6)))) ∧ (¬ r1 = 0 → (P u2 r1))))
set_option maxHeartbeats 4000000 in
set_option maxRecDepth 100000 in
theorem c_X4_free {l : Launch} {κ : zK} {h : zH} (hh : zDT κ h) (N : Nat) (u : TS) (a1 : Int32) (P : TS → Int32 → Prop) (H : w_X4_free N u a1 P) : zM l κ (hsT h) (wT κ h) yX4_free cX4_free 3 (some .int) { frames := 6, cells := 0, slots := 0, locals := 132 } [.ref h.1, .int a1] u (zi P) := by
  refine z_met (own := RX4) (by decide) rfl (Nat.le_of_ble_eq_true rfl) hh (fun g X => ?_)
  show zJ g κ (hsT h) (wT κ h) (zi P) 3 u [(0, .ref h.1), (1, .int a1)] 0 []
  unfold w_X4_free at H
  refine z_aload_n X dX4_free_0 0 rfl rfl ?_
  refine z_iload_n X dX4_free_1 1 rfl rfl ?_
  refine k_X4_refusalOf hh X ml_X4_80 H ⟨Nat.le_of_ble_eq_true rfl, Nat.le_of_ble_eq_true rfl⟩ (Nat.le_of_ble_eq_true rfl) dX4_free_2 (fun u2 r1 H => ?_)
  refine z_istore_n (lv' := [(2, .int r1), (0, .ref h.1), (1, .int a1)]) X dX4_free_5 rfl (by decide) rfl ?_
  refine z_iload_n X dX4_free_6 0 rfl rfl ?_
  refine z_if_eq (tgt := 12) X dX4_free_7 (by decide) (fun q3 => ?_) (fun q3 => ?_)
  · have H := H.1 q3
    refine z_aload_n X dX4_free_12 1 rfl rfl ?_
    refine gf_X4_21 X dX4_free_13 ?_
    refine k_X2_forgetMoves hh X ml_X4_57 H ⟨Nat.le_of_ble_eq_true rfl, Nat.le_of_ble_eq_true rfl⟩ (Nat.le_of_ble_eq_true rfl) dX4_free_16 (fun u5 H => ?_)
    refine z_aload_n X dX4_free_19 1 rfl rfl ?_
    refine z_iload_n X dX4_free_20 2 rfl rfl ?_
    refine z_iconst (v := 1) X dX4_free_21 (by decide) ?_
    refine z_isub X dX4_free_22 ?_
    refine k_X4_release hh X ml_X4_83 H ⟨Nat.le_of_ble_eq_true rfl, Nat.le_of_ble_eq_true rfl⟩ (Nat.le_of_ble_eq_true rfl) dX4_free_23 (fun u7 r6 H => ?_)
    exact z_iret X dX4_free_26 H
  · have H := H.2 q3
    refine z_iload_n X dX4_free_10 0 rfl rfl ?_
    exact z_iret X dX4_free_11 H
theorem k_X4_free {g : zE} {κ : zK} {h : zH} (hh : zDT κ h) {u : TS} {Φ : TS → Option Value → Prop} {cc : ByteArray} {nL : Nat} {own : String} {ret : Option FieldType} {rm : Room} {lv : List (Nat × Value)} {pc : Nat} {st : List Value} {idx N : Nat} {a1 : Int32} {P : TS → Int32 → Prop} (X : zC g κ (hsT h) (wT κ h) cc nL own ret rm) (hml : Cond.methodLink own idx yX4_free ∈ zT) (H : w_X4_free N u a1 P) (hR : 6 + 1 ≤ rm.frames ∧ 8 + (3 + 11) + 132 ≤ rm.locals) (hroom : (st.map fun v => v.category).sum ≤ 8) (d : decode cc pc = .ok (.invokevirtual idx, 3)) (kk : ∀ u1 v, P u1 v → zJ g κ (hsT h) (wT κ h) Φ nL u1 lv (pc + 3) (.int v :: st)) : zJ g κ (hsT h) (wT κ h) Φ nL u lv pc (.int a1 :: .ref h.1 :: st) := z_callV (As := [.int a1]) X yy_X4_free hml im_X4_free se_X4_free (c_X4_free hh N u a1 P H) 3 0 rfl rfl rfl ⟨rfl, rfl⟩ hR rfl hroom d (fun u1 r hz => by obtain ⟨v, hr, hP⟩ := hz; subst hr; exact kk u1 v hP)
def w_X4_bodyWithBehind (N : Nat) (u : TS) (a1 : Int32) (P : TS → Int32 → Prop) : Prop := (w_X3_bodyOf N u a1 fun u2 r1 => (w_X3_behind N u2 a1 fun u4 r3 => (w_X3_isFree N u4 r3 fun u6 r5 => ((r5 = 0 → (P u6 r1)) ∧ (¬ r5 = 0 → (w_X3_bodyOf N u6 r3 fun u9 r8 => (P u9 ((r1 + (1 : Int32)) + r8))))))))
set_option maxHeartbeats 4000000 in
set_option maxRecDepth 100000 in
theorem c_X4_bodyWithBehind {l : Launch} {κ : zK} {h : zH} (hh : zDT κ h) (N : Nat) (u : TS) (a1 : Int32) (P : TS → Int32 → Prop) (H : w_X4_bodyWithBehind N u a1 P) : zM l κ (hsT h) (wT κ h) yX4_bodyWithBehind cX4_bodyWithBehind 4 (some .int) { frames := 2, cells := 0, slots := 0, locals := 42 } [.ref h.1, .int a1] u (zi P) := by
  refine z_met (own := RX4) (by decide) rfl (Nat.le_of_ble_eq_true rfl) hh (fun g X => ?_)
  show zJ g κ (hsT h) (wT κ h) (zi P) 4 u [(0, .ref h.1), (1, .int a1)] 0 []
  unfold w_X4_bodyWithBehind at H
  refine z_aload_n X dX4_bodyWithBehind_0 0 rfl rfl ?_
  refine gf_X4_12 X dX4_bodyWithBehind_1 ?_
  refine z_iload_n X dX4_bodyWithBehind_4 1 rfl rfl ?_
  refine k_X3_bodyOf hh X ml_X4_89 H ⟨Nat.le_of_ble_eq_true rfl, Nat.le_of_ble_eq_true rfl⟩ (Nat.le_of_ble_eq_true rfl) dX4_bodyWithBehind_5 (fun u2 r1 H => ?_)
  refine z_istore_n (lv' := [(2, .int r1), (0, .ref h.1), (1, .int a1)]) X dX4_bodyWithBehind_8 rfl (by decide) rfl ?_
  refine z_aload_n X dX4_bodyWithBehind_9 1 rfl rfl ?_
  refine gf_X4_12 X dX4_bodyWithBehind_10 ?_
  refine z_iload_n X dX4_bodyWithBehind_13 2 rfl rfl ?_
  refine k_X3_behind hh X ml_X4_181 H ⟨Nat.le_of_ble_eq_true rfl, Nat.le_of_ble_eq_true rfl⟩ (Nat.le_of_ble_eq_true rfl) dX4_bodyWithBehind_14 (fun u4 r3 H => ?_)
  refine z_istore_n (lv' := [(3, .int r3), (2, .int r1), (0, .ref h.1), (1, .int a1)]) X dX4_bodyWithBehind_17 rfl (by decide) rfl ?_
  refine z_aload_n X dX4_bodyWithBehind_18 2 rfl rfl ?_
  refine gf_X4_12 X dX4_bodyWithBehind_19 ?_
  refine z_iload_n X dX4_bodyWithBehind_22 0 rfl rfl ?_
  refine k_X3_isFree hh X ml_X4_105 H ⟨Nat.le_of_ble_eq_true rfl, Nat.le_of_ble_eq_true rfl⟩ (Nat.le_of_ble_eq_true rfl) dX4_bodyWithBehind_23 (fun u6 r5 H => ?_)
  refine z_if_eq (tgt := 44) X dX4_bodyWithBehind_26 (by decide) (fun q7 => ?_) (fun q7 => ?_)
  · have H := H.1 q7
    refine z_iload_n X dX4_bodyWithBehind_44 1 rfl rfl ?_
    exact z_iret X dX4_bodyWithBehind_45 H
  · have H := H.2 q7
    refine z_iload_n X dX4_bodyWithBehind_29 1 rfl rfl ?_
    refine z_iconst (v := 1) X dX4_bodyWithBehind_30 (by decide) ?_
    refine z_iadd X dX4_bodyWithBehind_31 ?_
    refine z_aload_n X dX4_bodyWithBehind_32 2 rfl rfl ?_
    refine gf_X4_12 X dX4_bodyWithBehind_33 ?_
    refine z_iload_n X dX4_bodyWithBehind_36 0 rfl rfl ?_
    refine k_X3_bodyOf hh X ml_X4_89 H ⟨Nat.le_of_ble_eq_true rfl, Nat.le_of_ble_eq_true rfl⟩ (Nat.le_of_ble_eq_true rfl) dX4_bodyWithBehind_37 (fun u9 r8 H => ?_)
    refine z_iadd X dX4_bodyWithBehind_40 ?_
    refine z_goto (tgt := 45) X dX4_bodyWithBehind_41 (by decide) ?_
    exact z_iret X dX4_bodyWithBehind_45 H
theorem k_X4_bodyWithBehind {g : zE} {κ : zK} {h : zH} (hh : zDT κ h) {u : TS} {Φ : TS → Option Value → Prop} {cc : ByteArray} {nL : Nat} {own : String} {ret : Option FieldType} {rm : Room} {lv : List (Nat × Value)} {pc : Nat} {st : List Value} {idx N : Nat} {a1 : Int32} {P : TS → Int32 → Prop} (X : zC g κ (hsT h) (wT κ h) cc nL own ret rm) (hml : Cond.methodLink own idx yX4_bodyWithBehind ∈ zT) (H : w_X4_bodyWithBehind N u a1 P) (hR : 2 + 1 ≤ rm.frames ∧ 8 + (4 + 11) + 42 ≤ rm.locals) (hroom : (st.map fun v => v.category).sum ≤ 8) (d : decode cc pc = .ok (.invokevirtual idx, 3)) (kk : ∀ u1 v, P u1 v → zJ g κ (hsT h) (wT κ h) Φ nL u1 lv (pc + 3) (.int v :: st)) : zJ g κ (hsT h) (wT κ h) Φ nL u lv pc (.int a1 :: .ref h.1 :: st) := z_callV (As := [.int a1]) X yy_X4_bodyWithBehind hml im_X4_bodyWithBehind se_X4_bodyWithBehind (c_X4_bodyWithBehind hh N u a1 P H) 3 0 rfl rfl rfl ⟨rfl, rfl⟩ hR rfl hroom d (fun u1 r hz => by obtain ⟨v, hr, hP⟩ := hz; subst hr; exact kk u1 v hP)
def w_X4_joinBehind (N : Nat) (u : TS) (a1 : Int32) (P : TS → Prop) : Prop := (w_X3_behind N u a1 fun u2 r1 => (w_X2_leave N u2 r1 fun u4 => (w_X3_bodyOf N u4 a1 fun u6 r5 => (w_X3_bodyOf N u6 r1 fun u8 r7 => (w_X3_layBody N u8 a1 ((r5 + (1 : Int32)) + r7) fun u10 => (w_X3_tellBehind N u10 a1 fun u12 => (P u12)))))))
set_option maxHeartbeats 4000000 in
set_option maxRecDepth 100000 in
theorem c_X4_joinBehind {l : Launch} {κ : zK} {h : zH} (hh : zDT κ h) (N : Nat) (u : TS) (a1 : Int32) (P : TS → Prop) (H : w_X4_joinBehind N u a1 P) : zM l κ (hsT h) (wT κ h) yX4_joinBehind cX4_joinBehind 3 none { frames := 4, cells := 0, slots := 0, locals := 86 } [.ref h.1, .int a1] u (zv P) := by
  refine z_met (own := RX4) (by decide) rfl (Nat.le_of_ble_eq_true rfl) hh (fun g X => ?_)
  show zJ g κ (hsT h) (wT κ h) (zv P) 3 u [(0, .ref h.1), (1, .int a1)] 0 []
  unfold w_X4_joinBehind at H
  refine z_aload_n X dX4_joinBehind_0 0 rfl rfl ?_
  refine gf_X4_12 X dX4_joinBehind_1 ?_
  refine z_iload_n X dX4_joinBehind_4 1 rfl rfl ?_
  refine k_X3_behind hh X ml_X4_181 H ⟨Nat.le_of_ble_eq_true rfl, Nat.le_of_ble_eq_true rfl⟩ (Nat.le_of_ble_eq_true rfl) dX4_joinBehind_5 (fun u2 r1 H => ?_)
  refine z_istore_n (lv' := [(2, .int r1), (0, .ref h.1), (1, .int a1)]) X dX4_joinBehind_8 rfl (by decide) rfl ?_
  refine z_aload_n X dX4_joinBehind_9 1 rfl rfl ?_
  refine gf_X4_21 X dX4_joinBehind_10 ?_
  refine z_iload_n X dX4_joinBehind_13 0 rfl rfl ?_
  refine k_X2_leave hh X ml_X4_184 H ⟨Nat.le_of_ble_eq_true rfl, Nat.le_of_ble_eq_true rfl⟩ (Nat.le_of_ble_eq_true rfl) dX4_joinBehind_14 (fun u4 H => ?_)
  refine z_aload_n X dX4_joinBehind_17 1 rfl rfl ?_
  refine gf_X4_12 X dX4_joinBehind_18 ?_
  refine z_iload_n X dX4_joinBehind_21 2 rfl rfl ?_
  refine z_aload_n X dX4_joinBehind_22 1 rfl rfl ?_
  refine gf_X4_12 X dX4_joinBehind_23 ?_
  refine z_iload_n X dX4_joinBehind_26 2 rfl rfl ?_
  refine k_X3_bodyOf hh X ml_X4_89 H ⟨Nat.le_of_ble_eq_true rfl, Nat.le_of_ble_eq_true rfl⟩ (Nat.le_of_ble_eq_true rfl) dX4_joinBehind_27 (fun u6 r5 H => ?_)
  refine z_iconst (v := 1) X dX4_joinBehind_30 (by decide) ?_
  refine z_iadd X dX4_joinBehind_31 ?_
  refine z_aload_n X dX4_joinBehind_32 1 rfl rfl ?_
  refine gf_X4_12 X dX4_joinBehind_33 ?_
  refine z_iload_n X dX4_joinBehind_36 0 rfl rfl ?_
  refine k_X3_bodyOf hh X ml_X4_89 H ⟨Nat.le_of_ble_eq_true rfl, Nat.le_of_ble_eq_true rfl⟩ (Nat.le_of_ble_eq_true rfl) dX4_joinBehind_37 (fun u8 r7 H => ?_)
  refine z_iadd X dX4_joinBehind_40 ?_
  refine k_X3_layBody hh X ml_X4_190 H ⟨Nat.le_of_ble_eq_true rfl, Nat.le_of_ble_eq_true rfl⟩ (Nat.le_of_ble_eq_true rfl) dX4_joinBehind_41 (fun u10 H => ?_)
  refine z_aload_n X dX4_joinBehind_44 1 rfl rfl ?_
  refine gf_X4_12 X dX4_joinBehind_45 ?_
  refine z_iload_n X dX4_joinBehind_48 2 rfl rfl ?_
  refine k_X3_tellBehind hh X ml_X4_187 H ⟨Nat.le_of_ble_eq_true rfl, Nat.le_of_ble_eq_true rfl⟩ (Nat.le_of_ble_eq_true rfl) dX4_joinBehind_49 (fun u12 H => ?_)
  exact z_vret X dX4_joinBehind_52 H
theorem k_X4_joinBehind {g : zE} {κ : zK} {h : zH} (hh : zDT κ h) {u : TS} {Φ : TS → Option Value → Prop} {cc : ByteArray} {nL : Nat} {own : String} {ret : Option FieldType} {rm : Room} {lv : List (Nat × Value)} {pc : Nat} {st : List Value} {idx N : Nat} {a1 : Int32} {P : TS → Prop} (X : zC g κ (hsT h) (wT κ h) cc nL own ret rm) (hml : Cond.methodLink own idx yX4_joinBehind ∈ zT) (H : w_X4_joinBehind N u a1 P) (hR : 4 + 1 ≤ rm.frames ∧ 8 + (3 + 11) + 86 ≤ rm.locals) (hroom : (st.map fun v => v.category).sum ≤ 8) (d : decode cc pc = .ok (.invokevirtual idx, 3)) (kk : ∀ u1, P u1 → zJ g κ (hsT h) (wT κ h) Φ nL u1 lv (pc + 3) st) : zJ g κ (hsT h) (wT κ h) Φ nL u lv pc (.int a1 :: .ref h.1 :: st) := z_callV (As := [.int a1]) X yy_X4_joinBehind hml im_X4_joinBehind se_X4_joinBehind (c_X4_joinBehind hh N u a1 P H) 3 0 rfl rfl rfl ⟨rfl, rfl⟩ hR rfl hroom d (fun u1 r hz => by obtain ⟨hr, hP⟩ := hz; subst hr; exact kk u1 hP)
def w_X4_copyBody_18 (N : Nat) (P : TS → Prop) : Nat → TS → Int32 → Int32 → Int32 → Int32 → Prop
  | 0, _, _, _, _, _ => False
  | n + 1, u, x1, x2, x3, x4 => ((x3 < x4 → (P u)) ∧ (¬ x3 < x4 → (w_X3_at N u (x1 + x4) fun u5 r4 => (w_X3_lay N u5 (x2 + x4) r4 fun u7 => (w_X4_copyBody_18 N P n u7 x1 x2 x3 (x4 + (1 : Int32)))))))
def w_X4_copyBody (N : Nat) (u : TS) (a1 : Int32) (a2 : Int32) (P : TS → Prop) : Prop := (w_X3_bodyOf N u a1 fun u2 r1 => (w_X4_copyBody_18 N P N u2 a1 a2 (if (2048 : Int32) < r1 then (2048 : Int32) else r1) (1 : Int32)))
set_option maxHeartbeats 4000000 in
set_option maxRecDepth 100000 in
theorem j_X4_copyBody_18 {κ : zK} {h : zH} (hh : zDT κ h) (N : Nat) {g : zE} (X : zC g κ (hsT h) (wT κ h) cX4_copyBody 5 RX4 none { frames := 2, cells := 0, slots := 0, locals := 42 }) (P : TS → Prop) : ∀ (n : Nat) (u : TS) (x1 : Int32) (x2 : Int32) (x3 : Int32) (x4 : Int32), w_X4_copyBody_18 N P n u x1 x2 x3 x4 → zJ g κ (hsT h) (wT κ h) (zv P) 5 u [(0, .ref h.1), (1, .int x1), (2, .int x2), (3, .int x3), (4, .int x4)] 18 [] := by
  intro n
  induction n with
  | zero => intro u x1 x2 x3 x4 H; exact absurd H (by rw [w_X4_copyBody_18]; exact id)
  | succ n ih =>
    intro u x1 x2 x3 x4 H
    rw [w_X4_copyBody_18] at H
    refine z_iload X dX4_copyBody_18 4 rfl ?_
    refine z_iload_n X dX4_copyBody_20 3 rfl rfl ?_
    refine z_icmp_gt (tgt := 52) X dX4_copyBody_21 (by decide) (fun q3 => ?_) (fun q3 => ?_)
    · have H := H.1 q3
      exact z_vret X dX4_copyBody_52 H
    · have H := H.2 q3
      refine z_aload_n X dX4_copyBody_24 0 rfl rfl ?_
      refine gf_X4_12 X dX4_copyBody_25 ?_
      refine z_iload_n X dX4_copyBody_28 2 rfl rfl ?_
      refine z_iload X dX4_copyBody_29 4 rfl ?_
      refine z_iadd X dX4_copyBody_31 ?_
      refine z_aload_n X dX4_copyBody_32 0 rfl rfl ?_
      refine gf_X4_12 X dX4_copyBody_33 ?_
      refine z_iload_n X dX4_copyBody_36 1 rfl rfl ?_
      refine z_iload X dX4_copyBody_37 4 rfl ?_
      refine z_iadd X dX4_copyBody_39 ?_
      refine k_X3_at hh X ml_X4_116 H ⟨Nat.le_of_ble_eq_true rfl, Nat.le_of_ble_eq_true rfl⟩ (Nat.le_of_ble_eq_true rfl) dX4_copyBody_40 (fun u5 r4 H => ?_)
      refine k_X3_lay hh X ml_X4_112 H ⟨Nat.le_of_ble_eq_true rfl, Nat.le_of_ble_eq_true rfl⟩ (Nat.le_of_ble_eq_true rfl) dX4_copyBody_43 (fun u7 H => ?_)
      refine z_iinc (k := 4) (v := (x4 + (1 : Int32))) (lv' := [(4, .int (x4 + (1 : Int32))), (0, .ref h.1), (1, .int x1), (2, .int x2), (3, .int x3)]) X dX4_copyBody_46 rfl rfl (by decide) rfl ?_
      refine z_goto (tgt := 18) X dX4_copyBody_49 (by decide) ?_
      exact z_sub (ih u7 x1 x2 x3 (x4 + (1 : Int32)) H) [1, 2, 3, 4, 0] rfl
set_option maxHeartbeats 4000000 in
set_option maxRecDepth 100000 in
theorem c_X4_copyBody {l : Launch} {κ : zK} {h : zH} (hh : zDT κ h) (N : Nat) (u : TS) (a1 : Int32) (a2 : Int32) (P : TS → Prop) (H : w_X4_copyBody N u a1 a2 P) : zM l κ (hsT h) (wT κ h) yX4_copyBody cX4_copyBody 5 none { frames := 2, cells := 0, slots := 0, locals := 42 } [.ref h.1, .int a1, .int a2] u (zv P) := by
  refine z_met (own := RX4) (by decide) rfl (Nat.le_of_ble_eq_true rfl) hh (fun g X => ?_)
  show zJ g κ (hsT h) (wT κ h) (zv P) 5 u [(0, .ref h.1), (1, .int a1), (2, .int a2)] 0 []
  unfold w_X4_copyBody at H
  refine z_aload_n X dX4_copyBody_0 0 rfl rfl ?_
  refine gf_X4_12 X dX4_copyBody_1 ?_
  refine z_iload_n X dX4_copyBody_4 1 rfl rfl ?_
  refine k_X3_bodyOf hh X ml_X4_89 H ⟨Nat.le_of_ble_eq_true rfl, Nat.le_of_ble_eq_true rfl⟩ (Nat.le_of_ble_eq_true rfl) dX4_copyBody_5 (fun u2 r1 H => ?_)
  refine z_sipush (v := 2048) X dX4_copyBody_8 (by decide) ?_
  refine z_mmin X ml_X4_202 ⟨Nat.le_of_ble_eq_true rfl, Nat.le_of_ble_eq_true rfl⟩ dX4_copyBody_11 ?_
  refine z_istore_n (lv' := [(3, .int (if (2048 : Int32) < r1 then (2048 : Int32) else r1)), (0, .ref h.1), (1, .int a1), (2, .int a2)]) X dX4_copyBody_14 rfl (by decide) rfl ?_
  refine z_iconst (v := 1) X dX4_copyBody_15 (by decide) ?_
  refine z_istore (lv' := [(4, .int (1 : Int32)), (3, .int (if (2048 : Int32) < r1 then (2048 : Int32) else r1)), (0, .ref h.1), (1, .int a1), (2, .int a2)]) X dX4_copyBody_16 (by decide) rfl ?_
  exact z_sub (j_X4_copyBody_18 hh N X P N u2 a1 a2 (if (2048 : Int32) < r1 then (2048 : Int32) else r1) (1 : Int32) H) [2, 3, 4, 1, 0] rfl
theorem k_X4_copyBody {g : zE} {κ : zK} {h : zH} (hh : zDT κ h) {u : TS} {Φ : TS → Option Value → Prop} {cc : ByteArray} {nL : Nat} {own : String} {ret : Option FieldType} {rm : Room} {lv : List (Nat × Value)} {pc : Nat} {st : List Value} {idx N : Nat} {a1 : Int32} {a2 : Int32} {P : TS → Prop} (X : zC g κ (hsT h) (wT κ h) cc nL own ret rm) (hml : Cond.methodLink own idx yX4_copyBody ∈ zT) (H : w_X4_copyBody N u a1 a2 P) (hR : 2 + 1 ≤ rm.frames ∧ 8 + (5 + 11) + 42 ≤ rm.locals) (hroom : (st.map fun v => v.category).sum ≤ 8) (d : decode cc pc = .ok (.invokevirtual idx, 3)) (kk : ∀ u1, P u1 → zJ g κ (hsT h) (wT κ h) Φ nL u1 lv (pc + 3) st) : zJ g κ (hsT h) (wT κ h) Φ nL u lv pc (.int a2 :: .int a1 :: .ref h.1 :: st) := z_callV (As := [.int a1, .int a2]) X yy_X4_copyBody hml im_X4_copyBody se_X4_copyBody (c_X4_copyBody hh N u a1 a2 P H) 3 0 rfl rfl rfl ⟨rfl, rfl⟩ hR rfl hroom d (fun u1 r hz => by obtain ⟨hr, hP⟩ := hz; subst hr; exact kk u1 hP)
def w_X4_resize (N : Nat) (u : TS) (a1 : Int32) (a2 : Int32) (P : TS → Int32 → Prop) : Prop := (w_X4_refusalOf N u a1 fun u2 r1 => ((r1 = 0 → (w_X4_isWish N a2 fun r4 => ((r4 = 0 → (P u2 (-2 : Int32))) ∧ (¬ r4 = 0 → (w_X4_bodyFor N a2 fun r7 => (w_X4_bodyWithBehind N u2 (a1 - (1 : Int32)) fun u10 r9 => ((r9 < r7 → (w_X2_headerFor N u10 r7 fun u13 r12 => ((r12 = (-1 : Int32) → (w_X4_refuse N u13 fun u26 r25 => (P u26 r25))) ∧ (¬ r12 = (-1 : Int32) → (w_X2_forgetMoves N u13 fun u16 => (w_X4_take N u16 r12 fun u18 => (w_X4_cutTo N u18 r12 r7 fun u20 => (w_X4_copyBody N u20 (a1 - (1 : Int32)) r12 fun u22 => (w_X4_release N u22 (a1 - (1 : Int32)) fun u24 r23 => (P u24 (r12 + (1 : Int32)))))))))))) ∧ (¬ r9 < r7 → (w_X2_forgetMoves N u10 fun u28 => (w_X3_bodyOf N u28 (a1 - (1 : Int32)) fun u30 r29 => ((r29 < r7 → (w_X4_joinBehind N u30 (a1 - (1 : Int32)) fun u35 => (w_X4_cutTo N u35 (a1 - (1 : Int32)) r7 fun u37 => (P u37 a1)))) ∧ (¬ r29 < r7 → (w_X4_cutTo N u30 (a1 - (1 : Int32)) r7 fun u33 => (P u33 a1)))))))))))))) ∧ (¬ r1 = 0 → (P u2 r1))))
set_option maxHeartbeats 4000000 in
set_option maxRecDepth 100000 in
theorem c_X4_resize {l : Launch} {κ : zK} {h : zH} (hh : zDT κ h) (N : Nat) (u : TS) (a1 : Int32) (a2 : Int32) (P : TS → Int32 → Prop) (H : w_X4_resize N u a1 a2 P) : zM l κ (hsT h) (wT κ h) yX4_resize cX4_resize 7 (some .int) { frames := 7, cells := 0, slots := 0, locals := 156 } [.ref h.1, .int a1, .int a2] u (zi P) := by
  refine z_met (own := RX4) (by decide) rfl (Nat.le_of_ble_eq_true rfl) hh (fun g X => ?_)
  show zJ g κ (hsT h) (wT κ h) (zi P) 7 u [(0, .ref h.1), (1, .int a1), (2, .int a2)] 0 []
  unfold w_X4_resize at H
  refine z_aload_n X dX4_resize_0 0 rfl rfl ?_
  refine z_iload_n X dX4_resize_1 1 rfl rfl ?_
  refine k_X4_refusalOf hh X ml_X4_80 H ⟨Nat.le_of_ble_eq_true rfl, Nat.le_of_ble_eq_true rfl⟩ (Nat.le_of_ble_eq_true rfl) dX4_resize_2 (fun u2 r1 H => ?_)
  refine z_istore_n (lv' := [(3, .int r1), (0, .ref h.1), (1, .int a1), (2, .int a2)]) X dX4_resize_5 rfl (by decide) rfl ?_
  refine z_iload_n X dX4_resize_6 0 rfl rfl ?_
  refine z_if_eq (tgt := 12) X dX4_resize_7 (by decide) (fun q3 => ?_) (fun q3 => ?_)
  · have H := H.1 q3
    refine z_iload_n X dX4_resize_12 3 rfl rfl ?_
    refine k_X4_isWish X ml_X4_38 H ⟨Nat.le_of_ble_eq_true rfl, Nat.le_of_ble_eq_true rfl⟩ (Nat.le_of_ble_eq_true rfl) dX4_resize_13 (fun r4 H => ?_)
    refine z_if_ne (tgt := 22) X dX4_resize_16 (by decide) (fun q6 => ?_) (fun q6 => ?_)
    · have H := H.2 q6
      refine z_iload_n X dX4_resize_22 2 rfl rfl ?_
      refine z_iconst (v := 1) X dX4_resize_23 (by decide) ?_
      refine z_isub X dX4_resize_24 ?_
      refine z_istore (lv' := [(4, .int (a1 - (1 : Int32))), (3, .int r1), (0, .ref h.1), (1, .int a1), (2, .int a2)]) X dX4_resize_25 (by decide) rfl ?_
      refine z_iload_n X dX4_resize_27 4 rfl rfl ?_
      refine k_X4_bodyFor X ml_X4_46 H ⟨Nat.le_of_ble_eq_true rfl, Nat.le_of_ble_eq_true rfl⟩ (Nat.le_of_ble_eq_true rfl) dX4_resize_28 (fun r7 H => ?_)
      refine z_istore (lv' := [(5, .int r7), (4, .int (a1 - (1 : Int32))), (3, .int r1), (0, .ref h.1), (1, .int a1), (2, .int a2)]) X dX4_resize_31 (by decide) rfl ?_
      refine z_iload X dX4_resize_33 0 rfl ?_
      refine z_aload_n X dX4_resize_35 3 rfl rfl ?_
      refine z_iload X dX4_resize_36 1 rfl ?_
      refine k_X4_bodyWithBehind hh X ml_X4_86 H ⟨Nat.le_of_ble_eq_true rfl, Nat.le_of_ble_eq_true rfl⟩ (Nat.le_of_ble_eq_true rfl) dX4_resize_38 (fun u10 r9 H => ?_)
      refine z_icmp_gt (tgt := 81) X dX4_resize_41 (by decide) (fun q11 => ?_) (fun q11 => ?_)
      · have H := H.1 q11
        refine z_aload_n X dX4_resize_81 3 rfl rfl ?_
        refine gf_X4_21 X dX4_resize_82 ?_
        refine z_iload X dX4_resize_85 0 rfl ?_
        refine k_X2_headerFor hh X ml_X4_50 H ⟨Nat.le_of_ble_eq_true rfl, Nat.le_of_ble_eq_true rfl⟩ (Nat.le_of_ble_eq_true rfl) dX4_resize_87 (fun u13 r12 H => ?_)
        refine z_istore (lv' := [(6, .int r12), (5, .int r7), (4, .int (a1 - (1 : Int32))), (3, .int r1), (0, .ref h.1), (1, .int a1), (2, .int a2)]) X dX4_resize_90 (by decide) rfl ?_
        refine z_iload X dX4_resize_92 0 rfl ?_
        refine z_iconst (v := -1) X dX4_resize_94 (by decide) ?_
        refine z_icmp_ne (tgt := 103) X dX4_resize_95 (by decide) (fun q14 => ?_) (fun q14 => ?_)
        · have H := H.2 q14
          refine z_aload_n X dX4_resize_103 4 rfl rfl ?_
          refine gf_X4_21 X dX4_resize_104 ?_
          refine k_X2_forgetMoves hh X ml_X4_57 H ⟨Nat.le_of_ble_eq_true rfl, Nat.le_of_ble_eq_true rfl⟩ (Nat.le_of_ble_eq_true rfl) dX4_resize_107 (fun u16 H => ?_)
          refine z_aload_n X dX4_resize_110 4 rfl rfl ?_
          refine z_iload X dX4_resize_111 0 rfl ?_
          refine k_X4_take hh X ml_X4_60 H ⟨Nat.le_of_ble_eq_true rfl, Nat.le_of_ble_eq_true rfl⟩ (Nat.le_of_ble_eq_true rfl) dX4_resize_113 (fun u18 H => ?_)
          refine z_aload_n X dX4_resize_116 4 rfl rfl ?_
          refine z_iload X dX4_resize_117 0 rfl ?_
          refine z_iload X dX4_resize_119 1 rfl ?_
          refine k_X4_cutTo hh X ml_X4_63 H ⟨Nat.le_of_ble_eq_true rfl, Nat.le_of_ble_eq_true rfl⟩ (Nat.le_of_ble_eq_true rfl) dX4_resize_121 (fun u20 H => ?_)
          refine z_aload_n X dX4_resize_124 4 rfl rfl ?_
          refine z_iload X dX4_resize_125 2 rfl ?_
          refine z_iload X dX4_resize_127 0 rfl ?_
          refine k_X4_copyBody hh X ml_X4_95 H ⟨Nat.le_of_ble_eq_true rfl, Nat.le_of_ble_eq_true rfl⟩ (Nat.le_of_ble_eq_true rfl) dX4_resize_129 (fun u22 H => ?_)
          refine z_aload_n X dX4_resize_132 4 rfl rfl ?_
          refine z_iload X dX4_resize_133 2 rfl ?_
          refine k_X4_release hh X ml_X4_83 H ⟨Nat.le_of_ble_eq_true rfl, Nat.le_of_ble_eq_true rfl⟩ (Nat.le_of_ble_eq_true rfl) dX4_resize_135 (fun u24 r23 H => ?_)
          refine z_pop X dX4_resize_138 rfl ?_
          refine z_iload X dX4_resize_139 0 rfl ?_
          refine z_iconst (v := 1) X dX4_resize_141 (by decide) ?_
          refine z_iadd X dX4_resize_142 ?_
          exact z_iret X dX4_resize_143 H
        · have H := H.1 q14
          refine z_aload_n X dX4_resize_98 4 rfl rfl ?_
          refine k_X4_refuse hh X ml_X4_53 H ⟨Nat.le_of_ble_eq_true rfl, Nat.le_of_ble_eq_true rfl⟩ (Nat.le_of_ble_eq_true rfl) dX4_resize_99 (fun u26 r25 H => ?_)
          exact z_iret X dX4_resize_102 H
      · have H := H.2 q11
        refine z_aload_n X dX4_resize_44 3 rfl rfl ?_
        refine gf_X4_21 X dX4_resize_45 ?_
        refine k_X2_forgetMoves hh X ml_X4_57 H ⟨Nat.le_of_ble_eq_true rfl, Nat.le_of_ble_eq_true rfl⟩ (Nat.le_of_ble_eq_true rfl) dX4_resize_48 (fun u28 H => ?_)
        refine z_iload X dX4_resize_51 0 rfl ?_
        refine z_aload_n X dX4_resize_53 3 rfl rfl ?_
        refine gf_X4_12 X dX4_resize_54 ?_
        refine z_iload X dX4_resize_57 1 rfl ?_
        refine k_X3_bodyOf hh X ml_X4_89 H ⟨Nat.le_of_ble_eq_true rfl, Nat.le_of_ble_eq_true rfl⟩ (Nat.le_of_ble_eq_true rfl) dX4_resize_59 (fun u30 r29 H => ?_)
        refine z_icmp_le (tgt := 71) X dX4_resize_62 (by decide) (fun q31 => ?_) (fun q31 => ?_)
        · have H := H.2 q31
          refine z_aload_n X dX4_resize_71 3 rfl rfl ?_
          refine z_iload X dX4_resize_72 1 rfl ?_
          refine z_iload X dX4_resize_74 0 rfl ?_
          refine k_X4_cutTo hh X ml_X4_63 H ⟨Nat.le_of_ble_eq_true rfl, Nat.le_of_ble_eq_true rfl⟩ (Nat.le_of_ble_eq_true rfl) dX4_resize_76 (fun u33 H => ?_)
          refine z_iload_n X dX4_resize_79 4 rfl rfl ?_
          exact z_iret X dX4_resize_80 H
        · have H := H.1 q31
          refine z_aload_n X dX4_resize_65 3 rfl rfl ?_
          refine z_iload X dX4_resize_66 1 rfl ?_
          refine k_X4_joinBehind hh X ml_X4_92 H ⟨Nat.le_of_ble_eq_true rfl, Nat.le_of_ble_eq_true rfl⟩ (Nat.le_of_ble_eq_true rfl) dX4_resize_68 (fun u35 H => ?_)
          refine z_aload_n X dX4_resize_71 3 rfl rfl ?_
          refine z_iload X dX4_resize_72 1 rfl ?_
          refine z_iload X dX4_resize_74 0 rfl ?_
          refine k_X4_cutTo hh X ml_X4_63 H ⟨Nat.le_of_ble_eq_true rfl, Nat.le_of_ble_eq_true rfl⟩ (Nat.le_of_ble_eq_true rfl) dX4_resize_76 (fun u37 H => ?_)
          refine z_iload_n X dX4_resize_79 4 rfl rfl ?_
          exact z_iret X dX4_resize_80 H
    · have H := H.1 q6
      refine z_bipush (v := -2) X dX4_resize_19 (by decide) ?_
      exact z_iret X dX4_resize_21 H
  · have H := H.2 q3
    refine z_iload_n X dX4_resize_10 0 rfl rfl ?_
    exact z_iret X dX4_resize_11 H
theorem k_X4_resize {g : zE} {κ : zK} {h : zH} (hh : zDT κ h) {u : TS} {Φ : TS → Option Value → Prop} {cc : ByteArray} {nL : Nat} {own : String} {ret : Option FieldType} {rm : Room} {lv : List (Nat × Value)} {pc : Nat} {st : List Value} {idx N : Nat} {a1 : Int32} {a2 : Int32} {P : TS → Int32 → Prop} (X : zC g κ (hsT h) (wT κ h) cc nL own ret rm) (hml : Cond.methodLink own idx yX4_resize ∈ zT) (H : w_X4_resize N u a1 a2 P) (hR : 7 + 1 ≤ rm.frames ∧ 8 + (7 + 11) + 156 ≤ rm.locals) (hroom : (st.map fun v => v.category).sum ≤ 8) (d : decode cc pc = .ok (.invokevirtual idx, 3)) (kk : ∀ u1 v, P u1 v → zJ g κ (hsT h) (wT κ h) Φ nL u1 lv (pc + 3) (.int v :: st)) : zJ g κ (hsT h) (wT κ h) Φ nL u lv pc (.int a2 :: .int a1 :: .ref h.1 :: st) := z_callV (As := [.int a1, .int a2]) X yy_X4_resize hml im_X4_resize se_X4_resize (c_X4_resize hh N u a1 a2 P H) 3 0 rfl rfl rfl ⟨rfl, rfl⟩ hR rfl hroom d (fun u1 r hz => by obtain ⟨v, hr, hP⟩ := hz; subst hr; exact kk u1 v hP)
def w_X4_lastHeader_4 (N : Nat) (P : TS → Int32 → Prop) : Nat → TS → Int32 → Int32 → Prop
  | 0, _, _, _ => False
  | n + 1, u, x1, x2 => ((x2 < (512 : Int32) → (w_X3_behind N u x1 fun u3 r2 => ((r2 < (u3.1.2.1) → (w_X3_behind N u3 x1 fun u6 r5 => (w_X4_lastHeader_4 N P n u6 r5 (x2 + (1 : Int32))))) ∧ (¬ r2 < (u3.1.2.1) → (P u3 x1))))) ∧ (¬ x2 < (512 : Int32) → (P u x1)))
def w_X4_lastHeader (N : Nat) (u : TS) (P : TS → Int32 → Prop) : Prop := (w_X4_lastHeader_4 N P N u (0 : Int32) (0 : Int32))
set_option maxHeartbeats 4000000 in
set_option maxRecDepth 100000 in
theorem j_X4_lastHeader_4 {κ : zK} {h : zH} (hh : zDT κ h) (N : Nat) {g : zE} (X : zC g κ (hsT h) (wT κ h) cX4_lastHeader 3 RX4 (some .int) { frames := 2, cells := 0, slots := 0, locals := 42 }) (P : TS → Int32 → Prop) : ∀ (n : Nat) (u : TS) (x1 : Int32) (x2 : Int32), w_X4_lastHeader_4 N P n u x1 x2 → zJ g κ (hsT h) (wT κ h) (zi P) 3 u [(0, .ref h.1), (1, .int x1), (2, .int x2)] 4 [] := by
  intro n
  induction n with
  | zero => intro u x1 x2 H; exact absurd H (by rw [w_X4_lastHeader_4]; exact id)
  | succ n ih =>
    intro u x1 x2 H
    rw [w_X4_lastHeader_4] at H
    refine z_iload_n X dX4_lastHeader_4 2 rfl rfl ?_
    refine z_sipush (v := 512) X dX4_lastHeader_5 (by decide) ?_
    refine z_icmp_ge (tgt := 44) X dX4_lastHeader_8 (by decide) (fun q1 => ?_) (fun q1 => ?_)
    · have H := H.2 q1
      refine z_iload_n X dX4_lastHeader_44 1 rfl rfl ?_
      exact z_iret X dX4_lastHeader_45 H
    · have H := H.1 q1
      refine z_aload_n X dX4_lastHeader_11 0 rfl rfl ?_
      refine gf_X4_12 X dX4_lastHeader_12 ?_
      refine z_iload_n X dX4_lastHeader_15 1 rfl rfl ?_
      refine k_X3_behind hh X ml_X4_181 H ⟨Nat.le_of_ble_eq_true rfl, Nat.le_of_ble_eq_true rfl⟩ (Nat.le_of_ble_eq_true rfl) dX4_lastHeader_16 (fun u3 r2 H => ?_)
      refine z_aload_n X dX4_lastHeader_19 0 rfl rfl ?_
      refine gf_X4_12 X dX4_lastHeader_20 ?_
      refine gf_X4_98 X dX4_lastHeader_23 ?_
      refine z_icmp_ge (tgt := 44) X dX4_lastHeader_26 (by decide) (fun q4 => ?_) (fun q4 => ?_)
      · have H := H.2 q4
        refine z_iload_n X dX4_lastHeader_44 1 rfl rfl ?_
        exact z_iret X dX4_lastHeader_45 H
      · have H := H.1 q4
        refine z_aload_n X dX4_lastHeader_29 0 rfl rfl ?_
        refine gf_X4_12 X dX4_lastHeader_30 ?_
        refine z_iload_n X dX4_lastHeader_33 1 rfl rfl ?_
        refine k_X3_behind hh X ml_X4_181 H ⟨Nat.le_of_ble_eq_true rfl, Nat.le_of_ble_eq_true rfl⟩ (Nat.le_of_ble_eq_true rfl) dX4_lastHeader_34 (fun u6 r5 H => ?_)
        refine z_istore_n (lv' := [(1, .int r5), (0, .ref h.1), (2, .int x2)]) X dX4_lastHeader_37 rfl (by decide) rfl ?_
        refine z_iinc (k := 2) (v := (x2 + (1 : Int32))) (lv' := [(2, .int (x2 + (1 : Int32))), (1, .int r5), (0, .ref h.1)]) X dX4_lastHeader_38 rfl rfl (by decide) rfl ?_
        refine z_goto (tgt := 4) X dX4_lastHeader_41 (by decide) ?_
        exact z_sub (ih u6 r5 (x2 + (1 : Int32)) H) [2, 1, 0] rfl
set_option maxHeartbeats 4000000 in
set_option maxRecDepth 100000 in
theorem c_X4_lastHeader {l : Launch} {κ : zK} {h : zH} (hh : zDT κ h) (N : Nat) (u : TS) (P : TS → Int32 → Prop) (H : w_X4_lastHeader N u P) : zM l κ (hsT h) (wT κ h) yX4_lastHeader cX4_lastHeader 3 (some .int) { frames := 2, cells := 0, slots := 0, locals := 42 } [.ref h.1] u (zi P) := by
  refine z_met (own := RX4) (by decide) rfl (Nat.le_of_ble_eq_true rfl) hh (fun g X => ?_)
  show zJ g κ (hsT h) (wT κ h) (zi P) 3 u [(0, .ref h.1)] 0 []
  unfold w_X4_lastHeader at H
  refine z_iconst (v := 0) X dX4_lastHeader_0 (by decide) ?_
  refine z_istore_n (lv' := [(1, .int (0 : Int32)), (0, .ref h.1)]) X dX4_lastHeader_1 rfl (by decide) rfl ?_
  refine z_iconst (v := 0) X dX4_lastHeader_2 (by decide) ?_
  refine z_istore_n (lv' := [(2, .int (0 : Int32)), (1, .int (0 : Int32)), (0, .ref h.1)]) X dX4_lastHeader_3 rfl (by decide) rfl ?_
  exact z_sub (j_X4_lastHeader_4 hh N X P N u (0 : Int32) (0 : Int32) H) [2, 1, 0] rfl
theorem k_X4_lastHeader {g : zE} {κ : zK} {h : zH} (hh : zDT κ h) {u : TS} {Φ : TS → Option Value → Prop} {cc : ByteArray} {nL : Nat} {own : String} {ret : Option FieldType} {rm : Room} {lv : List (Nat × Value)} {pc : Nat} {st : List Value} {idx N : Nat}  {P : TS → Int32 → Prop} (X : zC g κ (hsT h) (wT κ h) cc nL own ret rm) (hml : Cond.methodLink own idx yX4_lastHeader ∈ zT) (H : w_X4_lastHeader N u P) (hR : 2 + 1 ≤ rm.frames ∧ 8 + (3 + 11) + 42 ≤ rm.locals) (hroom : (st.map fun v => v.category).sum ≤ 8) (d : decode cc pc = .ok (.invokevirtual idx, 3)) (kk : ∀ u1 v, P u1 v → zJ g κ (hsT h) (wT κ h) Φ nL u1 lv (pc + 3) (.int v :: st)) : zJ g κ (hsT h) (wT κ h) Φ nL u lv pc (.ref h.1 :: st) := z_callV (As := []) X yy_X4_lastHeader hml im_X4_lastHeader se_X4_lastHeader (c_X4_lastHeader hh N u P H) 3 0 rfl rfl rfl ⟨rfl, rfl⟩ hR rfl hroom d (fun u1 r hz => by obtain ⟨v, hr, hP⟩ := hz; subst hr; exact kk u1 v hP)
def w_X4_grow_91 (N : Nat) (P : TS → Int32 → Prop) (u : TS) (x2 : Int32) (y0 : Int32) (y1 : Int32) (y2 : Int32) : Prop := (w_X3_layHeader N u y2 y1 y0 fun u14 => (w_X4_release N u14 x2 fun u16 r15 => (P u16 (u16.1.2.1))))
def w_X4_grow (N : Nat) (u : TS) (a1 : Int32) (P : TS → Int32 → Prop) : Prop := ((a1 < (4 : Int32) → (P u (-2 : Int32))) ∧ (¬ a1 < (4 : Int32) → (((1024 : Int32) < a1 → (P u (-2 : Int32))) ∧ (¬ (1024 : Int32) < a1 → (((u.1.2.2.2.2.2.1) = 0 → (((2048 : Int32) < ((u.1.2.1) + a1) → (P u (-4 : Int32))) ∧ (¬ (2048 : Int32) < ((u.1.2.1) + a1) → (w_X4_lastHeader N u fun u6 r5 => (w_X3_isFree N u6 r5 fun u8 r7 => (w_X2_forgetMoves N u8 fun u10 => (zlet (sN u10.1 ((u.1.2.1) + a1), u10.2) fun u11 => ((r7 = 0 → (w_X4_grow_91 N P u11 (u.1.2.1) (0 : Int32) (a1 - (1 : Int32)) (u.1.2.1))) ∧ (¬ r7 = 0 → (w_X4_grow_91 N P u11 (u.1.2.1) (2 : Int32) (a1 - (1 : Int32)) (u.1.2.1))))))))))) ∧ (¬ (u.1.2.2.2.2.2.1) = 0 → (P u (-3 : Int32))))))))
set_option maxHeartbeats 4000000 in
set_option maxRecDepth 100000 in
theorem j_X4_grow_91 {κ : zK} {h : zH} (hh : zDT κ h) (N : Nat) {g : zE} (X : zC g κ (hsT h) (wT κ h) cX4_grow 4 RX4 (some .int) { frames := 6, cells := 0, slots := 0, locals := 132 }) (P : TS → Int32 → Prop) (u : TS) (x2 : Int32) (y0 : Int32) (y1 : Int32) (y2 : Int32) (H : w_X4_grow_91 N P u x2 y0 y1 y2) : zJ g κ (hsT h) (wT κ h) (zi P) 4 u [(0, .ref h.1), (2, .int x2)] 91 [.int y0, .int y1, .int y2, .ref h.2.1] := by
  unfold w_X4_grow_91 at H
  refine k_X3_layHeader hh X ml_X4_108 H ⟨Nat.le_of_ble_eq_true rfl, Nat.le_of_ble_eq_true rfl⟩ (Nat.le_of_ble_eq_true rfl) dX4_grow_91 (fun u14 H => ?_)
  refine z_aload_n X dX4_grow_94 0 rfl rfl ?_
  refine z_iload_n X dX4_grow_95 1 rfl rfl ?_
  refine k_X4_release hh X ml_X4_83 H ⟨Nat.le_of_ble_eq_true rfl, Nat.le_of_ble_eq_true rfl⟩ (Nat.le_of_ble_eq_true rfl) dX4_grow_96 (fun u16 r15 H => ?_)
  refine z_pop X dX4_grow_99 rfl ?_
  refine z_aload_n X dX4_grow_100 0 rfl rfl ?_
  refine gf_X4_12 X dX4_grow_101 ?_
  refine gf_X4_98 X dX4_grow_104 ?_
  exact z_iret X dX4_grow_107 H
set_option maxHeartbeats 4000000 in
set_option maxRecDepth 100000 in
theorem c_X4_grow {l : Launch} {κ : zK} {h : zH} (hh : zDT κ h) (N : Nat) (u : TS) (a1 : Int32) (P : TS → Int32 → Prop) (H : w_X4_grow N u a1 P) : zM l κ (hsT h) (wT κ h) yX4_grow cX4_grow 4 (some .int) { frames := 6, cells := 0, slots := 0, locals := 132 } [.ref h.1, .int a1] u (zi P) := by
  refine z_met (own := RX4) (by decide) rfl (Nat.le_of_ble_eq_true rfl) hh (fun g X => ?_)
  show zJ g κ (hsT h) (wT κ h) (zi P) 4 u [(0, .ref h.1), (1, .int a1)] 0 []
  unfold w_X4_grow at H
  refine z_iload_n X dX4_grow_0 1 rfl rfl ?_
  refine z_iconst (v := 4) X dX4_grow_1 (by decide) ?_
  refine z_icmp_lt (tgt := 12) X dX4_grow_2 (by decide) (fun q1 => ?_) (fun q1 => ?_)
  · have H := H.1 q1
    refine z_bipush (v := -2) X dX4_grow_12 (by decide) ?_
    exact z_iret X dX4_grow_14 H
  · have H := H.2 q1
    refine z_iload_n X dX4_grow_5 1 rfl rfl ?_
    refine z_sipush (v := 1024) X dX4_grow_6 (by decide) ?_
    refine z_icmp_le (tgt := 15) X dX4_grow_9 (by decide) (fun q2 => ?_) (fun q2 => ?_)
    · have H := H.2 q2
      refine z_aload_n X dX4_grow_15 0 rfl rfl ?_
      refine gf_X4_42 X dX4_grow_16 ?_
      refine z_if_eq (tgt := 25) X dX4_grow_19 (by decide) (fun q3 => ?_) (fun q3 => ?_)
      · have H := H.1 q3
        refine z_aload_n X dX4_grow_25 0 rfl rfl ?_
        refine gf_X4_12 X dX4_grow_26 ?_
        refine gf_X4_98 X dX4_grow_29 ?_
        refine z_istore_n (lv' := [(2, .int (u.1.2.1)), (0, .ref h.1), (1, .int a1)]) X dX4_grow_32 rfl (by decide) rfl ?_
        refine z_iload_n X dX4_grow_33 0 rfl rfl ?_
        refine z_iload_n X dX4_grow_34 2 rfl rfl ?_
        refine z_iadd X dX4_grow_35 ?_
        refine z_sipush (v := 2048) X dX4_grow_36 (by decide) ?_
        refine z_icmp_le (tgt := 45) X dX4_grow_39 (by decide) (fun q4 => ?_) (fun q4 => ?_)
        · have H := H.2 q4
          refine z_aload_n X dX4_grow_45 1 rfl rfl ?_
          refine gf_X4_12 X dX4_grow_46 ?_
          refine z_aload_n X dX4_grow_49 1 rfl rfl ?_
          refine k_X4_lastHeader hh X ml_X4_102 H ⟨Nat.le_of_ble_eq_true rfl, Nat.le_of_ble_eq_true rfl⟩ (Nat.le_of_ble_eq_true rfl) dX4_grow_50 (fun u6 r5 H => ?_)
          refine k_X3_isFree hh X ml_X4_105 H ⟨Nat.le_of_ble_eq_true rfl, Nat.le_of_ble_eq_true rfl⟩ (Nat.le_of_ble_eq_true rfl) dX4_grow_53 (fun u8 r7 H => ?_)
          refine z_istore_n (lv' := [(3, .int r7), (2, .int (u.1.2.1)), (0, .ref h.1), (1, .int a1)]) X dX4_grow_56 rfl (by decide) rfl ?_
          refine z_aload_n X dX4_grow_57 2 rfl rfl ?_
          refine gf_X4_21 X dX4_grow_58 ?_
          refine k_X2_forgetMoves hh X ml_X4_57 H ⟨Nat.le_of_ble_eq_true rfl, Nat.le_of_ble_eq_true rfl⟩ (Nat.le_of_ble_eq_true rfl) dX4_grow_61 (fun u10 H => ?_)
          refine z_aload_n X dX4_grow_64 2 rfl rfl ?_
          refine gf_X4_12 X dX4_grow_65 ?_
          refine z_iload_n X dX4_grow_68 1 rfl rfl ?_
          refine z_iload_n X dX4_grow_69 3 rfl rfl ?_
          refine z_iadd X dX4_grow_70 ?_
          refine pf_X4_98 X dX4_grow_71 H (fun u11 H => ?_)
          refine z_aload_n X dX4_grow_74 2 rfl rfl ?_
          refine gf_X4_12 X dX4_grow_75 ?_
          refine z_iload_n X dX4_grow_78 1 rfl rfl ?_
          refine z_iload_n X dX4_grow_79 3 rfl rfl ?_
          refine z_iconst (v := 1) X dX4_grow_80 (by decide) ?_
          refine z_isub X dX4_grow_81 ?_
          refine z_iload_n X dX4_grow_82 0 rfl rfl ?_
          refine z_if_eq (tgt := 90) X dX4_grow_83 (by decide) (fun q12 => ?_) (fun q12 => ?_)
          · have H := H.1 q12
            refine z_iconst (v := 0) X dX4_grow_90 (by decide) ?_
            exact z_sub (j_X4_grow_91 hh N X P u11 (u.1.2.1) (0 : Int32) (a1 - (1 : Int32)) (u.1.2.1) H) [2, 1] rfl
          · have H := H.2 q12
            refine z_iconst (v := 2) X dX4_grow_86 (by decide) ?_
            refine z_goto (tgt := 91) X dX4_grow_87 (by decide) ?_
            exact z_sub (j_X4_grow_91 hh N X P u11 (u.1.2.1) (2 : Int32) (a1 - (1 : Int32)) (u.1.2.1) H) [2, 1] rfl
        · have H := H.1 q4
          refine z_bipush (v := -4) X dX4_grow_42 (by decide) ?_
          exact z_iret X dX4_grow_44 H
      · have H := H.2 q3
        refine z_bipush (v := -3) X dX4_grow_22 (by decide) ?_
        exact z_iret X dX4_grow_24 H
    · have H := H.1 q2
      refine z_bipush (v := -2) X dX4_grow_12 (by decide) ?_
      exact z_iret X dX4_grow_14 H
theorem k_X4_grow {g : zE} {κ : zK} {h : zH} (hh : zDT κ h) {u : TS} {Φ : TS → Option Value → Prop} {cc : ByteArray} {nL : Nat} {own : String} {ret : Option FieldType} {rm : Room} {lv : List (Nat × Value)} {pc : Nat} {st : List Value} {idx N : Nat} {a1 : Int32} {P : TS → Int32 → Prop} (X : zC g κ (hsT h) (wT κ h) cc nL own ret rm) (hml : Cond.methodLink own idx yX4_grow ∈ zT) (H : w_X4_grow N u a1 P) (hR : 6 + 1 ≤ rm.frames ∧ 8 + (4 + 11) + 132 ≤ rm.locals) (hroom : (st.map fun v => v.category).sum ≤ 8) (d : decode cc pc = .ok (.invokevirtual idx, 3)) (kk : ∀ u1 v, P u1 v → zJ g κ (hsT h) (wT κ h) Φ nL u1 lv (pc + 3) (.int v :: st)) : zJ g κ (hsT h) (wT κ h) Φ nL u lv pc (.int a1 :: .ref h.1 :: st) := z_callV (As := [.int a1]) X yy_X4_grow hml im_X4_grow se_X4_grow (c_X4_grow hh N u a1 P H) 3 0 rfl rfl rfl ⟨rfl, rfl⟩ hR rfl hroom d (fun u1 r hz => by obtain ⟨v, hr, hP⟩ := hz; subst hr; exact kk u1 v hP)
def w_X4_size (N : Nat) (u : TS) (a1 : Int32) (P : TS → Int32 → Prop) : Prop := (w_X4_refusalOf N u a1 fun u2 r1 => ((r1 = 0 → (w_X3_bodyOf N u2 (a1 - (1 : Int32)) fun u5 r4 => (P u5 r4))) ∧ (¬ r1 = 0 → (P u2 r1))))
set_option maxHeartbeats 4000000 in
set_option maxRecDepth 100000 in
theorem c_X4_size {l : Launch} {κ : zK} {h : zH} (hh : zDT κ h) (N : Nat) (u : TS) (a1 : Int32) (P : TS → Int32 → Prop) (H : w_X4_size N u a1 P) : zM l κ (hsT h) (wT κ h) yX4_size cX4_size 3 (some .int) { frames := 4, cells := 0, slots := 0, locals := 86 } [.ref h.1, .int a1] u (zi P) := by
  refine z_met (own := RX4) (by decide) rfl (Nat.le_of_ble_eq_true rfl) hh (fun g X => ?_)
  show zJ g κ (hsT h) (wT κ h) (zi P) 3 u [(0, .ref h.1), (1, .int a1)] 0 []
  unfold w_X4_size at H
  refine z_aload_n X dX4_size_0 0 rfl rfl ?_
  refine z_iload_n X dX4_size_1 1 rfl rfl ?_
  refine k_X4_refusalOf hh X ml_X4_80 H ⟨Nat.le_of_ble_eq_true rfl, Nat.le_of_ble_eq_true rfl⟩ (Nat.le_of_ble_eq_true rfl) dX4_size_2 (fun u2 r1 H => ?_)
  refine z_istore_n (lv' := [(2, .int r1), (0, .ref h.1), (1, .int a1)]) X dX4_size_5 rfl (by decide) rfl ?_
  refine z_iload_n X dX4_size_6 0 rfl rfl ?_
  refine z_if_eq (tgt := 14) X dX4_size_7 (by decide) (fun q3 => ?_) (fun q3 => ?_)
  · have H := H.1 q3
    refine z_aload_n X dX4_size_14 1 rfl rfl ?_
    refine gf_X4_12 X dX4_size_15 ?_
    refine z_iload_n X dX4_size_18 2 rfl rfl ?_
    refine z_iconst (v := 1) X dX4_size_19 (by decide) ?_
    refine z_isub X dX4_size_20 ?_
    refine k_X3_bodyOf hh X ml_X4_89 H ⟨Nat.le_of_ble_eq_true rfl, Nat.le_of_ble_eq_true rfl⟩ (Nat.le_of_ble_eq_true rfl) dX4_size_21 (fun u5 r4 H => ?_)
    exact z_iret X dX4_size_24 H
  · have H := H.2 q3
    refine z_iload_n X dX4_size_10 0 rfl rfl ?_
    refine z_goto (tgt := 24) X dX4_size_11 (by decide) ?_
    exact z_iret X dX4_size_24 H
theorem k_X4_size {g : zE} {κ : zK} {h : zH} (hh : zDT κ h) {u : TS} {Φ : TS → Option Value → Prop} {cc : ByteArray} {nL : Nat} {own : String} {ret : Option FieldType} {rm : Room} {lv : List (Nat × Value)} {pc : Nat} {st : List Value} {idx N : Nat} {a1 : Int32} {P : TS → Int32 → Prop} (X : zC g κ (hsT h) (wT κ h) cc nL own ret rm) (hml : Cond.methodLink own idx yX4_size ∈ zT) (H : w_X4_size N u a1 P) (hR : 4 + 1 ≤ rm.frames ∧ 8 + (3 + 11) + 86 ≤ rm.locals) (hroom : (st.map fun v => v.category).sum ≤ 8) (d : decode cc pc = .ok (.invokevirtual idx, 3)) (kk : ∀ u1 v, P u1 v → zJ g κ (hsT h) (wT κ h) Φ nL u1 lv (pc + 3) (.int v :: st)) : zJ g κ (hsT h) (wT κ h) Φ nL u lv pc (.int a1 :: .ref h.1 :: st) := z_callV (As := [.int a1]) X yy_X4_size hml im_X4_size se_X4_size (c_X4_size hh N u a1 P H) 3 0 rfl rfl rfl ⟨rfl, rfl⟩ hR rfl hroom d (fun u1 r hz => by obtain ⟨v, hr, hP⟩ := hz; subst hr; exact kk u1 v hP)
def w_X4_put (N : Nat) (u : TS) (a1 : Int32) (a2 : Int32) (a3 : Int64) (P : TS → Int32 → Prop) : Prop := (w_X4_refusalOf N u a1 fun u2 r1 => ((r1 = 0 → ((a2 < 0 → (P u2 (-2 : Int32))) ∧ (¬ a2 < 0 → (w_X3_bodyOf N u2 (a1 - (1 : Int32)) fun u6 r5 => ((a2 < r5 → (w_X3_lay N u6 (a1 + a2) a3 fun u9 => (P u9 (1 : Int32)))) ∧ (¬ a2 < r5 → (P u6 (-2 : Int32)))))))) ∧ (¬ r1 = 0 → (P u2 r1))))
set_option maxHeartbeats 4000000 in
set_option maxRecDepth 100000 in
theorem c_X4_put {l : Launch} {κ : zK} {h : zH} (hh : zDT κ h) (N : Nat) (u : TS) (a1 : Int32) (a2 : Int32) (a3 : Int64) (P : TS → Int32 → Prop) (H : w_X4_put N u a1 a2 a3 P) : zM l κ (hsT h) (wT κ h) yX4_put cX4_put 6 (some .int) { frames := 4, cells := 0, slots := 0, locals := 86 } [.ref h.1, .int a1, .int a2, .long a3] u (zi P) := by
  refine z_met (own := RX4) (by decide) rfl (Nat.le_of_ble_eq_true rfl) hh (fun g X => ?_)
  show zJ g κ (hsT h) (wT κ h) (zi P) 6 u [(0, .ref h.1), (1, .int a1), (2, .int a2), (3, .long a3)] 0 []
  unfold w_X4_put at H
  refine z_aload_n X dX4_put_0 0 rfl rfl ?_
  refine z_iload_n X dX4_put_1 1 rfl rfl ?_
  refine k_X4_refusalOf hh X ml_X4_80 H ⟨Nat.le_of_ble_eq_true rfl, Nat.le_of_ble_eq_true rfl⟩ (Nat.le_of_ble_eq_true rfl) dX4_put_2 (fun u2 r1 H => ?_)
  refine z_istore (lv' := [(5, .int r1), (0, .ref h.1), (1, .int a1), (2, .int a2), (3, .long a3)]) X dX4_put_5 (by decide) rfl ?_
  refine z_iload X dX4_put_7 0 rfl ?_
  refine z_if_eq (tgt := 15) X dX4_put_9 (by decide) (fun q3 => ?_) (fun q3 => ?_)
  · have H := H.1 q3
    refine z_iload_n X dX4_put_15 3 rfl rfl ?_
    refine z_if_lt (tgt := 33) X dX4_put_16 (by decide) (fun q4 => ?_) (fun q4 => ?_)
    · have H := H.1 q4
      refine z_bipush (v := -2) X dX4_put_33 (by decide) ?_
      exact z_iret X dX4_put_35 H
    · have H := H.2 q4
      refine z_iload_n X dX4_put_19 3 rfl rfl ?_
      refine z_aload_n X dX4_put_20 1 rfl rfl ?_
      refine gf_X4_12 X dX4_put_21 ?_
      refine z_iload_n X dX4_put_24 2 rfl rfl ?_
      refine z_iconst (v := 1) X dX4_put_25 (by decide) ?_
      refine z_isub X dX4_put_26 ?_
      refine k_X3_bodyOf hh X ml_X4_89 H ⟨Nat.le_of_ble_eq_true rfl, Nat.le_of_ble_eq_true rfl⟩ (Nat.le_of_ble_eq_true rfl) dX4_put_27 (fun u6 r5 H => ?_)
      refine z_icmp_lt (tgt := 36) X dX4_put_30 (by decide) (fun q7 => ?_) (fun q7 => ?_)
      · have H := H.1 q7
        refine z_aload_n X dX4_put_36 1 rfl rfl ?_
        refine gf_X4_12 X dX4_put_37 ?_
        refine z_iload_n X dX4_put_40 2 rfl rfl ?_
        refine z_iload_n X dX4_put_41 3 rfl rfl ?_
        refine z_iadd X dX4_put_42 ?_
        refine z_lload_n X dX4_put_43 4 rfl rfl ?_
        refine k_X3_lay hh X ml_X4_112 H ⟨Nat.le_of_ble_eq_true rfl, Nat.le_of_ble_eq_true rfl⟩ (Nat.le_of_ble_eq_true rfl) dX4_put_44 (fun u9 H => ?_)
        refine z_iconst (v := 1) X dX4_put_47 (by decide) ?_
        exact z_iret X dX4_put_48 H
      · have H := H.2 q7
        refine z_bipush (v := -2) X dX4_put_33 (by decide) ?_
        exact z_iret X dX4_put_35 H
  · have H := H.2 q3
    refine z_iload X dX4_put_12 0 rfl ?_
    exact z_iret X dX4_put_14 H
theorem k_X4_put {g : zE} {κ : zK} {h : zH} (hh : zDT κ h) {u : TS} {Φ : TS → Option Value → Prop} {cc : ByteArray} {nL : Nat} {own : String} {ret : Option FieldType} {rm : Room} {lv : List (Nat × Value)} {pc : Nat} {st : List Value} {idx N : Nat} {a1 : Int32} {a2 : Int32} {a3 : Int64} {P : TS → Int32 → Prop} (X : zC g κ (hsT h) (wT κ h) cc nL own ret rm) (hml : Cond.methodLink own idx yX4_put ∈ zT) (H : w_X4_put N u a1 a2 a3 P) (hR : 4 + 1 ≤ rm.frames ∧ 8 + (6 + 11) + 86 ≤ rm.locals) (hroom : (st.map fun v => v.category).sum ≤ 8) (d : decode cc pc = .ok (.invokevirtual idx, 3)) (kk : ∀ u1 v, P u1 v → zJ g κ (hsT h) (wT κ h) Φ nL u1 lv (pc + 3) (.int v :: st)) : zJ g κ (hsT h) (wT κ h) Φ nL u lv pc (.long a3 :: .int a2 :: .int a1 :: .ref h.1 :: st) := z_callV (As := [.int a1, .int a2, .long a3]) X yy_X4_put hml im_X4_put se_X4_put (c_X4_put hh N u a1 a2 a3 P H) 3 0 rfl rfl rfl ⟨rfl, rfl⟩ hR rfl hroom d (fun u1 r hz => by obtain ⟨v, hr, hP⟩ := hz; subst hr; exact kk u1 v hP)
def w_X4_word (N : Nat) (u : TS) (a1 : Int32) (P : TS → Int64 → Prop) : Prop := (w_X3_at N u a1 fun u2 r1 => (P u2 r1))
set_option maxHeartbeats 4000000 in
set_option maxRecDepth 100000 in
theorem c_X4_word {l : Launch} {κ : zK} {h : zH} (hh : zDT κ h) (N : Nat) (u : TS) (a1 : Int32) (P : TS → Int64 → Prop) (H : w_X4_word N u a1 P) : zM l κ (hsT h) (wT κ h) yX4_word cX4_word 2 (some .long) { frames := 1, cells := 0, slots := 0, locals := 21 } [.ref h.1, .int a1] u (zl P) := by
  refine z_met (own := RX4) (by decide) rfl (Nat.le_of_ble_eq_true rfl) hh (fun g X => ?_)
  show zJ g κ (hsT h) (wT κ h) (zl P) 2 u [(0, .ref h.1), (1, .int a1)] 0 []
  unfold w_X4_word at H
  refine z_aload_n X dX4_word_0 0 rfl rfl ?_
  refine gf_X4_12 X dX4_word_1 ?_
  refine z_iload_n X dX4_word_4 1 rfl rfl ?_
  refine k_X3_at hh X ml_X4_116 H ⟨Nat.le_of_ble_eq_true rfl, Nat.le_of_ble_eq_true rfl⟩ (Nat.le_of_ble_eq_true rfl) dX4_word_5 (fun u2 r1 H => ?_)
  exact z_lret X dX4_word_8 H
theorem k_X4_word {g : zE} {κ : zK} {h : zH} (hh : zDT κ h) {u : TS} {Φ : TS → Option Value → Prop} {cc : ByteArray} {nL : Nat} {own : String} {ret : Option FieldType} {rm : Room} {lv : List (Nat × Value)} {pc : Nat} {st : List Value} {idx N : Nat} {a1 : Int32} {P : TS → Int64 → Prop} (X : zC g κ (hsT h) (wT κ h) cc nL own ret rm) (hml : Cond.methodLink own idx yX4_word ∈ zT) (H : w_X4_word N u a1 P) (hR : 1 + 1 ≤ rm.frames ∧ 8 + (2 + 11) + 21 ≤ rm.locals) (hroom : (st.map fun v => v.category).sum ≤ 8) (d : decode cc pc = .ok (.invokevirtual idx, 3)) (kk : ∀ u1 v, P u1 v → zJ g κ (hsT h) (wT κ h) Φ nL u1 lv (pc + 3) (.long v :: st)) : zJ g κ (hsT h) (wT κ h) Φ nL u lv pc (.int a1 :: .ref h.1 :: st) := z_callV (As := [.int a1]) X yy_X4_word hml im_X4_word se_X4_word (c_X4_word hh N u a1 P H) 3 0 rfl rfl rfl ⟨rfl, rfl⟩ hR rfl hroom d (fun u1 r hz => by obtain ⟨v, hr, hP⟩ := hz; subst hr; exact kk u1 v hP)
def w_X4_spoil (N : Nat) (u : TS) (a1 : Int32) (a2 : Int64) (P : TS → Int32 → Prop) : Prop := (w_X3_has N u a1 fun u2 r1 => ((r1 = 0 → (P u2 (-2 : Int32))) ∧ (¬ r1 = 0 → (w_X3_lay N u2 a1 a2 fun u5 => (zlet (sSp u5.1 (1 : Int32), u5.2) fun u6 => (P u6 (1 : Int32)))))))
set_option maxHeartbeats 4000000 in
set_option maxRecDepth 100000 in
theorem c_X4_spoil {l : Launch} {κ : zK} {h : zH} (hh : zDT κ h) (N : Nat) (u : TS) (a1 : Int32) (a2 : Int64) (P : TS → Int32 → Prop) (H : w_X4_spoil N u a1 a2 P) : zM l κ (hsT h) (wT κ h) yX4_spoil cX4_spoil 4 (some .int) { frames := 1, cells := 0, slots := 0, locals := 23 } [.ref h.1, .int a1, .long a2] u (zi P) := by
  refine z_met (own := RX4) (by decide) rfl (Nat.le_of_ble_eq_true rfl) hh (fun g X => ?_)
  show zJ g κ (hsT h) (wT κ h) (zi P) 4 u [(0, .ref h.1), (1, .int a1), (2, .long a2)] 0 []
  unfold w_X4_spoil at H
  refine z_aload_n X dX4_spoil_0 0 rfl rfl ?_
  refine gf_X4_12 X dX4_spoil_1 ?_
  refine z_iload_n X dX4_spoil_4 1 rfl rfl ?_
  refine k_X3_has hh X ml_X4_120 H ⟨Nat.le_of_ble_eq_true rfl, Nat.le_of_ble_eq_true rfl⟩ (Nat.le_of_ble_eq_true rfl) dX4_spoil_5 (fun u2 r1 H => ?_)
  refine z_if_ne (tgt := 14) X dX4_spoil_8 (by decide) (fun q3 => ?_) (fun q3 => ?_)
  · have H := H.2 q3
    refine z_aload_n X dX4_spoil_14 0 rfl rfl ?_
    refine gf_X4_12 X dX4_spoil_15 ?_
    refine z_iload_n X dX4_spoil_18 1 rfl rfl ?_
    refine z_lload_n X dX4_spoil_19 2 rfl rfl ?_
    refine k_X3_lay hh X ml_X4_112 H ⟨Nat.le_of_ble_eq_true rfl, Nat.le_of_ble_eq_true rfl⟩ (Nat.le_of_ble_eq_true rfl) dX4_spoil_20 (fun u5 H => ?_)
    refine z_aload_n X dX4_spoil_23 0 rfl rfl ?_
    refine z_iconst (v := 1) X dX4_spoil_24 (by decide) ?_
    refine pf_X4_42 X ⟨rfl, rfl⟩ dX4_spoil_25 H (fun u6 H => ?_)
    refine z_iconst (v := 1) X dX4_spoil_28 (by decide) ?_
    exact z_iret X dX4_spoil_29 H
  · have H := H.1 q3
    refine z_bipush (v := -2) X dX4_spoil_11 (by decide) ?_
    exact z_iret X dX4_spoil_13 H
theorem k_X4_spoil {g : zE} {κ : zK} {h : zH} (hh : zDT κ h) {u : TS} {Φ : TS → Option Value → Prop} {cc : ByteArray} {nL : Nat} {own : String} {ret : Option FieldType} {rm : Room} {lv : List (Nat × Value)} {pc : Nat} {st : List Value} {idx N : Nat} {a1 : Int32} {a2 : Int64} {P : TS → Int32 → Prop} (X : zC g κ (hsT h) (wT κ h) cc nL own ret rm) (hml : Cond.methodLink own idx yX4_spoil ∈ zT) (H : w_X4_spoil N u a1 a2 P) (hR : 1 + 1 ≤ rm.frames ∧ 8 + (4 + 11) + 23 ≤ rm.locals) (hroom : (st.map fun v => v.category).sum ≤ 8) (d : decode cc pc = .ok (.invokevirtual idx, 3)) (kk : ∀ u1 v, P u1 v → zJ g κ (hsT h) (wT κ h) Φ nL u1 lv (pc + 3) (.int v :: st)) : zJ g κ (hsT h) (wT κ h) Φ nL u lv pc (.long a2 :: .int a1 :: .ref h.1 :: st) := z_callV (As := [.int a1, .long a2]) X yy_X4_spoil hml im_X4_spoil se_X4_spoil (c_X4_spoil hh N u a1 a2 P H) 3 0 rfl rfl rfl ⟨rfl, rfl⟩ hR rfl hroom d (fun u1 r hz => by obtain ⟨v, hr, hP⟩ := hz; subst hr; exact kk u1 v hP)
def w_X4_check (N : Nat) (u : TS) (P : TS → Int32 → Prop) : Prop := (w_X0_run N u fun u2 r1 => ((r1 = 0 → (zlet (sSp u2.1 (0 : Int32), u2.2) fun u4 => (P u4 r1))) ∧ (¬ r1 = 0 → (P u2 r1))))
set_option maxHeartbeats 4000000 in
set_option maxRecDepth 100000 in
theorem c_X4_check {l : Launch} {κ : zK} {h : zH} (hh : zDT κ h) (N : Nat) (u : TS) (P : TS → Int32 → Prop) (H : w_X4_check N u P) : zM l κ (hsT h) (wT κ h) yX4_check cX4_check 2 (some .int) { frames := 6, cells := 0, slots := 0, locals := 134 } [.ref h.1] u (zi P) := by
  refine z_met (own := RX4) (by decide) rfl (Nat.le_of_ble_eq_true rfl) hh (fun g X => ?_)
  show zJ g κ (hsT h) (wT κ h) (zi P) 2 u [(0, .ref h.1)] 0 []
  unfold w_X4_check at H
  refine z_aload_n X dX4_check_0 0 rfl rfl ?_
  refine gf_X4_30 X dX4_check_1 ?_
  refine k_X0_run hh X ml_X4_123 H ⟨Nat.le_of_ble_eq_true rfl, Nat.le_of_ble_eq_true rfl⟩ (Nat.le_of_ble_eq_true rfl) dX4_check_4 (fun u2 r1 H => ?_)
  refine z_istore_n (lv' := [(1, .int r1), (0, .ref h.1)]) X dX4_check_7 rfl (by decide) rfl ?_
  refine z_iload_n X dX4_check_8 0 rfl rfl ?_
  refine z_if_ne (tgt := 17) X dX4_check_9 (by decide) (fun q3 => ?_) (fun q3 => ?_)
  · have H := H.2 q3
    refine z_iload_n X dX4_check_17 0 rfl rfl ?_
    exact z_iret X dX4_check_18 H
  · have H := H.1 q3
    refine z_aload_n X dX4_check_12 1 rfl rfl ?_
    refine z_iconst (v := 0) X dX4_check_13 (by decide) ?_
    refine pf_X4_42 X ⟨rfl, rfl⟩ dX4_check_14 H (fun u4 H => ?_)
    refine z_iload_n X dX4_check_17 0 rfl rfl ?_
    exact z_iret X dX4_check_18 H
theorem k_X4_check {g : zE} {κ : zK} {h : zH} (hh : zDT κ h) {u : TS} {Φ : TS → Option Value → Prop} {cc : ByteArray} {nL : Nat} {own : String} {ret : Option FieldType} {rm : Room} {lv : List (Nat × Value)} {pc : Nat} {st : List Value} {idx N : Nat}  {P : TS → Int32 → Prop} (X : zC g κ (hsT h) (wT κ h) cc nL own ret rm) (hml : Cond.methodLink own idx yX4_check ∈ zT) (H : w_X4_check N u P) (hR : 6 + 1 ≤ rm.frames ∧ 8 + (2 + 11) + 134 ≤ rm.locals) (hroom : (st.map fun v => v.category).sum ≤ 8) (d : decode cc pc = .ok (.invokevirtual idx, 3)) (kk : ∀ u1 v, P u1 v → zJ g κ (hsT h) (wT κ h) Φ nL u1 lv (pc + 3) (.int v :: st)) : zJ g κ (hsT h) (wT κ h) Φ nL u lv pc (.ref h.1 :: st) := z_callV (As := []) X yy_X4_check hml im_X4_check se_X4_check (c_X4_check hh N u P H) 3 0 rfl rfl rfl ⟨rfl, rfl⟩ hR rfl hroom d (fun u1 r hz => by obtain ⟨v, hr, hP⟩ := hz; subst hr; exact kk u1 v hP)
def w_X4_where (N : Nat) (u : TS) (P : TS → Int32 → Prop) : Prop := (P u (u.1.2.2.2.2.2.2))
set_option maxHeartbeats 4000000 in
set_option maxRecDepth 100000 in
theorem c_X4_where {l : Launch} {κ : zK} {h : zH} (hh : zDT κ h) (N : Nat) (u : TS) (P : TS → Int32 → Prop) (H : w_X4_where N u P) : zM l κ (hsT h) (wT κ h) yX4_where cX4_where 1 (some .int) { frames := 0, cells := 0, slots := 0, locals := 0 } [.ref h.1] u (zi P) := by
  refine z_met (own := RX4) (by decide) rfl (Nat.le_of_ble_eq_true rfl) hh (fun g X => ?_)
  show zJ g κ (hsT h) (wT κ h) (zi P) 1 u [(0, .ref h.1)] 0 []
  unfold w_X4_where at H
  refine z_aload_n X dX4_where_0 0 rfl rfl ?_
  refine gf_X4_30 X dX4_where_1 ?_
  refine gf_X4_126 X dX4_where_4 ?_
  exact z_iret X dX4_where_7 H
theorem k_X4_where {g : zE} {κ : zK} {h : zH} (hh : zDT κ h) {u : TS} {Φ : TS → Option Value → Prop} {cc : ByteArray} {nL : Nat} {own : String} {ret : Option FieldType} {rm : Room} {lv : List (Nat × Value)} {pc : Nat} {st : List Value} {idx N : Nat}  {P : TS → Int32 → Prop} (X : zC g κ (hsT h) (wT κ h) cc nL own ret rm) (hml : Cond.methodLink own idx yX4_where ∈ zT) (H : w_X4_where N u P) (hR : 0 + 1 ≤ rm.frames ∧ 8 + (1 + 11) + 0 ≤ rm.locals) (hroom : (st.map fun v => v.category).sum ≤ 8) (d : decode cc pc = .ok (.invokevirtual idx, 3)) (kk : ∀ u1 v, P u1 v → zJ g κ (hsT h) (wT κ h) Φ nL u1 lv (pc + 3) (.int v :: st)) : zJ g κ (hsT h) (wT κ h) Φ nL u lv pc (.ref h.1 :: st) := z_callV (As := []) X yy_X4_where hml im_X4_where se_X4_where (c_X4_where hh N u P H) 3 0 rfl rfl rfl ⟨rfl, rfl⟩ hR rfl hroom d (fun u1 r hz => by obtain ⟨v, hr, hP⟩ := hz; subst hr; exact kk u1 v hP)
def w_X4_classOf (N : Nat) (u : TS) (a1 : Int32) (a2 : Int32) (P : TS → Int32 → Prop) : Prop := ((a1 < (1 : Int32) → (P u (-2 : Int32))) ∧ (¬ a1 < (1 : Int32) → (((4095 : Int32) < a1 → (P u (-2 : Int32))) ∧ (¬ (4095 : Int32) < a1 → ((a2 = 0 → (w_X1_ofBody N a1 fun r4 => (P u r4))) ∧ (¬ a2 = 0 → (w_X1_ofWish N a1 fun r6 => (P u r6))))))))
set_option maxHeartbeats 4000000 in
set_option maxRecDepth 100000 in
theorem c_X4_classOf {l : Launch} {κ : zK} {h : zH} (hh : zDT κ h) (N : Nat) (u : TS) (a1 : Int32) (a2 : Int32) (P : TS → Int32 → Prop) (H : w_X4_classOf N u a1 a2 P) : zM l κ (hsT h) (wT κ h) yX4_classOf cX4_classOf 3 (some .int) { frames := 4, cells := 0, slots := 0, locals := 83 } [.ref h.1, .int a1, .int a2] u (zi P) := by
  refine z_met (own := RX4) (by decide) rfl (Nat.le_of_ble_eq_true rfl) hh (fun g X => ?_)
  show zJ g κ (hsT h) (wT κ h) (zi P) 3 u [(0, .ref h.1), (1, .int a1), (2, .int a2)] 0 []
  unfold w_X4_classOf at H
  refine z_iload_n X dX4_classOf_0 1 rfl rfl ?_
  refine z_iconst (v := 1) X dX4_classOf_1 (by decide) ?_
  refine z_icmp_lt (tgt := 12) X dX4_classOf_2 (by decide) (fun q1 => ?_) (fun q1 => ?_)
  · have H := H.1 q1
    refine z_bipush (v := -2) X dX4_classOf_12 (by decide) ?_
    exact z_iret X dX4_classOf_14 H
  · have H := H.2 q1
    refine z_iload_n X dX4_classOf_5 1 rfl rfl ?_
    refine z_sipush (v := 4095) X dX4_classOf_6 (by decide) ?_
    refine z_icmp_le (tgt := 15) X dX4_classOf_9 (by decide) (fun q2 => ?_) (fun q2 => ?_)
    · have H := H.2 q2
      refine z_iload_n X dX4_classOf_15 2 rfl rfl ?_
      refine z_if_eq (tgt := 26) X dX4_classOf_16 (by decide) (fun q3 => ?_) (fun q3 => ?_)
      · have H := H.1 q3
        refine z_iload_n X dX4_classOf_26 1 rfl rfl ?_
        refine k_X1_ofBody X ml_X4_134 H ⟨Nat.le_of_ble_eq_true rfl, Nat.le_of_ble_eq_true rfl⟩ (Nat.le_of_ble_eq_true rfl) dX4_classOf_27 (fun r4 H => ?_)
        exact z_iret X dX4_classOf_30 H
      · have H := H.2 q3
        refine z_iload_n X dX4_classOf_19 1 rfl rfl ?_
        refine k_X1_ofWish X ml_X4_129 H ⟨Nat.le_of_ble_eq_true rfl, Nat.le_of_ble_eq_true rfl⟩ (Nat.le_of_ble_eq_true rfl) dX4_classOf_20 (fun r6 H => ?_)
        refine z_goto (tgt := 30) X dX4_classOf_23 (by decide) ?_
        exact z_iret X dX4_classOf_30 H
    · have H := H.1 q2
      refine z_bipush (v := -2) X dX4_classOf_12 (by decide) ?_
      exact z_iret X dX4_classOf_14 H
theorem k_X4_classOf {g : zE} {κ : zK} {h : zH} (hh : zDT κ h) {u : TS} {Φ : TS → Option Value → Prop} {cc : ByteArray} {nL : Nat} {own : String} {ret : Option FieldType} {rm : Room} {lv : List (Nat × Value)} {pc : Nat} {st : List Value} {idx N : Nat} {a1 : Int32} {a2 : Int32} {P : TS → Int32 → Prop} (X : zC g κ (hsT h) (wT κ h) cc nL own ret rm) (hml : Cond.methodLink own idx yX4_classOf ∈ zT) (H : w_X4_classOf N u a1 a2 P) (hR : 4 + 1 ≤ rm.frames ∧ 8 + (3 + 11) + 83 ≤ rm.locals) (hroom : (st.map fun v => v.category).sum ≤ 8) (d : decode cc pc = .ok (.invokevirtual idx, 3)) (kk : ∀ u1 v, P u1 v → zJ g κ (hsT h) (wT κ h) Φ nL u1 lv (pc + 3) (.int v :: st)) : zJ g κ (hsT h) (wT κ h) Φ nL u lv pc (.int a2 :: .int a1 :: .ref h.1 :: st) := z_callV (As := [.int a1, .int a2]) X yy_X4_classOf hml im_X4_classOf se_X4_classOf (c_X4_classOf hh N u a1 a2 P H) 3 0 rfl rfl rfl ⟨rfl, rfl⟩ hR rfl hroom d (fun u1 r hz => by obtain ⟨v, hr, hP⟩ := hz; subst hr; exact kk u1 v hP)
def w_X4_listed (N : Nat) (u : TS) (a1 : Int32) (a2 : Int32) (P : TS → Int32 → Prop) : Prop := ((a1 < 0 → (P u (-2 : Int32))) ∧ (¬ a1 < 0 → ((a1 < (72 : Int32) → ((a2 < 0 → (P u (-2 : Int32))) ∧ (¬ a2 < 0 → (((u.1.2.2.2.2.2.1) = 0 → (w_X2_placeInList N u a1 a2 fun u6 r5 => (P u6 r5))) ∧ (¬ (u.1.2.2.2.2.2.1) = 0 → (P u (-3 : Int32))))))) ∧ (¬ a1 < (72 : Int32) → (P u (-2 : Int32))))))
set_option maxHeartbeats 4000000 in
set_option maxRecDepth 100000 in
theorem c_X4_listed {l : Launch} {κ : zK} {h : zH} (hh : zDT κ h) (N : Nat) (u : TS) (a1 : Int32) (a2 : Int32) (P : TS → Int32 → Prop) (H : w_X4_listed N u a1 a2 P) : zM l κ (hsT h) (wT κ h) yX4_listed cX4_listed 3 (some .int) { frames := 2, cells := 0, slots := 0, locals := 45 } [.ref h.1, .int a1, .int a2] u (zi P) := by
  refine z_met (own := RX4) (by decide) rfl (Nat.le_of_ble_eq_true rfl) hh (fun g X => ?_)
  show zJ g κ (hsT h) (wT κ h) (zi P) 3 u [(0, .ref h.1), (1, .int a1), (2, .int a2)] 0 []
  unfold w_X4_listed at H
  refine z_iload_n X dX4_listed_0 1 rfl rfl ?_
  refine z_if_lt (tgt := 14) X dX4_listed_1 (by decide) (fun q1 => ?_) (fun q1 => ?_)
  · have H := H.1 q1
    refine z_bipush (v := -2) X dX4_listed_14 (by decide) ?_
    exact z_iret X dX4_listed_16 H
  · have H := H.2 q1
    refine z_iload_n X dX4_listed_4 1 rfl rfl ?_
    refine z_bipush (v := 72) X dX4_listed_5 (by decide) ?_
    refine z_icmp_ge (tgt := 14) X dX4_listed_7 (by decide) (fun q2 => ?_) (fun q2 => ?_)
    · have H := H.2 q2
      refine z_bipush (v := -2) X dX4_listed_14 (by decide) ?_
      exact z_iret X dX4_listed_16 H
    · have H := H.1 q2
      refine z_iload_n X dX4_listed_10 2 rfl rfl ?_
      refine z_if_ge (tgt := 17) X dX4_listed_11 (by decide) (fun q3 => ?_) (fun q3 => ?_)
      · have H := H.2 q3
        refine z_aload_n X dX4_listed_17 0 rfl rfl ?_
        refine gf_X4_42 X dX4_listed_18 ?_
        refine z_if_eq (tgt := 27) X dX4_listed_21 (by decide) (fun q4 => ?_) (fun q4 => ?_)
        · have H := H.1 q4
          refine z_aload_n X dX4_listed_27 0 rfl rfl ?_
          refine gf_X4_21 X dX4_listed_28 ?_
          refine z_iload_n X dX4_listed_31 1 rfl rfl ?_
          refine z_iload_n X dX4_listed_32 2 rfl rfl ?_
          refine k_X2_placeInList hh X ml_X4_137 H ⟨Nat.le_of_ble_eq_true rfl, Nat.le_of_ble_eq_true rfl⟩ (Nat.le_of_ble_eq_true rfl) dX4_listed_33 (fun u6 r5 H => ?_)
          exact z_iret X dX4_listed_36 H
        · have H := H.2 q4
          refine z_bipush (v := -3) X dX4_listed_24 (by decide) ?_
          exact z_iret X dX4_listed_26 H
      · have H := H.1 q3
        refine z_bipush (v := -2) X dX4_listed_14 (by decide) ?_
        exact z_iret X dX4_listed_16 H
theorem k_X4_listed {g : zE} {κ : zK} {h : zH} (hh : zDT κ h) {u : TS} {Φ : TS → Option Value → Prop} {cc : ByteArray} {nL : Nat} {own : String} {ret : Option FieldType} {rm : Room} {lv : List (Nat × Value)} {pc : Nat} {st : List Value} {idx N : Nat} {a1 : Int32} {a2 : Int32} {P : TS → Int32 → Prop} (X : zC g κ (hsT h) (wT κ h) cc nL own ret rm) (hml : Cond.methodLink own idx yX4_listed ∈ zT) (H : w_X4_listed N u a1 a2 P) (hR : 2 + 1 ≤ rm.frames ∧ 8 + (3 + 11) + 45 ≤ rm.locals) (hroom : (st.map fun v => v.category).sum ≤ 8) (d : decode cc pc = .ok (.invokevirtual idx, 3)) (kk : ∀ u1 v, P u1 v → zJ g κ (hsT h) (wT κ h) Φ nL u1 lv (pc + 3) (.int v :: st)) : zJ g κ (hsT h) (wT κ h) Φ nL u lv pc (.int a2 :: .int a1 :: .ref h.1 :: st) := z_callV (As := [.int a1, .int a2]) X yy_X4_listed hml im_X4_listed se_X4_listed (c_X4_listed hh N u a1 a2 P H) 3 0 rfl rfl rfl ⟨rfl, rfl⟩ hR rfl hroom d (fun u1 r hz => by obtain ⟨v, hr, hP⟩ := hz; subst hr; exact kk u1 v hP)
def w_X4_bits (N : Nat) (u : TS) (a1 : Int32) (P : TS → Int32 → Prop) : Prop := ((a1 < 0 → (P u (-2 : Int32))) ∧ (¬ a1 < 0 → (((9 : Int32) < a1 → (P u (-2 : Int32))) ∧ (¬ (9 : Int32) < a1 → ((a1 = (9 : Int32) → (w_X2_levelBits N u fun u7 r6 => (P u7 r6))) ∧ (¬ a1 = (9 : Int32) → (w_X2_stepBits N u a1 fun u5 r4 => (P u5 r4))))))))
set_option maxHeartbeats 4000000 in
set_option maxRecDepth 100000 in
theorem c_X4_bits {l : Launch} {κ : zK} {h : zH} (hh : zDT κ h) (N : Nat) (u : TS) (a1 : Int32) (P : TS → Int32 → Prop) (H : w_X4_bits N u a1 P) : zM l κ (hsT h) (wT κ h) yX4_bits cX4_bits 2 (some .int) { frames := 3, cells := 0, slots := 0, locals := 66 } [.ref h.1, .int a1] u (zi P) := by
  refine z_met (own := RX4) (by decide) rfl (Nat.le_of_ble_eq_true rfl) hh (fun g X => ?_)
  show zJ g κ (hsT h) (wT κ h) (zi P) 2 u [(0, .ref h.1), (1, .int a1)] 0 []
  unfold w_X4_bits at H
  refine z_iload_n X dX4_bits_0 1 rfl rfl ?_
  refine z_if_lt (tgt := 10) X dX4_bits_1 (by decide) (fun q1 => ?_) (fun q1 => ?_)
  · have H := H.1 q1
    refine z_bipush (v := -2) X dX4_bits_10 (by decide) ?_
    exact z_iret X dX4_bits_12 H
  · have H := H.2 q1
    refine z_iload_n X dX4_bits_4 1 rfl rfl ?_
    refine z_bipush (v := 9) X dX4_bits_5 (by decide) ?_
    refine z_icmp_le (tgt := 13) X dX4_bits_7 (by decide) (fun q2 => ?_) (fun q2 => ?_)
    · have H := H.2 q2
      refine z_iload_n X dX4_bits_13 1 rfl rfl ?_
      refine z_bipush (v := 9) X dX4_bits_14 (by decide) ?_
      refine z_icmp_ne (tgt := 29) X dX4_bits_16 (by decide) (fun q3 => ?_) (fun q3 => ?_)
      · have H := H.2 q3
        refine z_aload_n X dX4_bits_29 0 rfl rfl ?_
        refine gf_X4_21 X dX4_bits_30 ?_
        refine z_iload_n X dX4_bits_33 1 rfl rfl ?_
        refine k_X2_stepBits hh X ml_X4_143 H ⟨Nat.le_of_ble_eq_true rfl, Nat.le_of_ble_eq_true rfl⟩ (Nat.le_of_ble_eq_true rfl) dX4_bits_34 (fun u5 r4 H => ?_)
        exact z_iret X dX4_bits_37 H
      · have H := H.1 q3
        refine z_aload_n X dX4_bits_19 0 rfl rfl ?_
        refine gf_X4_21 X dX4_bits_20 ?_
        refine k_X2_levelBits hh X ml_X4_140 H ⟨Nat.le_of_ble_eq_true rfl, Nat.le_of_ble_eq_true rfl⟩ (Nat.le_of_ble_eq_true rfl) dX4_bits_23 (fun u7 r6 H => ?_)
        refine z_goto (tgt := 37) X dX4_bits_26 (by decide) ?_
        exact z_iret X dX4_bits_37 H
    · have H := H.1 q2
      refine z_bipush (v := -2) X dX4_bits_10 (by decide) ?_
      exact z_iret X dX4_bits_12 H
theorem k_X4_bits {g : zE} {κ : zK} {h : zH} (hh : zDT κ h) {u : TS} {Φ : TS → Option Value → Prop} {cc : ByteArray} {nL : Nat} {own : String} {ret : Option FieldType} {rm : Room} {lv : List (Nat × Value)} {pc : Nat} {st : List Value} {idx N : Nat} {a1 : Int32} {P : TS → Int32 → Prop} (X : zC g κ (hsT h) (wT κ h) cc nL own ret rm) (hml : Cond.methodLink own idx yX4_bits ∈ zT) (H : w_X4_bits N u a1 P) (hR : 3 + 1 ≤ rm.frames ∧ 8 + (2 + 11) + 66 ≤ rm.locals) (hroom : (st.map fun v => v.category).sum ≤ 8) (d : decode cc pc = .ok (.invokevirtual idx, 3)) (kk : ∀ u1 v, P u1 v → zJ g κ (hsT h) (wT κ h) Φ nL u1 lv (pc + 3) (.int v :: st)) : zJ g κ (hsT h) (wT κ h) Φ nL u lv pc (.int a1 :: .ref h.1 :: st) := z_callV (As := [.int a1]) X yy_X4_bits hml im_X4_bits se_X4_bits (c_X4_bits hh N u a1 P H) 3 0 rfl rfl rfl ⟨rfl, rfl⟩ hR rfl hroom d (fun u1 r hz => by obtain ⟨v, hr, hP⟩ := hz; subst hr; exact kk u1 v hP)
def w_X4_headerOfBlock_42 (N : Nat) (P : TS → Int32 → Prop) (u : TS) (x1 : Int32) (x2 : Int32) : Prop := ((x1 < (512 : Int32) → (w_X3_has N u x2 fun u4 r3 => ((r3 = 0 → (P u4 (-1 : Int32))) ∧ (¬ r3 = 0 → (P u4 x2))))) ∧ (¬ x1 < (512 : Int32) → (P u (-1 : Int32))))
def w_X4_headerOfBlock_4 (N : Nat) (P : TS → Int32 → Prop) : Nat → TS → Int32 → Int32 → Int32 → Prop
  | 0, _, _, _, _ => False
  | n + 1, u, x1, x2, x3 => ((x3 < (512 : Int32) → ((x3 < x1 → ((x2 < (u.1.2.1) → (w_X3_behind N u x2 fun u9 r8 => (w_X4_headerOfBlock_4 N P n u9 x1 r8 (x3 + (1 : Int32))))) ∧ (¬ x2 < (u.1.2.1) → (w_X4_headerOfBlock_42 N P u x1 x2)))) ∧ (¬ x3 < x1 → (w_X4_headerOfBlock_42 N P u x1 x2)))) ∧ (¬ x3 < (512 : Int32) → (w_X4_headerOfBlock_42 N P u x1 x2)))
def w_X4_headerOfBlock (N : Nat) (u : TS) (a1 : Int32) (P : TS → Int32 → Prop) : Prop := (w_X4_headerOfBlock_4 N P N u a1 (0 : Int32) (0 : Int32))
set_option maxHeartbeats 4000000 in
set_option maxRecDepth 100000 in
theorem j_X4_headerOfBlock_42 {κ : zK} {h : zH} (hh : zDT κ h) (N : Nat) {g : zE} (X : zC g κ (hsT h) (wT κ h) cX4_headerOfBlock 4 RX4 (some .int) { frames := 2, cells := 0, slots := 0, locals := 42 }) (P : TS → Int32 → Prop) (u : TS) (x1 : Int32) (x2 : Int32) (H : w_X4_headerOfBlock_42 N P u x1 x2) : zJ g κ (hsT h) (wT κ h) (zi P) 4 u [(0, .ref h.1), (1, .int x1), (2, .int x2)] 42 [] := by
  unfold w_X4_headerOfBlock_42 at H
  refine z_iload_n X dX4_headerOfBlock_42 1 rfl rfl ?_
  refine z_sipush (v := 512) X dX4_headerOfBlock_43 (by decide) ?_
  refine z_icmp_ge (tgt := 64) X dX4_headerOfBlock_46 (by decide) (fun q2 => ?_) (fun q2 => ?_)
  · have H := H.2 q2
    refine z_iconst (v := -1) X dX4_headerOfBlock_64 (by decide) ?_
    exact z_iret X dX4_headerOfBlock_65 H
  · have H := H.1 q2
    refine z_aload_n X dX4_headerOfBlock_49 0 rfl rfl ?_
    refine gf_X4_12 X dX4_headerOfBlock_50 ?_
    refine z_iload_n X dX4_headerOfBlock_53 2 rfl rfl ?_
    refine k_X3_has hh X ml_X4_120 H ⟨Nat.le_of_ble_eq_true rfl, Nat.le_of_ble_eq_true rfl⟩ (Nat.le_of_ble_eq_true rfl) dX4_headerOfBlock_54 (fun u4 r3 H => ?_)
    refine z_if_eq (tgt := 64) X dX4_headerOfBlock_57 (by decide) (fun q5 => ?_) (fun q5 => ?_)
    · have H := H.1 q5
      refine z_iconst (v := -1) X dX4_headerOfBlock_64 (by decide) ?_
      exact z_iret X dX4_headerOfBlock_65 H
    · have H := H.2 q5
      refine z_iload_n X dX4_headerOfBlock_60 2 rfl rfl ?_
      refine z_goto (tgt := 65) X dX4_headerOfBlock_61 (by decide) ?_
      exact z_iret X dX4_headerOfBlock_65 H
set_option maxHeartbeats 4000000 in
set_option maxRecDepth 100000 in
theorem j_X4_headerOfBlock_4 {κ : zK} {h : zH} (hh : zDT κ h) (N : Nat) {g : zE} (X : zC g κ (hsT h) (wT κ h) cX4_headerOfBlock 4 RX4 (some .int) { frames := 2, cells := 0, slots := 0, locals := 42 }) (P : TS → Int32 → Prop) : ∀ (n : Nat) (u : TS) (x1 : Int32) (x2 : Int32) (x3 : Int32), w_X4_headerOfBlock_4 N P n u x1 x2 x3 → zJ g κ (hsT h) (wT κ h) (zi P) 4 u [(0, .ref h.1), (1, .int x1), (2, .int x2), (3, .int x3)] 4 [] := by
  intro n
  induction n with
  | zero => intro u x1 x2 x3 H; exact absurd H (by rw [w_X4_headerOfBlock_4]; exact id)
  | succ n ih =>
    intro u x1 x2 x3 H
    rw [w_X4_headerOfBlock_4] at H
    refine z_iload_n X dX4_headerOfBlock_4 3 rfl rfl ?_
    refine z_sipush (v := 512) X dX4_headerOfBlock_5 (by decide) ?_
    refine z_icmp_ge (tgt := 42) X dX4_headerOfBlock_8 (by decide) (fun q1 => ?_) (fun q1 => ?_)
    · have H := H.2 q1
      exact z_sub (j_X4_headerOfBlock_42 hh N X P u x1 x2 H) [0, 1, 2] rfl
    · have H := H.1 q1
      refine z_iload_n X dX4_headerOfBlock_11 3 rfl rfl ?_
      refine z_iload_n X dX4_headerOfBlock_12 1 rfl rfl ?_
      refine z_icmp_ge (tgt := 42) X dX4_headerOfBlock_13 (by decide) (fun q6 => ?_) (fun q6 => ?_)
      · have H := H.2 q6
        exact z_sub (j_X4_headerOfBlock_42 hh N X P u x1 x2 H) [0, 1, 2] rfl
      · have H := H.1 q6
        refine z_iload_n X dX4_headerOfBlock_16 2 rfl rfl ?_
        refine z_aload_n X dX4_headerOfBlock_17 0 rfl rfl ?_
        refine gf_X4_12 X dX4_headerOfBlock_18 ?_
        refine gf_X4_98 X dX4_headerOfBlock_21 ?_
        refine z_icmp_ge (tgt := 42) X dX4_headerOfBlock_24 (by decide) (fun q7 => ?_) (fun q7 => ?_)
        · have H := H.2 q7
          exact z_sub (j_X4_headerOfBlock_42 hh N X P u x1 x2 H) [0, 1, 2] rfl
        · have H := H.1 q7
          refine z_aload_n X dX4_headerOfBlock_27 0 rfl rfl ?_
          refine gf_X4_12 X dX4_headerOfBlock_28 ?_
          refine z_iload_n X dX4_headerOfBlock_31 2 rfl rfl ?_
          refine k_X3_behind hh X ml_X4_181 H ⟨Nat.le_of_ble_eq_true rfl, Nat.le_of_ble_eq_true rfl⟩ (Nat.le_of_ble_eq_true rfl) dX4_headerOfBlock_32 (fun u9 r8 H => ?_)
          refine z_istore_n (lv' := [(2, .int r8), (0, .ref h.1), (1, .int x1), (3, .int x3)]) X dX4_headerOfBlock_35 rfl (by decide) rfl ?_
          refine z_iinc (k := 3) (v := (x3 + (1 : Int32))) (lv' := [(3, .int (x3 + (1 : Int32))), (2, .int r8), (0, .ref h.1), (1, .int x1)]) X dX4_headerOfBlock_36 rfl rfl (by decide) rfl ?_
          refine z_goto (tgt := 4) X dX4_headerOfBlock_39 (by decide) ?_
          exact z_sub (ih u9 x1 r8 (x3 + (1 : Int32)) H) [2, 3, 1, 0] rfl
set_option maxHeartbeats 4000000 in
set_option maxRecDepth 100000 in
theorem c_X4_headerOfBlock {l : Launch} {κ : zK} {h : zH} (hh : zDT κ h) (N : Nat) (u : TS) (a1 : Int32) (P : TS → Int32 → Prop) (H : w_X4_headerOfBlock N u a1 P) : zM l κ (hsT h) (wT κ h) yX4_headerOfBlock cX4_headerOfBlock 4 (some .int) { frames := 2, cells := 0, slots := 0, locals := 42 } [.ref h.1, .int a1] u (zi P) := by
  refine z_met (own := RX4) (by decide) rfl (Nat.le_of_ble_eq_true rfl) hh (fun g X => ?_)
  show zJ g κ (hsT h) (wT κ h) (zi P) 4 u [(0, .ref h.1), (1, .int a1)] 0 []
  unfold w_X4_headerOfBlock at H
  refine z_iconst (v := 0) X dX4_headerOfBlock_0 (by decide) ?_
  refine z_istore_n (lv' := [(2, .int (0 : Int32)), (0, .ref h.1), (1, .int a1)]) X dX4_headerOfBlock_1 rfl (by decide) rfl ?_
  refine z_iconst (v := 0) X dX4_headerOfBlock_2 (by decide) ?_
  refine z_istore_n (lv' := [(3, .int (0 : Int32)), (2, .int (0 : Int32)), (0, .ref h.1), (1, .int a1)]) X dX4_headerOfBlock_3 rfl (by decide) rfl ?_
  exact z_sub (j_X4_headerOfBlock_4 hh N X P N u a1 (0 : Int32) (0 : Int32) H) [2, 3, 1, 0] rfl
theorem k_X4_headerOfBlock {g : zE} {κ : zK} {h : zH} (hh : zDT κ h) {u : TS} {Φ : TS → Option Value → Prop} {cc : ByteArray} {nL : Nat} {own : String} {ret : Option FieldType} {rm : Room} {lv : List (Nat × Value)} {pc : Nat} {st : List Value} {idx N : Nat} {a1 : Int32} {P : TS → Int32 → Prop} (X : zC g κ (hsT h) (wT κ h) cc nL own ret rm) (hml : Cond.methodLink own idx yX4_headerOfBlock ∈ zT) (H : w_X4_headerOfBlock N u a1 P) (hR : 2 + 1 ≤ rm.frames ∧ 8 + (4 + 11) + 42 ≤ rm.locals) (hroom : (st.map fun v => v.category).sum ≤ 8) (d : decode cc pc = .ok (.invokevirtual idx, 3)) (kk : ∀ u1 v, P u1 v → zJ g κ (hsT h) (wT κ h) Φ nL u1 lv (pc + 3) (.int v :: st)) : zJ g κ (hsT h) (wT κ h) Φ nL u lv pc (.int a1 :: .ref h.1 :: st) := z_callV (As := [.int a1]) X yy_X4_headerOfBlock hml im_X4_headerOfBlock se_X4_headerOfBlock (c_X4_headerOfBlock hh N u a1 P H) 3 0 rfl rfl rfl ⟨rfl, rfl⟩ hR rfl hroom d (fun u1 r hz => by obtain ⟨v, hr, hP⟩ := hz; subst hr; exact kk u1 v hP)
def w_X4_block (N : Nat) (u : TS) (a1 : Int32) (a2 : Int32) (P : TS → Int32 → Prop) : Prop := ((a1 < 0 → (P u (-2 : Int32))) ∧ (¬ a1 < 0 → ((a2 < 0 → (P u (-2 : Int32))) ∧ (¬ a2 < 0 → (((2 : Int32) < a2 → (P u (-2 : Int32))) ∧ (¬ (2 : Int32) < a2 → (((u.1.2.2.2.2.2.1) = 0 → (w_X4_headerOfBlock N u a1 fun u6 r5 => ((r5 = (-1 : Int32) → (P u6 (-1 : Int32))) ∧ (¬ r5 = (-1 : Int32) → ((a2 = 0 → (P u6 (r5 + (1 : Int32)))) ∧ (¬ a2 = 0 → ((a2 = 1 → (w_X3_bodyOf N u6 r5 fun u11 r10 => (P u11 r10))) ∧ (¬ a2 = 1 → (w_X3_isFree N u6 r5 fun u13 r12 => ((r12 = 0 → (P u13 (0 : Int32))) ∧ (¬ r12 = 0 → (P u13 (1 : Int32))))))))))))) ∧ (¬ (u.1.2.2.2.2.2.1) = 0 → (P u (-3 : Int32))))))))))
set_option maxHeartbeats 4000000 in
set_option maxRecDepth 100000 in
theorem c_X4_block {l : Launch} {κ : zK} {h : zH} (hh : zDT κ h) (N : Nat) (u : TS) (a1 : Int32) (a2 : Int32) (P : TS → Int32 → Prop) (H : w_X4_block N u a1 a2 P) : zM l κ (hsT h) (wT κ h) yX4_block cX4_block 4 (some .int) { frames := 3, cells := 0, slots := 0, locals := 65 } [.ref h.1, .int a1, .int a2] u (zi P) := by
  refine z_met (own := RX4) (by decide) rfl (Nat.le_of_ble_eq_true rfl) hh (fun g X => ?_)
  show zJ g κ (hsT h) (wT κ h) (zi P) 4 u [(0, .ref h.1), (1, .int a1), (2, .int a2)] 0 []
  unfold w_X4_block at H
  refine z_iload_n X dX4_block_0 1 rfl rfl ?_
  refine z_if_lt (tgt := 13) X dX4_block_1 (by decide) (fun q1 => ?_) (fun q1 => ?_)
  · have H := H.1 q1
    refine z_bipush (v := -2) X dX4_block_13 (by decide) ?_
    exact z_iret X dX4_block_15 H
  · have H := H.2 q1
    refine z_iload_n X dX4_block_4 2 rfl rfl ?_
    refine z_if_lt (tgt := 13) X dX4_block_5 (by decide) (fun q2 => ?_) (fun q2 => ?_)
    · have H := H.1 q2
      refine z_bipush (v := -2) X dX4_block_13 (by decide) ?_
      exact z_iret X dX4_block_15 H
    · have H := H.2 q2
      refine z_iload_n X dX4_block_8 2 rfl rfl ?_
      refine z_iconst (v := 2) X dX4_block_9 (by decide) ?_
      refine z_icmp_le (tgt := 16) X dX4_block_10 (by decide) (fun q3 => ?_) (fun q3 => ?_)
      · have H := H.2 q3
        refine z_aload_n X dX4_block_16 0 rfl rfl ?_
        refine gf_X4_42 X dX4_block_17 ?_
        refine z_if_eq (tgt := 26) X dX4_block_20 (by decide) (fun q4 => ?_) (fun q4 => ?_)
        · have H := H.1 q4
          refine z_aload_n X dX4_block_26 0 rfl rfl ?_
          refine z_iload_n X dX4_block_27 1 rfl rfl ?_
          refine k_X4_headerOfBlock hh X ml_X4_146 H ⟨Nat.le_of_ble_eq_true rfl, Nat.le_of_ble_eq_true rfl⟩ (Nat.le_of_ble_eq_true rfl) dX4_block_28 (fun u6 r5 H => ?_)
          refine z_istore_n (lv' := [(3, .int r5), (0, .ref h.1), (1, .int a1), (2, .int a2)]) X dX4_block_31 rfl (by decide) rfl ?_
          refine z_iload_n X dX4_block_32 0 rfl rfl ?_
          refine z_iconst (v := -1) X dX4_block_33 (by decide) ?_
          refine z_icmp_ne (tgt := 39) X dX4_block_34 (by decide) (fun q7 => ?_) (fun q7 => ?_)
          · have H := H.2 q7
            refine z_iload_n X dX4_block_39 3 rfl rfl ?_
            by_cases q8 : a2 = 0
            · have H := H.1 q8
              refine z_lookup (tgt := 68) (off := 28) X dX4_block_40 (by decide) (by rw [q8]; decide) (by decide) ?_
              refine z_iload_n X dX4_block_68 0 rfl rfl ?_
              refine z_iconst (v := 1) X dX4_block_69 (by decide) ?_
              refine z_iadd X dX4_block_70 ?_
              exact z_iret X dX4_block_71 H
            have H := H.2 q8
            by_cases q9 : a2 = 1
            · have H := H.1 q9
              refine z_lookup (tgt := 72) (off := 32) X dX4_block_40 (by decide) (by rw [q9]; decide) (by decide) ?_
              refine z_aload_n X dX4_block_72 1 rfl rfl ?_
              refine gf_X4_12 X dX4_block_73 ?_
              refine z_iload_n X dX4_block_76 0 rfl rfl ?_
              refine k_X3_bodyOf hh X ml_X4_89 H ⟨Nat.le_of_ble_eq_true rfl, Nat.le_of_ble_eq_true rfl⟩ (Nat.le_of_ble_eq_true rfl) dX4_block_77 (fun u11 r10 H => ?_)
              exact z_iret X dX4_block_80 H
            have H := H.2 q9
            refine z_lookup (tgt := 81) (off := 41) X dX4_block_40 (by decide) ((lv_osw (a := 0) q8 rfl).trans ((lv_osw (a := 1) q9 rfl).trans (rfl))) (by decide) ?_
            refine z_aload_n X dX4_block_81 1 rfl rfl ?_
            refine gf_X4_12 X dX4_block_82 ?_
            refine z_iload_n X dX4_block_85 0 rfl rfl ?_
            refine k_X3_isFree hh X ml_X4_105 H ⟨Nat.le_of_ble_eq_true rfl, Nat.le_of_ble_eq_true rfl⟩ (Nat.le_of_ble_eq_true rfl) dX4_block_86 (fun u13 r12 H => ?_)
            refine z_if_eq (tgt := 96) X dX4_block_89 (by decide) (fun q14 => ?_) (fun q14 => ?_)
            · have H := H.1 q14
              refine z_iconst (v := 0) X dX4_block_96 (by decide) ?_
              exact z_iret X dX4_block_97 H
            · have H := H.2 q14
              refine z_iconst (v := 1) X dX4_block_92 (by decide) ?_
              refine z_goto (tgt := 97) X dX4_block_93 (by decide) ?_
              exact z_iret X dX4_block_97 H
          · have H := H.1 q7
            refine z_iconst (v := -1) X dX4_block_37 (by decide) ?_
            exact z_iret X dX4_block_38 H
        · have H := H.2 q4
          refine z_bipush (v := -3) X dX4_block_23 (by decide) ?_
          exact z_iret X dX4_block_25 H
      · have H := H.1 q3
        refine z_bipush (v := -2) X dX4_block_13 (by decide) ?_
        exact z_iret X dX4_block_15 H
theorem k_X4_block {g : zE} {κ : zK} {h : zH} (hh : zDT κ h) {u : TS} {Φ : TS → Option Value → Prop} {cc : ByteArray} {nL : Nat} {own : String} {ret : Option FieldType} {rm : Room} {lv : List (Nat × Value)} {pc : Nat} {st : List Value} {idx N : Nat} {a1 : Int32} {a2 : Int32} {P : TS → Int32 → Prop} (X : zC g κ (hsT h) (wT κ h) cc nL own ret rm) (hml : Cond.methodLink own idx yX4_block ∈ zT) (H : w_X4_block N u a1 a2 P) (hR : 3 + 1 ≤ rm.frames ∧ 8 + (4 + 11) + 65 ≤ rm.locals) (hroom : (st.map fun v => v.category).sum ≤ 8) (d : decode cc pc = .ok (.invokevirtual idx, 3)) (kk : ∀ u1 v, P u1 v → zJ g κ (hsT h) (wT κ h) Φ nL u1 lv (pc + 3) (.int v :: st)) : zJ g κ (hsT h) (wT κ h) Φ nL u lv pc (.int a2 :: .int a1 :: .ref h.1 :: st) := z_callV (As := [.int a1, .int a2]) X yy_X4_block hml im_X4_block se_X4_block (c_X4_block hh N u a1 a2 P H) 3 0 rfl rfl rfl ⟨rfl, rfl⟩ hR rfl hroom d (fun u1 r hz => by obtain ⟨v, hr, hP⟩ := hz; subst hr; exact kk u1 v hP)
def w_X4_found (N : Nat) (u : TS) (a1 : Int32) (P : TS → Int32 → Prop) : Prop := (w_X4_isWish N a1 fun r1 => ((r1 = 0 → (P u (-2 : Int32))) ∧ (¬ r1 = 0 → (((u.1.2.2.2.2.2.1) = 0 → (w_X4_bodyFor N a1 fun r5 => (w_X2_headerFor N u r5 fun u8 r7 => ((r7 = (-1 : Int32) → (P u8 (-1 : Int32))) ∧ (¬ r7 = (-1 : Int32) → (P u8 (r7 + (1 : Int32)))))))) ∧ (¬ (u.1.2.2.2.2.2.1) = 0 → (P u (-3 : Int32)))))))
set_option maxHeartbeats 4000000 in
set_option maxRecDepth 100000 in
theorem c_X4_found {l : Launch} {κ : zK} {h : zH} (hh : zDT κ h) (N : Nat) (u : TS) (a1 : Int32) (P : TS → Int32 → Prop) (H : w_X4_found N u a1 P) : zM l κ (hsT h) (wT κ h) yX4_found cX4_found 3 (some .int) { frames := 5, cells := 0, slots := 0, locals := 105 } [.ref h.1, .int a1] u (zi P) := by
  refine z_met (own := RX4) (by decide) rfl (Nat.le_of_ble_eq_true rfl) hh (fun g X => ?_)
  show zJ g κ (hsT h) (wT κ h) (zi P) 3 u [(0, .ref h.1), (1, .int a1)] 0 []
  unfold w_X4_found at H
  refine z_iload_n X dX4_found_0 1 rfl rfl ?_
  refine k_X4_isWish X ml_X4_38 H ⟨Nat.le_of_ble_eq_true rfl, Nat.le_of_ble_eq_true rfl⟩ (Nat.le_of_ble_eq_true rfl) dX4_found_1 (fun r1 H => ?_)
  refine z_if_ne (tgt := 10) X dX4_found_4 (by decide) (fun q3 => ?_) (fun q3 => ?_)
  · have H := H.2 q3
    refine z_aload_n X dX4_found_10 0 rfl rfl ?_
    refine gf_X4_42 X dX4_found_11 ?_
    refine z_if_eq (tgt := 20) X dX4_found_14 (by decide) (fun q4 => ?_) (fun q4 => ?_)
    · have H := H.1 q4
      refine z_aload_n X dX4_found_20 0 rfl rfl ?_
      refine gf_X4_21 X dX4_found_21 ?_
      refine z_iload_n X dX4_found_24 1 rfl rfl ?_
      refine k_X4_bodyFor X ml_X4_46 H ⟨Nat.le_of_ble_eq_true rfl, Nat.le_of_ble_eq_true rfl⟩ (Nat.le_of_ble_eq_true rfl) dX4_found_25 (fun r5 H => ?_)
      refine k_X2_headerFor hh X ml_X4_50 H ⟨Nat.le_of_ble_eq_true rfl, Nat.le_of_ble_eq_true rfl⟩ (Nat.le_of_ble_eq_true rfl) dX4_found_28 (fun u8 r7 H => ?_)
      refine z_istore_n (lv' := [(2, .int r7), (0, .ref h.1), (1, .int a1)]) X dX4_found_31 rfl (by decide) rfl ?_
      refine z_iload_n X dX4_found_32 0 rfl rfl ?_
      refine z_iconst (v := -1) X dX4_found_33 (by decide) ?_
      refine z_icmp_ne (tgt := 41) X dX4_found_34 (by decide) (fun q9 => ?_) (fun q9 => ?_)
      · have H := H.2 q9
        refine z_iload_n X dX4_found_41 0 rfl rfl ?_
        refine z_iconst (v := 1) X dX4_found_42 (by decide) ?_
        refine z_iadd X dX4_found_43 ?_
        exact z_iret X dX4_found_44 H
      · have H := H.1 q9
        refine z_iconst (v := -1) X dX4_found_37 (by decide) ?_
        refine z_goto (tgt := 44) X dX4_found_38 (by decide) ?_
        exact z_iret X dX4_found_44 H
    · have H := H.2 q4
      refine z_bipush (v := -3) X dX4_found_17 (by decide) ?_
      exact z_iret X dX4_found_19 H
  · have H := H.1 q3
    refine z_bipush (v := -2) X dX4_found_7 (by decide) ?_
    exact z_iret X dX4_found_9 H
theorem k_X4_found {g : zE} {κ : zK} {h : zH} (hh : zDT κ h) {u : TS} {Φ : TS → Option Value → Prop} {cc : ByteArray} {nL : Nat} {own : String} {ret : Option FieldType} {rm : Room} {lv : List (Nat × Value)} {pc : Nat} {st : List Value} {idx N : Nat} {a1 : Int32} {P : TS → Int32 → Prop} (X : zC g κ (hsT h) (wT κ h) cc nL own ret rm) (hml : Cond.methodLink own idx yX4_found ∈ zT) (H : w_X4_found N u a1 P) (hR : 5 + 1 ≤ rm.frames ∧ 8 + (3 + 11) + 105 ≤ rm.locals) (hroom : (st.map fun v => v.category).sum ≤ 8) (d : decode cc pc = .ok (.invokevirtual idx, 3)) (kk : ∀ u1 v, P u1 v → zJ g κ (hsT h) (wT κ h) Φ nL u1 lv (pc + 3) (.int v :: st)) : zJ g κ (hsT h) (wT κ h) Φ nL u lv pc (.int a1 :: .ref h.1 :: st) := z_callV (As := [.int a1]) X yy_X4_found hml im_X4_found se_X4_found (c_X4_found hh N u a1 P H) 3 0 rfl rfl rfl ⟨rfl, rfl⟩ hR rfl hroom d (fun u1 r hz => by obtain ⟨v, hr, hP⟩ := hz; subst hr; exact kk u1 v hP)
def w_X4_wordsOf_7 (N : Nat) (P : TS → Int32 → Prop) : Nat → TS → Int32 → Int32 → Int32 → Int32 → Prop
  | 0, _, _, _, _, _ => False
  | n + 1, u, x1, x2, x3, x4 => ((x4 < (512 : Int32) → ((x3 < (u.1.2.1) → (w_X3_isFree N u x3 fun u4 r3 => ((r3 = x1 → (w_X3_bodyOf N u4 x3 fun u9 r8 => (w_X3_behind N u9 x3 fun u11 r10 => (w_X4_wordsOf_7 N P n u11 x1 (x2 + r8) r10 (x4 + (1 : Int32)))))) ∧ (¬ r3 = x1 → (w_X3_behind N u4 x3 fun u7 r6 => (w_X4_wordsOf_7 N P n u7 x1 x2 r6 (x4 + (1 : Int32)))))))) ∧ (¬ x3 < (u.1.2.1) → (P u x2)))) ∧ (¬ x4 < (512 : Int32) → (P u x2)))
def w_X4_wordsOf (N : Nat) (u : TS) (a1 : Int32) (P : TS → Int32 → Prop) : Prop := (w_X4_wordsOf_7 N P N u a1 (0 : Int32) (0 : Int32) (0 : Int32))
set_option maxHeartbeats 4000000 in
set_option maxRecDepth 100000 in
theorem j_X4_wordsOf_7 {κ : zK} {h : zH} (hh : zDT κ h) (N : Nat) {g : zE} (X : zC g κ (hsT h) (wT κ h) cX4_wordsOf 5 RX4 (some .int) { frames := 2, cells := 0, slots := 0, locals := 42 }) (P : TS → Int32 → Prop) : ∀ (n : Nat) (u : TS) (x1 : Int32) (x2 : Int32) (x3 : Int32) (x4 : Int32), w_X4_wordsOf_7 N P n u x1 x2 x3 x4 → zJ g κ (hsT h) (wT κ h) (zi P) 5 u [(0, .ref h.1), (1, .int x1), (2, .int x2), (3, .int x3), (4, .int x4)] 7 [] := by
  intro n
  induction n with
  | zero => intro u x1 x2 x3 x4 H; exact absurd H (by rw [w_X4_wordsOf_7]; exact id)
  | succ n ih =>
    intro u x1 x2 x3 x4 H
    rw [w_X4_wordsOf_7] at H
    refine z_iload X dX4_wordsOf_7 4 rfl ?_
    refine z_sipush (v := 512) X dX4_wordsOf_9 (by decide) ?_
    refine z_icmp_ge (tgt := 64) X dX4_wordsOf_12 (by decide) (fun q1 => ?_) (fun q1 => ?_)
    · have H := H.2 q1
      refine z_iload_n X dX4_wordsOf_64 2 rfl rfl ?_
      exact z_iret X dX4_wordsOf_65 H
    · have H := H.1 q1
      refine z_iload_n X dX4_wordsOf_15 3 rfl rfl ?_
      refine z_aload_n X dX4_wordsOf_16 0 rfl rfl ?_
      refine gf_X4_12 X dX4_wordsOf_17 ?_
      refine gf_X4_98 X dX4_wordsOf_20 ?_
      refine z_icmp_ge (tgt := 64) X dX4_wordsOf_23 (by decide) (fun q2 => ?_) (fun q2 => ?_)
      · have H := H.2 q2
        refine z_iload_n X dX4_wordsOf_64 2 rfl rfl ?_
        exact z_iret X dX4_wordsOf_65 H
      · have H := H.1 q2
        refine z_aload_n X dX4_wordsOf_26 0 rfl rfl ?_
        refine gf_X4_12 X dX4_wordsOf_27 ?_
        refine z_iload_n X dX4_wordsOf_30 3 rfl rfl ?_
        refine k_X3_isFree hh X ml_X4_105 H ⟨Nat.le_of_ble_eq_true rfl, Nat.le_of_ble_eq_true rfl⟩ (Nat.le_of_ble_eq_true rfl) dX4_wordsOf_31 (fun u4 r3 H => ?_)
        refine z_iload_n X dX4_wordsOf_34 1 rfl rfl ?_
        refine z_icmp_ne (tgt := 49) X dX4_wordsOf_35 (by decide) (fun q5 => ?_) (fun q5 => ?_)
        · have H := H.2 q5
          refine z_aload_n X dX4_wordsOf_49 0 rfl rfl ?_
          refine gf_X4_12 X dX4_wordsOf_50 ?_
          refine z_iload_n X dX4_wordsOf_53 3 rfl rfl ?_
          refine k_X3_behind hh X ml_X4_181 H ⟨Nat.le_of_ble_eq_true rfl, Nat.le_of_ble_eq_true rfl⟩ (Nat.le_of_ble_eq_true rfl) dX4_wordsOf_54 (fun u7 r6 H => ?_)
          refine z_istore_n (lv' := [(3, .int r6), (0, .ref h.1), (1, .int x1), (2, .int x2), (4, .int x4)]) X dX4_wordsOf_57 rfl (by decide) rfl ?_
          refine z_iinc (k := 4) (v := (x4 + (1 : Int32))) (lv' := [(4, .int (x4 + (1 : Int32))), (3, .int r6), (0, .ref h.1), (1, .int x1), (2, .int x2)]) X dX4_wordsOf_58 rfl rfl (by decide) rfl ?_
          refine z_goto (tgt := 7) X dX4_wordsOf_61 (by decide) ?_
          exact z_sub (ih u7 x1 x2 r6 (x4 + (1 : Int32)) H) [2, 3, 4, 1, 0] rfl
        · have H := H.1 q5
          refine z_iload_n X dX4_wordsOf_38 2 rfl rfl ?_
          refine z_aload_n X dX4_wordsOf_39 0 rfl rfl ?_
          refine gf_X4_12 X dX4_wordsOf_40 ?_
          refine z_iload_n X dX4_wordsOf_43 3 rfl rfl ?_
          refine k_X3_bodyOf hh X ml_X4_89 H ⟨Nat.le_of_ble_eq_true rfl, Nat.le_of_ble_eq_true rfl⟩ (Nat.le_of_ble_eq_true rfl) dX4_wordsOf_44 (fun u9 r8 H => ?_)
          refine z_iadd X dX4_wordsOf_47 ?_
          refine z_istore_n (lv' := [(2, .int (x2 + r8)), (0, .ref h.1), (1, .int x1), (3, .int x3), (4, .int x4)]) X dX4_wordsOf_48 rfl (by decide) rfl ?_
          refine z_aload_n X dX4_wordsOf_49 1 rfl rfl ?_
          refine gf_X4_12 X dX4_wordsOf_50 ?_
          refine z_iload_n X dX4_wordsOf_53 3 rfl rfl ?_
          refine k_X3_behind hh X ml_X4_181 H ⟨Nat.le_of_ble_eq_true rfl, Nat.le_of_ble_eq_true rfl⟩ (Nat.le_of_ble_eq_true rfl) dX4_wordsOf_54 (fun u11 r10 H => ?_)
          refine z_istore_n (lv' := [(3, .int r10), (2, .int (x2 + r8)), (0, .ref h.1), (1, .int x1), (4, .int x4)]) X dX4_wordsOf_57 rfl (by decide) rfl ?_
          refine z_iinc (k := 4) (v := (x4 + (1 : Int32))) (lv' := [(4, .int (x4 + (1 : Int32))), (3, .int r10), (2, .int (x2 + r8)), (0, .ref h.1), (1, .int x1)]) X dX4_wordsOf_58 rfl rfl (by decide) rfl ?_
          refine z_goto (tgt := 7) X dX4_wordsOf_61 (by decide) ?_
          exact z_sub (ih u11 x1 (x2 + r8) r10 (x4 + (1 : Int32)) H) [3, 4, 2, 1, 0] rfl
set_option maxHeartbeats 4000000 in
set_option maxRecDepth 100000 in
theorem c_X4_wordsOf {l : Launch} {κ : zK} {h : zH} (hh : zDT κ h) (N : Nat) (u : TS) (a1 : Int32) (P : TS → Int32 → Prop) (H : w_X4_wordsOf N u a1 P) : zM l κ (hsT h) (wT κ h) yX4_wordsOf cX4_wordsOf 5 (some .int) { frames := 2, cells := 0, slots := 0, locals := 42 } [.ref h.1, .int a1] u (zi P) := by
  refine z_met (own := RX4) (by decide) rfl (Nat.le_of_ble_eq_true rfl) hh (fun g X => ?_)
  show zJ g κ (hsT h) (wT κ h) (zi P) 5 u [(0, .ref h.1), (1, .int a1)] 0 []
  unfold w_X4_wordsOf at H
  refine z_iconst (v := 0) X dX4_wordsOf_0 (by decide) ?_
  refine z_istore_n (lv' := [(2, .int (0 : Int32)), (0, .ref h.1), (1, .int a1)]) X dX4_wordsOf_1 rfl (by decide) rfl ?_
  refine z_iconst (v := 0) X dX4_wordsOf_2 (by decide) ?_
  refine z_istore_n (lv' := [(3, .int (0 : Int32)), (2, .int (0 : Int32)), (0, .ref h.1), (1, .int a1)]) X dX4_wordsOf_3 rfl (by decide) rfl ?_
  refine z_iconst (v := 0) X dX4_wordsOf_4 (by decide) ?_
  refine z_istore (lv' := [(4, .int (0 : Int32)), (3, .int (0 : Int32)), (2, .int (0 : Int32)), (0, .ref h.1), (1, .int a1)]) X dX4_wordsOf_5 (by decide) rfl ?_
  exact z_sub (j_X4_wordsOf_7 hh N X P N u a1 (0 : Int32) (0 : Int32) (0 : Int32) H) [3, 4, 2, 1, 0] rfl
theorem k_X4_wordsOf {g : zE} {κ : zK} {h : zH} (hh : zDT κ h) {u : TS} {Φ : TS → Option Value → Prop} {cc : ByteArray} {nL : Nat} {own : String} {ret : Option FieldType} {rm : Room} {lv : List (Nat × Value)} {pc : Nat} {st : List Value} {idx N : Nat} {a1 : Int32} {P : TS → Int32 → Prop} (X : zC g κ (hsT h) (wT κ h) cc nL own ret rm) (hml : Cond.methodLink own idx yX4_wordsOf ∈ zT) (H : w_X4_wordsOf N u a1 P) (hR : 2 + 1 ≤ rm.frames ∧ 8 + (5 + 11) + 42 ≤ rm.locals) (hroom : (st.map fun v => v.category).sum ≤ 8) (d : decode cc pc = .ok (.invokevirtual idx, 3)) (kk : ∀ u1 v, P u1 v → zJ g κ (hsT h) (wT κ h) Φ nL u1 lv (pc + 3) (.int v :: st)) : zJ g κ (hsT h) (wT κ h) Φ nL u lv pc (.int a1 :: .ref h.1 :: st) := z_callV (As := [.int a1]) X yy_X4_wordsOf hml im_X4_wordsOf se_X4_wordsOf (c_X4_wordsOf hh N u a1 P H) 3 0 rfl rfl rfl ⟨rfl, rfl⟩ hR rfl hroom d (fun u1 r hz => by obtain ⟨v, hr, hP⟩ := hz; subst hr; exact kk u1 v hP)
def w_X4_blocksOf_7 (N : Nat) (P : TS → Int32 → Prop) : Nat → TS → Int32 → Int32 → Int32 → Int32 → Prop
  | 0, _, _, _, _, _ => False
  | n + 1, u, x1, x2, x3, x4 => ((x4 < (512 : Int32) → ((x3 < (u.1.2.1) → (w_X3_isFree N u x3 fun u4 r3 => ((r3 = x1 → (w_X3_behind N u4 x3 fun u9 r8 => (w_X4_blocksOf_7 N P n u9 x1 (x2 + (1 : Int32)) r8 (x4 + (1 : Int32))))) ∧ (¬ r3 = x1 → (w_X3_behind N u4 x3 fun u7 r6 => (w_X4_blocksOf_7 N P n u7 x1 x2 r6 (x4 + (1 : Int32)))))))) ∧ (¬ x3 < (u.1.2.1) → (P u x2)))) ∧ (¬ x4 < (512 : Int32) → (P u x2)))
def w_X4_blocksOf (N : Nat) (u : TS) (a1 : Int32) (P : TS → Int32 → Prop) : Prop := (w_X4_blocksOf_7 N P N u a1 (0 : Int32) (0 : Int32) (0 : Int32))
set_option maxHeartbeats 4000000 in
set_option maxRecDepth 100000 in
theorem j_X4_blocksOf_7 {κ : zK} {h : zH} (hh : zDT κ h) (N : Nat) {g : zE} (X : zC g κ (hsT h) (wT κ h) cX4_blocksOf 5 RX4 (some .int) { frames := 2, cells := 0, slots := 0, locals := 42 }) (P : TS → Int32 → Prop) : ∀ (n : Nat) (u : TS) (x1 : Int32) (x2 : Int32) (x3 : Int32) (x4 : Int32), w_X4_blocksOf_7 N P n u x1 x2 x3 x4 → zJ g κ (hsT h) (wT κ h) (zi P) 5 u [(0, .ref h.1), (1, .int x1), (2, .int x2), (3, .int x3), (4, .int x4)] 7 [] := by
  intro n
  induction n with
  | zero => intro u x1 x2 x3 x4 H; exact absurd H (by rw [w_X4_blocksOf_7]; exact id)
  | succ n ih =>
    intro u x1 x2 x3 x4 H
    rw [w_X4_blocksOf_7] at H
    refine z_iload X dX4_blocksOf_7 4 rfl ?_
    refine z_sipush (v := 512) X dX4_blocksOf_9 (by decide) ?_
    refine z_icmp_ge (tgt := 56) X dX4_blocksOf_12 (by decide) (fun q1 => ?_) (fun q1 => ?_)
    · have H := H.2 q1
      refine z_iload_n X dX4_blocksOf_56 2 rfl rfl ?_
      exact z_iret X dX4_blocksOf_57 H
    · have H := H.1 q1
      refine z_iload_n X dX4_blocksOf_15 3 rfl rfl ?_
      refine z_aload_n X dX4_blocksOf_16 0 rfl rfl ?_
      refine gf_X4_12 X dX4_blocksOf_17 ?_
      refine gf_X4_98 X dX4_blocksOf_20 ?_
      refine z_icmp_ge (tgt := 56) X dX4_blocksOf_23 (by decide) (fun q2 => ?_) (fun q2 => ?_)
      · have H := H.2 q2
        refine z_iload_n X dX4_blocksOf_56 2 rfl rfl ?_
        exact z_iret X dX4_blocksOf_57 H
      · have H := H.1 q2
        refine z_aload_n X dX4_blocksOf_26 0 rfl rfl ?_
        refine gf_X4_12 X dX4_blocksOf_27 ?_
        refine z_iload_n X dX4_blocksOf_30 3 rfl rfl ?_
        refine k_X3_isFree hh X ml_X4_105 H ⟨Nat.le_of_ble_eq_true rfl, Nat.le_of_ble_eq_true rfl⟩ (Nat.le_of_ble_eq_true rfl) dX4_blocksOf_31 (fun u4 r3 H => ?_)
        refine z_iload_n X dX4_blocksOf_34 1 rfl rfl ?_
        refine z_icmp_ne (tgt := 41) X dX4_blocksOf_35 (by decide) (fun q5 => ?_) (fun q5 => ?_)
        · have H := H.2 q5
          refine z_aload_n X dX4_blocksOf_41 0 rfl rfl ?_
          refine gf_X4_12 X dX4_blocksOf_42 ?_
          refine z_iload_n X dX4_blocksOf_45 3 rfl rfl ?_
          refine k_X3_behind hh X ml_X4_181 H ⟨Nat.le_of_ble_eq_true rfl, Nat.le_of_ble_eq_true rfl⟩ (Nat.le_of_ble_eq_true rfl) dX4_blocksOf_46 (fun u7 r6 H => ?_)
          refine z_istore_n (lv' := [(3, .int r6), (0, .ref h.1), (1, .int x1), (2, .int x2), (4, .int x4)]) X dX4_blocksOf_49 rfl (by decide) rfl ?_
          refine z_iinc (k := 4) (v := (x4 + (1 : Int32))) (lv' := [(4, .int (x4 + (1 : Int32))), (3, .int r6), (0, .ref h.1), (1, .int x1), (2, .int x2)]) X dX4_blocksOf_50 rfl rfl (by decide) rfl ?_
          refine z_goto (tgt := 7) X dX4_blocksOf_53 (by decide) ?_
          exact z_sub (ih u7 x1 x2 r6 (x4 + (1 : Int32)) H) [2, 3, 4, 1, 0] rfl
        · have H := H.1 q5
          refine z_iinc (k := 2) (v := (x2 + (1 : Int32))) (lv' := [(2, .int (x2 + (1 : Int32))), (0, .ref h.1), (1, .int x1), (3, .int x3), (4, .int x4)]) X dX4_blocksOf_38 rfl rfl (by decide) rfl ?_
          refine z_aload_n X dX4_blocksOf_41 1 rfl rfl ?_
          refine gf_X4_12 X dX4_blocksOf_42 ?_
          refine z_iload_n X dX4_blocksOf_45 3 rfl rfl ?_
          refine k_X3_behind hh X ml_X4_181 H ⟨Nat.le_of_ble_eq_true rfl, Nat.le_of_ble_eq_true rfl⟩ (Nat.le_of_ble_eq_true rfl) dX4_blocksOf_46 (fun u9 r8 H => ?_)
          refine z_istore_n (lv' := [(3, .int r8), (2, .int (x2 + (1 : Int32))), (0, .ref h.1), (1, .int x1), (4, .int x4)]) X dX4_blocksOf_49 rfl (by decide) rfl ?_
          refine z_iinc (k := 4) (v := (x4 + (1 : Int32))) (lv' := [(4, .int (x4 + (1 : Int32))), (3, .int r8), (2, .int (x2 + (1 : Int32))), (0, .ref h.1), (1, .int x1)]) X dX4_blocksOf_50 rfl rfl (by decide) rfl ?_
          refine z_goto (tgt := 7) X dX4_blocksOf_53 (by decide) ?_
          exact z_sub (ih u9 x1 (x2 + (1 : Int32)) r8 (x4 + (1 : Int32)) H) [3, 4, 2, 1, 0] rfl
set_option maxHeartbeats 4000000 in
set_option maxRecDepth 100000 in
theorem c_X4_blocksOf {l : Launch} {κ : zK} {h : zH} (hh : zDT κ h) (N : Nat) (u : TS) (a1 : Int32) (P : TS → Int32 → Prop) (H : w_X4_blocksOf N u a1 P) : zM l κ (hsT h) (wT κ h) yX4_blocksOf cX4_blocksOf 5 (some .int) { frames := 2, cells := 0, slots := 0, locals := 42 } [.ref h.1, .int a1] u (zi P) := by
  refine z_met (own := RX4) (by decide) rfl (Nat.le_of_ble_eq_true rfl) hh (fun g X => ?_)
  show zJ g κ (hsT h) (wT κ h) (zi P) 5 u [(0, .ref h.1), (1, .int a1)] 0 []
  unfold w_X4_blocksOf at H
  refine z_iconst (v := 0) X dX4_blocksOf_0 (by decide) ?_
  refine z_istore_n (lv' := [(2, .int (0 : Int32)), (0, .ref h.1), (1, .int a1)]) X dX4_blocksOf_1 rfl (by decide) rfl ?_
  refine z_iconst (v := 0) X dX4_blocksOf_2 (by decide) ?_
  refine z_istore_n (lv' := [(3, .int (0 : Int32)), (2, .int (0 : Int32)), (0, .ref h.1), (1, .int a1)]) X dX4_blocksOf_3 rfl (by decide) rfl ?_
  refine z_iconst (v := 0) X dX4_blocksOf_4 (by decide) ?_
  refine z_istore (lv' := [(4, .int (0 : Int32)), (3, .int (0 : Int32)), (2, .int (0 : Int32)), (0, .ref h.1), (1, .int a1)]) X dX4_blocksOf_5 (by decide) rfl ?_
  exact z_sub (j_X4_blocksOf_7 hh N X P N u a1 (0 : Int32) (0 : Int32) (0 : Int32) H) [3, 4, 2, 1, 0] rfl
theorem k_X4_blocksOf {g : zE} {κ : zK} {h : zH} (hh : zDT κ h) {u : TS} {Φ : TS → Option Value → Prop} {cc : ByteArray} {nL : Nat} {own : String} {ret : Option FieldType} {rm : Room} {lv : List (Nat × Value)} {pc : Nat} {st : List Value} {idx N : Nat} {a1 : Int32} {P : TS → Int32 → Prop} (X : zC g κ (hsT h) (wT κ h) cc nL own ret rm) (hml : Cond.methodLink own idx yX4_blocksOf ∈ zT) (H : w_X4_blocksOf N u a1 P) (hR : 2 + 1 ≤ rm.frames ∧ 8 + (5 + 11) + 42 ≤ rm.locals) (hroom : (st.map fun v => v.category).sum ≤ 8) (d : decode cc pc = .ok (.invokevirtual idx, 3)) (kk : ∀ u1 v, P u1 v → zJ g κ (hsT h) (wT κ h) Φ nL u1 lv (pc + 3) (.int v :: st)) : zJ g κ (hsT h) (wT κ h) Φ nL u lv pc (.int a1 :: .ref h.1 :: st) := z_callV (As := [.int a1]) X yy_X4_blocksOf hml im_X4_blocksOf se_X4_blocksOf (c_X4_blocksOf hh N u a1 P H) 3 0 rfl rfl rfl ⟨rfl, rfl⟩ hR rfl hroom d (fun u1 r hz => by obtain ⟨v, hr, hP⟩ := hz; subst hr; exact kk u1 v hP)
def w_X4_mostFree_6 (N : Nat) (P : TS → Int32 → Prop) : Nat → TS → Int32 → Int32 → Int32 → Prop
  | 0, _, _, _, _ => False
  | n + 1, u, x1, x2, x3 => ((x3 < (512 : Int32) → ((x2 < (u.1.2.1) → (w_X3_isFree N u x2 fun u4 r3 => ((r3 = 0 → (w_X3_behind N u4 x2 fun u7 r6 => (w_X4_mostFree_6 N P n u7 x1 r6 (x3 + (1 : Int32))))) ∧ (¬ r3 = 0 → (w_X3_bodyOf N u4 x2 fun u9 r8 => (w_X3_behind N u9 x2 fun u11 r10 => (w_X4_mostFree_6 N P n u11 (if x1 < r8 then r8 else x1) r10 (x3 + (1 : Int32))))))))) ∧ (¬ x2 < (u.1.2.1) → (P u x1)))) ∧ (¬ x3 < (512 : Int32) → (P u x1)))
def w_X4_mostFree (N : Nat) (u : TS) (P : TS → Int32 → Prop) : Prop := (w_X4_mostFree_6 N P N u (0 : Int32) (0 : Int32) (0 : Int32))
set_option maxHeartbeats 4000000 in
set_option maxRecDepth 100000 in
theorem j_X4_mostFree_6 {κ : zK} {h : zH} (hh : zDT κ h) (N : Nat) {g : zE} (X : zC g κ (hsT h) (wT κ h) cX4_mostFree 4 RX4 (some .int) { frames := 2, cells := 0, slots := 0, locals := 42 }) (P : TS → Int32 → Prop) : ∀ (n : Nat) (u : TS) (x1 : Int32) (x2 : Int32) (x3 : Int32), w_X4_mostFree_6 N P n u x1 x2 x3 → zJ g κ (hsT h) (wT κ h) (zi P) 4 u [(0, .ref h.1), (1, .int x1), (2, .int x2), (3, .int x3)] 6 [] := by
  intro n
  induction n with
  | zero => intro u x1 x2 x3 H; exact absurd H (by rw [w_X4_mostFree_6]; exact id)
  | succ n ih =>
    intro u x1 x2 x3 H
    rw [w_X4_mostFree_6] at H
    refine z_iload_n X dX4_mostFree_6 3 rfl rfl ?_
    refine z_sipush (v := 512) X dX4_mostFree_7 (by decide) ?_
    refine z_icmp_ge (tgt := 63) X dX4_mostFree_10 (by decide) (fun q1 => ?_) (fun q1 => ?_)
    · have H := H.2 q1
      refine z_iload_n X dX4_mostFree_63 1 rfl rfl ?_
      exact z_iret X dX4_mostFree_64 H
    · have H := H.1 q1
      refine z_iload_n X dX4_mostFree_13 2 rfl rfl ?_
      refine z_aload_n X dX4_mostFree_14 0 rfl rfl ?_
      refine gf_X4_12 X dX4_mostFree_15 ?_
      refine gf_X4_98 X dX4_mostFree_18 ?_
      refine z_icmp_ge (tgt := 63) X dX4_mostFree_21 (by decide) (fun q2 => ?_) (fun q2 => ?_)
      · have H := H.2 q2
        refine z_iload_n X dX4_mostFree_63 1 rfl rfl ?_
        exact z_iret X dX4_mostFree_64 H
      · have H := H.1 q2
        refine z_aload_n X dX4_mostFree_24 0 rfl rfl ?_
        refine gf_X4_12 X dX4_mostFree_25 ?_
        refine z_iload_n X dX4_mostFree_28 2 rfl rfl ?_
        refine k_X3_isFree hh X ml_X4_105 H ⟨Nat.le_of_ble_eq_true rfl, Nat.le_of_ble_eq_true rfl⟩ (Nat.le_of_ble_eq_true rfl) dX4_mostFree_29 (fun u4 r3 H => ?_)
        refine z_if_eq (tgt := 48) X dX4_mostFree_32 (by decide) (fun q5 => ?_) (fun q5 => ?_)
        · have H := H.1 q5
          refine z_aload_n X dX4_mostFree_48 0 rfl rfl ?_
          refine gf_X4_12 X dX4_mostFree_49 ?_
          refine z_iload_n X dX4_mostFree_52 2 rfl rfl ?_
          refine k_X3_behind hh X ml_X4_181 H ⟨Nat.le_of_ble_eq_true rfl, Nat.le_of_ble_eq_true rfl⟩ (Nat.le_of_ble_eq_true rfl) dX4_mostFree_53 (fun u7 r6 H => ?_)
          refine z_istore_n (lv' := [(2, .int r6), (0, .ref h.1), (1, .int x1), (3, .int x3)]) X dX4_mostFree_56 rfl (by decide) rfl ?_
          refine z_iinc (k := 3) (v := (x3 + (1 : Int32))) (lv' := [(3, .int (x3 + (1 : Int32))), (2, .int r6), (0, .ref h.1), (1, .int x1)]) X dX4_mostFree_57 rfl rfl (by decide) rfl ?_
          refine z_goto (tgt := 6) X dX4_mostFree_60 (by decide) ?_
          exact z_sub (ih u7 x1 r6 (x3 + (1 : Int32)) H) [2, 3, 1, 0] rfl
        · have H := H.2 q5
          refine z_iload_n X dX4_mostFree_35 1 rfl rfl ?_
          refine z_aload_n X dX4_mostFree_36 0 rfl rfl ?_
          refine gf_X4_12 X dX4_mostFree_37 ?_
          refine z_iload_n X dX4_mostFree_40 2 rfl rfl ?_
          refine k_X3_bodyOf hh X ml_X4_89 H ⟨Nat.le_of_ble_eq_true rfl, Nat.le_of_ble_eq_true rfl⟩ (Nat.le_of_ble_eq_true rfl) dX4_mostFree_41 (fun u9 r8 H => ?_)
          refine z_mmax X ml_X4_173 ⟨Nat.le_of_ble_eq_true rfl, Nat.le_of_ble_eq_true rfl⟩ dX4_mostFree_44 ?_
          refine z_istore_n (lv' := [(1, .int (if x1 < r8 then r8 else x1)), (0, .ref h.1), (2, .int x2), (3, .int x3)]) X dX4_mostFree_47 rfl (by decide) rfl ?_
          refine z_aload_n X dX4_mostFree_48 1 rfl rfl ?_
          refine gf_X4_12 X dX4_mostFree_49 ?_
          refine z_iload_n X dX4_mostFree_52 2 rfl rfl ?_
          refine k_X3_behind hh X ml_X4_181 H ⟨Nat.le_of_ble_eq_true rfl, Nat.le_of_ble_eq_true rfl⟩ (Nat.le_of_ble_eq_true rfl) dX4_mostFree_53 (fun u11 r10 H => ?_)
          refine z_istore_n (lv' := [(2, .int r10), (1, .int (if x1 < r8 then r8 else x1)), (0, .ref h.1), (3, .int x3)]) X dX4_mostFree_56 rfl (by decide) rfl ?_
          refine z_iinc (k := 3) (v := (x3 + (1 : Int32))) (lv' := [(3, .int (x3 + (1 : Int32))), (2, .int r10), (1, .int (if x1 < r8 then r8 else x1)), (0, .ref h.1)]) X dX4_mostFree_57 rfl rfl (by decide) rfl ?_
          refine z_goto (tgt := 6) X dX4_mostFree_60 (by decide) ?_
          exact z_sub (ih u11 (if x1 < r8 then r8 else x1) r10 (x3 + (1 : Int32)) H) [3, 2, 1, 0] rfl
set_option maxHeartbeats 4000000 in
set_option maxRecDepth 100000 in
theorem c_X4_mostFree {l : Launch} {κ : zK} {h : zH} (hh : zDT κ h) (N : Nat) (u : TS) (P : TS → Int32 → Prop) (H : w_X4_mostFree N u P) : zM l κ (hsT h) (wT κ h) yX4_mostFree cX4_mostFree 4 (some .int) { frames := 2, cells := 0, slots := 0, locals := 42 } [.ref h.1] u (zi P) := by
  refine z_met (own := RX4) (by decide) rfl (Nat.le_of_ble_eq_true rfl) hh (fun g X => ?_)
  show zJ g κ (hsT h) (wT κ h) (zi P) 4 u [(0, .ref h.1)] 0 []
  unfold w_X4_mostFree at H
  refine z_iconst (v := 0) X dX4_mostFree_0 (by decide) ?_
  refine z_istore_n (lv' := [(1, .int (0 : Int32)), (0, .ref h.1)]) X dX4_mostFree_1 rfl (by decide) rfl ?_
  refine z_iconst (v := 0) X dX4_mostFree_2 (by decide) ?_
  refine z_istore_n (lv' := [(2, .int (0 : Int32)), (1, .int (0 : Int32)), (0, .ref h.1)]) X dX4_mostFree_3 rfl (by decide) rfl ?_
  refine z_iconst (v := 0) X dX4_mostFree_4 (by decide) ?_
  refine z_istore_n (lv' := [(3, .int (0 : Int32)), (2, .int (0 : Int32)), (1, .int (0 : Int32)), (0, .ref h.1)]) X dX4_mostFree_5 rfl (by decide) rfl ?_
  exact z_sub (j_X4_mostFree_6 hh N X P N u (0 : Int32) (0 : Int32) (0 : Int32) H) [3, 2, 1, 0] rfl
theorem k_X4_mostFree {g : zE} {κ : zK} {h : zH} (hh : zDT κ h) {u : TS} {Φ : TS → Option Value → Prop} {cc : ByteArray} {nL : Nat} {own : String} {ret : Option FieldType} {rm : Room} {lv : List (Nat × Value)} {pc : Nat} {st : List Value} {idx N : Nat}  {P : TS → Int32 → Prop} (X : zC g κ (hsT h) (wT κ h) cc nL own ret rm) (hml : Cond.methodLink own idx yX4_mostFree ∈ zT) (H : w_X4_mostFree N u P) (hR : 2 + 1 ≤ rm.frames ∧ 8 + (4 + 11) + 42 ≤ rm.locals) (hroom : (st.map fun v => v.category).sum ≤ 8) (d : decode cc pc = .ok (.invokevirtual idx, 3)) (kk : ∀ u1 v, P u1 v → zJ g κ (hsT h) (wT κ h) Φ nL u1 lv (pc + 3) (.int v :: st)) : zJ g κ (hsT h) (wT κ h) Φ nL u lv pc (.ref h.1 :: st) := z_callV (As := []) X yy_X4_mostFree hml im_X4_mostFree se_X4_mostFree (c_X4_mostFree hh N u P H) 3 0 rfl rfl rfl ⟨rfl, rfl⟩ hR rfl hroom d (fun u1 r hz => by obtain ⟨v, hr, hP⟩ := hz; subst hr; exact kk u1 v hP)
def w_X4_count (N : Nat) (u : TS) (a1 : Int32) (P : TS → Int32 → Prop) : Prop := ((a1 = 0 → (P u (u.1.2.1))) ∧ (¬ a1 = 0 → ((a1 = 1 → (P u (u.1.2.2.2.1))) ∧ (¬ a1 = 1 → ((a1 = 2 → (((u.1.2.2.2.2.2.1) = 0 → (P u (0 : Int32))) ∧ (¬ (u.1.2.2.2.2.2.1) = 0 → (P u (1 : Int32))))) ∧ (¬ a1 = 2 → ((a1 = 3 → (P u (u.1.2.2.2.2.1))) ∧ (¬ a1 = 3 → ((a1 = 4 → (((u.1.2.2.2.2.2.1) = 0 → (w_X4_wordsOf N u (0 : Int32) fun u9 r8 => (P u9 r8))) ∧ (¬ (u.1.2.2.2.2.2.1) = 0 → (P u (-3 : Int32))))) ∧ (¬ a1 = 4 → ((a1 = 5 → (((u.1.2.2.2.2.2.1) = 0 → (w_X4_wordsOf N u (1 : Int32) fun u13 r12 => (P u13 r12))) ∧ (¬ (u.1.2.2.2.2.2.1) = 0 → (P u (-3 : Int32))))) ∧ (¬ a1 = 5 → ((a1 = 6 → (((u.1.2.2.2.2.2.1) = 0 → (w_X4_blocksOf N u (0 : Int32) fun u17 r16 => (P u17 r16))) ∧ (¬ (u.1.2.2.2.2.2.1) = 0 → (P u (-3 : Int32))))) ∧ (¬ a1 = 6 → ((a1 = 7 → (((u.1.2.2.2.2.2.1) = 0 → (w_X4_blocksOf N u (1 : Int32) fun u21 r20 => (P u21 r20))) ∧ (¬ (u.1.2.2.2.2.2.1) = 0 → (P u (-3 : Int32))))) ∧ (¬ a1 = 7 → ((a1 = 8 → (((u.1.2.2.2.2.2.1) = 0 → (w_X4_mostFree N u fun u25 r24 => (P u25 r24))) ∧ (¬ (u.1.2.2.2.2.2.1) = 0 → (P u (-3 : Int32))))) ∧ (¬ a1 = 8 → (P u (-2 : Int32))))))))))))))))))))
set_option maxHeartbeats 4000000 in
set_option maxRecDepth 100000 in
theorem c_X4_count {l : Launch} {κ : zK} {h : zH} (hh : zDT κ h) (N : Nat) (u : TS) (a1 : Int32) (P : TS → Int32 → Prop) (H : w_X4_count N u a1 P) : zM l κ (hsT h) (wT κ h) yX4_count cX4_count 2 (some .int) { frames := 3, cells := 0, slots := 0, locals := 66 } [.ref h.1, .int a1] u (zi P) := by
  refine z_met (own := RX4) (by decide) rfl (Nat.le_of_ble_eq_true rfl) hh (fun g X => ?_)
  show zJ g κ (hsT h) (wT κ h) (zi P) 2 u [(0, .ref h.1), (1, .int a1)] 0 []
  unfold w_X4_count at H
  refine z_iload_n X dX4_count_0 1 rfl rfl ?_
  by_cases q1 : a1 = 0
  · have H := H.1 q1
    refine z_tableIn (tgt := 52) (z := 0) X dX4_count_1 q1 (by decide) (by decide) rfl (by decide) ?_
    refine z_aload_n X dX4_count_52 0 rfl rfl ?_
    refine gf_X4_12 X dX4_count_53 ?_
    refine gf_X4_98 X dX4_count_56 ?_
    exact z_iret X dX4_count_59 H
  have H := H.2 q1
  by_cases q2 : a1 = 1
  · have H := H.1 q2
    refine z_tableIn (tgt := 60) (z := 1) X dX4_count_1 q2 (by decide) (by decide) rfl (by decide) ?_
    refine z_aload_n X dX4_count_60 0 rfl rfl ?_
    refine gf_X4_21 X dX4_count_61 ?_
    refine gf_X4_149 X dX4_count_64 ?_
    exact z_iret X dX4_count_67 H
  have H := H.2 q2
  by_cases q3 : a1 = 2
  · have H := H.1 q3
    refine z_tableIn (tgt := 68) (z := 2) X dX4_count_1 q3 (by decide) (by decide) rfl (by decide) ?_
    refine z_aload_n X dX4_count_68 0 rfl rfl ?_
    refine gf_X4_42 X dX4_count_69 ?_
    refine z_if_eq (tgt := 79) X dX4_count_72 (by decide) (fun q4 => ?_) (fun q4 => ?_)
    · have H := H.1 q4
      refine z_iconst (v := 0) X dX4_count_79 (by decide) ?_
      exact z_iret X dX4_count_80 H
    · have H := H.2 q4
      refine z_iconst (v := 1) X dX4_count_75 (by decide) ?_
      refine z_goto (tgt := 80) X dX4_count_76 (by decide) ?_
      exact z_iret X dX4_count_80 H
  have H := H.2 q3
  by_cases q5 : a1 = 3
  · have H := H.1 q5
    refine z_tableIn (tgt := 81) (z := 3) X dX4_count_1 q5 (by decide) (by decide) rfl (by decide) ?_
    refine z_aload_n X dX4_count_81 0 rfl rfl ?_
    refine gf_X4_152 X dX4_count_82 ?_
    exact z_iret X dX4_count_85 H
  have H := H.2 q5
  by_cases q6 : a1 = 4
  · have H := H.1 q6
    refine z_tableIn (tgt := 86) (z := 4) X dX4_count_1 q6 (by decide) (by decide) rfl (by decide) ?_
    refine z_aload_n X dX4_count_86 0 rfl rfl ?_
    refine gf_X4_42 X dX4_count_87 ?_
    refine z_if_eq (tgt := 98) X dX4_count_90 (by decide) (fun q7 => ?_) (fun q7 => ?_)
    · have H := H.1 q7
      refine z_aload_n X dX4_count_98 0 rfl rfl ?_
      refine z_iconst (v := 0) X dX4_count_99 (by decide) ?_
      refine k_X4_wordsOf hh X ml_X4_155 H ⟨Nat.le_of_ble_eq_true rfl, Nat.le_of_ble_eq_true rfl⟩ (Nat.le_of_ble_eq_true rfl) dX4_count_100 (fun u9 r8 H => ?_)
      exact z_iret X dX4_count_103 H
    · have H := H.2 q7
      refine z_bipush (v := -3) X dX4_count_93 (by decide) ?_
      refine z_goto (tgt := 103) X dX4_count_95 (by decide) ?_
      exact z_iret X dX4_count_103 H
  have H := H.2 q6
  by_cases q10 : a1 = 5
  · have H := H.1 q10
    refine z_tableIn (tgt := 104) (z := 5) X dX4_count_1 q10 (by decide) (by decide) rfl (by decide) ?_
    refine z_aload_n X dX4_count_104 0 rfl rfl ?_
    refine gf_X4_42 X dX4_count_105 ?_
    refine z_if_eq (tgt := 116) X dX4_count_108 (by decide) (fun q11 => ?_) (fun q11 => ?_)
    · have H := H.1 q11
      refine z_aload_n X dX4_count_116 0 rfl rfl ?_
      refine z_iconst (v := 1) X dX4_count_117 (by decide) ?_
      refine k_X4_wordsOf hh X ml_X4_155 H ⟨Nat.le_of_ble_eq_true rfl, Nat.le_of_ble_eq_true rfl⟩ (Nat.le_of_ble_eq_true rfl) dX4_count_118 (fun u13 r12 H => ?_)
      exact z_iret X dX4_count_121 H
    · have H := H.2 q11
      refine z_bipush (v := -3) X dX4_count_111 (by decide) ?_
      refine z_goto (tgt := 121) X dX4_count_113 (by decide) ?_
      exact z_iret X dX4_count_121 H
  have H := H.2 q10
  by_cases q14 : a1 = 6
  · have H := H.1 q14
    refine z_tableIn (tgt := 122) (z := 6) X dX4_count_1 q14 (by decide) (by decide) rfl (by decide) ?_
    refine z_aload_n X dX4_count_122 0 rfl rfl ?_
    refine gf_X4_42 X dX4_count_123 ?_
    refine z_if_eq (tgt := 134) X dX4_count_126 (by decide) (fun q15 => ?_) (fun q15 => ?_)
    · have H := H.1 q15
      refine z_aload_n X dX4_count_134 0 rfl rfl ?_
      refine z_iconst (v := 0) X dX4_count_135 (by decide) ?_
      refine k_X4_blocksOf hh X ml_X4_159 H ⟨Nat.le_of_ble_eq_true rfl, Nat.le_of_ble_eq_true rfl⟩ (Nat.le_of_ble_eq_true rfl) dX4_count_136 (fun u17 r16 H => ?_)
      exact z_iret X dX4_count_139 H
    · have H := H.2 q15
      refine z_bipush (v := -3) X dX4_count_129 (by decide) ?_
      refine z_goto (tgt := 139) X dX4_count_131 (by decide) ?_
      exact z_iret X dX4_count_139 H
  have H := H.2 q14
  by_cases q18 : a1 = 7
  · have H := H.1 q18
    refine z_tableIn (tgt := 140) (z := 7) X dX4_count_1 q18 (by decide) (by decide) rfl (by decide) ?_
    refine z_aload_n X dX4_count_140 0 rfl rfl ?_
    refine gf_X4_42 X dX4_count_141 ?_
    refine z_if_eq (tgt := 152) X dX4_count_144 (by decide) (fun q19 => ?_) (fun q19 => ?_)
    · have H := H.1 q19
      refine z_aload_n X dX4_count_152 0 rfl rfl ?_
      refine z_iconst (v := 1) X dX4_count_153 (by decide) ?_
      refine k_X4_blocksOf hh X ml_X4_159 H ⟨Nat.le_of_ble_eq_true rfl, Nat.le_of_ble_eq_true rfl⟩ (Nat.le_of_ble_eq_true rfl) dX4_count_154 (fun u21 r20 H => ?_)
      exact z_iret X dX4_count_157 H
    · have H := H.2 q19
      refine z_bipush (v := -3) X dX4_count_147 (by decide) ?_
      refine z_goto (tgt := 157) X dX4_count_149 (by decide) ?_
      exact z_iret X dX4_count_157 H
  have H := H.2 q18
  by_cases q22 : a1 = 8
  · have H := H.1 q22
    refine z_tableIn (tgt := 158) (z := 8) X dX4_count_1 q22 (by decide) (by decide) rfl (by decide) ?_
    refine z_aload_n X dX4_count_158 0 rfl rfl ?_
    refine gf_X4_42 X dX4_count_159 ?_
    refine z_if_eq (tgt := 170) X dX4_count_162 (by decide) (fun q23 => ?_) (fun q23 => ?_)
    · have H := H.1 q23
      refine z_aload_n X dX4_count_170 0 rfl rfl ?_
      refine k_X4_mostFree hh X ml_X4_162 H ⟨Nat.le_of_ble_eq_true rfl, Nat.le_of_ble_eq_true rfl⟩ (Nat.le_of_ble_eq_true rfl) dX4_count_171 (fun u25 r24 H => ?_)
      exact z_iret X dX4_count_174 H
    · have H := H.2 q23
      refine z_bipush (v := -3) X dX4_count_165 (by decide) ?_
      refine z_goto (tgt := 174) X dX4_count_167 (by decide) ?_
      exact z_iret X dX4_count_174 H
  have H := H.2 q22
  refine z_tableOut (tgt := 175) X dX4_count_1 (by have := lv_neT (a := 0) q1 rfl; have := lv_neT (a := 1) q2 rfl; have := lv_neT (a := 2) q3 rfl; have := lv_neT (a := 3) q5 rfl; have := lv_neT (a := 4) q6 rfl; have := lv_neT (a := 5) q10 rfl; have := lv_neT (a := 6) q14 rfl; have := lv_neT (a := 7) q18 rfl; have := lv_neT (a := 8) q22 rfl; omega) (by decide) ?_
  refine z_bipush (v := -2) X dX4_count_175 (by decide) ?_
  exact z_iret X dX4_count_177 H
theorem k_X4_count {g : zE} {κ : zK} {h : zH} (hh : zDT κ h) {u : TS} {Φ : TS → Option Value → Prop} {cc : ByteArray} {nL : Nat} {own : String} {ret : Option FieldType} {rm : Room} {lv : List (Nat × Value)} {pc : Nat} {st : List Value} {idx N : Nat} {a1 : Int32} {P : TS → Int32 → Prop} (X : zC g κ (hsT h) (wT κ h) cc nL own ret rm) (hml : Cond.methodLink own idx yX4_count ∈ zT) (H : w_X4_count N u a1 P) (hR : 3 + 1 ≤ rm.frames ∧ 8 + (2 + 11) + 66 ≤ rm.locals) (hroom : (st.map fun v => v.category).sum ≤ 8) (d : decode cc pc = .ok (.invokevirtual idx, 3)) (kk : ∀ u1 v, P u1 v → zJ g κ (hsT h) (wT κ h) Φ nL u1 lv (pc + 3) (.int v :: st)) : zJ g κ (hsT h) (wT κ h) Φ nL u lv pc (.int a1 :: .ref h.1 :: st) := z_callV (As := [.int a1]) X yy_X4_count hml im_X4_count se_X4_count (c_X4_count hh N u a1 P H) 3 0 rfl rfl rfl ⟨rfl, rfl⟩ hR rfl hroom d (fun u1 r hz => by obtain ⟨v, hr, hP⟩ := hz; subst hr; exact kk u1 v hP)
