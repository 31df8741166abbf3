def w_X2_clear (N : Nat) (u : TS) (P : TS → Prop) : Prop := (w_fillF N u (0 : Int32) fun u2 => (P u2))
set_option maxHeartbeats 4000000 in
set_option maxRecDepth 100000 in
theorem c_X2_clear {l : Launch} {κ : zK} {h : zH} (hh : zDT κ h) (N : Nat) (u : TS) (P : TS → Prop) (H : w_X2_clear N u P) : zM l κ (hsT h) (wT κ h) yX2_clear cX2_clear 1 none { frames := 1, cells := 0, slots := 0, locals := 23 } [.ref h.2.2.2.1] u (zv P) := by
  refine z_met (own := RX2) (by decide) rfl (Nat.le_of_ble_eq_true rfl) hh (fun g X => ?_)
  show zJ g κ (hsT h) (wT κ h) (zv P) 1 u [(0, .ref h.2.2.2.1)] 0 []
  unfold w_X2_clear at H
  refine z_aload_n X dX2_clear_0 0 rfl rfl ?_
  refine gf_X2_9 X dX2_clear_1 ?_
  refine z_iconst (v := 0) X dX2_clear_4 (by decide) ?_
  refine k_fillF hh X ml_X2_19 H ⟨Nat.le_of_ble_eq_true rfl, Nat.le_of_ble_eq_true rfl⟩ (Nat.le_of_ble_eq_true rfl) dX2_clear_5 (fun u2 H => ?_)
  exact z_vret X dX2_clear_8 H
theorem k_X2_clear {g : zE} {κ : zK} {h : zH} (hh : zDT κ h) {u : TS} {Φ : TS → Option Value → Prop} {cc : ByteArray} {nL : Nat} {own : String} {ret : Option FieldType} {rm : Room} {lv : List (Nat × Value)} {pc : Nat} {st : List Value} {idx N : Nat}  {P : TS → Prop} (X : zC g κ (hsT h) (wT κ h) cc nL own ret rm) (hml : Cond.methodLink own idx yX2_clear ∈ zT) (H : w_X2_clear N u P) (hR : 1 + 1 ≤ rm.frames ∧ 8 + (1 + 11) + 23 ≤ rm.locals) (hroom : (st.map fun v => v.category).sum ≤ 8) (d : decode cc pc = .ok (.invokevirtual idx, 3)) (kk : ∀ u1, P u1 → zJ g κ (hsT h) (wT κ h) Φ nL u1 lv (pc + 3) st) : zJ g κ (hsT h) (wT κ h) Φ nL u lv pc (.ref h.2.2.2.1 :: st) := z_callV (As := []) X yy_X2_clear hml im_X2_clear se_X2_clear (c_X2_clear hh N u P H) 1 3 rfl rfl rfl ⟨rfl, rfl⟩ hR rfl hroom d (fun u1 r hz => by obtain ⟨hr, hP⟩ := hz; subst hr; exact kk u1 hP)
def w_X2_firstOf (N : Nat) (u : TS) (a1 : Int32) (P : TS → Int32 → Prop) : Prop := ((a1 < 0 → (P u (0 : Int32))) ∧ (¬ a1 < 0 → ((a1 < (72 : Int32) → (vp_in a1 72 ∧ (P u (u.1.2.2.1 (a1).toNatClampNeg)))) ∧ (¬ a1 < (72 : Int32) → (P u (0 : Int32))))))
set_option maxHeartbeats 4000000 in
set_option maxRecDepth 100000 in
theorem c_X2_firstOf {l : Launch} {κ : zK} {h : zH} (hh : zDT κ h) (N : Nat) (u : TS) (a1 : Int32) (P : TS → Int32 → Prop) (H : w_X2_firstOf N u a1 P) : zM l κ (hsT h) (wT κ h) yX2_firstOf cX2_firstOf 2 (some .int) { frames := 0, cells := 0, slots := 0, locals := 0 } [.ref h.2.2.2.1, .int a1] u (zi P) := by
  refine z_met (own := RX2) (by decide) rfl (Nat.le_of_ble_eq_true rfl) hh (fun g X => ?_)
  show zJ g κ (hsT h) (wT κ h) (zi P) 2 u [(0, .ref h.2.2.2.1), (1, .int a1)] 0 []
  unfold w_X2_firstOf at H
  refine z_iload_n X dX2_firstOf_0 1 rfl rfl ?_
  refine z_if_lt (tgt := 19) X dX2_firstOf_1 (by decide) (fun q1 => ?_) (fun q1 => ?_)
  · have H := H.1 q1
    refine z_iconst (v := 0) X dX2_firstOf_19 (by decide) ?_
    exact z_iret X dX2_firstOf_20 H
  · have H := H.2 q1
    refine z_iload_n X dX2_firstOf_4 1 rfl rfl ?_
    refine z_bipush (v := 72) X dX2_firstOf_5 (by decide) ?_
    refine z_icmp_ge (tgt := 19) X dX2_firstOf_7 (by decide) (fun q2 => ?_) (fun q2 => ?_)
    · have H := H.2 q2
      refine z_iconst (v := 0) X dX2_firstOf_19 (by decide) ?_
      exact z_iret X dX2_firstOf_20 H
    · have H := H.1 q2
      refine z_aload_n X dX2_firstOf_10 0 rfl rfl ?_
      refine gf_X2_9 X dX2_firstOf_11 ?_
      refine z_iload_n X dX2_firstOf_14 1 rfl rfl ?_
      obtain ⟨q3, H⟩ := H
      refine ar_firsts X q3 dX2_firstOf_15 ?_
      refine z_goto (tgt := 20) X dX2_firstOf_16 (by decide) ?_
      exact z_iret X dX2_firstOf_20 H
theorem k_X2_firstOf {g : zE} {κ : zK} {h : zH} (hh : zDT κ h) {u : TS} {Φ : TS → Option Value → Prop} {cc : ByteArray} {nL : Nat} {own : String} {ret : Option FieldType} {rm : Room} {lv : List (Nat × Value)} {pc : Nat} {st : List Value} {idx N : Nat} {a1 : Int32} {P : TS → Int32 → Prop} (X : zC g κ (hsT h) (wT κ h) cc nL own ret rm) (hml : Cond.methodLink own idx yX2_firstOf ∈ zT) (H : w_X2_firstOf N u a1 P) (hR : 0 + 1 ≤ rm.frames ∧ 8 + (2 + 11) + 0 ≤ rm.locals) (hroom : (st.map fun v => v.category).sum ≤ 8) (d : decode cc pc = .ok (.invokevirtual idx, 3)) (kk : ∀ u1 v, P u1 v → zJ g κ (hsT h) (wT κ h) Φ nL u1 lv (pc + 3) (.int v :: st)) : zJ g κ (hsT h) (wT κ h) Φ nL u lv pc (.int a1 :: .ref h.2.2.2.1 :: st) := z_callV (As := [.int a1]) X yy_X2_firstOf hml im_X2_firstOf se_X2_firstOf (c_X2_firstOf hh N u a1 P H) 1 3 rfl rfl rfl ⟨rfl, rfl⟩ hR rfl hroom d (fun u1 r hz => by obtain ⟨v, hr, hP⟩ := hz; subst hr; exact kk u1 v hP)
def w_X2_layFirst (N : Nat) (u : TS) (a1 : Int32) (a2 : Int32) (P : TS → Prop) : Prop := ((a1 < 0 → (P u)) ∧ (¬ a1 < 0 → ((a1 < (72 : Int32) → (vp_in a1 72 ∧ zlet (sF u.1 (upd u.1.2.2.1 (a1).toNatClampNeg a2), u.2) fun u4 => (P u4))) ∧ (¬ a1 < (72 : Int32) → (P u)))))
set_option maxHeartbeats 4000000 in
set_option maxRecDepth 100000 in
theorem c_X2_layFirst {l : Launch} {κ : zK} {h : zH} (hh : zDT κ h) (N : Nat) (u : TS) (a1 : Int32) (a2 : Int32) (P : TS → Prop) (H : w_X2_layFirst N u a1 a2 P) : zM l κ (hsT h) (wT κ h) yX2_layFirst cX2_layFirst 3 none { frames := 0, cells := 0, slots := 0, locals := 0 } [.ref h.2.2.2.1, .int a1, .int a2] u (zv P) := by
  refine z_met (own := RX2) (by decide) rfl (Nat.le_of_ble_eq_true rfl) hh (fun g X => ?_)
  show zJ g κ (hsT h) (wT κ h) (zv P) 3 u [(0, .ref h.2.2.2.1), (1, .int a1), (2, .int a2)] 0 []
  unfold w_X2_layFirst at H
  refine z_iload_n X dX2_layFirst_0 1 rfl rfl ?_
  refine z_if_lt (tgt := 17) X dX2_layFirst_1 (by decide) (fun q1 => ?_) (fun q1 => ?_)
  · have H := H.1 q1
    exact z_vret X dX2_layFirst_17 H
  · have H := H.2 q1
    refine z_iload_n X dX2_layFirst_4 1 rfl rfl ?_
    refine z_bipush (v := 72) X dX2_layFirst_5 (by decide) ?_
    refine z_icmp_ge (tgt := 17) X dX2_layFirst_7 (by decide) (fun q2 => ?_) (fun q2 => ?_)
    · have H := H.2 q2
      exact z_vret X dX2_layFirst_17 H
    · have H := H.1 q2
      refine z_aload_n X dX2_layFirst_10 0 rfl rfl ?_
      refine gf_X2_9 X dX2_layFirst_11 ?_
      refine z_iload_n X dX2_layFirst_14 1 rfl rfl ?_
      refine z_iload_n X dX2_layFirst_15 2 rfl rfl ?_
      obtain ⟨q3, H⟩ := H
      refine aw_firsts X q3 dX2_layFirst_16 H (fun u4 H => ?_)
      exact z_vret X dX2_layFirst_17 H
theorem k_X2_layFirst {g : zE} {κ : zK} {h : zH} (hh : zDT κ h) {u : TS} {Φ : TS → Option Value → Prop} {cc : ByteArray} {nL : Nat} {own : String} {ret : Option FieldType} {rm : Room} {lv : List (Nat × Value)} {pc : Nat} {st : List Value} {idx N : Nat} {a1 : Int32} {a2 : Int32} {P : TS → Prop} (X : zC g κ (hsT h) (wT κ h) cc nL own ret rm) (hml : Cond.methodLink own idx yX2_layFirst ∈ zT) (H : w_X2_layFirst N u a1 a2 P) (hR : 0 + 1 ≤ rm.frames ∧ 8 + (3 + 11) + 0 ≤ rm.locals) (hroom : (st.map fun v => v.category).sum ≤ 8) (d : decode cc pc = .ok (.invokevirtual idx, 3)) (kk : ∀ u1, P u1 → zJ g κ (hsT h) (wT κ h) Φ nL u1 lv (pc + 3) st) : zJ g κ (hsT h) (wT κ h) Φ nL u lv pc (.int a2 :: .int a1 :: .ref h.2.2.2.1 :: st) := z_callV (As := [.int a1, .int a2]) X yy_X2_layFirst hml im_X2_layFirst se_X2_layFirst (c_X2_layFirst hh N u a1 a2 P H) 1 3 rfl rfl rfl ⟨rfl, rfl⟩ hR rfl hroom d (fun u1 r hz => by obtain ⟨hr, hP⟩ := hz; subst hr; exact kk u1 hP)
def w_X2_come_63 (N : Nat) (P : TS → Prop) (u : TS) (x2 : Int32) (x3 : Int32) : Prop := (w_X2_layFirst N u x2 x3 fun u13 => (zlet (sMv u13.1 ((u13.1.2.2.2.1) + (1 : Int32)), u13.2) fun u14 => (P u14)))
def w_X2_come (N : Nat) (u : TS) (a1 : Int32) (P : TS → Prop) : Prop := (w_X3_bodyOf N u a1 fun u2 r1 => (w_X1_ofBody N r1 fun r3 => (w_X2_firstOf N u2 r3 fun u6 r5 => (w_X3_lay N u6 (a1 + (1 : Int32)) (r5).toInt64 fun u8 => (w_X3_lay N u8 ((a1 + (1 : Int32)) + (1 : Int32)) (0 : Int64) fun u10 => ((r5 = 0 → (w_X2_come_63 N P u10 r3 (a1 + (1 : Int32)))) ∧ (¬ r5 = 0 → (w_X3_lay N u10 (r5 + (1 : Int32)) ((a1 + (1 : Int32))).toInt64 fun u16 => (w_X2_come_63 N P u16 r3 (a1 + (1 : Int32)))))))))))
set_option maxHeartbeats 4000000 in
set_option maxRecDepth 100000 in
theorem j_X2_come_63 {κ : zK} {h : zH} (hh : zDT κ h) (N : Nat) {g : zE} (X : zC g κ (hsT h) (wT κ h) cX2_come 5 RX2 none { frames := 3, cells := 0, slots := 0, locals := 62 }) (P : TS → Prop) (u : TS) (x2 : Int32) (x3 : Int32) (H : w_X2_come_63 N P u x2 x3) : zJ g κ (hsT h) (wT κ h) (zv P) 5 u [(0, .ref h.2.2.2.1), (2, .int x2), (3, .int x3)] 63 [] := by
  unfold w_X2_come_63 at H
  refine z_aload_n X dX2_come_63 0 rfl rfl ?_
  refine z_iload_n X dX2_come_64 1 rfl rfl ?_
  refine z_iload_n X dX2_come_65 2 rfl rfl ?_
  refine k_X2_layFirst hh X ml_X2_47 H ⟨Nat.le_of_ble_eq_true rfl, Nat.le_of_ble_eq_true rfl⟩ (Nat.le_of_ble_eq_true rfl) dX2_come_66 (fun u13 H => ?_)
  refine z_aload_n X dX2_come_69 0 rfl rfl ?_
  refine z_dup X dX2_come_70 rfl ?_
  refine gf_X2_25 X dX2_come_71 ?_
  refine z_iconst (v := 1) X dX2_come_74 (by decide) ?_
  refine z_iadd X dX2_come_75 ?_
  refine pf_X2_25 X dX2_come_76 H (fun u14 H => ?_)
  exact z_vret X dX2_come_79 H
set_option maxHeartbeats 4000000 in
set_option maxRecDepth 100000 in
theorem c_X2_come {l : Launch} {κ : zK} {h : zH} (hh : zDT κ h) (N : Nat) (u : TS) (a1 : Int32) (P : TS → Prop) (H : w_X2_come N u a1 P) : zM l κ (hsT h) (wT κ h) yX2_come cX2_come 5 none { frames := 3, cells := 0, slots := 0, locals := 62 } [.ref h.2.2.2.1, .int a1] u (zv P) := by
  refine z_met (own := RX2) (by decide) rfl (Nat.le_of_ble_eq_true rfl) hh (fun g X => ?_)
  show zJ g κ (hsT h) (wT κ h) (zv P) 5 u [(0, .ref h.2.2.2.1), (1, .int a1)] 0 []
  unfold w_X2_come at H
  refine z_aload_n X dX2_come_0 0 rfl rfl ?_
  refine gf_X2_15 X dX2_come_1 ?_
  refine z_iload_n X dX2_come_4 1 rfl rfl ?_
  refine k_X3_bodyOf hh X ml_X2_29 H ⟨Nat.le_of_ble_eq_true rfl, Nat.le_of_ble_eq_true rfl⟩ (Nat.le_of_ble_eq_true rfl) dX2_come_5 (fun u2 r1 H => ?_)
  refine k_X1_ofBody X ml_X2_35 H ⟨Nat.le_of_ble_eq_true rfl, Nat.le_of_ble_eq_true rfl⟩ (Nat.le_of_ble_eq_true rfl) dX2_come_8 (fun r3 H => ?_)
  refine z_istore_n (lv' := [(2, .int r3), (0, .ref h.2.2.2.1), (1, .int a1)]) X dX2_come_11 rfl (by decide) rfl ?_
  refine z_iload_n X dX2_come_12 2 rfl rfl ?_
  refine z_iconst (v := 1) X dX2_come_13 (by decide) ?_
  refine z_iadd X dX2_come_14 ?_
  refine z_istore_n (lv' := [(3, .int (a1 + (1 : Int32))), (2, .int r3), (0, .ref h.2.2.2.1), (1, .int a1)]) X dX2_come_15 rfl (by decide) rfl ?_
  refine z_aload_n X dX2_come_16 2 rfl rfl ?_
  refine z_iload_n X dX2_come_17 1 rfl rfl ?_
  refine k_X2_firstOf hh X ml_X2_40 H ⟨Nat.le_of_ble_eq_true rfl, Nat.le_of_ble_eq_true rfl⟩ (Nat.le_of_ble_eq_true rfl) dX2_come_18 (fun u6 r5 H => ?_)
  refine z_istore (lv' := [(4, .int r5), (3, .int (a1 + (1 : Int32))), (2, .int r3), (0, .ref h.2.2.2.1), (1, .int a1)]) X dX2_come_21 (by decide) rfl ?_
  refine z_aload_n X dX2_come_23 3 rfl rfl ?_
  refine gf_X2_15 X dX2_come_24 ?_
  refine z_iload_n X dX2_come_27 1 rfl rfl ?_
  refine z_iload X dX2_come_28 0 rfl ?_
  refine z_i2l X dX2_come_30 ?_
  refine k_X3_lay hh X ml_X2_43 H ⟨Nat.le_of_ble_eq_true rfl, Nat.le_of_ble_eq_true rfl⟩ (Nat.le_of_ble_eq_true rfl) dX2_come_31 (fun u8 H => ?_)
  refine z_aload_n X dX2_come_34 3 rfl rfl ?_
  refine gf_X2_15 X dX2_come_35 ?_
  refine z_iload_n X dX2_come_38 1 rfl rfl ?_
  refine z_iconst (v := 1) X dX2_come_39 (by decide) ?_
  refine z_iadd X dX2_come_40 ?_
  refine z_lconst (v := 0) X dX2_come_41 (by decide) ?_
  refine k_X3_lay hh X ml_X2_43 H ⟨Nat.le_of_ble_eq_true rfl, Nat.le_of_ble_eq_true rfl⟩ (Nat.le_of_ble_eq_true rfl) dX2_come_42 (fun u10 H => ?_)
  refine z_iload X dX2_come_45 0 rfl ?_
  refine z_if_eq (tgt := 63) X dX2_come_47 (by decide) (fun q11 => ?_) (fun q11 => ?_)
  · have H := H.1 q11
    exact z_sub (j_X2_come_63 hh N X P u10 r3 (a1 + (1 : Int32)) H) [3, 2, 1] rfl
  · have H := H.2 q11
    refine z_aload_n X dX2_come_50 3 rfl rfl ?_
    refine gf_X2_15 X dX2_come_51 ?_
    refine z_iload X dX2_come_54 0 rfl ?_
    refine z_iconst (v := 1) X dX2_come_56 (by decide) ?_
    refine z_iadd X dX2_come_57 ?_
    refine z_iload_n X dX2_come_58 1 rfl rfl ?_
    refine z_i2l X dX2_come_59 ?_
    refine k_X3_lay hh X ml_X2_43 H ⟨Nat.le_of_ble_eq_true rfl, Nat.le_of_ble_eq_true rfl⟩ (Nat.le_of_ble_eq_true rfl) dX2_come_60 (fun u16 H => ?_)
    exact z_sub (j_X2_come_63 hh N X P u16 r3 (a1 + (1 : Int32)) H) [3, 2, 1] rfl
theorem k_X2_come {g : zE} {κ : zK} {h : zH} (hh : zDT κ h) {u : TS} {Φ : TS → Option Value → Prop} {cc : ByteArray} {nL : Nat} {own : String} {ret : Option FieldType} {rm : Room} {lv : List (Nat × Value)} {pc : Nat} {st : List Value} {idx N : Nat} {a1 : Int32} {P : TS → Prop} (X : zC g κ (hsT h) (wT κ h) cc nL own ret rm) (hml : Cond.methodLink own idx yX2_come ∈ zT) (H : w_X2_come N u a1 P) (hR : 3 + 1 ≤ rm.frames ∧ 8 + (5 + 11) + 62 ≤ rm.locals) (hroom : (st.map fun v => v.category).sum ≤ 8) (d : decode cc pc = .ok (.invokevirtual idx, 3)) (kk : ∀ u1, P u1 → zJ g κ (hsT h) (wT κ h) Φ nL u1 lv (pc + 3) st) : zJ g κ (hsT h) (wT κ h) Φ nL u lv pc (.int a1 :: .ref h.2.2.2.1 :: st) := z_callV (As := [.int a1]) X yy_X2_come hml im_X2_come se_X2_come (c_X2_come hh N u a1 P H) 1 3 rfl rfl rfl ⟨rfl, rfl⟩ hR rfl hroom d (fun u1 r hz => by obtain ⟨hr, hP⟩ := hz; subst hr; exact kk u1 hP)
def w_X2_forgetMoves (N : Nat) (u : TS) (P : TS → Prop) : Prop := (zlet (sMv u.1 (0 : Int32), u.2) fun u1 => (P u1))
set_option maxHeartbeats 4000000 in
set_option maxRecDepth 100000 in
theorem c_X2_forgetMoves {l : Launch} {κ : zK} {h : zH} (hh : zDT κ h) (N : Nat) (u : TS) (P : TS → Prop) (H : w_X2_forgetMoves N u P) : zM l κ (hsT h) (wT κ h) yX2_forgetMoves cX2_forgetMoves 1 none { frames := 0, cells := 0, slots := 0, locals := 0 } [.ref h.2.2.2.1] u (zv P) := by
  refine z_met (own := RX2) (by decide) rfl (Nat.le_of_ble_eq_true rfl) hh (fun g X => ?_)
  show zJ g κ (hsT h) (wT κ h) (zv P) 1 u [(0, .ref h.2.2.2.1)] 0 []
  unfold w_X2_forgetMoves at H
  refine z_aload_n X dX2_forgetMoves_0 0 rfl rfl ?_
  refine z_iconst (v := 0) X dX2_forgetMoves_1 (by decide) ?_
  refine pf_X2_25 X dX2_forgetMoves_2 H (fun u1 H => ?_)
  exact z_vret X dX2_forgetMoves_5 H
theorem k_X2_forgetMoves {g : zE} {κ : zK} {h : zH} (hh : zDT κ h) {u : TS} {Φ : TS → Option Value → Prop} {cc : ByteArray} {nL : Nat} {own : String} {ret : Option FieldType} {rm : Room} {lv : List (Nat × Value)} {pc : Nat} {st : List Value} {idx N : Nat}  {P : TS → Prop} (X : zC g κ (hsT h) (wT κ h) cc nL own ret rm) (hml : Cond.methodLink own idx yX2_forgetMoves ∈ zT) (H : w_X2_forgetMoves N u P) (hR : 0 + 1 ≤ rm.frames ∧ 8 + (1 + 11) + 0 ≤ rm.locals) (hroom : (st.map fun v => v.category).sum ≤ 8) (d : decode cc pc = .ok (.invokevirtual idx, 3)) (kk : ∀ u1, P u1 → zJ g κ (hsT h) (wT κ h) Φ nL u1 lv (pc + 3) st) : zJ g κ (hsT h) (wT κ h) Φ nL u lv pc (.ref h.2.2.2.1 :: st) := z_callV (As := []) X yy_X2_forgetMoves hml im_X2_forgetMoves se_X2_forgetMoves (c_X2_forgetMoves hh N u P H) 1 3 rfl rfl rfl ⟨rfl, rfl⟩ hR rfl hroom d (fun u1 r hz => by obtain ⟨hr, hP⟩ := hz; subst hr; exact kk u1 hP)
def w_X2_headerFor_5 (N : Nat) (P : TS → Int32 → Prop) : Nat → TS → Int32 → Prop
  | 0, _, _ => False
  | n + 1, u, x2 => ((x2 < (72 : Int32) → (w_X2_firstOf N u x2 fun u5 r4 => ((r4 = 0 → (w_X2_headerFor_5 N P n u5 (x2 + (1 : Int32)))) ∧ (¬ r4 = 0 → (w_X2_firstOf N u5 x2 fun u8 r7 => (P u8 (r7 - (1 : Int32)))))))) ∧ (¬ x2 < (72 : Int32) → (P u (-1 : Int32))))
def w_X2_headerFor (N : Nat) (u : TS) (a1 : Int32) (P : TS → Int32 → Prop) : Prop := (w_X1_ofWish N a1 fun r1 => (w_X2_headerFor_5 N P N u r1))
set_option maxHeartbeats 4000000 in
set_option maxRecDepth 100000 in
theorem j_X2_headerFor_5 {κ : zK} {h : zH} (hh : zDT κ h) (N : Nat) {g : zE} (X : zC g κ (hsT h) (wT κ h) cX2_headerFor 3 RX2 (some .int) { frames := 4, cells := 0, slots := 0, locals := 83 }) (P : TS → Int32 → Prop) : ∀ (n : Nat) (u : TS) (x2 : Int32), w_X2_headerFor_5 N P n u x2 → zJ g κ (hsT h) (wT κ h) (zi P) 3 u [(0, .ref h.2.2.2.1), (2, .int x2)] 5 [] := by
  intro n
  induction n with
  | zero => intro u x2 H; exact absurd H (by rw [w_X2_headerFor_5]; exact id)
  | succ n ih =>
    intro u x2 H
    rw [w_X2_headerFor_5] at H
    refine z_iload_n X dX2_headerFor_5 1 rfl rfl ?_
    refine z_bipush (v := 72) X dX2_headerFor_6 (by decide) ?_
    refine z_icmp_ge (tgt := 33) X dX2_headerFor_8 (by decide) (fun q3 => ?_) (fun q3 => ?_)
    · have H := H.2 q3
      refine z_iconst (v := -1) X dX2_headerFor_33 (by decide) ?_
      exact z_iret X dX2_headerFor_34 H
    · have H := H.1 q3
      refine z_aload_n X dX2_headerFor_11 0 rfl rfl ?_
      refine z_iload_n X dX2_headerFor_12 1 rfl rfl ?_
      refine k_X2_firstOf hh X ml_X2_40 H ⟨Nat.le_of_ble_eq_true rfl, Nat.le_of_ble_eq_true rfl⟩ (Nat.le_of_ble_eq_true rfl) dX2_headerFor_13 (fun u5 r4 H => ?_)
      refine z_if_eq (tgt := 27) X dX2_headerFor_16 (by decide) (fun q6 => ?_) (fun q6 => ?_)
      · have H := H.1 q6
        refine z_iinc (k := 1) (v := (x2 + (1 : Int32))) (lv' := [(2, .int (x2 + (1 : Int32))), (0, .ref h.2.2.2.1)]) X dX2_headerFor_27 rfl rfl (by decide) rfl ?_
        refine z_goto (tgt := 5) X dX2_headerFor_30 (by decide) ?_
        exact z_sub (ih u5 (x2 + (1 : Int32)) H) [1, 0] rfl
      · have H := H.2 q6
        refine z_aload_n X dX2_headerFor_19 0 rfl rfl ?_
        refine z_iload_n X dX2_headerFor_20 1 rfl rfl ?_
        refine k_X2_firstOf hh X ml_X2_40 H ⟨Nat.le_of_ble_eq_true rfl, Nat.le_of_ble_eq_true rfl⟩ (Nat.le_of_ble_eq_true rfl) dX2_headerFor_21 (fun u8 r7 H => ?_)
        refine z_iconst (v := 1) X dX2_headerFor_24 (by decide) ?_
        refine z_isub X dX2_headerFor_25 ?_
        exact z_iret X dX2_headerFor_26 H
set_option maxHeartbeats 4000000 in
set_option maxRecDepth 100000 in
theorem c_X2_headerFor {l : Launch} {κ : zK} {h : zH} (hh : zDT κ h) (N : Nat) (u : TS) (a1 : Int32) (P : TS → Int32 → Prop) (H : w_X2_headerFor N u a1 P) : zM l κ (hsT h) (wT κ h) yX2_headerFor cX2_headerFor 3 (some .int) { frames := 4, cells := 0, slots := 0, locals := 83 } [.ref h.2.2.2.1, .int a1] u (zi P) := by
  refine z_met (own := RX2) (by decide) rfl (Nat.le_of_ble_eq_true rfl) hh (fun g X => ?_)
  show zJ g κ (hsT h) (wT κ h) (zi P) 3 u [(0, .ref h.2.2.2.1), (1, .int a1)] 0 []
  unfold w_X2_headerFor at H
  refine z_iload_n X dX2_headerFor_0 1 rfl rfl ?_
  refine k_X1_ofWish X ml_X2_55 H ⟨Nat.le_of_ble_eq_true rfl, Nat.le_of_ble_eq_true rfl⟩ (Nat.le_of_ble_eq_true rfl) dX2_headerFor_1 (fun r1 H => ?_)
  refine z_istore_n (lv' := [(2, .int r1), (0, .ref h.2.2.2.1), (1, .int a1)]) X dX2_headerFor_4 rfl (by decide) rfl ?_
  exact z_sub (j_X2_headerFor_5 hh N X P N u r1 H) [1, 0] rfl
theorem k_X2_headerFor {g : zE} {κ : zK} {h : zH} (hh : zDT κ h) {u : TS} {Φ : TS → Option Value → Prop} {cc : ByteArray} {nL : Nat} {own : String} {ret : Option FieldType} {rm : Room} {lv : List (Nat × Value)} {pc : Nat} {st : List Value} {idx N : Nat} {a1 : Int32} {P : TS → Int32 → Prop} (X : zC g κ (hsT h) (wT κ h) cc nL own ret rm) (hml : Cond.methodLink own idx yX2_headerFor ∈ zT) (H : w_X2_headerFor N u a1 P) (hR : 4 + 1 ≤ rm.frames ∧ 8 + (3 + 11) + 83 ≤ rm.locals) (hroom : (st.map fun v => v.category).sum ≤ 8) (d : decode cc pc = .ok (.invokevirtual idx, 3)) (kk : ∀ u1 v, P u1 v → zJ g κ (hsT h) (wT κ h) Φ nL u1 lv (pc + 3) (.int v :: st)) : zJ g κ (hsT h) (wT κ h) Φ nL u lv pc (.int a1 :: .ref h.2.2.2.1 :: st) := z_callV (As := [.int a1]) X yy_X2_headerFor hml im_X2_headerFor se_X2_headerFor (c_X2_headerFor hh N u a1 P H) 1 3 rfl rfl rfl ⟨rfl, rfl⟩ hR rfl hroom d (fun u1 r hz => by obtain ⟨v, hr, hP⟩ := hz; subst hr; exact kk u1 v hP)
def w_X2_leave_79 (N : Nat) (P : TS → Prop) (u : TS) : Prop := (zlet (sMv u.1 ((u.1.2.2.2.1) + (1 : Int32)), u.2) fun u13 => (P u13))
def w_X2_leave_44 (N : Nat) (P : TS → Prop) (u : TS) (x1 : Int32) (x3 : Int32) (x4 : Int32) : Prop := ((x4 = 0 → (w_X3_bodyOf N u x1 fun u8 r7 => (w_X1_ofBody N r7 fun r9 => (w_X2_layFirst N u8 r9 x3 fun u12 => (w_X2_leave_79 N P u12))))) ∧ (¬ x4 = 0 → (w_X3_lay N u x4 (x3).toInt64 fun u15 => (w_X2_leave_79 N P u15))))
def w_X2_leave (N : Nat) (u : TS) (a1 : Int32) (P : TS → Prop) : Prop := (w_X3_at N u (a1 + (1 : Int32)) fun u2 r1 => (w_X3_at N u2 ((a1 + (1 : Int32)) + (1 : Int32)) fun u4 r3 => (((r1).toInt32 = 0 → (w_X2_leave_44 N P u4 a1 (r1).toInt32 (r3).toInt32)) ∧ (¬ (r1).toInt32 = 0 → (w_X3_lay N u4 ((r1).toInt32 + (1 : Int32)) ((r3).toInt32).toInt64 fun u17 => (w_X2_leave_44 N P u17 a1 (r1).toInt32 (r3).toInt32))))))
set_option maxHeartbeats 4000000 in
set_option maxRecDepth 100000 in
theorem j_X2_leave_79 {κ : zK} {h : zH} (hh : zDT κ h) (N : Nat) {g : zE} (X : zC g κ (hsT h) (wT κ h) cX2_leave 5 RX2 none { frames := 3, cells := 0, slots := 0, locals := 62 }) (P : TS → Prop) (u : TS) (H : w_X2_leave_79 N P u) : zJ g κ (hsT h) (wT κ h) (zv P) 5 u [(0, .ref h.2.2.2.1)] 79 [] := by
  unfold w_X2_leave_79 at H
  refine z_aload_n X dX2_leave_79 0 rfl rfl ?_
  refine z_dup X dX2_leave_80 rfl ?_
  refine gf_X2_25 X dX2_leave_81 ?_
  refine z_iconst (v := 1) X dX2_leave_84 (by decide) ?_
  refine z_iadd X dX2_leave_85 ?_
  refine pf_X2_25 X dX2_leave_86 H (fun u13 H => ?_)
  exact z_vret X dX2_leave_89 H
set_option maxHeartbeats 4000000 in
set_option maxRecDepth 100000 in
theorem j_X2_leave_44 {κ : zK} {h : zH} (hh : zDT κ h) (N : Nat) {g : zE} (X : zC g κ (hsT h) (wT κ h) cX2_leave 5 RX2 none { frames := 3, cells := 0, slots := 0, locals := 62 }) (P : TS → Prop) (u : TS) (x1 : Int32) (x3 : Int32) (x4 : Int32) (H : w_X2_leave_44 N P u x1 x3 x4) : zJ g κ (hsT h) (wT κ h) (zv P) 5 u [(0, .ref h.2.2.2.1), (1, .int x1), (3, .int x3), (4, .int x4)] 44 [] := by
  unfold w_X2_leave_44 at H
  refine z_iload X dX2_leave_44 3 rfl ?_
  refine z_if_eq (tgt := 63) X dX2_leave_46 (by decide) (fun q6 => ?_) (fun q6 => ?_)
  · have H := H.1 q6
    refine z_aload_n X dX2_leave_63 0 rfl rfl ?_
    refine z_aload_n X dX2_leave_64 0 rfl rfl ?_
    refine gf_X2_15 X dX2_leave_65 ?_
    refine z_iload_n X dX2_leave_68 1 rfl rfl ?_
    refine k_X3_bodyOf hh X ml_X2_29 H ⟨Nat.le_of_ble_eq_true rfl, Nat.le_of_ble_eq_true rfl⟩ (Nat.le_of_ble_eq_true rfl) dX2_leave_69 (fun u8 r7 H => ?_)
    refine k_X1_ofBody X ml_X2_35 H ⟨Nat.le_of_ble_eq_true rfl, Nat.le_of_ble_eq_true rfl⟩ (Nat.le_of_ble_eq_true rfl) dX2_leave_72 (fun r9 H => ?_)
    refine z_iload_n X dX2_leave_75 2 rfl rfl ?_
    refine k_X2_layFirst hh X ml_X2_47 H ⟨Nat.le_of_ble_eq_true rfl, Nat.le_of_ble_eq_true rfl⟩ (Nat.le_of_ble_eq_true rfl) dX2_leave_76 (fun u12 H => ?_)
    exact z_sub (j_X2_leave_79 hh N X P u12 H) [0] rfl
  · have H := H.2 q6
    refine z_aload_n X dX2_leave_49 0 rfl rfl ?_
    refine gf_X2_15 X dX2_leave_50 ?_
    refine z_iload X dX2_leave_53 3 rfl ?_
    refine z_iload_n X dX2_leave_55 2 rfl rfl ?_
    refine z_i2l X dX2_leave_56 ?_
    refine k_X3_lay hh X ml_X2_43 H ⟨Nat.le_of_ble_eq_true rfl, Nat.le_of_ble_eq_true rfl⟩ (Nat.le_of_ble_eq_true rfl) dX2_leave_57 (fun u15 H => ?_)
    refine z_goto (tgt := 79) X dX2_leave_60 (by decide) ?_
    exact z_sub (j_X2_leave_79 hh N X P u15 H) [0] rfl
set_option maxHeartbeats 4000000 in
set_option maxRecDepth 100000 in
theorem c_X2_leave {l : Launch} {κ : zK} {h : zH} (hh : zDT κ h) (N : Nat) (u : TS) (a1 : Int32) (P : TS → Prop) (H : w_X2_leave N u a1 P) : zM l κ (hsT h) (wT κ h) yX2_leave cX2_leave 5 none { frames := 3, cells := 0, slots := 0, locals := 62 } [.ref h.2.2.2.1, .int a1] u (zv P) := by
  refine z_met (own := RX2) (by decide) rfl (Nat.le_of_ble_eq_true rfl) hh (fun g X => ?_)
  show zJ g κ (hsT h) (wT κ h) (zv P) 5 u [(0, .ref h.2.2.2.1), (1, .int a1)] 0 []
  unfold w_X2_leave at H
  refine z_iload_n X dX2_leave_0 1 rfl rfl ?_
  refine z_iconst (v := 1) X dX2_leave_1 (by decide) ?_
  refine z_iadd X dX2_leave_2 ?_
  refine z_istore_n (lv' := [(2, .int (a1 + (1 : Int32))), (0, .ref h.2.2.2.1), (1, .int a1)]) X dX2_leave_3 rfl (by decide) rfl ?_
  refine z_aload_n X dX2_leave_4 1 rfl rfl ?_
  refine gf_X2_15 X dX2_leave_5 ?_
  refine z_iload_n X dX2_leave_8 0 rfl rfl ?_
  refine k_X3_at hh X ml_X2_51 H ⟨Nat.le_of_ble_eq_true rfl, Nat.le_of_ble_eq_true rfl⟩ (Nat.le_of_ble_eq_true rfl) dX2_leave_9 (fun u2 r1 H => ?_)
  refine z_l2i X dX2_leave_12 ?_
  refine z_istore_n (lv' := [(3, .int (r1).toInt32), (2, .int (a1 + (1 : Int32))), (0, .ref h.2.2.2.1), (1, .int a1)]) X dX2_leave_13 rfl (by decide) rfl ?_
  refine z_aload_n X dX2_leave_14 2 rfl rfl ?_
  refine gf_X2_15 X dX2_leave_15 ?_
  refine z_iload_n X dX2_leave_18 1 rfl rfl ?_
  refine z_iconst (v := 1) X dX2_leave_19 (by decide) ?_
  refine z_iadd X dX2_leave_20 ?_
  refine k_X3_at hh X ml_X2_51 H ⟨Nat.le_of_ble_eq_true rfl, Nat.le_of_ble_eq_true rfl⟩ (Nat.le_of_ble_eq_true rfl) dX2_leave_21 (fun u4 r3 H => ?_)
  refine z_l2i X dX2_leave_24 ?_
  refine z_istore (lv' := [(4, .int (r3).toInt32), (3, .int (r1).toInt32), (2, .int (a1 + (1 : Int32))), (0, .ref h.2.2.2.1), (1, .int a1)]) X dX2_leave_25 (by decide) rfl ?_
  refine z_iload_n X dX2_leave_27 1 rfl rfl ?_
  refine z_if_eq (tgt := 44) X dX2_leave_28 (by decide) (fun q5 => ?_) (fun q5 => ?_)
  · have H := H.1 q5
    exact z_sub (j_X2_leave_44 hh N X P u4 a1 (r1).toInt32 (r3).toInt32 H) [3, 4, 1, 0] rfl
  · have H := H.2 q5
    refine z_aload_n X dX2_leave_31 3 rfl rfl ?_
    refine gf_X2_15 X dX2_leave_32 ?_
    refine z_iload_n X dX2_leave_35 1 rfl rfl ?_
    refine z_iconst (v := 1) X dX2_leave_36 (by decide) ?_
    refine z_iadd X dX2_leave_37 ?_
    refine z_iload X dX2_leave_38 0 rfl ?_
    refine z_i2l X dX2_leave_40 ?_
    refine k_X3_lay hh X ml_X2_43 H ⟨Nat.le_of_ble_eq_true rfl, Nat.le_of_ble_eq_true rfl⟩ (Nat.le_of_ble_eq_true rfl) dX2_leave_41 (fun u17 H => ?_)
    exact z_sub (j_X2_leave_44 hh N X P u17 a1 (r1).toInt32 (r3).toInt32 H) [3, 4, 1, 0] rfl
theorem k_X2_leave {g : zE} {κ : zK} {h : zH} (hh : zDT κ h) {u : TS} {Φ : TS → Option Value → Prop} {cc : ByteArray} {nL : Nat} {own : String} {ret : Option FieldType} {rm : Room} {lv : List (Nat × Value)} {pc : Nat} {st : List Value} {idx N : Nat} {a1 : Int32} {P : TS → Prop} (X : zC g κ (hsT h) (wT κ h) cc nL own ret rm) (hml : Cond.methodLink own idx yX2_leave ∈ zT) (H : w_X2_leave N u a1 P) (hR : 3 + 1 ≤ rm.frames ∧ 8 + (5 + 11) + 62 ≤ rm.locals) (hroom : (st.map fun v => v.category).sum ≤ 8) (d : decode cc pc = .ok (.invokevirtual idx, 3)) (kk : ∀ u1, P u1 → zJ g κ (hsT h) (wT κ h) Φ nL u1 lv (pc + 3) st) : zJ g κ (hsT h) (wT κ h) Φ nL u lv pc (.int a1 :: .ref h.2.2.2.1 :: st) := z_callV (As := [.int a1]) X yy_X2_leave hml im_X2_leave se_X2_leave (c_X2_leave hh N u a1 P H) 1 3 rfl rfl rfl ⟨rfl, rfl⟩ hR rfl hroom d (fun u1 r hz => by obtain ⟨hr, hP⟩ := hz; subst hr; exact kk u1 hP)
def w_X0_wrongOfBlock (N : Nat) (u : TS) (a1 : Int32) (a2 : Int32) (P : TS → Int32 → Prop) : Prop := (w_X3_at N u a1 fun u2 r1 => ((r1 < (0 : Int64) → (P u2 (1 : Int32))) ∧ (¬ r1 < (0 : Int64) → (((r1 / (4 : Int64)) < (3 : Int64) → (P u2 (1 : Int32))) ∧ (¬ (r1 / (4 : Int64)) < (3 : Int64) → ((((((u2.1.2.1) - a1) - (1 : Int32))).toInt64 < (r1 / (4 : Int64)) → (P u2 (1 : Int32))) ∧ (¬ ((((u2.1.2.1) - a1) - (1 : Int32))).toInt64 < (r1 / (4 : Int64)) → (w_X3_isAheadFree N u2 a1 fun u7 r6 => ((r6 = a2 → (w_X3_isFree N u7 a1 fun u10 r9 => ((r9 = 0 → (P u10 (0 : Int32))) ∧ (¬ r9 = 0 → ((a2 = 0 → (w_X3_at N u10 (a1 + ((r1 / (4 : Int64))).toInt32) fun u14 r13 => ((r13 = (r1 / (4 : Int64)) → (P u14 (0 : Int32))) ∧ (¬ r13 = (r1 / (4 : Int64)) → (P u14 (4 : Int32)))))) ∧ (¬ a2 = 0 → (P u10 (3 : Int32)))))))) ∧ (¬ r6 = a2 → (P u7 (2 : Int32))))))))))))
set_option maxHeartbeats 4000000 in
set_option maxRecDepth 100000 in
theorem c_X0_wrongOfBlock {l : Launch} {κ : zK} {h : zH} (hh : zDT κ h) (N : Nat) (u : TS) (a1 : Int32) (a2 : Int32) (P : TS → Int32 → Prop) (H : w_X0_wrongOfBlock N u a1 a2 P) : zM l κ (hsT h) (wT κ h) yX0_wrongOfBlock cX0_wrongOfBlock 7 (some .int) { frames := 2, cells := 0, slots := 0, locals := 42 } [.ref h.2.2.2.2.2.1, .int a1, .int a2] u (zi P) := by
  refine z_met (own := RX0) (by decide) rfl (Nat.le_of_ble_eq_true rfl) hh (fun g X => ?_)
  show zJ g κ (hsT h) (wT κ h) (zi P) 7 u [(0, .ref h.2.2.2.2.2.1), (1, .int a1), (2, .int a2)] 0 []
  unfold w_X0_wrongOfBlock at H
  refine z_aload_n X dX0_wrongOfBlock_0 0 rfl rfl ?_
  refine gf_X0_15 X dX0_wrongOfBlock_1 ?_
  refine z_iload_n X dX0_wrongOfBlock_4 1 rfl rfl ?_
  refine k_X3_at hh X ml_X0_68 H ⟨Nat.le_of_ble_eq_true rfl, Nat.le_of_ble_eq_true rfl⟩ (Nat.le_of_ble_eq_true rfl) dX0_wrongOfBlock_5 (fun u2 r1 H => ?_)
  refine z_lstore_n (lv' := [(3, .long r1), (0, .ref h.2.2.2.2.2.1), (1, .int a1), (2, .int a2)]) X dX0_wrongOfBlock_8 rfl (by decide) rfl ?_
  refine z_lload_n X dX0_wrongOfBlock_9 0 rfl rfl ?_
  refine z_ldc2 X kl_X0_72 dX0_wrongOfBlock_10 ?_
  refine z_ldiv X dX0_wrongOfBlock_13 (by decide) ?_
  refine z_lstore (lv' := [(5, .long (r1 / (4 : Int64))), (3, .long r1), (0, .ref h.2.2.2.2.2.1), (1, .int a1), (2, .int a2)]) X dX0_wrongOfBlock_14 (by decide) rfl ?_
  refine z_lload_n X dX0_wrongOfBlock_16 1 rfl rfl ?_
  refine z_lconst (v := 0) X dX0_wrongOfBlock_17 (by decide) ?_
  refine z_lcmp_lt (tgt := 49) X dX0_wrongOfBlock_18 dX0_wrongOfBlock_19 (by decide) (fun q3 => ?_) (fun q3 => ?_)
  · have H := H.1 q3
    refine z_iconst (v := 1) X dX0_wrongOfBlock_49 (by decide) ?_
    exact z_iret X dX0_wrongOfBlock_50 H
  · have H := H.2 q3
    refine z_lload X dX0_wrongOfBlock_22 0 rfl ?_
    refine z_ldc2 X kl_X0_74 dX0_wrongOfBlock_24 ?_
    refine z_lcmp_lt (tgt := 49) X dX0_wrongOfBlock_27 dX0_wrongOfBlock_28 (by decide) (fun q4 => ?_) (fun q4 => ?_)
    · have H := H.1 q4
      refine z_iconst (v := 1) X dX0_wrongOfBlock_49 (by decide) ?_
      exact z_iret X dX0_wrongOfBlock_50 H
    · have H := H.2 q4
      refine z_lload X dX0_wrongOfBlock_31 0 rfl ?_
      refine z_aload_n X dX0_wrongOfBlock_33 2 rfl rfl ?_
      refine gf_X0_15 X dX0_wrongOfBlock_34 ?_
      refine gf_X0_44 X dX0_wrongOfBlock_37 ?_
      refine z_iload_n X dX0_wrongOfBlock_40 3 rfl rfl ?_
      refine z_isub X dX0_wrongOfBlock_41 ?_
      refine z_iconst (v := 1) X dX0_wrongOfBlock_42 (by decide) ?_
      refine z_isub X dX0_wrongOfBlock_43 ?_
      refine z_i2l X dX0_wrongOfBlock_44 ?_
      refine z_lcmp_le (tgt := 51) X dX0_wrongOfBlock_45 dX0_wrongOfBlock_46 (by decide) (fun q5 => ?_) (fun q5 => ?_)
      · have H := H.2 q5
        refine z_aload_n X dX0_wrongOfBlock_51 2 rfl rfl ?_
        refine gf_X0_15 X dX0_wrongOfBlock_52 ?_
        refine z_iload_n X dX0_wrongOfBlock_55 3 rfl rfl ?_
        refine k_X3_isAheadFree hh X ml_X0_76 H ⟨Nat.le_of_ble_eq_true rfl, Nat.le_of_ble_eq_true rfl⟩ (Nat.le_of_ble_eq_true rfl) dX0_wrongOfBlock_56 (fun u7 r6 H => ?_)
        refine z_iload_n X dX0_wrongOfBlock_59 4 rfl rfl ?_
        refine z_icmp_eq (tgt := 65) X dX0_wrongOfBlock_60 (by decide) (fun q8 => ?_) (fun q8 => ?_)
        · have H := H.1 q8
          refine z_aload_n X dX0_wrongOfBlock_65 2 rfl rfl ?_
          refine gf_X0_15 X dX0_wrongOfBlock_66 ?_
          refine z_iload_n X dX0_wrongOfBlock_69 3 rfl rfl ?_
          refine k_X3_isFree hh X ml_X0_57 H ⟨Nat.le_of_ble_eq_true rfl, Nat.le_of_ble_eq_true rfl⟩ (Nat.le_of_ble_eq_true rfl) dX0_wrongOfBlock_70 (fun u10 r9 H => ?_)
          refine z_if_ne (tgt := 78) X dX0_wrongOfBlock_73 (by decide) (fun q11 => ?_) (fun q11 => ?_)
          · have H := H.2 q11
            refine z_iload_n X dX0_wrongOfBlock_78 4 rfl rfl ?_
            refine z_if_eq (tgt := 84) X dX0_wrongOfBlock_79 (by decide) (fun q12 => ?_) (fun q12 => ?_)
            · have H := H.1 q12
              refine z_aload_n X dX0_wrongOfBlock_84 2 rfl rfl ?_
              refine gf_X0_15 X dX0_wrongOfBlock_85 ?_
              refine z_iload_n X dX0_wrongOfBlock_88 3 rfl rfl ?_
              refine z_lload X dX0_wrongOfBlock_89 0 rfl ?_
              refine z_l2i X dX0_wrongOfBlock_91 ?_
              refine z_iadd X dX0_wrongOfBlock_92 ?_
              refine k_X3_at hh X ml_X0_68 H ⟨Nat.le_of_ble_eq_true rfl, Nat.le_of_ble_eq_true rfl⟩ (Nat.le_of_ble_eq_true rfl) dX0_wrongOfBlock_93 (fun u14 r13 H => ?_)
              refine z_lload X dX0_wrongOfBlock_96 0 rfl ?_
              refine z_lcmp_eq (tgt := 106) X dX0_wrongOfBlock_98 dX0_wrongOfBlock_99 (by decide) (fun q15 => ?_) (fun q15 => ?_)
              · have H := H.1 q15
                refine z_iconst (v := 0) X dX0_wrongOfBlock_106 (by decide) ?_
                exact z_iret X dX0_wrongOfBlock_107 H
              · have H := H.2 q15
                refine z_iconst (v := 4) X dX0_wrongOfBlock_102 (by decide) ?_
                refine z_goto (tgt := 107) X dX0_wrongOfBlock_103 (by decide) ?_
                exact z_iret X dX0_wrongOfBlock_107 H
            · have H := H.2 q12
              refine z_iconst (v := 3) X dX0_wrongOfBlock_82 (by decide) ?_
              exact z_iret X dX0_wrongOfBlock_83 H
          · have H := H.1 q11
            refine z_iconst (v := 0) X dX0_wrongOfBlock_76 (by decide) ?_
            exact z_iret X dX0_wrongOfBlock_77 H
        · have H := H.2 q8
          refine z_iconst (v := 2) X dX0_wrongOfBlock_63 (by decide) ?_
          exact z_iret X dX0_wrongOfBlock_64 H
      · have H := H.1 q5
        refine z_iconst (v := 1) X dX0_wrongOfBlock_49 (by decide) ?_
        exact z_iret X dX0_wrongOfBlock_50 H
theorem k_X0_wrongOfBlock {g : zE} {κ : zK} {h : zH} (hh : zDT κ h) {u : TS} {Φ : TS → Option Value → Prop} {cc : ByteArray} {nL : Nat} {own : String} {ret : Option FieldType} {rm : Room} {lv : List (Nat × Value)} {pc : Nat} {st : List Value} {idx N : Nat} {a1 : Int32} {a2 : Int32} {P : TS → Int32 → Prop} (X : zC g κ (hsT h) (wT κ h) cc nL own ret rm) (hml : Cond.methodLink own idx yX0_wrongOfBlock ∈ zT) (H : w_X0_wrongOfBlock N u a1 a2 P) (hR : 2 + 1 ≤ rm.frames ∧ 8 + (7 + 11) + 42 ≤ rm.locals) (hroom : (st.map fun v => v.category).sum ≤ 8) (d : decode cc pc = .ok (.invokevirtual idx, 3)) (kk : ∀ u1 v, P u1 v → zJ g κ (hsT h) (wT κ h) Φ nL u1 lv (pc + 3) (.int v :: st)) : zJ g κ (hsT h) (wT κ h) Φ nL u lv pc (.int a2 :: .int a1 :: .ref h.2.2.2.2.2.1 :: st) := z_callV (As := [.int a1, .int a2]) X yy_X0_wrongOfBlock hml im_X0_wrongOfBlock se_X0_wrongOfBlock (c_X0_wrongOfBlock hh N u a1 a2 P H) 0 5 rfl rfl rfl ⟨rfl, rfl⟩ hR rfl hroom d (fun u1 r hz => by obtain ⟨v, hr, hP⟩ := hz; subst hr; exact kk u1 v hP)
def w_X0_tell (N : Nat) (u : TS) (a1 : Int32) (a2 : Int32) (P : TS → Int32 → Prop) : Prop := (zlet (sWa u.1 a2, u.2) fun u1 => (P u1 a1))
set_option maxHeartbeats 4000000 in
set_option maxRecDepth 100000 in
theorem c_X0_tell {l : Launch} {κ : zK} {h : zH} (hh : zDT κ h) (N : Nat) (u : TS) (a1 : Int32) (a2 : Int32) (P : TS → Int32 → Prop) (H : w_X0_tell N u a1 a2 P) : zM l κ (hsT h) (wT κ h) yX0_tell cX0_tell 3 (some .int) { frames := 0, cells := 0, slots := 0, locals := 0 } [.ref h.2.2.2.2.2.1, .int a1, .int a2] u (zi P) := by
  refine z_met (own := RX0) (by decide) rfl (Nat.le_of_ble_eq_true rfl) hh (fun g X => ?_)
  show zJ g κ (hsT h) (wT κ h) (zi P) 3 u [(0, .ref h.2.2.2.2.2.1), (1, .int a1), (2, .int a2)] 0 []
  unfold w_X0_tell at H
  refine z_aload_n X dX0_tell_0 0 rfl rfl ?_
  refine z_iload_n X dX0_tell_1 2 rfl rfl ?_
  refine pf_X0_29 X dX0_tell_2 H (fun u1 H => ?_)
  refine z_iload_n X dX0_tell_5 1 rfl rfl ?_
  exact z_iret X dX0_tell_6 H
theorem k_X0_tell {g : zE} {κ : zK} {h : zH} (hh : zDT κ h) {u : TS} {Φ : TS → Option Value → Prop} {cc : ByteArray} {nL : Nat} {own : String} {ret : Option FieldType} {rm : Room} {lv : List (Nat × Value)} {pc : Nat} {st : List Value} {idx N : Nat} {a1 : Int32} {a2 : Int32} {P : TS → Int32 → Prop} (X : zC g κ (hsT h) (wT κ h) cc nL own ret rm) (hml : Cond.methodLink own idx yX0_tell ∈ zT) (H : w_X0_tell N u a1 a2 P) (hR : 0 + 1 ≤ rm.frames ∧ 8 + (3 + 11) + 0 ≤ rm.locals) (hroom : (st.map fun v => v.category).sum ≤ 8) (d : decode cc pc = .ok (.invokevirtual idx, 3)) (kk : ∀ u1 v, P u1 v → zJ g κ (hsT h) (wT κ h) Φ nL u1 lv (pc + 3) (.int v :: st)) : zJ g κ (hsT h) (wT κ h) Φ nL u lv pc (.int a2 :: .int a1 :: .ref h.2.2.2.2.2.1 :: st) := z_callV (As := [.int a1, .int a2]) X yy_X0_tell hml im_X0_tell se_X0_tell (c_X0_tell hh N u a1 a2 P H) 0 5 rfl rfl rfl ⟨rfl, rfl⟩ hR rfl hroom d (fun u1 r hz => by obtain ⟨v, hr, hP⟩ := hz; subst hr; exact kk u1 v hP)
def w_X0_mark (N : Nat) (u : TS) (a1 : Int32) (a2 : Int32) (P : TS → Prop) : Prop := ((a1 < 0 → (P u)) ∧ (¬ a1 < 0 → ((a1 < (2048 : Int32) → (vp_in a1 2048 ∧ zlet (u.1, upd u.2 (a1).toNatClampNeg a2) fun u4 => (P u4))) ∧ (¬ a1 < (2048 : Int32) → (P u)))))
set_option maxHeartbeats 4000000 in
set_option maxRecDepth 100000 in
theorem c_X0_mark {l : Launch} {κ : zK} {h : zH} (hh : zDT κ h) (N : Nat) (u : TS) (a1 : Int32) (a2 : Int32) (P : TS → Prop) (H : w_X0_mark N u a1 a2 P) : zM l κ (hsT h) (wT κ h) yX0_mark cX0_mark 3 none { frames := 0, cells := 0, slots := 0, locals := 0 } [.ref h.2.2.2.2.2.1, .int a1, .int a2] u (zv P) := by
  refine z_met (own := RX0) (by decide) rfl (Nat.le_of_ble_eq_true rfl) hh (fun g X => ?_)
  show zJ g κ (hsT h) (wT κ h) (zv P) 3 u [(0, .ref h.2.2.2.2.2.1), (1, .int a1), (2, .int a2)] 0 []
  unfold w_X0_mark at H
  refine z_iload_n X dX0_mark_0 1 rfl rfl ?_
  refine z_if_lt (tgt := 18) X dX0_mark_1 (by decide) (fun q1 => ?_) (fun q1 => ?_)
  · have H := H.1 q1
    exact z_vret X dX0_mark_18 H
  · have H := H.2 q1
    refine z_iload_n X dX0_mark_4 1 rfl rfl ?_
    refine z_sipush (v := 2048) X dX0_mark_5 (by decide) ?_
    refine z_icmp_ge (tgt := 18) X dX0_mark_8 (by decide) (fun q2 => ?_) (fun q2 => ?_)
    · have H := H.2 q2
      exact z_vret X dX0_mark_18 H
    · have H := H.1 q2
      refine z_aload_n X dX0_mark_11 0 rfl rfl ?_
      refine gf_X0_9 X dX0_mark_12 ?_
      refine z_iload_n X dX0_mark_15 1 rfl rfl ?_
      refine z_iload_n X dX0_mark_16 2 rfl rfl ?_
      obtain ⟨q3, H⟩ := H
      refine aw_marks X q3 dX0_mark_17 H (fun u4 H => ?_)
      exact z_vret X dX0_mark_18 H
theorem k_X0_mark {g : zE} {κ : zK} {h : zH} (hh : zDT κ h) {u : TS} {Φ : TS → Option Value → Prop} {cc : ByteArray} {nL : Nat} {own : String} {ret : Option FieldType} {rm : Room} {lv : List (Nat × Value)} {pc : Nat} {st : List Value} {idx N : Nat} {a1 : Int32} {a2 : Int32} {P : TS → Prop} (X : zC g κ (hsT h) (wT κ h) cc nL own ret rm) (hml : Cond.methodLink own idx yX0_mark ∈ zT) (H : w_X0_mark N u a1 a2 P) (hR : 0 + 1 ≤ rm.frames ∧ 8 + (3 + 11) + 0 ≤ rm.locals) (hroom : (st.map fun v => v.category).sum ≤ 8) (d : decode cc pc = .ok (.invokevirtual idx, 3)) (kk : ∀ u1, P u1 → zJ g κ (hsT h) (wT κ h) Φ nL u1 lv (pc + 3) st) : zJ g κ (hsT h) (wT κ h) Φ nL u lv pc (.int a2 :: .int a1 :: .ref h.2.2.2.2.2.1 :: st) := z_callV (As := [.int a1, .int a2]) X yy_X0_mark hml im_X0_mark se_X0_mark (c_X0_mark hh N u a1 a2 P H) 0 5 rfl rfl rfl ⟨rfl, rfl⟩ hR rfl hroom d (fun u1 r hz => by obtain ⟨hr, hP⟩ := hz; subst hr; exact kk u1 hP)
def w_X0_readBlocks_6 (N : Nat) (P : TS → Int32 → Prop) : Nat → TS → Int32 → Int32 → Int32 → Prop
  | 0, _, _, _, _ => False
  | n + 1, u, x1, x2, x3 => ((x3 < (512 : Int32) → ((x1 < (u.1.2.1) → (w_X0_wrongOfBlock N u x1 x2 fun u4 r3 => ((r3 = 0 → (w_X3_isFree N u4 x1 fun u7 r6 => ((r6 = 0 → (w_X3_behind N u7 x1 fun u10 r9 => (w_X0_readBlocks_6 N P n u10 r9 r6 (x3 + (1 : Int32))))) ∧ (¬ r6 = 0 → (w_X0_mark N u7 x1 (1 : Int32) fun u12 => (w_X3_behind N u12 x1 fun u14 r13 => (w_X0_readBlocks_6 N P n u14 r13 r6 (x3 + (1 : Int32))))))))) ∧ (¬ r3 = 0 → (w_X0_tell N u4 r3 x1 fun u16 r15 => (P u16 r15)))))) ∧ (¬ x1 < (u.1.2.1) → (P u (0 : Int32))))) ∧ (¬ x3 < (512 : Int32) → (P u (0 : Int32))))
def w_X0_readBlocks (N : Nat) (u : TS) (P : TS → Int32 → Prop) : Prop := (w_X0_readBlocks_6 N P N u (0 : Int32) (0 : Int32) (0 : Int32))
set_option maxHeartbeats 4000000 in
set_option maxRecDepth 100000 in
theorem j_X0_readBlocks_6 {κ : zK} {h : zH} (hh : zDT κ h) (N : Nat) {g : zE} (X : zC g κ (hsT h) (wT κ h) cX0_readBlocks 5 RX0 (some .int) { frames := 3, cells := 0, slots := 0, locals := 68 }) (P : TS → Int32 → Prop) : ∀ (n : Nat) (u : TS) (x1 : Int32) (x2 : Int32) (x3 : Int32), w_X0_readBlocks_6 N P n u x1 x2 x3 → zJ g κ (hsT h) (wT κ h) (zi P) 5 u [(0, .ref h.2.2.2.2.2.1), (1, .int x1), (2, .int x2), (3, .int x3)] 6 [] := by
  intro n
  induction n with
  | zero => intro u x1 x2 x3 H; exact absurd H (by rw [w_X0_readBlocks_6]; exact id)
  | succ n ih =>
    intro u x1 x2 x3 H
    rw [w_X0_readBlocks_6] at H
    refine z_iload_n X dX0_readBlocks_6 3 rfl rfl ?_
    refine z_sipush (v := 512) X dX0_readBlocks_7 (by decide) ?_
    refine z_icmp_ge (tgt := 79) X dX0_readBlocks_10 (by decide) (fun q1 => ?_) (fun q1 => ?_)
    · have H := H.2 q1
      refine z_iconst (v := 0) X dX0_readBlocks_79 (by decide) ?_
      exact z_iret X dX0_readBlocks_80 H
    · have H := H.1 q1
      refine z_iload_n X dX0_readBlocks_13 1 rfl rfl ?_
      refine z_aload_n X dX0_readBlocks_14 0 rfl rfl ?_
      refine gf_X0_15 X dX0_readBlocks_15 ?_
      refine gf_X0_44 X dX0_readBlocks_18 ?_
      refine z_icmp_ge (tgt := 79) X dX0_readBlocks_21 (by decide) (fun q2 => ?_) (fun q2 => ?_)
      · have H := H.2 q2
        refine z_iconst (v := 0) X dX0_readBlocks_79 (by decide) ?_
        exact z_iret X dX0_readBlocks_80 H
      · have H := H.1 q2
        refine z_aload_n X dX0_readBlocks_24 0 rfl rfl ?_
        refine z_iload_n X dX0_readBlocks_25 1 rfl rfl ?_
        refine z_iload_n X dX0_readBlocks_26 2 rfl rfl ?_
        refine k_X0_wrongOfBlock hh X ml_X0_49 H ⟨Nat.le_of_ble_eq_true rfl, Nat.le_of_ble_eq_true rfl⟩ (Nat.le_of_ble_eq_true rfl) dX0_readBlocks_27 (fun u4 r3 H => ?_)
        refine z_istore (lv' := [(4, .int r3), (0, .ref h.2.2.2.2.2.1), (1, .int x1), (2, .int x2), (3, .int x3)]) X dX0_readBlocks_30 (by decide) rfl ?_
        refine z_iload X dX0_readBlocks_32 0 rfl ?_
        refine z_if_eq (tgt := 45) X dX0_readBlocks_34 (by decide) (fun q5 => ?_) (fun q5 => ?_)
        · have H := H.1 q5
          refine z_aload_n X dX0_readBlocks_45 1 rfl rfl ?_
          refine gf_X0_15 X dX0_readBlocks_46 ?_
          refine z_iload_n X dX0_readBlocks_49 2 rfl rfl ?_
          refine k_X3_isFree hh X ml_X0_57 H ⟨Nat.le_of_ble_eq_true rfl, Nat.le_of_ble_eq_true rfl⟩ (Nat.le_of_ble_eq_true rfl) dX0_readBlocks_50 (fun u7 r6 H => ?_)
          refine z_istore_n (lv' := [(2, .int r6), (4, .int r3), (0, .ref h.2.2.2.2.2.1), (1, .int x1), (3, .int x3)]) X dX0_readBlocks_53 rfl (by decide) rfl ?_
          refine z_iload_n X dX0_readBlocks_54 0 rfl rfl ?_
          refine z_if_eq (tgt := 64) X dX0_readBlocks_55 (by decide) (fun q8 => ?_) (fun q8 => ?_)
          · have H := H.1 q8
            refine z_aload_n X dX0_readBlocks_64 2 rfl rfl ?_
            refine gf_X0_15 X dX0_readBlocks_65 ?_
            refine z_iload_n X dX0_readBlocks_68 3 rfl rfl ?_
            refine k_X3_behind hh X ml_X0_65 H ⟨Nat.le_of_ble_eq_true rfl, Nat.le_of_ble_eq_true rfl⟩ (Nat.le_of_ble_eq_true rfl) dX0_readBlocks_69 (fun u10 r9 H => ?_)
            refine z_istore_n (lv' := [(1, .int r9), (2, .int r6), (4, .int r3), (0, .ref h.2.2.2.2.2.1), (3, .int x3)]) X dX0_readBlocks_72 rfl (by decide) rfl ?_
            refine z_iinc (k := 4) (v := (x3 + (1 : Int32))) (lv' := [(3, .int (x3 + (1 : Int32))), (1, .int r9), (2, .int r6), (4, .int r3), (0, .ref h.2.2.2.2.2.1)]) X dX0_readBlocks_73 rfl rfl (by decide) rfl ?_
            refine z_goto (tgt := 6) X dX0_readBlocks_76 (by decide) ?_
            exact z_sub (ih u10 r9 r6 (x3 + (1 : Int32)) H) [4, 1, 2, 0] rfl
          · have H := H.2 q8
            refine z_aload_n X dX0_readBlocks_58 2 rfl rfl ?_
            refine z_iload_n X dX0_readBlocks_59 3 rfl rfl ?_
            refine z_iconst (v := 1) X dX0_readBlocks_60 (by decide) ?_
            refine k_X0_mark hh X ml_X0_61 H ⟨Nat.le_of_ble_eq_true rfl, Nat.le_of_ble_eq_true rfl⟩ (Nat.le_of_ble_eq_true rfl) dX0_readBlocks_61 (fun u12 H => ?_)
            refine z_aload_n X dX0_readBlocks_64 2 rfl rfl ?_
            refine gf_X0_15 X dX0_readBlocks_65 ?_
            refine z_iload_n X dX0_readBlocks_68 3 rfl rfl ?_
            refine k_X3_behind hh X ml_X0_65 H ⟨Nat.le_of_ble_eq_true rfl, Nat.le_of_ble_eq_true rfl⟩ (Nat.le_of_ble_eq_true rfl) dX0_readBlocks_69 (fun u14 r13 H => ?_)
            refine z_istore_n (lv' := [(1, .int r13), (2, .int r6), (4, .int r3), (0, .ref h.2.2.2.2.2.1), (3, .int x3)]) X dX0_readBlocks_72 rfl (by decide) rfl ?_
            refine z_iinc (k := 4) (v := (x3 + (1 : Int32))) (lv' := [(3, .int (x3 + (1 : Int32))), (1, .int r13), (2, .int r6), (4, .int r3), (0, .ref h.2.2.2.2.2.1)]) X dX0_readBlocks_73 rfl rfl (by decide) rfl ?_
            refine z_goto (tgt := 6) X dX0_readBlocks_76 (by decide) ?_
            exact z_sub (ih u14 r13 r6 (x3 + (1 : Int32)) H) [4, 1, 2, 0] rfl
        · have H := H.2 q5
          refine z_aload_n X dX0_readBlocks_37 1 rfl rfl ?_
          refine z_iload X dX0_readBlocks_38 0 rfl ?_
          refine z_iload_n X dX0_readBlocks_40 2 rfl rfl ?_
          refine k_X0_tell hh X ml_X0_53 H ⟨Nat.le_of_ble_eq_true rfl, Nat.le_of_ble_eq_true rfl⟩ (Nat.le_of_ble_eq_true rfl) dX0_readBlocks_41 (fun u16 r15 H => ?_)
          exact z_iret X dX0_readBlocks_44 H
set_option maxHeartbeats 4000000 in
set_option maxRecDepth 100000 in
theorem c_X0_readBlocks {l : Launch} {κ : zK} {h : zH} (hh : zDT κ h) (N : Nat) (u : TS) (P : TS → Int32 → Prop) (H : w_X0_readBlocks N u P) : zM l κ (hsT h) (wT κ h) yX0_readBlocks cX0_readBlocks 5 (some .int) { frames := 3, cells := 0, slots := 0, locals := 68 } [.ref h.2.2.2.2.2.1] u (zi P) := by
  refine z_met (own := RX0) (by decide) rfl (Nat.le_of_ble_eq_true rfl) hh (fun g X => ?_)
  show zJ g κ (hsT h) (wT κ h) (zi P) 5 u [(0, .ref h.2.2.2.2.2.1)] 0 []
  unfold w_X0_readBlocks at H
  refine z_iconst (v := 0) X dX0_readBlocks_0 (by decide) ?_
  refine z_istore_n (lv' := [(1, .int (0 : Int32)), (0, .ref h.2.2.2.2.2.1)]) X dX0_readBlocks_1 rfl (by decide) rfl ?_
  refine z_iconst (v := 0) X dX0_readBlocks_2 (by decide) ?_
  refine z_istore_n (lv' := [(2, .int (0 : Int32)), (1, .int (0 : Int32)), (0, .ref h.2.2.2.2.2.1)]) X dX0_readBlocks_3 rfl (by decide) rfl ?_
  refine z_iconst (v := 0) X dX0_readBlocks_4 (by decide) ?_
  refine z_istore_n (lv' := [(3, .int (0 : Int32)), (2, .int (0 : Int32)), (1, .int (0 : Int32)), (0, .ref h.2.2.2.2.2.1)]) X dX0_readBlocks_5 rfl (by decide) rfl ?_
  exact z_sub (j_X0_readBlocks_6 hh N X P N u (0 : Int32) (0 : Int32) (0 : Int32) H) [3, 2, 1, 0] rfl
theorem k_X0_readBlocks {g : zE} {κ : zK} {h : zH} (hh : zDT κ h) {u : TS} {Φ : TS → Option Value → Prop} {cc : ByteArray} {nL : Nat} {own : String} {ret : Option FieldType} {rm : Room} {lv : List (Nat × Value)} {pc : Nat} {st : List Value} {idx N : Nat}  {P : TS → Int32 → Prop} (X : zC g κ (hsT h) (wT κ h) cc nL own ret rm) (hml : Cond.methodLink own idx yX0_readBlocks ∈ zT) (H : w_X0_readBlocks N u P) (hR : 3 + 1 ≤ rm.frames ∧ 8 + (5 + 11) + 68 ≤ rm.locals) (hroom : (st.map fun v => v.category).sum ≤ 8) (d : decode cc pc = .ok (.invokevirtual idx, 3)) (kk : ∀ u1 v, P u1 v → zJ g κ (hsT h) (wT κ h) Φ nL u1 lv (pc + 3) (.int v :: st)) : zJ g κ (hsT h) (wT κ h) Φ nL u lv pc (.ref h.2.2.2.2.2.1 :: st) := z_callV (As := []) X yy_X0_readBlocks hml im_X0_readBlocks se_X0_readBlocks (c_X0_readBlocks hh N u P H) 0 5 rfl rfl rfl ⟨rfl, rfl⟩ hR rfl hroom d (fun u1 r hz => by obtain ⟨v, hr, hP⟩ := hz; subst hr; exact kk u1 v hP)
def w_X0_markOf (N : Nat) (u : TS) (a1 : Int32) (P : TS → Int32 → Prop) : Prop := ((a1 < 0 → (P u (0 : Int32))) ∧ (¬ a1 < 0 → ((a1 < (2048 : Int32) → (vp_in a1 2048 ∧ (P u (u.2 (a1).toNatClampNeg)))) ∧ (¬ a1 < (2048 : Int32) → (P u (0 : Int32))))))
set_option maxHeartbeats 4000000 in
set_option maxRecDepth 100000 in
theorem c_X0_markOf {l : Launch} {κ : zK} {h : zH} (hh : zDT κ h) (N : Nat) (u : TS) (a1 : Int32) (P : TS → Int32 → Prop) (H : w_X0_markOf N u a1 P) : zM l κ (hsT h) (wT κ h) yX0_markOf cX0_markOf 2 (some .int) { frames := 0, cells := 0, slots := 0, locals := 0 } [.ref h.2.2.2.2.2.1, .int a1] u (zi P) := by
  refine z_met (own := RX0) (by decide) rfl (Nat.le_of_ble_eq_true rfl) hh (fun g X => ?_)
  show zJ g κ (hsT h) (wT κ h) (zi P) 2 u [(0, .ref h.2.2.2.2.2.1), (1, .int a1)] 0 []
  unfold w_X0_markOf at H
  refine z_iload_n X dX0_markOf_0 1 rfl rfl ?_
  refine z_if_lt (tgt := 20) X dX0_markOf_1 (by decide) (fun q1 => ?_) (fun q1 => ?_)
  · have H := H.1 q1
    refine z_iconst (v := 0) X dX0_markOf_20 (by decide) ?_
    exact z_iret X dX0_markOf_21 H
  · have H := H.2 q1
    refine z_iload_n X dX0_markOf_4 1 rfl rfl ?_
    refine z_sipush (v := 2048) X dX0_markOf_5 (by decide) ?_
    refine z_icmp_ge (tgt := 20) X dX0_markOf_8 (by decide) (fun q2 => ?_) (fun q2 => ?_)
    · have H := H.2 q2
      refine z_iconst (v := 0) X dX0_markOf_20 (by decide) ?_
      exact z_iret X dX0_markOf_21 H
    · have H := H.1 q2
      refine z_aload_n X dX0_markOf_11 0 rfl rfl ?_
      refine gf_X0_9 X dX0_markOf_12 ?_
      refine z_iload_n X dX0_markOf_15 1 rfl rfl ?_
      obtain ⟨q3, H⟩ := H
      refine ar_marks X q3 dX0_markOf_16 ?_
      refine z_goto (tgt := 21) X dX0_markOf_17 (by decide) ?_
      exact z_iret X dX0_markOf_21 H
theorem k_X0_markOf {g : zE} {κ : zK} {h : zH} (hh : zDT κ h) {u : TS} {Φ : TS → Option Value → Prop} {cc : ByteArray} {nL : Nat} {own : String} {ret : Option FieldType} {rm : Room} {lv : List (Nat × Value)} {pc : Nat} {st : List Value} {idx N : Nat} {a1 : Int32} {P : TS → Int32 → Prop} (X : zC g κ (hsT h) (wT κ h) cc nL own ret rm) (hml : Cond.methodLink own idx yX0_markOf ∈ zT) (H : w_X0_markOf N u a1 P) (hR : 0 + 1 ≤ rm.frames ∧ 8 + (2 + 11) + 0 ≤ rm.locals) (hroom : (st.map fun v => v.category).sum ≤ 8) (d : decode cc pc = .ok (.invokevirtual idx, 3)) (kk : ∀ u1 v, P u1 v → zJ g κ (hsT h) (wT κ h) Φ nL u1 lv (pc + 3) (.int v :: st)) : zJ g κ (hsT h) (wT κ h) Φ nL u lv pc (.int a1 :: .ref h.2.2.2.2.2.1 :: st) := z_callV (As := [.int a1]) X yy_X0_markOf hml im_X0_markOf se_X0_markOf (c_X0_markOf hh N u a1 P H) 0 5 rfl rfl rfl ⟨rfl, rfl⟩ hR rfl hroom d (fun u1 r hz => by obtain ⟨v, hr, hP⟩ := hz; subst hr; exact kk u1 v hP)
def w_X0_isLinked (N : Nat) (u : TS) (a1 : Int64) (a2 : Int32) (a3 : Int32) (P : TS → Int32 → Prop) : Prop := ((a1 < (1 : Int64) → (P u (0 : Int32))) ∧ (¬ a1 < (1 : Int64) → ((a1 < ((u.1.2.1)).toInt64 → (w_X0_markOf N u ((a1).toInt32 - (1 : Int32)) fun u4 r3 => ((r3 = (1 : Int32) → (w_X3_bodyOf N u4 ((a1).toInt32 - (1 : Int32)) fun u7 r6 => (w_X1_ofBody N r6 fun r8 => ((r8 = a3 → (w_X3_at N u7 (((a1).toInt32 - (1 : Int32)) + (2 : Int32)) fun u12 r11 => ((r11 = (a2).toInt64 → (P u12 (1 : Int32))) ∧ (¬ r11 = (a2).toInt64 → (P u12 (0 : Int32)))))) ∧ (¬ r8 = a3 → (P u7 (0 : Int32))))))) ∧ (¬ r3 = (1 : Int32) → (P u4 (0 : Int32)))))) ∧ (¬ a1 < ((u.1.2.1)).toInt64 → (P u (0 : Int32))))))
set_option maxHeartbeats 4000000 in
set_option maxRecDepth 100000 in
theorem c_X0_isLinked {l : Launch} {κ : zK} {h : zH} (hh : zDT κ h) (N : Nat) (u : TS) (a1 : Int64) (a2 : Int32) (a3 : Int32) (P : TS → Int32 → Prop) (H : w_X0_isLinked N u a1 a2 a3 P) : zM l κ (hsT h) (wT κ h) yX0_isLinked cX0_isLinked 6 (some .boolean) { frames := 3, cells := 0, slots := 0, locals := 62 } [.ref h.2.2.2.2.2.1, .long a1, .int a2, .int a3] u (zi P) := by
  refine z_met (own := RX0) (by decide) rfl (Nat.le_of_ble_eq_true rfl) hh (fun g X => ?_)
  show zJ g κ (hsT h) (wT κ h) (zi P) 6 u [(0, .ref h.2.2.2.2.2.1), (1, .long a1), (3, .int a2), (4, .int a3)] 0 []
  unfold w_X0_isLinked at H
  refine z_lload_n X dX0_isLinked_0 1 rfl rfl ?_
  refine z_lconst (v := 1) X dX0_isLinked_1 (by decide) ?_
  refine z_lcmp_lt (tgt := 19) X dX0_isLinked_2 dX0_isLinked_3 (by decide) (fun q1 => ?_) (fun q1 => ?_)
  · have H := H.1 q1
    refine z_iconst (v := 0) X dX0_isLinked_19 (by decide) ?_
    exact z_zret X rfl dX0_isLinked_20 H
  · have H := H.2 q1
    refine z_lload_n X dX0_isLinked_6 1 rfl rfl ?_
    refine z_aload_n X dX0_isLinked_7 0 rfl rfl ?_
    refine gf_X0_15 X dX0_isLinked_8 ?_
    refine gf_X0_44 X dX0_isLinked_11 ?_
    refine z_i2l X dX0_isLinked_14 ?_
    refine z_lcmp_lt (tgt := 21) X dX0_isLinked_15 dX0_isLinked_16 (by decide) (fun q2 => ?_) (fun q2 => ?_)
    · have H := H.1 q2
      refine z_lload_n X dX0_isLinked_21 1 rfl rfl ?_
      refine z_l2i X dX0_isLinked_22 ?_
      refine z_iconst (v := 1) X dX0_isLinked_23 (by decide) ?_
      refine z_isub X dX0_isLinked_24 ?_
      refine z_istore (lv' := [(5, .int ((a1).toInt32 - (1 : Int32))), (0, .ref h.2.2.2.2.2.1), (1, .long a1), (3, .int a2), (4, .int a3)]) X dX0_isLinked_25 (by decide) rfl ?_
      refine z_aload_n X dX0_isLinked_27 1 rfl rfl ?_
      refine z_iload X dX0_isLinked_28 0 rfl ?_
      refine k_X0_markOf hh X ml_X0_88 H ⟨Nat.le_of_ble_eq_true rfl, Nat.le_of_ble_eq_true rfl⟩ (Nat.le_of_ble_eq_true rfl) dX0_isLinked_30 (fun u4 r3 H => ?_)
      refine z_iconst (v := 1) X dX0_isLinked_33 (by decide) ?_
      refine z_icmp_ne (tgt := 75) X dX0_isLinked_34 (by decide) (fun q5 => ?_) (fun q5 => ?_)
      · have H := H.2 q5
        refine z_iconst (v := 0) X dX0_isLinked_75 (by decide) ?_
        exact z_zret X rfl dX0_isLinked_76 H
      · have H := H.1 q5
        refine z_aload_n X dX0_isLinked_37 1 rfl rfl ?_
        refine gf_X0_15 X dX0_isLinked_38 ?_
        refine z_iload X dX0_isLinked_41 0 rfl ?_
        refine k_X3_bodyOf hh X ml_X0_91 H ⟨Nat.le_of_ble_eq_true rfl, Nat.le_of_ble_eq_true rfl⟩ (Nat.le_of_ble_eq_true rfl) dX0_isLinked_43 (fun u7 r6 H => ?_)
        refine k_X1_ofBody X ml_X0_94 H ⟨Nat.le_of_ble_eq_true rfl, Nat.le_of_ble_eq_true rfl⟩ (Nat.le_of_ble_eq_true rfl) dX0_isLinked_46 (fun r8 H => ?_)
        refine z_iload X dX0_isLinked_49 4 rfl ?_
        refine z_icmp_ne (tgt := 75) X dX0_isLinked_51 (by decide) (fun q10 => ?_) (fun q10 => ?_)
        · have H := H.2 q10
          refine z_iconst (v := 0) X dX0_isLinked_75 (by decide) ?_
          exact z_zret X rfl dX0_isLinked_76 H
        · have H := H.1 q10
          refine z_aload_n X dX0_isLinked_54 1 rfl rfl ?_
          refine gf_X0_15 X dX0_isLinked_55 ?_
          refine z_iload X dX0_isLinked_58 0 rfl ?_
          refine z_iconst (v := 2) X dX0_isLinked_60 (by decide) ?_
          refine z_iadd X dX0_isLinked_61 ?_
          refine k_X3_at hh X ml_X0_68 H ⟨Nat.le_of_ble_eq_true rfl, Nat.le_of_ble_eq_true rfl⟩ (Nat.le_of_ble_eq_true rfl) dX0_isLinked_62 (fun u12 r11 H => ?_)
          refine z_iload_n X dX0_isLinked_65 3 rfl rfl ?_
          refine z_i2l X dX0_isLinked_66 ?_
          refine z_lcmp_ne (tgt := 75) X dX0_isLinked_67 dX0_isLinked_68 (by decide) (fun q13 => ?_) (fun q13 => ?_)
          · have H := H.2 q13
            refine z_iconst (v := 0) X dX0_isLinked_75 (by decide) ?_
            exact z_zret X rfl dX0_isLinked_76 H
          · have H := H.1 q13
            refine z_iconst (v := 1) X dX0_isLinked_71 (by decide) ?_
            refine z_goto (tgt := 76) X dX0_isLinked_72 (by decide) ?_
            exact z_zret X rfl dX0_isLinked_76 H
    · have H := H.2 q2
      refine z_iconst (v := 0) X dX0_isLinked_19 (by decide) ?_
      exact z_zret X rfl dX0_isLinked_20 H
theorem k_X0_isLinked {g : zE} {κ : zK} {h : zH} (hh : zDT κ h) {u : TS} {Φ : TS → Option Value → Prop} {cc : ByteArray} {nL : Nat} {own : String} {ret : Option FieldType} {rm : Room} {lv : List (Nat × Value)} {pc : Nat} {st : List Value} {idx N : Nat} {a1 : Int64} {a2 : Int32} {a3 : Int32} {P : TS → Int32 → Prop} (X : zC g κ (hsT h) (wT κ h) cc nL own ret rm) (hml : Cond.methodLink own idx yX0_isLinked ∈ zT) (H : w_X0_isLinked N u a1 a2 a3 P) (hR : 3 + 1 ≤ rm.frames ∧ 8 + (6 + 11) + 62 ≤ rm.locals) (hroom : (st.map fun v => v.category).sum ≤ 8) (d : decode cc pc = .ok (.invokevirtual idx, 3)) (kk : ∀ u1 v, P u1 v → zJ g κ (hsT h) (wT κ h) Φ nL u1 lv (pc + 3) (.int v :: st)) : zJ g κ (hsT h) (wT κ h) Φ nL u lv pc (.int a3 :: .int a2 :: .long a1 :: .ref h.2.2.2.2.2.1 :: st) := z_callV (As := [.long a1, .int a2, .int a3]) X yy_X0_isLinked hml im_X0_isLinked se_X0_isLinked (c_X0_isLinked hh N u a1 a2 a3 P H) 0 5 rfl rfl rfl ⟨rfl, rfl⟩ hR rfl hroom d (fun u1 r hz => by obtain ⟨v, hr, hP⟩ := hz; subst hr; exact kk u1 v hP)
def w_X0_readList_15 (N : Nat) (P : TS → Int32 → Prop) : Nat → TS → Int32 → Int32 → Int64 → Int32 → Prop
  | 0, _, _, _, _, _ => False
  | n + 1, u, x1, x2, x3, x5 => (((512 : Int32) < x5 → (P u (0 : Int32))) ∧ (¬ (512 : Int32) < x5 → ((x3 = (0 : Int64) → (P u (0 : Int32))) ∧ (¬ x3 = (0 : Int64) → (w_X0_isLinked N u x3 x2 x1 fun u6 r5 => ((r5 = 0 → ((x2 = 0 → (w_X0_tell N u6 (5 : Int32) (-1 : Int32) fun u16 r15 => (P u16 r15))) ∧ (¬ x2 = 0 → (w_X0_tell N u6 (5 : Int32) (x2 - (1 : Int32)) fun u14 r13 => (P u14 r13))))) ∧ (¬ r5 = 0 → (w_X0_mark N u6 ((x3).toInt32 - (1 : Int32)) (2 : Int32) fun u9 => (w_X3_at N u9 (x3).toInt32 fun u11 r10 => (w_X0_readList_15 N P n u11 x1 (x3).toInt32 r10 (x5 + (1 : Int32))))))))))))
def w_X0_readList (N : Nat) (u : TS) (a1 : Int32) (P : TS → Int32 → Prop) : Prop := (w_X2_firstOf N u a1 fun u2 r1 => (w_X0_readList_15 N P N u2 a1 (0 : Int32) (r1).toInt64 (0 : Int32)))
set_option maxHeartbeats 4000000 in
set_option maxRecDepth 100000 in
theorem j_X0_readList_15 {κ : zK} {h : zH} (hh : zDT κ h) (N : Nat) {g : zE} (X : zC g κ (hsT h) (wT κ h) cX0_readList 6 RX0 (some .int) { frames := 4, cells := 0, slots := 0, locals := 87 }) (P : TS → Int32 → Prop) : ∀ (n : Nat) (u : TS) (x1 : Int32) (x2 : Int32) (x3 : Int64) (x5 : Int32), w_X0_readList_15 N P n u x1 x2 x3 x5 → zJ g κ (hsT h) (wT κ h) (zi P) 6 u [(0, .ref h.2.2.2.2.2.1), (1, .int x1), (2, .int x2), (3, .long x3), (5, .int x5)] 15 [] := by
  intro n
  induction n with
  | zero => intro u x1 x2 x3 x5 H; exact absurd H (by rw [w_X0_readList_15]; exact id)
  | succ n ih =>
    intro u x1 x2 x3 x5 H
    rw [w_X0_readList_15] at H
    refine z_iload X dX0_readList_15 4 rfl ?_
    refine z_sipush (v := 512) X dX0_readList_17 (by decide) ?_
    refine z_icmp_gt (tgt := 82) X dX0_readList_20 (by decide) (fun q3 => ?_) (fun q3 => ?_)
    · have H := H.1 q3
      refine z_iconst (v := 0) X dX0_readList_82 (by decide) ?_
      exact z_iret X dX0_readList_83 H
    · have H := H.2 q3
      refine z_lload_n X dX0_readList_23 3 rfl rfl ?_
      refine z_lconst (v := 0) X dX0_readList_24 (by decide) ?_
      refine z_lcmp_eq (tgt := 82) X dX0_readList_25 dX0_readList_26 (by decide) (fun q4 => ?_) (fun q4 => ?_)
      · have H := H.1 q4
        refine z_iconst (v := 0) X dX0_readList_82 (by decide) ?_
        exact z_iret X dX0_readList_83 H
      · have H := H.2 q4
        refine z_aload_n X dX0_readList_29 0 rfl rfl ?_
        refine z_lload_n X dX0_readList_30 3 rfl rfl ?_
        refine z_iload_n X dX0_readList_31 2 rfl rfl ?_
        refine z_iload_n X dX0_readList_32 1 rfl rfl ?_
        refine k_X0_isLinked hh X ml_X0_84 H ⟨Nat.le_of_ble_eq_true rfl, Nat.le_of_ble_eq_true rfl⟩ (Nat.le_of_ble_eq_true rfl) dX0_readList_33 (fun u6 r5 H => ?_)
        refine z_if_ne (tgt := 56) X dX0_readList_36 (by decide) (fun q7 => ?_) (fun q7 => ?_)
        · have H := H.2 q7
          refine z_lload_n X dX0_readList_56 3 rfl rfl ?_
          refine z_l2i X dX0_readList_57 ?_
          refine z_istore_n (lv' := [(2, .int (x3).toInt32), (0, .ref h.2.2.2.2.2.1), (1, .int x1), (3, .long x3), (5, .int x5)]) X dX0_readList_58 rfl (by decide) rfl ?_
          refine z_aload_n X dX0_readList_59 1 rfl rfl ?_
          refine z_iload_n X dX0_readList_60 0 rfl rfl ?_
          refine z_iconst (v := 1) X dX0_readList_61 (by decide) ?_
          refine z_isub X dX0_readList_62 ?_
          refine z_iconst (v := 2) X dX0_readList_63 (by decide) ?_
          refine k_X0_mark hh X ml_X0_61 H ⟨Nat.le_of_ble_eq_true rfl, Nat.le_of_ble_eq_true rfl⟩ (Nat.le_of_ble_eq_true rfl) dX0_readList_64 (fun u9 H => ?_)
          refine z_aload_n X dX0_readList_67 1 rfl rfl ?_
          refine gf_X0_15 X dX0_readList_68 ?_
          refine z_iload_n X dX0_readList_71 0 rfl rfl ?_
          refine k_X3_at hh X ml_X0_68 H ⟨Nat.le_of_ble_eq_true rfl, Nat.le_of_ble_eq_true rfl⟩ (Nat.le_of_ble_eq_true rfl) dX0_readList_72 (fun u11 r10 H => ?_)
          refine z_lstore_n (lv' := [(3, .long r10), (2, .int (x3).toInt32), (0, .ref h.2.2.2.2.2.1), (1, .int x1), (5, .int x5)]) X dX0_readList_75 rfl (by decide) rfl ?_
          refine z_iinc (k := 4) (v := (x5 + (1 : Int32))) (lv' := [(5, .int (x5 + (1 : Int32))), (3, .long r10), (2, .int (x3).toInt32), (0, .ref h.2.2.2.2.2.1), (1, .int x1)]) X dX0_readList_76 rfl rfl (by decide) rfl ?_
          refine z_goto (tgt := 15) X dX0_readList_79 (by decide) ?_
          exact z_sub (ih u11 x1 (x3).toInt32 r10 (x5 + (1 : Int32)) H) [3, 4, 2, 1, 0] rfl
        · have H := H.1 q7
          refine z_aload_n X dX0_readList_39 0 rfl rfl ?_
          refine z_iconst (v := 5) X dX0_readList_40 (by decide) ?_
          refine z_iload_n X dX0_readList_41 2 rfl rfl ?_
          refine z_if_ne (tgt := 49) X dX0_readList_42 (by decide) (fun q12 => ?_) (fun q12 => ?_)
          · have H := H.2 q12
            refine z_iload_n X dX0_readList_49 2 rfl rfl ?_
            refine z_iconst (v := 1) X dX0_readList_50 (by decide) ?_
            refine z_isub X dX0_readList_51 ?_
            refine k_X0_tell hh X ml_X0_53 H ⟨Nat.le_of_ble_eq_true rfl, Nat.le_of_ble_eq_true rfl⟩ (Nat.le_of_ble_eq_true rfl) dX0_readList_52 (fun u14 r13 H => ?_)
            exact z_iret X dX0_readList_55 H
          · have H := H.1 q12
            refine z_iconst (v := -1) X dX0_readList_45 (by decide) ?_
            refine z_goto (tgt := 52) X dX0_readList_46 (by decide) ?_
            refine k_X0_tell hh X ml_X0_53 H ⟨Nat.le_of_ble_eq_true rfl, Nat.le_of_ble_eq_true rfl⟩ (Nat.le_of_ble_eq_true rfl) dX0_readList_52 (fun u16 r15 H => ?_)
            exact z_iret X dX0_readList_55 H
set_option maxHeartbeats 4000000 in
set_option maxRecDepth 100000 in
theorem c_X0_readList {l : Launch} {κ : zK} {h : zH} (hh : zDT κ h) (N : Nat) (u : TS) (a1 : Int32) (P : TS → Int32 → Prop) (H : w_X0_readList N u a1 P) : zM l κ (hsT h) (wT κ h) yX0_readList cX0_readList 6 (some .int) { frames := 4, cells := 0, slots := 0, locals := 87 } [.ref h.2.2.2.2.2.1, .int a1] u (zi P) := by
  refine z_met (own := RX0) (by decide) rfl (Nat.le_of_ble_eq_true rfl) hh (fun g X => ?_)
  show zJ g κ (hsT h) (wT κ h) (zi P) 6 u [(0, .ref h.2.2.2.2.2.1), (1, .int a1)] 0 []
  unfold w_X0_readList at H
  refine z_iconst (v := 0) X dX0_readList_0 (by decide) ?_
  refine z_istore_n (lv' := [(2, .int (0 : Int32)), (0, .ref h.2.2.2.2.2.1), (1, .int a1)]) X dX0_readList_1 rfl (by decide) rfl ?_
  refine z_aload_n X dX0_readList_2 1 rfl rfl ?_
  refine gf_X0_19 X dX0_readList_3 ?_
  refine z_iload_n X dX0_readList_6 2 rfl rfl ?_
  refine k_X2_firstOf hh X ml_X0_79 H ⟨Nat.le_of_ble_eq_true rfl, Nat.le_of_ble_eq_true rfl⟩ (Nat.le_of_ble_eq_true rfl) dX0_readList_7 (fun u2 r1 H => ?_)
  refine z_i2l X dX0_readList_10 ?_
  refine z_lstore_n (lv' := [(3, .long (r1).toInt64), (2, .int (0 : Int32)), (0, .ref h.2.2.2.2.2.1), (1, .int a1)]) X dX0_readList_11 rfl (by decide) rfl ?_
  refine z_iconst (v := 0) X dX0_readList_12 (by decide) ?_
  refine z_istore (lv' := [(5, .int (0 : Int32)), (3, .long (r1).toInt64), (2, .int (0 : Int32)), (0, .ref h.2.2.2.2.2.1), (1, .int a1)]) X dX0_readList_13 (by decide) rfl ?_
  exact z_sub (j_X0_readList_15 hh N X P N u2 a1 (0 : Int32) (r1).toInt64 (0 : Int32) H) [3, 4, 2, 1, 0] rfl
theorem k_X0_readList {g : zE} {κ : zK} {h : zH} (hh : zDT κ h) {u : TS} {Φ : TS → Option Value → Prop} {cc : ByteArray} {nL : Nat} {own : String} {ret : Option FieldType} {rm : Room} {lv : List (Nat × Value)} {pc : Nat} {st : List Value} {idx N : Nat} {a1 : Int32} {P : TS → Int32 → Prop} (X : zC g κ (hsT h) (wT κ h) cc nL own ret rm) (hml : Cond.methodLink own idx yX0_readList ∈ zT) (H : w_X0_readList N u a1 P) (hR : 4 + 1 ≤ rm.frames ∧ 8 + (6 + 11) + 87 ≤ rm.locals) (hroom : (st.map fun v => v.category).sum ≤ 8) (d : decode cc pc = .ok (.invokevirtual idx, 3)) (kk : ∀ u1 v, P u1 v → zJ g κ (hsT h) (wT κ h) Φ nL u1 lv (pc + 3) (.int v :: st)) : zJ g κ (hsT h) (wT κ h) Φ nL u lv pc (.int a1 :: .ref h.2.2.2.2.2.1 :: st) := z_callV (As := [.int a1]) X yy_X0_readList hml im_X0_readList se_X0_readList (c_X0_readList hh N u a1 P H) 0 5 rfl rfl rfl ⟨rfl, rfl⟩ hR rfl hroom d (fun u1 r hz => by obtain ⟨v, hr, hP⟩ := hz; subst hr; exact kk u1 v hP)
def w_X0_seekLost_2 (N : Nat) (P : TS → Int32 → Prop) : Nat → TS → Int32 → Prop
  | 0, _, _ => False
  | n + 1, u, x1 => ((x1 < (u.1.2.1) → (w_X0_markOf N u x1 fun u3 r2 => ((r2 = (1 : Int32) → (w_X0_tell N u3 (6 : Int32) x1 fun u6 r5 => (P u6 r5))) ∧ (¬ r2 = (1 : Int32) → (w_X0_seekLost_2 N P n u3 (x1 + (1 : Int32))))))) ∧ (¬ x1 < (u.1.2.1) → (P u (0 : Int32))))
def w_X0_seekLost (N : Nat) (u : TS) (P : TS → Int32 → Prop) : Prop := (w_X0_seekLost_2 N P N u (0 : Int32))
set_option maxHeartbeats 4000000 in
set_option maxRecDepth 100000 in
theorem j_X0_seekLost_2 {κ : zK} {h : zH} (hh : zDT κ h) (N : Nat) {g : zE} (X : zC g κ (hsT h) (wT κ h) cX0_seekLost 2 RX0 (some .int) { frames := 1, cells := 0, slots := 0, locals := 22 }) (P : TS → Int32 → Prop) : ∀ (n : Nat) (u : TS) (x1 : Int32), w_X0_seekLost_2 N P n u x1 → zJ g κ (hsT h) (wT κ h) (zi P) 2 u [(0, .ref h.2.2.2.2.2.1), (1, .int x1)] 2 [] := by
  intro n
  induction n with
  | zero => intro u x1 H; exact absurd H (by rw [w_X0_seekLost_2]; exact id)
  | succ n ih =>
    intro u x1 H
    rw [w_X0_seekLost_2] at H
    refine z_iload_n X dX0_seekLost_2 1 rfl rfl ?_
    refine z_aload_n X dX0_seekLost_3 0 rfl rfl ?_
    refine gf_X0_15 X dX0_seekLost_4 ?_
    refine gf_X0_44 X dX0_seekLost_7 ?_
    refine z_icmp_ge (tgt := 36) X dX0_seekLost_10 (by decide) (fun q1 => ?_) (fun q1 => ?_)
    · have H := H.2 q1
      refine z_iconst (v := 0) X dX0_seekLost_36 (by decide) ?_
      exact z_iret X dX0_seekLost_37 H
    · have H := H.1 q1
      refine z_aload_n X dX0_seekLost_13 0 rfl rfl ?_
      refine z_iload_n X dX0_seekLost_14 1 rfl rfl ?_
      refine k_X0_markOf hh X ml_X0_88 H ⟨Nat.le_of_ble_eq_true rfl, Nat.le_of_ble_eq_true rfl⟩ (Nat.le_of_ble_eq_true rfl) dX0_seekLost_15 (fun u3 r2 H => ?_)
      refine z_iconst (v := 1) X dX0_seekLost_18 (by decide) ?_
      refine z_icmp_ne (tgt := 30) X dX0_seekLost_19 (by decide) (fun q4 => ?_) (fun q4 => ?_)
      · have H := H.2 q4
        refine z_iinc (k := 1) (v := (x1 + (1 : Int32))) (lv' := [(1, .int (x1 + (1 : Int32))), (0, .ref h.2.2.2.2.2.1)]) X dX0_seekLost_30 rfl rfl (by decide) rfl ?_
        refine z_goto (tgt := 2) X dX0_seekLost_33 (by decide) ?_
        exact z_sub (ih u3 (x1 + (1 : Int32)) H) [1, 0] rfl
      · have H := H.1 q4
        refine z_aload_n X dX0_seekLost_22 0 rfl rfl ?_
        refine z_bipush (v := 6) X dX0_seekLost_23 (by decide) ?_
        refine z_iload_n X dX0_seekLost_25 1 rfl rfl ?_
        refine k_X0_tell hh X ml_X0_53 H ⟨Nat.le_of_ble_eq_true rfl, Nat.le_of_ble_eq_true rfl⟩ (Nat.le_of_ble_eq_true rfl) dX0_seekLost_26 (fun u6 r5 H => ?_)
        exact z_iret X dX0_seekLost_29 H
set_option maxHeartbeats 4000000 in
set_option maxRecDepth 100000 in
theorem c_X0_seekLost {l : Launch} {κ : zK} {h : zH} (hh : zDT κ h) (N : Nat) (u : TS) (P : TS → Int32 → Prop) (H : w_X0_seekLost N u P) : zM l κ (hsT h) (wT κ h) yX0_seekLost cX0_seekLost 2 (some .int) { frames := 1, cells := 0, slots := 0, locals := 22 } [.ref h.2.2.2.2.2.1] u (zi P) := by
  refine z_met (own := RX0) (by decide) rfl (Nat.le_of_ble_eq_true rfl) hh (fun g X => ?_)
  show zJ g κ (hsT h) (wT κ h) (zi P) 2 u [(0, .ref h.2.2.2.2.2.1)] 0 []
  unfold w_X0_seekLost at H
  refine z_iconst (v := 0) X dX0_seekLost_0 (by decide) ?_
  refine z_istore_n (lv' := [(1, .int (0 : Int32)), (0, .ref h.2.2.2.2.2.1)]) X dX0_seekLost_1 rfl (by decide) rfl ?_
  exact z_sub (j_X0_seekLost_2 hh N X P N u (0 : Int32) H) [1, 0] rfl
theorem k_X0_seekLost {g : zE} {κ : zK} {h : zH} (hh : zDT κ h) {u : TS} {Φ : TS → Option Value → Prop} {cc : ByteArray} {nL : Nat} {own : String} {ret : Option FieldType} {rm : Room} {lv : List (Nat × Value)} {pc : Nat} {st : List Value} {idx N : Nat}  {P : TS → Int32 → Prop} (X : zC g κ (hsT h) (wT κ h) cc nL own ret rm) (hml : Cond.methodLink own idx yX0_seekLost ∈ zT) (H : w_X0_seekLost N u P) (hR : 1 + 1 ≤ rm.frames ∧ 8 + (2 + 11) + 22 ≤ rm.locals) (hroom : (st.map fun v => v.category).sum ≤ 8) (d : decode cc pc = .ok (.invokevirtual idx, 3)) (kk : ∀ u1 v, P u1 v → zJ g κ (hsT h) (wT κ h) Φ nL u1 lv (pc + 3) (.int v :: st)) : zJ g κ (hsT h) (wT κ h) Φ nL u lv pc (.ref h.2.2.2.2.2.1 :: st) := z_callV (As := []) X yy_X0_seekLost hml im_X0_seekLost se_X0_seekLost (c_X0_seekLost hh N u P H) 0 5 rfl rfl rfl ⟨rfl, rfl⟩ hR rfl hroom d (fun u1 r hz => by obtain ⟨v, hr, hP⟩ := hz; subst hr; exact kk u1 v hP)
def w_X0_run_42 (N : Nat) (P : TS → Int32 → Prop) (u : TS) (x1 : Int32) : Prop := ((x1 = 0 → (w_X0_seekLost N u fun u9 r8 => (P u9 r8))) ∧ (¬ x1 = 0 → (P u x1)))
def w_X0_run_20 (N : Nat) (P : TS → Int32 → Prop) : Nat → TS → Int32 → Int32 → Prop
  | 0, _, _, _ => False
  | n + 1, u, x1, x2 => ((x2 < (72 : Int32) → ((x1 = 0 → (w_X0_readList N u x2 fun u12 r11 => (w_X0_run_20 N P n u12 r11 (x2 + (1 : Int32))))) ∧ (¬ x1 = 0 → (w_X0_run_42 N P u x1)))) ∧ (¬ x2 < (72 : Int32) → (w_X0_run_42 N P u x1)))
def w_X0_run (N : Nat) (u : TS) (P : TS → Int32 → Prop) : Prop := (w_fillK N u (0 : Int32) fun u2 => (zlet (sWa u2.1 (-1 : Int32), u2.2) fun u3 => (w_X0_readBlocks N u3 fun u5 r4 => (w_X0_run_20 N P N u5 r4 (0 : Int32)))))
set_option maxHeartbeats 4000000 in
set_option maxRecDepth 100000 in
theorem j_X0_run_42 {κ : zK} {h : zH} (hh : zDT κ h) (N : Nat) {g : zE} (X : zC g κ (hsT h) (wT κ h) cX0_run 3 RX0 (some .int) { frames := 5, cells := 0, slots := 0, locals := 112 }) (P : TS → Int32 → Prop) (u : TS) (x1 : Int32) (H : w_X0_run_42 N P u x1) : zJ g κ (hsT h) (wT κ h) (zi P) 3 u [(0, .ref h.2.2.2.2.2.1), (1, .int x1)] 42 [] := by
  unfold w_X0_run_42 at H
  refine z_iload_n X dX0_run_42 1 rfl rfl ?_
  refine z_if_eq (tgt := 50) X dX0_run_43 (by decide) (fun q7 => ?_) (fun q7 => ?_)
  · have H := H.1 q7
    refine z_aload_n X dX0_run_50 0 rfl rfl ?_
    refine k_X0_seekLost hh X ml_X0_41 H ⟨Nat.le_of_ble_eq_true rfl, Nat.le_of_ble_eq_true rfl⟩ (Nat.le_of_ble_eq_true rfl) dX0_run_51 (fun u9 r8 H => ?_)
    exact z_iret X dX0_run_54 H
  · have H := H.2 q7
    refine z_iload_n X dX0_run_46 1 rfl rfl ?_
    refine z_goto (tgt := 54) X dX0_run_47 (by decide) ?_
    exact z_iret X dX0_run_54 H
set_option maxHeartbeats 4000000 in
set_option maxRecDepth 100000 in
theorem j_X0_run_20 {κ : zK} {h : zH} (hh : zDT κ h) (N : Nat) {g : zE} (X : zC g κ (hsT h) (wT κ h) cX0_run 3 RX0 (some .int) { frames := 5, cells := 0, slots := 0, locals := 112 }) (P : TS → Int32 → Prop) : ∀ (n : Nat) (u : TS) (x1 : Int32) (x2 : Int32), w_X0_run_20 N P n u x1 x2 → zJ g κ (hsT h) (wT κ h) (zi P) 3 u [(0, .ref h.2.2.2.2.2.1), (1, .int x1), (2, .int x2)] 20 [] := by
  intro n
  induction n with
  | zero => intro u x1 x2 H; exact absurd H (by rw [w_X0_run_20]; exact id)
  | succ n ih =>
    intro u x1 x2 H
    rw [w_X0_run_20] at H
    refine z_iload_n X dX0_run_20 2 rfl rfl ?_
    refine z_bipush (v := 72) X dX0_run_21 (by decide) ?_
    refine z_icmp_ge (tgt := 42) X dX0_run_23 (by decide) (fun q6 => ?_) (fun q6 => ?_)
    · have H := H.2 q6
      exact z_sub (j_X0_run_42 hh N X P u x1 H) [0, 1] rfl
    · have H := H.1 q6
      refine z_iload_n X dX0_run_26 1 rfl rfl ?_
      refine z_if_ne (tgt := 42) X dX0_run_27 (by decide) (fun q10 => ?_) (fun q10 => ?_)
      · have H := H.2 q10
        exact z_sub (j_X0_run_42 hh N X P u x1 H) [0, 1] rfl
      · have H := H.1 q10
        refine z_aload_n X dX0_run_30 0 rfl rfl ?_
        refine z_iload_n X dX0_run_31 2 rfl rfl ?_
        refine k_X0_readList hh X ml_X0_37 H ⟨Nat.le_of_ble_eq_true rfl, Nat.le_of_ble_eq_true rfl⟩ (Nat.le_of_ble_eq_true rfl) dX0_run_32 (fun u12 r11 H => ?_)
        refine z_istore_n (lv' := [(1, .int r11), (0, .ref h.2.2.2.2.2.1), (2, .int x2)]) X dX0_run_35 rfl (by decide) rfl ?_
        refine z_iinc (k := 2) (v := (x2 + (1 : Int32))) (lv' := [(2, .int (x2 + (1 : Int32))), (1, .int r11), (0, .ref h.2.2.2.2.2.1)]) X dX0_run_36 rfl rfl (by decide) rfl ?_
        refine z_goto (tgt := 20) X dX0_run_39 (by decide) ?_
        exact z_sub (ih u12 r11 (x2 + (1 : Int32)) H) [2, 1, 0] rfl
set_option maxHeartbeats 4000000 in
set_option maxRecDepth 100000 in
theorem c_X0_run {l : Launch} {κ : zK} {h : zH} (hh : zDT κ h) (N : Nat) (u : TS) (P : TS → Int32 → Prop) (H : w_X0_run N u P) : zM l κ (hsT h) (wT κ h) yX0_run cX0_run 3 (some .int) { frames := 5, cells := 0, slots := 0, locals := 112 } [.ref h.2.2.2.2.2.1] u (zi P) := by
  refine z_met (own := RX0) (by decide) rfl (Nat.le_of_ble_eq_true rfl) hh (fun g X => ?_)
  show zJ g κ (hsT h) (wT κ h) (zi P) 3 u [(0, .ref h.2.2.2.2.2.1)] 0 []
  unfold w_X0_run at H
  refine z_aload_n X dX0_run_0 0 rfl rfl ?_
  refine gf_X0_9 X dX0_run_1 ?_
  refine z_iconst (v := 0) X dX0_run_4 (by decide) ?_
  refine k_fillK hh X ml_X0_23 H ⟨Nat.le_of_ble_eq_true rfl, Nat.le_of_ble_eq_true rfl⟩ (Nat.le_of_ble_eq_true rfl) dX0_run_5 (fun u2 H => ?_)
  refine z_aload_n X dX0_run_8 0 rfl rfl ?_
  refine z_iconst (v := -1) X dX0_run_9 (by decide) ?_
  refine pf_X0_29 X dX0_run_10 H (fun u3 H => ?_)
  refine z_aload_n X dX0_run_13 0 rfl rfl ?_
  refine k_X0_readBlocks hh X ml_X0_33 H ⟨Nat.le_of_ble_eq_true rfl, Nat.le_of_ble_eq_true rfl⟩ (Nat.le_of_ble_eq_true rfl) dX0_run_14 (fun u5 r4 H => ?_)
  refine z_istore_n (lv' := [(1, .int r4), (0, .ref h.2.2.2.2.2.1)]) X dX0_run_17 rfl (by decide) rfl ?_
  refine z_iconst (v := 0) X dX0_run_18 (by decide) ?_
  refine z_istore_n (lv' := [(2, .int (0 : Int32)), (1, .int r4), (0, .ref h.2.2.2.2.2.1)]) X dX0_run_19 rfl (by decide) rfl ?_
  exact z_sub (j_X0_run_20 hh N X P N u5 r4 (0 : Int32) H) [2, 1, 0] rfl
theorem k_X0_run {g : zE} {κ : zK} {h : zH} (hh : zDT κ h) {u : TS} {Φ : TS → Option Value → Prop} {cc : ByteArray} {nL : Nat} {own : String} {ret : Option FieldType} {rm : Room} {lv : List (Nat × Value)} {pc : Nat} {st : List Value} {idx N : Nat}  {P : TS → Int32 → Prop} (X : zC g κ (hsT h) (wT κ h) cc nL own ret rm) (hml : Cond.methodLink own idx yX0_run ∈ zT) (H : w_X0_run N u P) (hR : 5 + 1 ≤ rm.frames ∧ 8 + (3 + 11) + 112 ≤ rm.locals) (hroom : (st.map fun v => v.category).sum ≤ 8) (d : decode cc pc = .ok (.invokevirtual idx, 3)) (kk : ∀ u1 v, P u1 v → zJ g κ (hsT h) (wT κ h) Φ nL u1 lv (pc + 3) (.int v :: st)) : zJ g κ (hsT h) (wT κ h) Φ nL u lv pc (.ref h.2.2.2.2.2.1 :: st) := z_callV (As := []) X yy_X0_run hml im_X0_run se_X0_run (c_X0_run hh N u P H) 0 5 rfl rfl rfl ⟨rfl, rfl⟩ hR rfl hroom d (fun u1 r hz => by obtain ⟨v, hr, hP⟩ := hz; subst hr; exact kk u1 v hP)
def w_X2_placeInList_43 (N : Nat) (P : TS → Int32 → Prop) (u : TS) (x2 : Int32) (x3 : Int32) : Prop := ((x2 < (512 : Int32) → ((x3 = 0 → (P u (-1 : Int32))) ∧ (¬ x3 = 0 → (P u x3)))) ∧ (¬ x2 < (512 : Int32) → (P u (-1 : Int32))))
def w_X2_placeInList_9 (N : Nat) (P : TS → Int32 → Prop) : Nat → TS → Int32 → Int32 → Int32 → Prop
  | 0, _, _, _, _ => False
  | n + 1, u, x2, x3, x4 => ((x4 < (512 : Int32) → ((x4 < x2 → ((x3 = 0 → (w_X2_placeInList_43 N P u x2 x3)) ∧ (¬ x3 = 0 → (w_X3_at N u x3 fun u9 r8 => (w_X2_placeInList_9 N P n u9 x2 (r8).toInt32 (x4 + (1 : Int32))))))) ∧ (¬ x4 < x2 → (w_X2_placeInList_43 N P u x2 x3)))) ∧ (¬ x4 < (512 : Int32) → (w_X2_placeInList_43 N P u x2 x3)))
def w_X2_placeInList (N : Nat) (u : TS) (a1 : Int32) (a2 : Int32) (P : TS → Int32 → Prop) : Prop := (w_X2_firstOf N u a1 fun u2 r1 => (w_X2_placeInList_9 N P N u2 a2 r1 (0 : Int32)))
set_option maxHeartbeats 4000000 in
set_option maxRecDepth 100000 in
theorem j_X2_placeInList_43 {κ : zK} {h : zH} (hh : zDT κ h) (N : Nat) {g : zE} (X : zC g κ (hsT h) (wT κ h) cX2_placeInList 5 RX2 (some .int) { frames := 1, cells := 0, slots := 0, locals := 21 }) (P : TS → Int32 → Prop) (u : TS) (x2 : Int32) (x3 : Int32) (H : w_X2_placeInList_43 N P u x2 x3) : zJ g κ (hsT h) (wT κ h) (zi P) 5 u [(2, .int x2), (3, .int x3)] 43 [] := by
  unfold w_X2_placeInList_43 at H
  refine z_iload_n X dX2_placeInList_43 0 rfl rfl ?_
  refine z_sipush (v := 512) X dX2_placeInList_44 (by decide) ?_
  refine z_icmp_ge (tgt := 58) X dX2_placeInList_47 (by decide) (fun q4 => ?_) (fun q4 => ?_)
  · have H := H.2 q4
    refine z_iconst (v := -1) X dX2_placeInList_58 (by decide) ?_
    exact z_iret X dX2_placeInList_59 H
  · have H := H.1 q4
    refine z_iload_n X dX2_placeInList_50 1 rfl rfl ?_
    refine z_if_eq (tgt := 58) X dX2_placeInList_51 (by decide) (fun q5 => ?_) (fun q5 => ?_)
    · have H := H.1 q5
      refine z_iconst (v := -1) X dX2_placeInList_58 (by decide) ?_
      exact z_iret X dX2_placeInList_59 H
    · have H := H.2 q5
      refine z_iload_n X dX2_placeInList_54 1 rfl rfl ?_
      refine z_goto (tgt := 59) X dX2_placeInList_55 (by decide) ?_
      exact z_iret X dX2_placeInList_59 H
set_option maxHeartbeats 4000000 in
set_option maxRecDepth 100000 in
theorem j_X2_placeInList_9 {κ : zK} {h : zH} (hh : zDT κ h) (N : Nat) {g : zE} (X : zC g κ (hsT h) (wT κ h) cX2_placeInList 5 RX2 (some .int) { frames := 1, cells := 0, slots := 0, locals := 21 }) (P : TS → Int32 → Prop) : ∀ (n : Nat) (u : TS) (x2 : Int32) (x3 : Int32) (x4 : Int32), w_X2_placeInList_9 N P n u x2 x3 x4 → zJ g κ (hsT h) (wT κ h) (zi P) 5 u [(0, .ref h.2.2.2.1), (2, .int x2), (3, .int x3), (4, .int x4)] 9 [] := by
  intro n
  induction n with
  | zero => intro u x2 x3 x4 H; exact absurd H (by rw [w_X2_placeInList_9]; exact id)
  | succ n ih =>
    intro u x2 x3 x4 H
    rw [w_X2_placeInList_9] at H
    refine z_iload X dX2_placeInList_9 3 rfl ?_
    refine z_sipush (v := 512) X dX2_placeInList_11 (by decide) ?_
    refine z_icmp_ge (tgt := 43) X dX2_placeInList_14 (by decide) (fun q3 => ?_) (fun q3 => ?_)
    · have H := H.2 q3
      exact z_sub (j_X2_placeInList_43 hh N X P u x2 x3 H) [1, 2] rfl
    · have H := H.1 q3
      refine z_iload X dX2_placeInList_17 3 rfl ?_
      refine z_iload_n X dX2_placeInList_19 1 rfl rfl ?_
      refine z_icmp_ge (tgt := 43) X dX2_placeInList_20 (by decide) (fun q6 => ?_) (fun q6 => ?_)
      · have H := H.2 q6
        exact z_sub (j_X2_placeInList_43 hh N X P u x2 x3 H) [1, 2] rfl
      · have H := H.1 q6
        refine z_iload_n X dX2_placeInList_23 2 rfl rfl ?_
        refine z_if_eq (tgt := 43) X dX2_placeInList_24 (by decide) (fun q7 => ?_) (fun q7 => ?_)
        · have H := H.1 q7
          exact z_sub (j_X2_placeInList_43 hh N X P u x2 x3 H) [1, 2] rfl
        · have H := H.2 q7
          refine z_aload_n X dX2_placeInList_27 0 rfl rfl ?_
          refine gf_X2_15 X dX2_placeInList_28 ?_
          refine z_iload_n X dX2_placeInList_31 2 rfl rfl ?_
          refine k_X3_at hh X ml_X2_51 H ⟨Nat.le_of_ble_eq_true rfl, Nat.le_of_ble_eq_true rfl⟩ (Nat.le_of_ble_eq_true rfl) dX2_placeInList_32 (fun u9 r8 H => ?_)
          refine z_l2i X dX2_placeInList_35 ?_
          refine z_istore_n (lv' := [(3, .int (r8).toInt32), (0, .ref h.2.2.2.1), (2, .int x2), (4, .int x4)]) X dX2_placeInList_36 rfl (by decide) rfl ?_
          refine z_iinc (k := 3) (v := (x4 + (1 : Int32))) (lv' := [(4, .int (x4 + (1 : Int32))), (3, .int (r8).toInt32), (0, .ref h.2.2.2.1), (2, .int x2)]) X dX2_placeInList_37 rfl rfl (by decide) rfl ?_
          refine z_goto (tgt := 9) X dX2_placeInList_40 (by decide) ?_
          exact z_sub (ih u9 x2 (r8).toInt32 (x4 + (1 : Int32)) H) [2, 3, 1, 0] rfl
set_option maxHeartbeats 4000000 in
set_option maxRecDepth 100000 in
theorem c_X2_placeInList {l : Launch} {κ : zK} {h : zH} (hh : zDT κ h) (N : Nat) (u : TS) (a1 : Int32) (a2 : Int32) (P : TS → Int32 → Prop) (H : w_X2_placeInList N u a1 a2 P) : zM l κ (hsT h) (wT κ h) yX2_placeInList cX2_placeInList 5 (some .int) { frames := 1, cells := 0, slots := 0, locals := 21 } [.ref h.2.2.2.1, .int a1, .int a2] u (zi P) := by
  refine z_met (own := RX2) (by decide) rfl (Nat.le_of_ble_eq_true rfl) hh (fun g X => ?_)
  show zJ g κ (hsT h) (wT κ h) (zi P) 5 u [(0, .ref h.2.2.2.1), (1, .int a1), (2, .int a2)] 0 []
  unfold w_X2_placeInList at H
  refine z_aload_n X dX2_placeInList_0 0 rfl rfl ?_
  refine z_iload_n X dX2_placeInList_1 1 rfl rfl ?_
  refine k_X2_firstOf hh X ml_X2_40 H ⟨Nat.le_of_ble_eq_true rfl, Nat.le_of_ble_eq_true rfl⟩ (Nat.le_of_ble_eq_true rfl) dX2_placeInList_2 (fun u2 r1 H => ?_)
  refine z_istore_n (lv' := [(3, .int r1), (0, .ref h.2.2.2.1), (1, .int a1), (2, .int a2)]) X dX2_placeInList_5 rfl (by decide) rfl ?_
  refine z_iconst (v := 0) X dX2_placeInList_6 (by decide) ?_
  refine z_istore (lv' := [(4, .int (0 : Int32)), (3, .int r1), (0, .ref h.2.2.2.1), (1, .int a1), (2, .int a2)]) X dX2_placeInList_7 (by decide) rfl ?_
  exact z_sub (j_X2_placeInList_9 hh N X P N u2 a2 r1 (0 : Int32) H) [2, 4, 1, 0] rfl
theorem k_X2_placeInList {g : zE} {κ : zK} {h : zH} (hh : zDT κ h) {u : TS} {Φ : TS → Option Value → Prop} {cc : ByteArray} {nL : Nat} {own : String} {ret : Option FieldType} {rm : Room} {lv : List (Nat × Value)} {pc : Nat} {st : List Value} {idx N : Nat} {a1 : Int32} {a2 : Int32} {P : TS → Int32 → Prop} (X : zC g κ (hsT h) (wT κ h) cc nL own ret rm) (hml : Cond.methodLink own idx yX2_placeInList ∈ zT) (H : w_X2_placeInList N u a1 a2 P) (hR : 1 + 1 ≤ rm.frames ∧ 8 + (5 + 11) + 21 ≤ rm.locals) (hroom : (st.map fun v => v.category).sum ≤ 8) (d : decode cc pc = .ok (.invokevirtual idx, 3)) (kk : ∀ u1 v, P u1 v → zJ g κ (hsT h) (wT κ h) Φ nL u1 lv (pc + 3) (.int v :: st)) : zJ g κ (hsT h) (wT κ h) Φ nL u lv pc (.int a2 :: .int a1 :: .ref h.2.2.2.1 :: st) := z_callV (As := [.int a1, .int a2]) X yy_X2_placeInList hml im_X2_placeInList se_X2_placeInList (c_X2_placeInList hh N u a1 a2 P H) 1 3 rfl rfl rfl ⟨rfl, rfl⟩ hR rfl hroom d (fun u1 r hz => by obtain ⟨v, hr, hP⟩ := hz; subst hr; exact kk u1 v hP)
def w_X2_stepBits_4 (N : Nat) (P : TS → Int32 → Prop) : Nat → TS → Int32 → Int32 → Int32 → Prop
  | 0, _, _, _, _ => False
  | n + 1, u, x1, x2, x3 => ((x3 < (8 : Int32) → (w_X2_firstOf N u (((8 : Int32) * x1) + x3) fun u3 r2 => ((r2 = 0 → (w_X2_stepBits_4 N P n u3 x1 x2 (x3 + (1 : Int32)))) ∧ (¬ r2 = 0 → (w_X2_stepBits_4 N P n u3 x1 (x2 ||| ((1 : Int32) <<< (x3 &&& 31))) (x3 + (1 : Int32))))))) ∧ (¬ x3 < (8 : Int32) → (P u x2)))
def w_X2_stepBits (N : Nat) (u : TS) (a1 : Int32) (P : TS → Int32 → Prop) : Prop := (w_X2_stepBits_4 N P N u a1 (0 : Int32) (0 : Int32))
set_option maxHeartbeats 4000000 in
set_option maxRecDepth 100000 in
theorem j_X2_stepBits_4 {κ : zK} {h : zH} (hh : zDT κ h) (N : Nat) {g : zE} (X : zC g κ (hsT h) (wT κ h) cX2_stepBits 4 RX2 (some .int) { frames := 1, cells := 0, slots := 0, locals := 21 }) (P : TS → Int32 → Prop) : ∀ (n : Nat) (u : TS) (x1 : Int32) (x2 : Int32) (x3 : Int32), w_X2_stepBits_4 N P n u x1 x2 x3 → zJ g κ (hsT h) (wT κ h) (zi P) 4 u [(0, .ref h.2.2.2.1), (1, .int x1), (2, .int x2), (3, .int x3)] 4 [] := by
  intro n
  induction n with
  | zero => intro u x1 x2 x3 H; exact absurd H (by rw [w_X2_stepBits_4]; exact id)
  | succ n ih =>
    intro u x1 x2 x3 H
    rw [w_X2_stepBits_4] at H
    refine z_iload_n X dX2_stepBits_4 3 rfl rfl ?_
    refine z_bipush (v := 8) X dX2_stepBits_5 (by decide) ?_
    refine z_icmp_ge (tgt := 35) X dX2_stepBits_7 (by decide) (fun q1 => ?_) (fun q1 => ?_)
    · have H := H.2 q1
      refine z_iload_n X dX2_stepBits_35 2 rfl rfl ?_
      exact z_iret X dX2_stepBits_36 H
    · have H := H.1 q1
      refine z_aload_n X dX2_stepBits_10 0 rfl rfl ?_
      refine z_bipush (v := 8) X dX2_stepBits_11 (by decide) ?_
      refine z_iload_n X dX2_stepBits_13 1 rfl rfl ?_
      refine z_imul X dX2_stepBits_14 ?_
      refine z_iload_n X dX2_stepBits_15 3 rfl rfl ?_
      refine z_iadd X dX2_stepBits_16 ?_
      refine k_X2_firstOf hh X ml_X2_40 H ⟨Nat.le_of_ble_eq_true rfl, Nat.le_of_ble_eq_true rfl⟩ (Nat.le_of_ble_eq_true rfl) dX2_stepBits_17 (fun u3 r2 H => ?_)
      refine z_if_eq (tgt := 29) X dX2_stepBits_20 (by decide) (fun q4 => ?_) (fun q4 => ?_)
      · have H := H.1 q4
        refine z_iinc (k := 3) (v := (x3 + (1 : Int32))) (lv' := [(3, .int (x3 + (1 : Int32))), (0, .ref h.2.2.2.1), (1, .int x1), (2, .int x2)]) X dX2_stepBits_29 rfl rfl (by decide) rfl ?_
        refine z_goto (tgt := 4) X dX2_stepBits_32 (by decide) ?_
        exact z_sub (ih u3 x1 x2 (x3 + (1 : Int32)) H) [1, 2, 3, 0] rfl
      · have H := H.2 q4
        refine z_iload_n X dX2_stepBits_23 2 rfl rfl ?_
        refine z_iconst (v := 1) X dX2_stepBits_24 (by decide) ?_
        refine z_iload_n X dX2_stepBits_25 3 rfl rfl ?_
        refine z_ishl X dX2_stepBits_26 ?_
        refine z_ior X dX2_stepBits_27 ?_
        refine z_istore_n (lv' := [(2, .int (x2 ||| ((1 : Int32) <<< (x3 &&& 31)))), (0, .ref h.2.2.2.1), (1, .int x1), (3, .int x3)]) X dX2_stepBits_28 rfl (by decide) rfl ?_
        refine z_iinc (k := 3) (v := (x3 + (1 : Int32))) (lv' := [(3, .int (x3 + (1 : Int32))), (2, .int (x2 ||| ((1 : Int32) <<< (x3 &&& 31)))), (0, .ref h.2.2.2.1), (1, .int x1)]) X dX2_stepBits_29 rfl rfl (by decide) rfl ?_
        refine z_goto (tgt := 4) X dX2_stepBits_32 (by decide) ?_
        exact z_sub (ih u3 x1 (x2 ||| ((1 : Int32) <<< (x3 &&& 31))) (x3 + (1 : Int32)) H) [2, 3, 1, 0] rfl
set_option maxHeartbeats 4000000 in
set_option maxRecDepth 100000 in
theorem c_X2_stepBits {l : Launch} {κ : zK} {h : zH} (hh : zDT κ h) (N : Nat) (u : TS) (a1 : Int32) (P : TS → Int32 → Prop) (H : w_X2_stepBits N u a1 P) : zM l κ (hsT h) (wT κ h) yX2_stepBits cX2_stepBits 4 (some .int) { frames := 1, cells := 0, slots := 0, locals := 21 } [.ref h.2.2.2.1, .int a1] u (zi P) := by
  refine z_met (own := RX2) (by decide) rfl (Nat.le_of_ble_eq_true rfl) hh (fun g X => ?_)
  show zJ g κ (hsT h) (wT κ h) (zi P) 4 u [(0, .ref h.2.2.2.1), (1, .int a1)] 0 []
  unfold w_X2_stepBits at H
  refine z_iconst (v := 0) X dX2_stepBits_0 (by decide) ?_
  refine z_istore_n (lv' := [(2, .int (0 : Int32)), (0, .ref h.2.2.2.1), (1, .int a1)]) X dX2_stepBits_1 rfl (by decide) rfl ?_
  refine z_iconst (v := 0) X dX2_stepBits_2 (by decide) ?_
  refine z_istore_n (lv' := [(3, .int (0 : Int32)), (2, .int (0 : Int32)), (0, .ref h.2.2.2.1), (1, .int a1)]) X dX2_stepBits_3 rfl (by decide) rfl ?_
  exact z_sub (j_X2_stepBits_4 hh N X P N u a1 (0 : Int32) (0 : Int32) H) [2, 3, 1, 0] rfl
theorem k_X2_stepBits {g : zE} {κ : zK} {h : zH} (hh : zDT κ h) {u : TS} {Φ : TS → Option Value → Prop} {cc : ByteArray} {nL : Nat} {own : String} {ret : Option FieldType} {rm : Room} {lv : List (Nat × Value)} {pc : Nat} {st : List Value} {idx N : Nat} {a1 : Int32} {P : TS → Int32 → Prop} (X : zC g κ (hsT h) (wT κ h) cc nL own ret rm) (hml : Cond.methodLink own idx yX2_stepBits ∈ zT) (H : w_X2_stepBits N u a1 P) (hR : 1 + 1 ≤ rm.frames ∧ 8 + (4 + 11) + 21 ≤ rm.locals) (hroom : (st.map fun v => v.category).sum ≤ 8) (d : decode cc pc = .ok (.invokevirtual idx, 3)) (kk : ∀ u1 v, P u1 v → zJ g κ (hsT h) (wT κ h) Φ nL u1 lv (pc + 3) (.int v :: st)) : zJ g κ (hsT h) (wT κ h) Φ nL u lv pc (.int a1 :: .ref h.2.2.2.1 :: st) := z_callV (As := [.int a1]) X yy_X2_stepBits hml im_X2_stepBits se_X2_stepBits (c_X2_stepBits hh N u a1 P H) 1 3 rfl rfl rfl ⟨rfl, rfl⟩ hR rfl hroom d (fun u1 r hz => by obtain ⟨v, hr, hP⟩ := hz; subst hr; exact kk u1 v hP)
def w_X2_levelBits_4 (N : Nat) (P : TS → Int32 → Prop) : Nat → TS → Int32 → Int32 → Prop
  | 0, _, _, _ => False
  | n + 1, u, x1, x2 => ((x2 < (9 : Int32) → (w_X2_stepBits N u x2 fun u3 r2 => ((r2 = 0 → (w_X2_levelBits_4 N P n u3 x1 (x2 + (1 : Int32)))) ∧ (¬ r2 = 0 → (w_X2_levelBits_4 N P n u3 (x1 ||| ((1 : Int32) <<< (x2 &&& 31))) (x2 + (1 : Int32))))))) ∧ (¬ x2 < (9 : Int32) → (P u x1)))
def w_X2_levelBits (N : Nat) (u : TS) (P : TS → Int32 → Prop) : Prop := (w_X2_levelBits_4 N P N u (0 : Int32) (0 : Int32))
set_option maxHeartbeats 4000000 in
set_option maxRecDepth 100000 in
theorem j_X2_levelBits_4 {κ : zK} {h : zH} (hh : zDT κ h) (N : Nat) {g : zE} (X : zC g κ (hsT h) (wT κ h) cX2_levelBits 3 RX2 (some .int) { frames := 2, cells := 0, slots := 0, locals := 44 }) (P : TS → Int32 → Prop) : ∀ (n : Nat) (u : TS) (x1 : Int32) (x2 : Int32), w_X2_levelBits_4 N P n u x1 x2 → zJ g κ (hsT h) (wT κ h) (zi P) 3 u [(0, .ref h.2.2.2.1), (1, .int x1), (2, .int x2)] 4 [] := by
  intro n
  induction n with
  | zero => intro u x1 x2 H; exact absurd H (by rw [w_X2_levelBits_4]; exact id)
  | succ n ih =>
    intro u x1 x2 H
    rw [w_X2_levelBits_4] at H
    refine z_iload_n X dX2_levelBits_4 2 rfl rfl ?_
    refine z_bipush (v := 9) X dX2_levelBits_5 (by decide) ?_
    refine z_icmp_ge (tgt := 30) X dX2_levelBits_7 (by decide) (fun q1 => ?_) (fun q1 => ?_)
    · have H := H.2 q1
      refine z_iload_n X dX2_levelBits_30 1 rfl rfl ?_
      exact z_iret X dX2_levelBits_31 H
    · have H := H.1 q1
      refine z_aload_n X dX2_levelBits_10 0 rfl rfl ?_
      refine z_iload_n X dX2_levelBits_11 2 rfl rfl ?_
      refine k_X2_stepBits hh X ml_X2_58 H ⟨Nat.le_of_ble_eq_true rfl, Nat.le_of_ble_eq_true rfl⟩ (Nat.le_of_ble_eq_true rfl) dX2_levelBits_12 (fun u3 r2 H => ?_)
      refine z_if_eq (tgt := 24) X dX2_levelBits_15 (by decide) (fun q4 => ?_) (fun q4 => ?_)
      · have H := H.1 q4
        refine z_iinc (k := 2) (v := (x2 + (1 : Int32))) (lv' := [(2, .int (x2 + (1 : Int32))), (0, .ref h.2.2.2.1), (1, .int x1)]) X dX2_levelBits_24 rfl rfl (by decide) rfl ?_
        refine z_goto (tgt := 4) X dX2_levelBits_27 (by decide) ?_
        exact z_sub (ih u3 x1 (x2 + (1 : Int32)) H) [1, 2, 0] rfl
      · have H := H.2 q4
        refine z_iload_n X dX2_levelBits_18 1 rfl rfl ?_
        refine z_iconst (v := 1) X dX2_levelBits_19 (by decide) ?_
        refine z_iload_n X dX2_levelBits_20 2 rfl rfl ?_
        refine z_ishl X dX2_levelBits_21 ?_
        refine z_ior X dX2_levelBits_22 ?_
        refine z_istore_n (lv' := [(1, .int (x1 ||| ((1 : Int32) <<< (x2 &&& 31)))), (0, .ref h.2.2.2.1), (2, .int x2)]) X dX2_levelBits_23 rfl (by decide) rfl ?_
        refine z_iinc (k := 2) (v := (x2 + (1 : Int32))) (lv' := [(2, .int (x2 + (1 : Int32))), (1, .int (x1 ||| ((1 : Int32) <<< (x2 &&& 31)))), (0, .ref h.2.2.2.1)]) X dX2_levelBits_24 rfl rfl (by decide) rfl ?_
        refine z_goto (tgt := 4) X dX2_levelBits_27 (by decide) ?_
        exact z_sub (ih u3 (x1 ||| ((1 : Int32) <<< (x2 &&& 31))) (x2 + (1 : Int32)) H) [2, 1, 0] rfl
set_option maxHeartbeats 4000000 in
set_option maxRecDepth 100000 in
theorem c_X2_levelBits {l : Launch} {κ : zK} {h : zH} (hh : zDT κ h) (N : Nat) (u : TS) (P : TS → Int32 → Prop) (H : w_X2_levelBits N u P) : zM l κ (hsT h) (wT κ h) yX2_levelBits cX2_levelBits 3 (some .int) { frames := 2, cells := 0, slots := 0, locals := 44 } [.ref h.2.2.2.1] u (zi P) := by
  refine z_met (own := RX2) (by decide) rfl (Nat.le_of_ble_eq_true rfl) hh (fun g X => ?_)
  show zJ g κ (hsT h) (wT κ h) (zi P) 3 u [(0, .ref h.2.2.2.1)] 0 []
  unfold w_X2_levelBits at H
  refine z_iconst (v := 0) X dX2_levelBits_0 (by decide) ?_
  refine z_istore_n (lv' := [(1, .int (0 : Int32)), (0, .ref h.2.2.2.1)]) X dX2_levelBits_1 rfl (by decide) rfl ?_
  refine z_iconst (v := 0) X dX2_levelBits_2 (by decide) ?_
  refine z_istore_n (lv' := [(2, .int (0 : Int32)), (1, .int (0 : Int32)), (0, .ref h.2.2.2.1)]) X dX2_levelBits_3 rfl (by decide) rfl ?_
  exact z_sub (j_X2_levelBits_4 hh N X P N u (0 : Int32) (0 : Int32) H) [2, 1, 0] rfl
theorem k_X2_levelBits {g : zE} {κ : zK} {h : zH} (hh : zDT κ h) {u : TS} {Φ : TS → Option Value → Prop} {cc : ByteArray} {nL : Nat} {own : String} {ret : Option FieldType} {rm : Room} {lv : List (Nat × Value)} {pc : Nat} {st : List Value} {idx N : Nat}  {P : TS → Int32 → Prop} (X : zC g κ (hsT h) (wT κ h) cc nL own ret rm) (hml : Cond.methodLink own idx yX2_levelBits ∈ zT) (H : w_X2_levelBits N u P) (hR : 2 + 1 ≤ rm.frames ∧ 8 + (3 + 11) + 44 ≤ rm.locals) (hroom : (st.map fun v => v.category).sum ≤ 8) (d : decode cc pc = .ok (.invokevirtual idx, 3)) (kk : ∀ u1 v, P u1 v → zJ g κ (hsT h) (wT κ h) Φ nL u1 lv (pc + 3) (.int v :: st)) : zJ g κ (hsT h) (wT κ h) Φ nL u lv pc (.ref h.2.2.2.1 :: st) := z_callV (As := []) X yy_X2_levelBits hml im_X2_levelBits se_X2_levelBits (c_X2_levelBits hh N u P H) 1 3 rfl rfl rfl ⟨rfl, rfl⟩ hR rfl hroom d (fun u1 r hz => by obtain ⟨v, hr, hP⟩ := hz; subst hr; exact kk u1 v hP)
