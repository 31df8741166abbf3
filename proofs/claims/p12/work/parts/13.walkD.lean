def w_X5_classIn_10 (N : Nat) (P : Int32 → Prop) : Nat → Int32 → Int32 → Prop
  | 0, _, _ => False
  | n + 1, x0, x1 => ((0 < (x0 >>> ((x1 + (1 : Int32)) &&& 31)) → (w_X5_classIn_10 N P n x0 (x1 + (1 : Int32)))) ∧ (¬ 0 < (x0 >>> ((x1 + (1 : Int32)) &&& 31)) → (P ((((8 : Int32) * (x1 - (2 : Int32))) + (x0 >>> ((x1 - (3 : Int32)) &&& 31))) - (8 : Int32)))))
def w_X5_classIn (N : Nat) (a1 : Int32) (P : Int32 → Prop) : Prop := ((a1 < (8 : Int32) → (P a1)) ∧ (¬ a1 < (8 : Int32) → (w_X5_classIn_10 N P N a1 (3 : Int32))))
set_option maxHeartbeats 4000000 in
set_option maxRecDepth 100000 in
theorem j_X5_classIn_10 {κ : zK} (N : Nat) {g : zE} (X : zC g κ [] zw0 cX5_classIn 2 RX5 (some .int) { frames := 0, cells := 0, slots := 0, locals := 0 }) (P : Int32 → Prop) : ∀ (n : Nat) (x0 : Int32) (x1 : Int32), w_X5_classIn_10 N P n x0 x1 → zJ g κ [] zw0 (zsi P) 2 () [(0, .int x0), (1, .int x1)] 10 [] := by
  intro n
  induction n with
  | zero => intro x0 x1 H; exact absurd H (by rw [w_X5_classIn_10]; exact id)
  | succ n ih =>
    intro x0 x1 H
    rw [w_X5_classIn_10] at H
    refine z_iload_n X dX5_classIn_10 0 rfl rfl ?_
    refine z_iload_n X dX5_classIn_11 1 rfl rfl ?_
    refine z_iconst (v := 1) X dX5_classIn_12 (by decide) ?_
    refine z_iadd X dX5_classIn_13 ?_
    refine z_ishr X dX5_classIn_14 ?_
    refine z_if_le (tgt := 24) X dX5_classIn_15 (by decide) (fun q2 => ?_) (fun q2 => ?_)
    · have H := H.2 q2
      refine z_bipush (v := 8) X dX5_classIn_24 (by decide) ?_
      refine z_iload_n X dX5_classIn_26 1 rfl rfl ?_
      refine z_iconst (v := 2) X dX5_classIn_27 (by decide) ?_
      refine z_isub X dX5_classIn_28 ?_
      refine z_imul X dX5_classIn_29 ?_
      refine z_iload_n X dX5_classIn_30 0 rfl rfl ?_
      refine z_iload_n X dX5_classIn_31 1 rfl rfl ?_
      refine z_iconst (v := 3) X dX5_classIn_32 (by decide) ?_
      refine z_isub X dX5_classIn_33 ?_
      refine z_ishr X dX5_classIn_34 ?_
      refine z_iadd X dX5_classIn_35 ?_
      refine z_bipush (v := 8) X dX5_classIn_36 (by decide) ?_
      refine z_isub X dX5_classIn_38 ?_
      exact z_siret X dX5_classIn_39 H
    · have H := H.1 q2
      refine z_iinc (k := 1) (v := (x1 + (1 : Int32))) (lv' := [(1, .int (x1 + (1 : Int32))), (0, .int x0)]) X dX5_classIn_18 rfl rfl (by decide) rfl ?_
      refine z_goto (tgt := 10) X dX5_classIn_21 (by decide) ?_
      exact z_sub (ih x0 (x1 + (1 : Int32)) H) [1, 0] rfl
set_option maxHeartbeats 4000000 in
set_option maxRecDepth 100000 in
theorem c_X5_classIn {l : Launch} {κ : zK} (N : Nat) (a1 : Int32) (P : Int32 → Prop) (H : w_X5_classIn N a1 P) : zM l κ [] zw0 yX5_classIn cX5_classIn 2 (some .int) { frames := 0, cells := 0, slots := 0, locals := 0 } [.int a1] () (zsi P) := by
  refine z_met (own := RX5) (by decide) rfl (Nat.le_of_ble_eq_true rfl) z_D0 (fun g X => ?_)
  show zJ g κ [] zw0 (zsi P) 2 () [(0, .int a1)] 0 []
  unfold w_X5_classIn at H
  refine z_iload_n X dX5_classIn_0 0 rfl rfl ?_
  refine z_bipush (v := 8) X dX5_classIn_1 (by decide) ?_
  refine z_icmp_ge (tgt := 8) X dX5_classIn_3 (by decide) (fun q1 => ?_) (fun q1 => ?_)
  · have H := H.2 q1
    refine z_iconst (v := 3) X dX5_classIn_8 (by decide) ?_
    refine z_istore_n (lv' := [(1, .int (3 : Int32)), (0, .int a1)]) X dX5_classIn_9 rfl (by decide) rfl ?_
    exact z_sub (j_X5_classIn_10 N X P N a1 (3 : Int32) H) [1, 0] rfl
  · have H := H.1 q1
    refine z_iload_n X dX5_classIn_6 0 rfl rfl ?_
    exact z_siret X dX5_classIn_7 H
theorem k_X5_classIn {σ : Type} {g : zE} {hs : List Nat} {ω : σ → va_W} {κ : zK} {u : σ} {Φ : σ → Option Value → Prop} {cc : ByteArray} {nL : Nat} {own : String} {ret : Option FieldType} {rm : Room} {lv : List (Nat × Value)} {pc : Nat} {st : List Value} {idx N : Nat} {a1 : Int32} {P : Int32 → Prop} (X : zC g κ hs ω cc nL own ret rm) (hml : Cond.methodLink own idx yX5_classIn ∈ zT) (H : w_X5_classIn N a1 P) (hR : 0 + 1 ≤ rm.frames ∧ 8 + (2 + 11) + 0 ≤ rm.locals) (hroom : (st.map fun v => v.category).sum ≤ 8) (d : decode cc pc = .ok (.invokestatic idx, 3)) (kk : ∀ v, P v → zJ g κ hs ω Φ nL u lv (pc + 3) (.int v :: st)) : zJ g κ hs ω Φ nL u lv pc (.int a1 :: st) := z_callS (As := [.int a1]) X yy_X5_classIn hml st_X5_classIn (c_X5_classIn N a1 P H) rfl ⟨rfl, rfl⟩ hR rfl hroom d kk
def w_X5_words (N : Nat) (u : MS) (a1 : Int32) (P : MS → Int32 → Prop) : Prop := (vp_in (a1 - (1 : Int32)) 2048 ∧ (P u (((u.1.1 ((a1 - (1 : Int32))).toNatClampNeg) >>> (((2 : Int32)).toInt64 &&& 63))).toInt32))
set_option maxHeartbeats 4000000 in
set_option maxRecDepth 100000 in
theorem c_X5_words {l : Launch} {κ : zK} {h : zG} (hh : zDM κ h) (N : Nat) (u : MS) (a1 : Int32) (P : MS → Int32 → Prop) (H : w_X5_words N u a1 P) : zM l κ (hsM h) (wM κ h) yX5_words cX5_words 2 (some .int) { frames := 0, cells := 0, slots := 0, locals := 0 } [.ref h.1, .int a1] u (zi P) := by
  refine z_met (own := RX5) (by decide) rfl (Nat.le_of_ble_eq_true rfl) hh (fun g X => ?_)
  show zJ g κ (hsM h) (wM κ h) (zi P) 2 u [(0, .ref h.1), (1, .int a1)] 0 []
  unfold w_X5_words at H
  refine z_aload_n X dX5_words_0 0 rfl rfl ?_
  refine gf_X5_7 X dX5_words_1 ?_
  refine z_iload_n X dX5_words_4 1 rfl rfl ?_
  refine z_iconst (v := 1) X dX5_words_5 (by decide) ?_
  refine z_isub X dX5_words_6 ?_
  obtain ⟨q1, H⟩ := H
  refine ar_pool X q1 dX5_words_7 ?_
  refine z_iconst (v := 2) X dX5_words_8 (by decide) ?_
  refine z_lshr X dX5_words_9 ?_
  refine z_l2i X dX5_words_10 ?_
  exact z_iret X dX5_words_11 H
theorem k_X5_words {g : zE} {κ : zK} {h : zG} (hh : zDM κ h) {u : MS} {Φ : MS → Option Value → Prop} {cc : ByteArray} {nL : Nat} {own : String} {ret : Option FieldType} {rm : Room} {lv : List (Nat × Value)} {pc : Nat} {st : List Value} {idx N : Nat} {a1 : Int32} {P : MS → Int32 → Prop} (X : zC g κ (hsM h) (wM κ h) cc nL own ret rm) (hml : Cond.methodLink own idx yX5_words ∈ zT) (H : w_X5_words N u a1 P) (hR : 0 + 1 ≤ rm.frames ∧ 8 + (2 + 11) + 0 ≤ rm.locals) (hroom : (st.map fun v => v.category).sum ≤ 8) (d : decode cc pc = .ok (.invokevirtual idx, 3)) (kk : ∀ u1 v, P u1 v → zJ g κ (hsM h) (wM κ h) Φ nL u1 lv (pc + 3) (.int v :: st)) : zJ g κ (hsM h) (wM κ h) Φ nL u lv pc (.int a1 :: .ref h.1 :: st) := z_callV (As := [.int a1]) X yy_X5_words hml im_X5_words se_X5_words (c_X5_words hh N u a1 P H) 4 0 rfl rfl rfl ⟨rfl, rfl⟩ hR rfl hroom d (fun u1 r hz => by obtain ⟨v, hr, hP⟩ := hz; subst hr; exact kk u1 v hP)
def w_X5_behind (N : Nat) (u : MS) (a1 : Int32) (P : MS → Int32 → Prop) : Prop := (w_X5_words N u a1 fun u2 r1 => (((u2.1.2.1) < ((a1 + r1) + (1 : Int32)) → (P u2 (0 : Int32))) ∧ (¬ (u2.1.2.1) < ((a1 + r1) + (1 : Int32)) → (P u2 ((a1 + r1) + (1 : Int32))))))
set_option maxHeartbeats 4000000 in
set_option maxRecDepth 100000 in
theorem c_X5_behind {l : Launch} {κ : zK} {h : zG} (hh : zDM κ h) (N : Nat) (u : MS) (a1 : Int32) (P : MS → Int32 → Prop) (H : w_X5_behind N u a1 P) : zM l κ (hsM h) (wM κ h) yX5_behind cX5_behind 3 (some .int) { frames := 1, cells := 0, slots := 0, locals := 21 } [.ref h.1, .int a1] u (zi P) := by
  refine z_met (own := RX5) (by decide) rfl (Nat.le_of_ble_eq_true rfl) hh (fun g X => ?_)
  show zJ g κ (hsM h) (wM κ h) (zi P) 3 u [(0, .ref h.1), (1, .int a1)] 0 []
  unfold w_X5_behind at H
  refine z_iload_n X dX5_behind_0 1 rfl rfl ?_
  refine z_aload_n X dX5_behind_1 0 rfl rfl ?_
  refine z_iload_n X dX5_behind_2 1 rfl rfl ?_
  refine k_X5_words hh X ml_X5_66 H ⟨Nat.le_of_ble_eq_true rfl, Nat.le_of_ble_eq_true rfl⟩ (Nat.le_of_ble_eq_true rfl) dX5_behind_3 (fun u2 r1 H => ?_)
  refine z_iadd X dX5_behind_6 ?_
  refine z_iconst (v := 1) X dX5_behind_7 (by decide) ?_
  refine z_iadd X dX5_behind_8 ?_
  refine z_istore_n (lv' := [(2, .int ((a1 + r1) + (1 : Int32))), (0, .ref h.1), (1, .int a1)]) X dX5_behind_9 rfl (by decide) rfl ?_
  refine z_iload_n X dX5_behind_10 0 rfl rfl ?_
  refine z_aload_n X dX5_behind_11 1 rfl rfl ?_
  refine gf_X5_32 X dX5_behind_12 ?_
  refine z_icmp_le (tgt := 22) X dX5_behind_15 (by decide) (fun q3 => ?_) (fun q3 => ?_)
  · have H := H.2 q3
    refine z_iload_n X dX5_behind_22 0 rfl rfl ?_
    exact z_iret X dX5_behind_23 H
  · have H := H.1 q3
    refine z_iconst (v := 0) X dX5_behind_18 (by decide) ?_
    refine z_goto (tgt := 23) X dX5_behind_19 (by decide) ?_
    exact z_iret X dX5_behind_23 H
theorem k_X5_behind {g : zE} {κ : zK} {h : zG} (hh : zDM κ h) {u : MS} {Φ : MS → Option Value → Prop} {cc : ByteArray} {nL : Nat} {own : String} {ret : Option FieldType} {rm : Room} {lv : List (Nat × Value)} {pc : Nat} {st : List Value} {idx N : Nat} {a1 : Int32} {P : MS → Int32 → Prop} (X : zC g κ (hsM h) (wM κ h) cc nL own ret rm) (hml : Cond.methodLink own idx yX5_behind ∈ zT) (H : w_X5_behind N u a1 P) (hR : 1 + 1 ≤ rm.frames ∧ 8 + (3 + 11) + 21 ≤ rm.locals) (hroom : (st.map fun v => v.category).sum ≤ 8) (d : decode cc pc = .ok (.invokevirtual idx, 3)) (kk : ∀ u1 v, P u1 v → zJ g κ (hsM h) (wM κ h) Φ nL u1 lv (pc + 3) (.int v :: st)) : zJ g κ (hsM h) (wM κ h) Φ nL u lv pc (.int a1 :: .ref h.1 :: st) := z_callV (As := [.int a1]) X yy_X5_behind hml im_X5_behind se_X5_behind (c_X5_behind hh N u a1 P H) 4 0 rfl rfl rfl ⟨rfl, rfl⟩ hR rfl hroom d (fun u1 r hz => by obtain ⟨v, hr, hP⟩ := hz; subst hr; exact kk u1 v hP)
def w_X5_tell (N : Nat) (u : MS) (a1 : Int32) (a2 : Int32) (P : MS → Prop) : Prop := ((0 < a1 → ((a2 = 0 → (vp_in (a1 - (1 : Int32)) 2048 ∧ (vp_in (a1 - (1 : Int32)) 2048 ∧ zlet (sW u.1 (vp_updL u.1.1 ((a1 - (1 : Int32))).toNatClampNeg ((u.1.1 ((a1 - (1 : Int32))).toNatClampNeg) &&& (-3 : Int64))), u.2) fun u5 => (P u5)))) ∧ (¬ a2 = 0 → (vp_in (a1 - (1 : Int32)) 2048 ∧ (vp_in (a1 - (1 : Int32)) 2048 ∧ zlet (sW u.1 (vp_updL u.1.1 ((a1 - (1 : Int32))).toNatClampNeg ((u.1.1 ((a1 - (1 : Int32))).toNatClampNeg) ||| (2 : Int64))), u.2) fun u8 => (P u8)))))) ∧ (¬ 0 < a1 → (P u)))
set_option maxHeartbeats 4000000 in
set_option maxRecDepth 100000 in
theorem c_X5_tell {l : Launch} {κ : zK} {h : zG} (hh : zDM κ h) (N : Nat) (u : MS) (a1 : Int32) (a2 : Int32) (P : MS → Prop) (H : w_X5_tell N u a1 a2 P) : zM l κ (hsM h) (wM κ h) yX5_tell cX5_tell 3 none { frames := 0, cells := 0, slots := 0, locals := 0 } [.ref h.1, .int a1, .int a2] u (zv P) := by
  refine z_met (own := RX5) (by decide) rfl (Nat.le_of_ble_eq_true rfl) hh (fun g X => ?_)
  show zJ g κ (hsM h) (wM κ h) (zv P) 3 u [(0, .ref h.1), (1, .int a1), (2, .int a2)] 0 []
  unfold w_X5_tell at H
  refine z_iload_n X dX5_tell_0 1 rfl rfl ?_
  refine z_if_le (tgt := 43) X dX5_tell_1 (by decide) (fun q1 => ?_) (fun q1 => ?_)
  · have H := H.2 q1
    exact z_vret X dX5_tell_43 H
  · have H := H.1 q1
    refine z_aload_n X dX5_tell_4 0 rfl rfl ?_
    refine gf_X5_7 X dX5_tell_5 ?_
    refine z_iload_n X dX5_tell_8 1 rfl rfl ?_
    refine z_iconst (v := 1) X dX5_tell_9 (by decide) ?_
    refine z_isub X dX5_tell_10 ?_
    refine z_iload_n X dX5_tell_11 2 rfl rfl ?_
    refine z_if_eq (tgt := 30) X dX5_tell_12 (by decide) (fun q2 => ?_) (fun q2 => ?_)
    · have H := H.1 q2
      refine z_aload_n X dX5_tell_30 0 rfl rfl ?_
      refine gf_X5_7 X dX5_tell_31 ?_
      refine z_iload_n X dX5_tell_34 1 rfl rfl ?_
      refine z_iconst (v := 1) X dX5_tell_35 (by decide) ?_
      refine z_isub X dX5_tell_36 ?_
      obtain ⟨q3, H⟩ := H
      refine ar_pool X q3 dX5_tell_37 ?_
      refine z_ldc2 X kl_X5_71 dX5_tell_38 ?_
      refine z_land X dX5_tell_41 ?_
      obtain ⟨q4, H⟩ := H
      refine aw_pool X q4 dX5_tell_42 H (fun u5 H => ?_)
      exact z_vret X dX5_tell_43 H
    · have H := H.2 q2
      refine z_aload_n X dX5_tell_15 0 rfl rfl ?_
      refine gf_X5_7 X dX5_tell_16 ?_
      refine z_iload_n X dX5_tell_19 1 rfl rfl ?_
      refine z_iconst (v := 1) X dX5_tell_20 (by decide) ?_
      refine z_isub X dX5_tell_21 ?_
      obtain ⟨q6, H⟩ := H
      refine ar_pool X q6 dX5_tell_22 ?_
      refine z_ldc2 X kl_X5_69 dX5_tell_23 ?_
      refine z_lor X dX5_tell_26 ?_
      refine z_goto (tgt := 42) X dX5_tell_27 (by decide) ?_
      obtain ⟨q7, H⟩ := H
      refine aw_pool X q7 dX5_tell_42 H (fun u8 H => ?_)
      exact z_vret X dX5_tell_43 H
theorem k_X5_tell {g : zE} {κ : zK} {h : zG} (hh : zDM κ h) {u : MS} {Φ : MS → Option Value → Prop} {cc : ByteArray} {nL : Nat} {own : String} {ret : Option FieldType} {rm : Room} {lv : List (Nat × Value)} {pc : Nat} {st : List Value} {idx N : Nat} {a1 : Int32} {a2 : Int32} {P : MS → Prop} (X : zC g κ (hsM h) (wM κ h) cc nL own ret rm) (hml : Cond.methodLink own idx yX5_tell ∈ zT) (H : w_X5_tell N u a1 a2 P) (hR : 0 + 1 ≤ rm.frames ∧ 8 + (3 + 11) + 0 ≤ rm.locals) (hroom : (st.map fun v => v.category).sum ≤ 8) (d : decode cc pc = .ok (.invokevirtual idx, 3)) (kk : ∀ u1, P u1 → zJ g κ (hsM h) (wM κ h) Φ nL u1 lv (pc + 3) st) : zJ g κ (hsM h) (wM κ h) Φ nL u lv pc (.int a2 :: .int a1 :: .ref h.1 :: st) := z_callV (As := [.int a1, .int a2]) X yy_X5_tell hml im_X5_tell se_X5_tell (c_X5_tell hh N u a1 a2 P H) 4 0 rfl rfl rfl ⟨rfl, rfl⟩ hR rfl hroom d (fun u1 r hz => by obtain ⟨hr, hP⟩ := hz; subst hr; exact kk u1 hP)
def w_X5_lend_85 (N : Nat) (P : MS → Prop) (u : MS) (x1 : Int32) (x5 : Int32) : Prop := (vp_in x5 72 ∧ zlet (sF u.1 (upd u.1.2.2.1 (x5).toNatClampNeg x1), u.2) fun u15 => (zlet (sMv u15.1 ((u15.1.2.2.2.1) + (1 : Int32)), u15.2) fun u16 => (w_X5_behind N u16 x1 fun u18 r17 => (w_X5_tell N u18 r17 (1 : Int32) fun u20 => (P u20)))))
def w_X5_lend (N : Nat) (u : MS) (a1 : Int32) (a2 : Int32) (a3 : Int64) (P : MS → Prop) : Prop := (w_X5_classIn N a2 fun r1 => (vp_in (a1 - (1 : Int32)) 2048 ∧ zlet (sW u.1 (vp_updL u.1.1 ((a1 - (1 : Int32))).toNatClampNeg ((((4 : Int64) * (a2).toInt64) + a3) + (1 : Int64))), u.2) fun u4 => (vp_in r1 72 ∧ (vp_in a1 2048 ∧ zlet (sW u4.1 (vp_updL u4.1.1 (a1).toNatClampNeg ((u4.1.2.2.1 (r1).toNatClampNeg)).toInt64), u4.2) fun u7 => (vp_in (a1 + (1 : Int32)) 2048 ∧ zlet (sW u7.1 (vp_updL u7.1.1 ((a1 + (1 : Int32))).toNatClampNeg (0 : Int64)), u7.2) fun u9 => (vp_in ((a1 + a2) - (1 : Int32)) 2048 ∧ zlet (sW u9.1 (vp_updL u9.1.1 (((a1 + a2) - (1 : Int32))).toNatClampNeg (a2).toInt64), u9.2) fun u11 => (vp_in r1 72 ∧ (((u11.1.2.2.1 (r1).toNatClampNeg) = 0 → (w_X5_lend_85 N P u11 a1 r1)) ∧ (¬ (u11.1.2.2.1 (r1).toNatClampNeg) = 0 → (vp_in r1 72 ∧ (vp_in ((u11.1.2.2.1 (r1).toNatClampNeg) + (1 : Int32)) 2048 ∧ zlet (sW u11.1 (vp_updL u11.1.1 (((u11.1.2.2.1 (r1).toNatClampNeg) + (1 : Int32))).toNatClampNeg (a1).toInt64), u11.2) fun u23 => (w_X5_lend_85 N P u23 a1 r1))))))))))))
set_option maxHeartbeats 4000000 in
set_option maxRecDepth 100000 in
theorem j_X5_lend_85 {κ : zK} {h : zG} (hh : zDM κ h) (N : Nat) {g : zE} (X : zC g κ (hsM h) (wM κ h) cX5_lend 6 RX5 none { frames := 2, cells := 0, slots := 0, locals := 43 }) (P : MS → Prop) (u : MS) (x1 : Int32) (x5 : Int32) (H : w_X5_lend_85 N P u x1 x5) : zJ g κ (hsM h) (wM κ h) (zv P) 6 u [(0, .ref h.1), (1, .int x1), (5, .int x5)] 85 [] := by
  unfold w_X5_lend_85 at H
  refine z_aload_n X dX5_lend_85 0 rfl rfl ?_
  refine gf_X5_13 X dX5_lend_86 ?_
  refine z_iload X dX5_lend_89 2 rfl ?_
  refine z_iload_n X dX5_lend_91 1 rfl rfl ?_
  obtain ⟨q14, H⟩ := H
  refine aw_first X q14 dX5_lend_92 H (fun u15 H => ?_)
  refine z_aload_n X dX5_lend_93 0 rfl rfl ?_
  refine z_dup X dX5_lend_94 rfl ?_
  refine gf_X5_46 X dX5_lend_95 ?_
  refine z_iconst (v := 1) X dX5_lend_98 (by decide) ?_
  refine z_iadd X dX5_lend_99 ?_
  refine pf_X5_46 X dX5_lend_100 H (fun u16 H => ?_)
  refine z_aload_n X dX5_lend_103 0 rfl rfl ?_
  refine z_aload_n X dX5_lend_104 0 rfl rfl ?_
  refine z_iload_n X dX5_lend_105 1 rfl rfl ?_
  refine k_X5_behind hh X ml_X5_75 H ⟨Nat.le_of_ble_eq_true rfl, Nat.le_of_ble_eq_true rfl⟩ (Nat.le_of_ble_eq_true rfl) dX5_lend_106 (fun u18 r17 H => ?_)
  refine z_iconst (v := 1) X dX5_lend_109 (by decide) ?_
  refine k_X5_tell hh X ml_X5_78 H ⟨Nat.le_of_ble_eq_true rfl, Nat.le_of_ble_eq_true rfl⟩ (Nat.le_of_ble_eq_true rfl) dX5_lend_110 (fun u20 H => ?_)
  exact z_vret X dX5_lend_113 H
set_option maxHeartbeats 4000000 in
set_option maxRecDepth 100000 in
theorem c_X5_lend {l : Launch} {κ : zK} {h : zG} (hh : zDM κ h) (N : Nat) (u : MS) (a1 : Int32) (a2 : Int32) (a3 : Int64) (P : MS → Prop) (H : w_X5_lend N u a1 a2 a3 P) : zM l κ (hsM h) (wM κ h) yX5_lend cX5_lend 6 none { frames := 2, cells := 0, slots := 0, locals := 43 } [.ref h.1, .int a1, .int a2, .long a3] u (zv P) := by
  refine z_met (own := RX5) (by decide) rfl (Nat.le_of_ble_eq_true rfl) hh (fun g X => ?_)
  show zJ g κ (hsM h) (wM κ h) (zv P) 6 u [(0, .ref h.1), (1, .int a1), (2, .int a2), (3, .long a3)] 0 []
  unfold w_X5_lend at H
  refine z_iload_n X dX5_lend_0 2 rfl rfl ?_
  refine k_X5_classIn X ml_X5_57 H ⟨Nat.le_of_ble_eq_true rfl, Nat.le_of_ble_eq_true rfl⟩ (Nat.le_of_ble_eq_true rfl) dX5_lend_1 (fun r1 H => ?_)
  refine z_istore (lv' := [(5, .int r1), (0, .ref h.1), (1, .int a1), (2, .int a2), (3, .long a3)]) X dX5_lend_4 (by decide) rfl ?_
  refine z_aload_n X dX5_lend_6 1 rfl rfl ?_
  refine gf_X5_7 X dX5_lend_7 ?_
  refine z_iload_n X dX5_lend_10 2 rfl rfl ?_
  refine z_iconst (v := 1) X dX5_lend_11 (by decide) ?_
  refine z_isub X dX5_lend_12 ?_
  refine z_ldc2 X kl_X5_73 dX5_lend_13 ?_
  refine z_iload_n X dX5_lend_16 3 rfl rfl ?_
  refine z_i2l X dX5_lend_17 ?_
  refine z_lmul X dX5_lend_18 ?_
  refine z_lload_n X dX5_lend_19 4 rfl rfl ?_
  refine z_ladd X dX5_lend_20 ?_
  refine z_lconst (v := 1) X dX5_lend_21 (by decide) ?_
  refine z_ladd X dX5_lend_22 ?_
  obtain ⟨q3, H⟩ := H
  refine aw_pool X q3 dX5_lend_23 H (fun u4 H => ?_)
  refine z_aload_n X dX5_lend_24 1 rfl rfl ?_
  refine gf_X5_7 X dX5_lend_25 ?_
  refine z_iload_n X dX5_lend_28 2 rfl rfl ?_
  refine z_aload_n X dX5_lend_29 1 rfl rfl ?_
  refine gf_X5_13 X dX5_lend_30 ?_
  refine z_iload X dX5_lend_33 0 rfl ?_
  obtain ⟨q5, H⟩ := H
  refine ar_first X q5 dX5_lend_35 ?_
  refine z_i2l X dX5_lend_36 ?_
  obtain ⟨q6, H⟩ := H
  refine aw_pool X q6 dX5_lend_37 H (fun u7 H => ?_)
  refine z_aload_n X dX5_lend_38 1 rfl rfl ?_
  refine gf_X5_7 X dX5_lend_39 ?_
  refine z_iload_n X dX5_lend_42 2 rfl rfl ?_
  refine z_iconst (v := 1) X dX5_lend_43 (by decide) ?_
  refine z_iadd X dX5_lend_44 ?_
  refine z_lconst (v := 0) X dX5_lend_45 (by decide) ?_
  obtain ⟨q8, H⟩ := H
  refine aw_pool X q8 dX5_lend_46 H (fun u9 H => ?_)
  refine z_aload_n X dX5_lend_47 1 rfl rfl ?_
  refine gf_X5_7 X dX5_lend_48 ?_
  refine z_iload_n X dX5_lend_51 2 rfl rfl ?_
  refine z_iload_n X dX5_lend_52 3 rfl rfl ?_
  refine z_iadd X dX5_lend_53 ?_
  refine z_iconst (v := 1) X dX5_lend_54 (by decide) ?_
  refine z_isub X dX5_lend_55 ?_
  refine z_iload_n X dX5_lend_56 3 rfl rfl ?_
  refine z_i2l X dX5_lend_57 ?_
  obtain ⟨q10, H⟩ := H
  refine aw_pool X q10 dX5_lend_58 H (fun u11 H => ?_)
  refine z_aload_n X dX5_lend_59 1 rfl rfl ?_
  refine gf_X5_13 X dX5_lend_60 ?_
  refine z_iload X dX5_lend_63 0 rfl ?_
  obtain ⟨q12, H⟩ := H
  refine ar_first X q12 dX5_lend_65 ?_
  refine z_if_eq (tgt := 85) X dX5_lend_66 (by decide) (fun q13 => ?_) (fun q13 => ?_)
  · have H := H.1 q13
    exact z_sub (j_X5_lend_85 hh N X P u11 a1 r1 H) [1, 2, 0] rfl
  · have H := H.2 q13
    refine z_aload_n X dX5_lend_69 1 rfl rfl ?_
    refine gf_X5_7 X dX5_lend_70 ?_
    refine z_aload_n X dX5_lend_73 1 rfl rfl ?_
    refine gf_X5_13 X dX5_lend_74 ?_
    refine z_iload X dX5_lend_77 0 rfl ?_
    obtain ⟨q21, H⟩ := H
    refine ar_first X q21 dX5_lend_79 ?_
    refine z_iconst (v := 1) X dX5_lend_80 (by decide) ?_
    refine z_iadd X dX5_lend_81 ?_
    refine z_iload_n X dX5_lend_82 2 rfl rfl ?_
    refine z_i2l X dX5_lend_83 ?_
    obtain ⟨q22, H⟩ := H
    refine aw_pool X q22 dX5_lend_84 H (fun u23 H => ?_)
    exact z_sub (j_X5_lend_85 hh N X P u23 a1 r1 H) [1, 2, 0] rfl
theorem k_X5_lend {g : zE} {κ : zK} {h : zG} (hh : zDM κ h) {u : MS} {Φ : MS → Option Value → Prop} {cc : ByteArray} {nL : Nat} {own : String} {ret : Option FieldType} {rm : Room} {lv : List (Nat × Value)} {pc : Nat} {st : List Value} {idx N : Nat} {a1 : Int32} {a2 : Int32} {a3 : Int64} {P : MS → Prop} (X : zC g κ (hsM h) (wM κ h) cc nL own ret rm) (hml : Cond.methodLink own idx yX5_lend ∈ zT) (H : w_X5_lend N u a1 a2 a3 P) (hR : 2 + 1 ≤ rm.frames ∧ 8 + (6 + 11) + 43 ≤ rm.locals) (hroom : (st.map fun v => v.category).sum ≤ 8) (d : decode cc pc = .ok (.invokevirtual idx, 3)) (kk : ∀ u1, P u1 → zJ g κ (hsM h) (wM κ h) Φ nL u1 lv (pc + 3) st) : zJ g κ (hsM h) (wM κ h) Φ nL u lv pc (.long a3 :: .int a2 :: .int a1 :: .ref h.1 :: st) := z_callV (As := [.int a1, .int a2, .long a3]) X yy_X5_lend hml im_X5_lend se_X5_lend (c_X5_lend hh N u a1 a2 a3 P H) 4 0 rfl rfl rfl ⟨rfl, rfl⟩ hR rfl hroom d (fun u1 r hz => by obtain ⟨hr, hP⟩ := hz; subst hr; exact kk u1 hP)
def w_X5_lay_24 (N : Nat) (P : MS → Prop) : Nat → MS → Int32 → Int32 → Prop
  | 0, _, _, _ => False
  | n + 1, u, x1, x2 => ((x2 < (72 : Int32) → (vp_in x2 72 ∧ zlet (sF u.1 (upd u.1.2.2.1 (x2).toNatClampNeg (0 : Int32)), u.2) fun u11 => (w_X5_lay_24 N P n u11 x1 (x2 + (1 : Int32))))) ∧ (¬ x2 < (72 : Int32) → (zlet (sN u.1 x1, u.2) fun u3 => (zlet (sSp u3.1 (0 : Int32), u3.2) fun u4 => (zlet (sRf u4.1 (0 : Int32), u4.2) fun u5 => (zlet (sWa u5.1 (-1 : Int32), u5.2) fun u6 => (w_X5_lend N u6 (1 : Int32) (x1 - (1 : Int32)) (0 : Int64) fun u8 => (zlet (sMv u8.1 (0 : Int32), u8.2) fun u9 => (P u9)))))))))
def w_X5_lay_2 (N : Nat) (P : MS → Prop) : Nat → MS → Int32 → Int32 → Prop
  | 0, _, _, _ => False
  | n + 1, u, x1, x2 => ((x2 < (2048 : Int32) → (vp_in x2 2048 ∧ zlet (sW u.1 (vp_updL u.1.1 (x2).toNatClampNeg (0 : Int64)), u.2) fun u13 => (w_X5_lay_2 N P n u13 x1 (x2 + (1 : Int32))))) ∧ (¬ x2 < (2048 : Int32) → (w_X5_lay_24 N P N u x1 (0 : Int32))))
def w_X5_lay (N : Nat) (u : MS) (a1 : Int32) (P : MS → Prop) : Prop := (w_X5_lay_2 N P N u a1 (0 : Int32))
set_option maxHeartbeats 4000000 in
set_option maxRecDepth 100000 in
theorem j_X5_lay_24 {κ : zK} {h : zG} (hh : zDM κ h) (N : Nat) {g : zE} (X : zC g κ (hsM h) (wM κ h) cX5_lay 3 RX5 none { frames := 3, cells := 0, slots := 0, locals := 68 }) (P : MS → Prop) : ∀ (n : Nat) (u : MS) (x1 : Int32) (x2 : Int32), w_X5_lay_24 N P n u x1 x2 → zJ g κ (hsM h) (wM κ h) (zv P) 3 u [(0, .ref h.1), (1, .int x1), (2, .int x2)] 24 [] := by
  intro n
  induction n with
  | zero => intro u x1 x2 H; exact absurd H (by rw [w_X5_lay_24]; exact id)
  | succ n ih =>
    intro u x1 x2 H
    rw [w_X5_lay_24] at H
    refine z_iload_n X dX5_lay_24 2 rfl rfl ?_
    refine z_bipush (v := 72) X dX5_lay_25 (by decide) ?_
    refine z_icmp_ge (tgt := 43) X dX5_lay_27 (by decide) (fun q2 => ?_) (fun q2 => ?_)
    · have H := H.2 q2
      refine z_aload_n X dX5_lay_43 0 rfl rfl ?_
      refine z_iload_n X dX5_lay_44 1 rfl rfl ?_
      refine pf_X5_32 X dX5_lay_45 H (fun u3 H => ?_)
      refine z_aload_n X dX5_lay_48 0 rfl rfl ?_
      refine z_iconst (v := 0) X dX5_lay_49 (by decide) ?_
      refine pf_X5_35 X ⟨rfl, rfl⟩ dX5_lay_50 H (fun u4 H => ?_)
      refine z_aload_n X dX5_lay_53 0 rfl rfl ?_
      refine z_iconst (v := 0) X dX5_lay_54 (by decide) ?_
      refine pf_X5_39 X dX5_lay_55 H (fun u5 H => ?_)
      refine z_aload_n X dX5_lay_58 0 rfl rfl ?_
      refine z_iconst (v := -1) X dX5_lay_59 (by decide) ?_
      refine pf_X5_17 X dX5_lay_60 H (fun u6 H => ?_)
      refine z_aload_n X dX5_lay_63 0 rfl rfl ?_
      refine z_iconst (v := 1) X dX5_lay_64 (by decide) ?_
      refine z_iload_n X dX5_lay_65 1 rfl rfl ?_
      refine z_iconst (v := 1) X dX5_lay_66 (by decide) ?_
      refine z_isub X dX5_lay_67 ?_
      refine z_lconst (v := 0) X dX5_lay_68 (by decide) ?_
      refine k_X5_lend hh X ml_X5_42 H ⟨Nat.le_of_ble_eq_true rfl, Nat.le_of_ble_eq_true rfl⟩ (Nat.le_of_ble_eq_true rfl) dX5_lay_69 (fun u8 H => ?_)
      refine z_aload_n X dX5_lay_72 0 rfl rfl ?_
      refine z_iconst (v := 0) X dX5_lay_73 (by decide) ?_
      refine pf_X5_46 X dX5_lay_74 H (fun u9 H => ?_)
      exact z_vret X dX5_lay_77 H
    · have H := H.1 q2
      refine z_aload_n X dX5_lay_30 0 rfl rfl ?_
      refine gf_X5_13 X dX5_lay_31 ?_
      refine z_iload_n X dX5_lay_34 2 rfl rfl ?_
      refine z_iconst (v := 0) X dX5_lay_35 (by decide) ?_
      obtain ⟨q10, H⟩ := H
      refine aw_first X q10 dX5_lay_36 H (fun u11 H => ?_)
      refine z_iinc (k := 2) (v := (x2 + (1 : Int32))) (lv' := [(2, .int (x2 + (1 : Int32))), (0, .ref h.1), (1, .int x1)]) X dX5_lay_37 rfl rfl (by decide) rfl ?_
      refine z_goto (tgt := 24) X dX5_lay_40 (by decide) ?_
      exact z_sub (ih u11 x1 (x2 + (1 : Int32)) H) [1, 2, 0] rfl
set_option maxHeartbeats 4000000 in
set_option maxRecDepth 100000 in
theorem j_X5_lay_2 {κ : zK} {h : zG} (hh : zDM κ h) (N : Nat) {g : zE} (X : zC g κ (hsM h) (wM κ h) cX5_lay 3 RX5 none { frames := 3, cells := 0, slots := 0, locals := 68 }) (P : MS → Prop) : ∀ (n : Nat) (u : MS) (x1 : Int32) (x2 : Int32), w_X5_lay_2 N P n u x1 x2 → zJ g κ (hsM h) (wM κ h) (zv P) 3 u [(0, .ref h.1), (1, .int x1), (2, .int x2)] 2 [] := by
  intro n
  induction n with
  | zero => intro u x1 x2 H; exact absurd H (by rw [w_X5_lay_2]; exact id)
  | succ n ih =>
    intro u x1 x2 H
    rw [w_X5_lay_2] at H
    refine z_iload_n X dX5_lay_2 2 rfl rfl ?_
    refine z_sipush (v := 2048) X dX5_lay_3 (by decide) ?_
    refine z_icmp_ge (tgt := 22) X dX5_lay_6 (by decide) (fun q1 => ?_) (fun q1 => ?_)
    · have H := H.2 q1
      refine z_iconst (v := 0) X dX5_lay_22 (by decide) ?_
      refine z_istore_n (lv' := [(2, .int (0 : Int32)), (0, .ref h.1), (1, .int x1)]) X dX5_lay_23 rfl (by decide) rfl ?_
      exact z_sub (j_X5_lay_24 hh N X P N u x1 (0 : Int32) H) [1, 2, 0] rfl
    · have H := H.1 q1
      refine z_aload_n X dX5_lay_9 0 rfl rfl ?_
      refine gf_X5_7 X dX5_lay_10 ?_
      refine z_iload_n X dX5_lay_13 2 rfl rfl ?_
      refine z_lconst (v := 0) X dX5_lay_14 (by decide) ?_
      obtain ⟨q12, H⟩ := H
      refine aw_pool X q12 dX5_lay_15 H (fun u13 H => ?_)
      refine z_iinc (k := 2) (v := (x2 + (1 : Int32))) (lv' := [(2, .int (x2 + (1 : Int32))), (0, .ref h.1), (1, .int x1)]) X dX5_lay_16 rfl rfl (by decide) rfl ?_
      refine z_goto (tgt := 2) X dX5_lay_19 (by decide) ?_
      exact z_sub (ih u13 x1 (x2 + (1 : Int32)) H) [1, 2, 0] rfl
set_option maxHeartbeats 4000000 in
set_option maxRecDepth 100000 in
theorem c_X5_lay {l : Launch} {κ : zK} {h : zG} (hh : zDM κ h) (N : Nat) (u : MS) (a1 : Int32) (P : MS → Prop) (H : w_X5_lay N u a1 P) : zM l κ (hsM h) (wM κ h) yX5_lay cX5_lay 3 none { frames := 3, cells := 0, slots := 0, locals := 68 } [.ref h.1, .int a1] u (zv P) := by
  refine z_met (own := RX5) (by decide) rfl (Nat.le_of_ble_eq_true rfl) hh (fun g X => ?_)
  show zJ g κ (hsM h) (wM κ h) (zv P) 3 u [(0, .ref h.1), (1, .int a1)] 0 []
  unfold w_X5_lay at H
  refine z_iconst (v := 0) X dX5_lay_0 (by decide) ?_
  refine z_istore_n (lv' := [(2, .int (0 : Int32)), (0, .ref h.1), (1, .int a1)]) X dX5_lay_1 rfl (by decide) rfl ?_
  exact z_sub (j_X5_lay_2 hh N X P N u a1 (0 : Int32) H) [1, 2, 0] rfl
theorem k_X5_lay {g : zE} {κ : zK} {h : zG} (hh : zDM κ h) {u : MS} {Φ : MS → Option Value → Prop} {cc : ByteArray} {nL : Nat} {own : String} {ret : Option FieldType} {rm : Room} {lv : List (Nat × Value)} {pc : Nat} {st : List Value} {idx N : Nat} {a1 : Int32} {P : MS → Prop} (X : zC g κ (hsM h) (wM κ h) cc nL own ret rm) (hml : Cond.methodLink own idx yX5_lay ∈ zT) (H : w_X5_lay N u a1 P) (hR : 3 + 1 ≤ rm.frames ∧ 8 + (3 + 11) + 68 ≤ rm.locals) (hroom : (st.map fun v => v.category).sum ≤ 8) (d : decode cc pc = .ok (.invokevirtual idx, 3)) (kk : ∀ u1, P u1 → zJ g κ (hsM h) (wM κ h) Φ nL u1 lv (pc + 3) st) : zJ g κ (hsM h) (wM κ h) Φ nL u lv pc (.int a1 :: .ref h.1 :: st) := z_callV (As := [.int a1]) X yy_X5_lay hml im_X5_lay se_X5_lay (c_X5_lay hh N u a1 P H) 4 0 rfl rfl rfl ⟨rfl, rfl⟩ hR rfl hroom d (fun u1 r hz => by obtain ⟨hr, hP⟩ := hz; subst hr; exact kk u1 hP)
def w_X5_in (N : Nat) (a1 : Int64) (a2 : Int64) (a3 : Int64) (P : Int32 → Prop) : Prop := ((a1 < a2 → (P (0 : Int32))) ∧ (¬ a1 < a2 → ((a3 < a1 → (P (0 : Int32))) ∧ (¬ a3 < a1 → (P (1 : Int32))))))
set_option maxHeartbeats 4000000 in
set_option maxRecDepth 100000 in
theorem c_X5_in {l : Launch} {κ : zK} (N : Nat) (a1 : Int64) (a2 : Int64) (a3 : Int64) (P : Int32 → Prop) (H : w_X5_in N a1 a2 a3 P) : zM l κ [] zw0 yX5_in cX5_in 6 (some .boolean) { frames := 0, cells := 0, slots := 0, locals := 0 } [.long a1, .long a2, .long a3] () (zsi P) := by
  refine z_met (own := RX5) (by decide) rfl (Nat.le_of_ble_eq_true rfl) z_D0 (fun g X => ?_)
  show zJ g κ [] zw0 (zsi P) 6 () [(0, .long a1), (2, .long a2), (4, .long a3)] 0 []
  unfold w_X5_in at H
  refine z_lload_n X dX5_in_0 0 rfl rfl ?_
  refine z_lload_n X dX5_in_1 1 rfl rfl ?_
  refine z_lcmp_lt (tgt := 17) X dX5_in_2 dX5_in_3 (by decide) (fun q1 => ?_) (fun q1 => ?_)
  · have H := H.1 q1
    refine z_iconst (v := 0) X dX5_in_17 (by decide) ?_
    exact z_szret X rfl dX5_in_18 H
  · have H := H.2 q1
    refine z_lload_n X dX5_in_6 0 rfl rfl ?_
    refine z_lload X dX5_in_7 2 rfl ?_
    refine z_lcmp_gt (tgt := 17) X dX5_in_9 dX5_in_10 (by decide) (fun q2 => ?_) (fun q2 => ?_)
    · have H := H.1 q2
      refine z_iconst (v := 0) X dX5_in_17 (by decide) ?_
      exact z_szret X rfl dX5_in_18 H
    · have H := H.2 q2
      refine z_iconst (v := 1) X dX5_in_13 (by decide) ?_
      refine z_goto (tgt := 18) X dX5_in_14 (by decide) ?_
      exact z_szret X rfl dX5_in_18 H
theorem k_X5_in {σ : Type} {g : zE} {hs : List Nat} {ω : σ → va_W} {κ : zK} {u : σ} {Φ : σ → Option Value → Prop} {cc : ByteArray} {nL : Nat} {own : String} {ret : Option FieldType} {rm : Room} {lv : List (Nat × Value)} {pc : Nat} {st : List Value} {idx N : Nat} {a1 : Int64} {a2 : Int64} {a3 : Int64} {P : Int32 → Prop} (X : zC g κ hs ω cc nL own ret rm) (hml : Cond.methodLink own idx yX5_in ∈ zT) (H : w_X5_in N a1 a2 a3 P) (hR : 0 + 1 ≤ rm.frames ∧ 8 + (6 + 11) + 0 ≤ rm.locals) (hroom : (st.map fun v => v.category).sum ≤ 8) (d : decode cc pc = .ok (.invokestatic idx, 3)) (kk : ∀ v, P v → zJ g κ hs ω Φ nL u lv (pc + 3) (.int v :: st)) : zJ g κ hs ω Φ nL u lv pc (.long a3 :: .long a2 :: .long a1 :: st) := z_callS (As := [.long a1, .long a2, .long a3]) X yy_X5_in hml st_X5_in (c_X5_in N a1 a2 a3 P H) rfl ⟨rfl, rfl⟩ hR rfl hroom d kk
def w_X5_open (N : Nat) (u : MS) (a1 : Int32) (P : MS → Int32 → Prop) : Prop := (w_X5_in N (a1).toInt64 (16 : Int64) (2048 : Int64) fun r1 => ((r1 = 0 → (P u (-2 : Int32))) ∧ (¬ r1 = 0 → (w_X5_lay N u a1 fun u5 => (P u5 (1 : Int32))))))
set_option maxHeartbeats 4000000 in
set_option maxRecDepth 100000 in
theorem c_X5_open {l : Launch} {κ : zK} {h : zG} (hh : zDM κ h) (N : Nat) (u : MS) (a1 : Int32) (P : MS → Int32 → Prop) (H : w_X5_open N u a1 P) : zM l κ (hsM h) (wM κ h) yX5_open cX5_open 2 (some .int) { frames := 4, cells := 0, slots := 0, locals := 90 } [.ref h.1, .int a1] u (zi P) := by
  refine z_met (own := RX5) (by decide) rfl (Nat.le_of_ble_eq_true rfl) hh (fun g X => ?_)
  show zJ g κ (hsM h) (wM κ h) (zi P) 2 u [(0, .ref h.1), (1, .int a1)] 0 []
  unfold w_X5_open at H
  refine z_iload_n X dX5_open_0 1 rfl rfl ?_
  refine z_i2l X dX5_open_1 ?_
  refine z_ldc2 X kl_X5_49 dX5_open_2 ?_
  refine z_ldc2 X kl_X5_51 dX5_open_5 ?_
  refine k_X5_in X ml_X5_53 H ⟨Nat.le_of_ble_eq_true rfl, Nat.le_of_ble_eq_true rfl⟩ (Nat.le_of_ble_eq_true rfl) dX5_open_8 (fun r1 H => ?_)
  refine z_if_ne (tgt := 17) X dX5_open_11 (by decide) (fun q3 => ?_) (fun q3 => ?_)
  · have H := H.2 q3
    refine z_aload_n X dX5_open_17 0 rfl rfl ?_
    refine z_iload_n X dX5_open_18 1 rfl rfl ?_
    refine k_X5_lay hh X ml_X5_28 H ⟨Nat.le_of_ble_eq_true rfl, Nat.le_of_ble_eq_true rfl⟩ (Nat.le_of_ble_eq_true rfl) dX5_open_19 (fun u5 H => ?_)
    refine z_iconst (v := 1) X dX5_open_22 (by decide) ?_
    exact z_iret X dX5_open_23 H
  · have H := H.1 q3
    refine z_bipush (v := -2) X dX5_open_14 (by decide) ?_
    exact z_iret X dX5_open_16 H
theorem k_X5_open {g : zE} {κ : zK} {h : zG} (hh : zDM κ h) {u : MS} {Φ : MS → Option Value → Prop} {cc : ByteArray} {nL : Nat} {own : String} {ret : Option FieldType} {rm : Room} {lv : List (Nat × Value)} {pc : Nat} {st : List Value} {idx N : Nat} {a1 : Int32} {P : MS → Int32 → Prop} (X : zC g κ (hsM h) (wM κ h) cc nL own ret rm) (hml : Cond.methodLink own idx yX5_open ∈ zT) (H : w_X5_open N u a1 P) (hR : 4 + 1 ≤ rm.frames ∧ 8 + (2 + 11) + 90 ≤ rm.locals) (hroom : (st.map fun v => v.category).sum ≤ 8) (d : decode cc pc = .ok (.invokevirtual idx, 3)) (kk : ∀ u1 v, P u1 v → zJ g κ (hsM h) (wM κ h) Φ nL u1 lv (pc + 3) (.int v :: st)) : zJ g κ (hsM h) (wM κ h) Φ nL u lv pc (.int a1 :: .ref h.1 :: st) := z_callV (As := [.int a1]) X yy_X5_open hml im_X5_open se_X5_open (c_X5_open hh N u a1 P H) 4 0 rfl rfl rfl ⟨rfl, rfl⟩ hR rfl hroom d (fun u1 r hz => by obtain ⟨v, hr, hP⟩ := hz; subst hr; exact kk u1 v hP)
def w_X5_wishIn_19 (N : Nat) (P : Int32 → Prop) : Nat → Int32 → Int32 → Prop
  | 0, _, _ => False
  | n + 1, x0, x1 => ((0 < (x0 >>> ((x1 + (1 : Int32)) &&& 31)) → (w_X5_wishIn_19 N P n x0 (x1 + (1 : Int32)))) ∧ (¬ 0 < (x0 >>> ((x1 + (1 : Int32)) &&& 31)) → (w_X5_classIn N ((x0 + ((1 : Int32) <<< ((x1 - (3 : Int32)) &&& 31))) - (1 : Int32)) fun r3 => (P r3))))
def w_X5_wishIn (N : Nat) (a1 : Int32) (P : Int32 → Prop) : Prop := ((a1 < (8 : Int32) → ((a1 < (3 : Int32) → (P (3 : Int32))) ∧ (¬ a1 < (3 : Int32) → (P a1)))) ∧ (¬ a1 < (8 : Int32) → (w_X5_wishIn_19 N P N a1 (3 : Int32))))
set_option maxHeartbeats 4000000 in
set_option maxRecDepth 100000 in
theorem j_X5_wishIn_19 {κ : zK} (N : Nat) {g : zE} (X : zC g κ [] zw0 cX5_wishIn 2 RX5 (some .int) { frames := 1, cells := 0, slots := 0, locals := 21 }) (P : Int32 → Prop) : ∀ (n : Nat) (x0 : Int32) (x1 : Int32), w_X5_wishIn_19 N P n x0 x1 → zJ g κ [] zw0 (zsi P) 2 () [(0, .int x0), (1, .int x1)] 19 [] := by
  intro n
  induction n with
  | zero => intro x0 x1 H; exact absurd H (by rw [w_X5_wishIn_19]; exact id)
  | succ n ih =>
    intro x0 x1 H
    rw [w_X5_wishIn_19] at H
    refine z_iload_n X dX5_wishIn_19 0 rfl rfl ?_
    refine z_iload_n X dX5_wishIn_20 1 rfl rfl ?_
    refine z_iconst (v := 1) X dX5_wishIn_21 (by decide) ?_
    refine z_iadd X dX5_wishIn_22 ?_
    refine z_ishr X dX5_wishIn_23 ?_
    refine z_if_le (tgt := 33) X dX5_wishIn_24 (by decide) (fun q2 => ?_) (fun q2 => ?_)
    · have H := H.2 q2
      refine z_iload_n X dX5_wishIn_33 0 rfl rfl ?_
      refine z_iconst (v := 1) X dX5_wishIn_34 (by decide) ?_
      refine z_iload_n X dX5_wishIn_35 1 rfl rfl ?_
      refine z_iconst (v := 3) X dX5_wishIn_36 (by decide) ?_
      refine z_isub X dX5_wishIn_37 ?_
      refine z_ishl X dX5_wishIn_38 ?_
      refine z_iadd X dX5_wishIn_39 ?_
      refine z_iconst (v := 1) X dX5_wishIn_40 (by decide) ?_
      refine z_isub X dX5_wishIn_41 ?_
      refine k_X5_classIn X ml_X5_57 H ⟨Nat.le_of_ble_eq_true rfl, Nat.le_of_ble_eq_true rfl⟩ (Nat.le_of_ble_eq_true rfl) dX5_wishIn_42 (fun r3 H => ?_)
      exact z_siret X dX5_wishIn_45 H
    · have H := H.1 q2
      refine z_iinc (k := 1) (v := (x1 + (1 : Int32))) (lv' := [(1, .int (x1 + (1 : Int32))), (0, .int x0)]) X dX5_wishIn_27 rfl rfl (by decide) rfl ?_
      refine z_goto (tgt := 19) X dX5_wishIn_30 (by decide) ?_
      exact z_sub (ih x0 (x1 + (1 : Int32)) H) [1, 0] rfl
set_option maxHeartbeats 4000000 in
set_option maxRecDepth 100000 in
theorem c_X5_wishIn {l : Launch} {κ : zK} (N : Nat) (a1 : Int32) (P : Int32 → Prop) (H : w_X5_wishIn N a1 P) : zM l κ [] zw0 yX5_wishIn cX5_wishIn 2 (some .int) { frames := 1, cells := 0, slots := 0, locals := 21 } [.int a1] () (zsi P) := by
  refine z_met (own := RX5) (by decide) rfl (Nat.le_of_ble_eq_true rfl) z_D0 (fun g X => ?_)
  show zJ g κ [] zw0 (zsi P) 2 () [(0, .int a1)] 0 []
  unfold w_X5_wishIn at H
  refine z_iload_n X dX5_wishIn_0 0 rfl rfl ?_
  refine z_bipush (v := 8) X dX5_wishIn_1 (by decide) ?_
  refine z_icmp_ge (tgt := 17) X dX5_wishIn_3 (by decide) (fun q1 => ?_) (fun q1 => ?_)
  · have H := H.2 q1
    refine z_iconst (v := 3) X dX5_wishIn_17 (by decide) ?_
    refine z_istore_n (lv' := [(1, .int (3 : Int32)), (0, .int a1)]) X dX5_wishIn_18 rfl (by decide) rfl ?_
    exact z_sub (j_X5_wishIn_19 N X P N a1 (3 : Int32) H) [1, 0] rfl
  · have H := H.1 q1
    refine z_iload_n X dX5_wishIn_6 0 rfl rfl ?_
    refine z_iconst (v := 3) X dX5_wishIn_7 (by decide) ?_
    refine z_icmp_ge (tgt := 15) X dX5_wishIn_8 (by decide) (fun q5 => ?_) (fun q5 => ?_)
    · have H := H.2 q5
      refine z_iload_n X dX5_wishIn_15 0 rfl rfl ?_
      exact z_siret X dX5_wishIn_16 H
    · have H := H.1 q5
      refine z_iconst (v := 3) X dX5_wishIn_11 (by decide) ?_
      refine z_goto (tgt := 16) X dX5_wishIn_12 (by decide) ?_
      exact z_siret X dX5_wishIn_16 H
theorem k_X5_wishIn {σ : Type} {g : zE} {hs : List Nat} {ω : σ → va_W} {κ : zK} {u : σ} {Φ : σ → Option Value → Prop} {cc : ByteArray} {nL : Nat} {own : String} {ret : Option FieldType} {rm : Room} {lv : List (Nat × Value)} {pc : Nat} {st : List Value} {idx N : Nat} {a1 : Int32} {P : Int32 → Prop} (X : zC g κ hs ω cc nL own ret rm) (hml : Cond.methodLink own idx yX5_wishIn ∈ zT) (H : w_X5_wishIn N a1 P) (hR : 1 + 1 ≤ rm.frames ∧ 8 + (2 + 11) + 21 ≤ rm.locals) (hroom : (st.map fun v => v.category).sum ≤ 8) (d : decode cc pc = .ok (.invokestatic idx, 3)) (kk : ∀ v, P v → zJ g κ hs ω Φ nL u lv (pc + 3) (.int v :: st)) : zJ g κ hs ω Φ nL u lv pc (.int a1 :: st) := z_callS (As := [.int a1]) X yy_X5_wishIn hml st_X5_wishIn (c_X5_wishIn N a1 P H) rfl ⟨rfl, rfl⟩ hR rfl hroom d kk
def w_X5_classOf (N : Nat) (u : MS) (a1 : Int32) (a2 : Int32) (P : MS → Int32 → Prop) : Prop := (w_X5_in N (a1).toInt64 (1 : Int64) (4095 : Int64) fun r1 => ((r1 = 0 → (P u (-2 : Int32))) ∧ (¬ r1 = 0 → ((a2 = 0 → (w_X5_classIn N a1 fun r5 => (P u r5))) ∧ (¬ a2 = 0 → (w_X5_wishIn N a1 fun r7 => (P u r7)))))))
set_option maxHeartbeats 4000000 in
set_option maxRecDepth 100000 in
theorem c_X5_classOf {l : Launch} {κ : zK} {h : zG} (hh : zDM κ h) (N : Nat) (u : MS) (a1 : Int32) (a2 : Int32) (P : MS → Int32 → Prop) (H : w_X5_classOf N u a1 a2 P) : zM l κ (hsM h) (wM κ h) yX5_classOf cX5_classOf 3 (some .int) { frames := 2, cells := 0, slots := 0, locals := 42 } [.ref h.1, .int a1, .int a2] u (zi P) := by
  refine z_met (own := RX5) (by decide) rfl (Nat.le_of_ble_eq_true rfl) hh (fun g X => ?_)
  show zJ g κ (hsM h) (wM κ h) (zi P) 3 u [(0, .ref h.1), (1, .int a1), (2, .int a2)] 0 []
  unfold w_X5_classOf at H
  refine z_iload_n X dX5_classOf_0 1 rfl rfl ?_
  refine z_i2l X dX5_classOf_1 ?_
  refine z_lconst (v := 1) X dX5_classOf_2 (by decide) ?_
  refine z_ldc2 X kl_X5_61 dX5_classOf_3 ?_
  refine k_X5_in X ml_X5_53 H ⟨Nat.le_of_ble_eq_true rfl, Nat.le_of_ble_eq_true rfl⟩ (Nat.le_of_ble_eq_true rfl) dX5_classOf_6 (fun r1 H => ?_)
  refine z_if_ne (tgt := 17) X dX5_classOf_9 (by decide) (fun q3 => ?_) (fun q3 => ?_)
  · have H := H.2 q3
    refine z_iload_n X dX5_classOf_17 2 rfl rfl ?_
    refine z_if_eq (tgt := 28) X dX5_classOf_18 (by decide) (fun q4 => ?_) (fun q4 => ?_)
    · have H := H.1 q4
      refine z_iload_n X dX5_classOf_28 1 rfl rfl ?_
      refine k_X5_classIn X ml_X5_57 H ⟨Nat.le_of_ble_eq_true rfl, Nat.le_of_ble_eq_true rfl⟩ (Nat.le_of_ble_eq_true rfl) dX5_classOf_29 (fun r5 H => ?_)
      exact z_iret X dX5_classOf_32 H
    · have H := H.2 q4
      refine z_iload_n X dX5_classOf_21 1 rfl rfl ?_
      refine k_X5_wishIn X ml_X5_63 H ⟨Nat.le_of_ble_eq_true rfl, Nat.le_of_ble_eq_true rfl⟩ (Nat.le_of_ble_eq_true rfl) dX5_classOf_22 (fun r7 H => ?_)
      refine z_goto (tgt := 32) X dX5_classOf_25 (by decide) ?_
      exact z_iret X dX5_classOf_32 H
  · have H := H.1 q3
    refine z_bipush (v := -2) X dX5_classOf_12 (by decide) ?_
    refine z_goto (tgt := 32) X dX5_classOf_14 (by decide) ?_
    exact z_iret X dX5_classOf_32 H
theorem k_X5_classOf {g : zE} {κ : zK} {h : zG} (hh : zDM κ h) {u : MS} {Φ : MS → Option Value → Prop} {cc : ByteArray} {nL : Nat} {own : String} {ret : Option FieldType} {rm : Room} {lv : List (Nat × Value)} {pc : Nat} {st : List Value} {idx N : Nat} {a1 : Int32} {a2 : Int32} {P : MS → Int32 → Prop} (X : zC g κ (hsM h) (wM κ h) cc nL own ret rm) (hml : Cond.methodLink own idx yX5_classOf ∈ zT) (H : w_X5_classOf N u a1 a2 P) (hR : 2 + 1 ≤ rm.frames ∧ 8 + (3 + 11) + 42 ≤ rm.locals) (hroom : (st.map fun v => v.category).sum ≤ 8) (d : decode cc pc = .ok (.invokevirtual idx, 3)) (kk : ∀ u1 v, P u1 v → zJ g κ (hsM h) (wM κ h) Φ nL u1 lv (pc + 3) (.int v :: st)) : zJ g κ (hsM h) (wM κ h) Φ nL u lv pc (.int a2 :: .int a1 :: .ref h.1 :: st) := z_callV (As := [.int a1, .int a2]) X yy_X5_classOf hml im_X5_classOf se_X5_classOf (c_X5_classOf hh N u a1 a2 P H) 4 0 rfl rfl rfl ⟨rfl, rfl⟩ hR rfl hroom d (fun u1 r hz => by obtain ⟨v, hr, hP⟩ := hz; subst hr; exact kk u1 v hP)
def w_X5_lookFor_5 (N : Nat) (P : MS → Int32 → Prop) : Nat → MS → Int32 → Prop
  | 0, _, _ => False
  | n + 1, u, x2 => ((x2 < (72 : Int32) → (vp_in x2 72 ∧ (((u.1.2.2.1 (x2).toNatClampNeg) = 0 → (w_X5_lookFor_5 N P n u (x2 + (1 : Int32)))) ∧ (¬ (u.1.2.2.1 (x2).toNatClampNeg) = 0 → (vp_in x2 72 ∧ (P u (u.1.2.2.1 (x2).toNatClampNeg))))))) ∧ (¬ x2 < (72 : Int32) → (P u (0 : Int32))))
def w_X5_lookFor (N : Nat) (u : MS) (a1 : Int32) (P : MS → Int32 → Prop) : Prop := (w_X5_wishIn N a1 fun r1 => (w_X5_lookFor_5 N P N u r1))
set_option maxHeartbeats 4000000 in
set_option maxRecDepth 100000 in
theorem j_X5_lookFor_5 {κ : zK} {h : zG} (hh : zDM κ h) (N : Nat) {g : zE} (X : zC g κ (hsM h) (wM κ h) cX5_lookFor 3 RX5 (some .int) { frames := 2, cells := 0, slots := 0, locals := 42 }) (P : MS → Int32 → Prop) : ∀ (n : Nat) (u : MS) (x2 : Int32), w_X5_lookFor_5 N P n u x2 → zJ g κ (hsM h) (wM κ h) (zi P) 3 u [(0, .ref h.1), (2, .int x2)] 5 [] := by
  intro n
  induction n with
  | zero => intro u x2 H; exact absurd H (by rw [w_X5_lookFor_5]; exact id)
  | succ n ih =>
    intro u x2 H
    rw [w_X5_lookFor_5] at H
    refine z_iload_n X dX5_lookFor_5 1 rfl rfl ?_
    refine z_bipush (v := 72) X dX5_lookFor_6 (by decide) ?_
    refine z_icmp_ge (tgt := 33) X dX5_lookFor_8 (by decide) (fun q3 => ?_) (fun q3 => ?_)
    · have H := H.2 q3
      refine z_iconst (v := 0) X dX5_lookFor_33 (by decide) ?_
      exact z_iret X dX5_lookFor_34 H
    · have H := H.1 q3
      refine z_aload_n X dX5_lookFor_11 0 rfl rfl ?_
      refine gf_X5_13 X dX5_lookFor_12 ?_
      refine z_iload_n X dX5_lookFor_15 1 rfl rfl ?_
      obtain ⟨q4, H⟩ := H
      refine ar_first X q4 dX5_lookFor_16 ?_
      refine z_if_eq (tgt := 27) X dX5_lookFor_17 (by decide) (fun q5 => ?_) (fun q5 => ?_)
      · have H := H.1 q5
        refine z_iinc (k := 1) (v := (x2 + (1 : Int32))) (lv' := [(2, .int (x2 + (1 : Int32))), (0, .ref h.1)]) X dX5_lookFor_27 rfl rfl (by decide) rfl ?_
        refine z_goto (tgt := 5) X dX5_lookFor_30 (by decide) ?_
        exact z_sub (ih u (x2 + (1 : Int32)) H) [1, 0] rfl
      · have H := H.2 q5
        refine z_aload_n X dX5_lookFor_20 0 rfl rfl ?_
        refine gf_X5_13 X dX5_lookFor_21 ?_
        refine z_iload_n X dX5_lookFor_24 1 rfl rfl ?_
        obtain ⟨q6, H⟩ := H
        refine ar_first X q6 dX5_lookFor_25 ?_
        exact z_iret X dX5_lookFor_26 H
set_option maxHeartbeats 4000000 in
set_option maxRecDepth 100000 in
theorem c_X5_lookFor {l : Launch} {κ : zK} {h : zG} (hh : zDM κ h) (N : Nat) (u : MS) (a1 : Int32) (P : MS → Int32 → Prop) (H : w_X5_lookFor N u a1 P) : zM l κ (hsM h) (wM κ h) yX5_lookFor cX5_lookFor 3 (some .int) { frames := 2, cells := 0, slots := 0, locals := 42 } [.ref h.1, .int a1] u (zi P) := by
  refine z_met (own := RX5) (by decide) rfl (Nat.le_of_ble_eq_true rfl) hh (fun g X => ?_)
  show zJ g κ (hsM h) (wM κ h) (zi P) 3 u [(0, .ref h.1), (1, .int a1)] 0 []
  unfold w_X5_lookFor at H
  refine z_iload_n X dX5_lookFor_0 1 rfl rfl ?_
  refine k_X5_wishIn X ml_X5_63 H ⟨Nat.le_of_ble_eq_true rfl, Nat.le_of_ble_eq_true rfl⟩ (Nat.le_of_ble_eq_true rfl) dX5_lookFor_1 (fun r1 H => ?_)
  refine z_istore_n (lv' := [(2, .int r1), (0, .ref h.1), (1, .int a1)]) X dX5_lookFor_4 rfl (by decide) rfl ?_
  exact z_sub (j_X5_lookFor_5 hh N X P N u r1 H) [1, 0] rfl
theorem k_X5_lookFor {g : zE} {κ : zK} {h : zG} (hh : zDM κ h) {u : MS} {Φ : MS → Option Value → Prop} {cc : ByteArray} {nL : Nat} {own : String} {ret : Option FieldType} {rm : Room} {lv : List (Nat × Value)} {pc : Nat} {st : List Value} {idx N : Nat} {a1 : Int32} {P : MS → Int32 → Prop} (X : zC g κ (hsM h) (wM κ h) cc nL own ret rm) (hml : Cond.methodLink own idx yX5_lookFor ∈ zT) (H : w_X5_lookFor N u a1 P) (hR : 2 + 1 ≤ rm.frames ∧ 8 + (3 + 11) + 42 ≤ rm.locals) (hroom : (st.map fun v => v.category).sum ≤ 8) (d : decode cc pc = .ok (.invokevirtual idx, 3)) (kk : ∀ u1 v, P u1 v → zJ g κ (hsM h) (wM κ h) Φ nL u1 lv (pc + 3) (.int v :: st)) : zJ g κ (hsM h) (wM κ h) Φ nL u lv pc (.int a1 :: .ref h.1 :: st) := z_callV (As := [.int a1]) X yy_X5_lookFor hml im_X5_lookFor se_X5_lookFor (c_X5_lookFor hh N u a1 P H) 4 0 rfl rfl rfl ⟨rfl, rfl⟩ hR rfl hroom d (fun u1 r hz => by obtain ⟨v, hr, hP⟩ := hz; subst hr; exact kk u1 v hP)
def w_X5_leave_61 (N : Nat) (P : MS → Prop) (u : MS) : Prop := (zlet (sMv u.1 ((u.1.2.2.2.1) + (1 : Int32)), u.2) fun u7 => (P u7))
def w_X5_leave_47 (N : Nat) (P : MS → Prop) (u : MS) (x2 : Int32) (x3 : Int32) : Prop := ((x2 = 0 → (w_X5_leave_61 N P u)) ∧ (¬ x2 = 0 → (vp_in (x2 + (1 : Int32)) 2048 ∧ zlet (sW u.1 (vp_updL u.1.1 ((x2 + (1 : Int32))).toNatClampNeg (x3).toInt64), u.2) fun u9 => (w_X5_leave_61 N P u9))))
def w_X5_leave (N : Nat) (u : MS) (a1 : Int32) (P : MS → Prop) : Prop := (vp_in a1 2048 ∧ (vp_in (a1 + (1 : Int32)) 2048 ∧ ((((u.1.1 ((a1 + (1 : Int32))).toNatClampNeg)).toInt32 = 0 → (w_X5_words N u a1 fun u11 r10 => (w_X5_classIn N r10 fun r12 => (vp_in r12 72 ∧ zlet (sF u11.1 (upd u11.1.2.2.1 (r12).toNatClampNeg ((u.1.1 (a1).toNatClampNeg)).toInt32), u11.2) fun u15 => (w_X5_leave_47 N P u15 ((u.1.1 (a1).toNatClampNeg)).toInt32 ((u.1.1 ((a1 + (1 : Int32))).toNatClampNeg)).toInt32))))) ∧ (¬ ((u.1.1 ((a1 + (1 : Int32))).toNatClampNeg)).toInt32 = 0 → (vp_in ((u.1.1 ((a1 + (1 : Int32))).toNatClampNeg)).toInt32 2048 ∧ zlet (sW u.1 (vp_updL u.1.1 (((u.1.1 ((a1 + (1 : Int32))).toNatClampNeg)).toInt32).toNatClampNeg (((u.1.1 (a1).toNatClampNeg)).toInt32).toInt64), u.2) fun u5 => (w_X5_leave_47 N P u5 ((u.1.1 (a1).toNatClampNeg)).toInt32 ((u.1.1 ((a1 + (1 : Int32))).toNatClampNeg)).toInt32))))))
set_option maxHeartbeats 4000000 in
set_option maxRecDepth 100000 in
theorem j_X5_leave_61 {κ : zK} {h : zG} (hh : zDM κ h) (N : Nat) {g : zE} (X : zC g κ (hsM h) (wM κ h) cX5_leave 4 RX5 none { frames := 1, cells := 0, slots := 0, locals := 21 }) (P : MS → Prop) (u : MS) (H : w_X5_leave_61 N P u) : zJ g κ (hsM h) (wM κ h) (zv P) 4 u [(0, .ref h.1)] 61 [] := by
  unfold w_X5_leave_61 at H
  refine z_aload_n X dX5_leave_61 0 rfl rfl ?_
  refine z_dup X dX5_leave_62 rfl ?_
  refine gf_X5_46 X dX5_leave_63 ?_
  refine z_iconst (v := 1) X dX5_leave_66 (by decide) ?_
  refine z_iadd X dX5_leave_67 ?_
  refine pf_X5_46 X dX5_leave_68 H (fun u7 H => ?_)
  exact z_vret X dX5_leave_71 H
set_option maxHeartbeats 4000000 in
set_option maxRecDepth 100000 in
theorem j_X5_leave_47 {κ : zK} {h : zG} (hh : zDM κ h) (N : Nat) {g : zE} (X : zC g κ (hsM h) (wM κ h) cX5_leave 4 RX5 none { frames := 1, cells := 0, slots := 0, locals := 21 }) (P : MS → Prop) (u : MS) (x2 : Int32) (x3 : Int32) (H : w_X5_leave_47 N P u x2 x3) : zJ g κ (hsM h) (wM κ h) (zv P) 4 u [(0, .ref h.1), (2, .int x2), (3, .int x3)] 47 [] := by
  unfold w_X5_leave_47 at H
  refine z_iload_n X dX5_leave_47 1 rfl rfl ?_
  refine z_if_eq (tgt := 61) X dX5_leave_48 (by decide) (fun q6 => ?_) (fun q6 => ?_)
  · have H := H.1 q6
    exact z_sub (j_X5_leave_61 hh N X P u H) [0] rfl
  · have H := H.2 q6
    refine z_aload_n X dX5_leave_51 0 rfl rfl ?_
    refine gf_X5_7 X dX5_leave_52 ?_
    refine z_iload_n X dX5_leave_55 1 rfl rfl ?_
    refine z_iconst (v := 1) X dX5_leave_56 (by decide) ?_
    refine z_iadd X dX5_leave_57 ?_
    refine z_iload_n X dX5_leave_58 2 rfl rfl ?_
    refine z_i2l X dX5_leave_59 ?_
    obtain ⟨q8, H⟩ := H
    refine aw_pool X q8 dX5_leave_60 H (fun u9 H => ?_)
    exact z_sub (j_X5_leave_61 hh N X P u9 H) [0] rfl
set_option maxHeartbeats 4000000 in
set_option maxRecDepth 100000 in
theorem c_X5_leave {l : Launch} {κ : zK} {h : zG} (hh : zDM κ h) (N : Nat) (u : MS) (a1 : Int32) (P : MS → Prop) (H : w_X5_leave N u a1 P) : zM l κ (hsM h) (wM κ h) yX5_leave cX5_leave 4 none { frames := 1, cells := 0, slots := 0, locals := 21 } [.ref h.1, .int a1] u (zv P) := by
  refine z_met (own := RX5) (by decide) rfl (Nat.le_of_ble_eq_true rfl) hh (fun g X => ?_)
  show zJ g κ (hsM h) (wM κ h) (zv P) 4 u [(0, .ref h.1), (1, .int a1)] 0 []
  unfold w_X5_leave at H
  refine z_aload_n X dX5_leave_0 0 rfl rfl ?_
  refine gf_X5_7 X dX5_leave_1 ?_
  refine z_iload_n X dX5_leave_4 1 rfl rfl ?_
  obtain ⟨q1, H⟩ := H
  refine ar_pool X q1 dX5_leave_5 ?_
  refine z_l2i X dX5_leave_6 ?_
  refine z_istore_n (lv' := [(2, .int ((u.1.1 (a1).toNatClampNeg)).toInt32), (0, .ref h.1), (1, .int a1)]) X dX5_leave_7 rfl (by decide) rfl ?_
  refine z_aload_n X dX5_leave_8 1 rfl rfl ?_
  refine gf_X5_7 X dX5_leave_9 ?_
  refine z_iload_n X dX5_leave_12 2 rfl rfl ?_
  refine z_iconst (v := 1) X dX5_leave_13 (by decide) ?_
  refine z_iadd X dX5_leave_14 ?_
  obtain ⟨q2, H⟩ := H
  refine ar_pool X q2 dX5_leave_15 ?_
  refine z_l2i X dX5_leave_16 ?_
  refine z_istore_n (lv' := [(3, .int ((u.1.1 ((a1 + (1 : Int32))).toNatClampNeg)).toInt32), (2, .int ((u.1.1 (a1).toNatClampNeg)).toInt32), (0, .ref h.1), (1, .int a1)]) X dX5_leave_17 rfl (by decide) rfl ?_
  refine z_iload_n X dX5_leave_18 0 rfl rfl ?_
  refine z_if_ne (tgt := 39) X dX5_leave_19 (by decide) (fun q3 => ?_) (fun q3 => ?_)
  · have H := H.2 q3
    refine z_aload_n X dX5_leave_39 2 rfl rfl ?_
    refine gf_X5_7 X dX5_leave_40 ?_
    refine z_iload_n X dX5_leave_43 0 rfl rfl ?_
    refine z_iload_n X dX5_leave_44 1 rfl rfl ?_
    refine z_i2l X dX5_leave_45 ?_
    obtain ⟨q4, H⟩ := H
    refine aw_pool X q4 dX5_leave_46 H (fun u5 H => ?_)
    exact z_sub (j_X5_leave_47 hh N X P u5 ((u.1.1 (a1).toNatClampNeg)).toInt32 ((u.1.1 ((a1 + (1 : Int32))).toNatClampNeg)).toInt32 H) [2, 1, 0] rfl
  · have H := H.1 q3
    refine z_aload_n X dX5_leave_22 2 rfl rfl ?_
    refine gf_X5_13 X dX5_leave_23 ?_
    refine z_aload_n X dX5_leave_26 2 rfl rfl ?_
    refine z_iload_n X dX5_leave_27 3 rfl rfl ?_
    refine k_X5_words hh X ml_X5_66 H ⟨Nat.le_of_ble_eq_true rfl, Nat.le_of_ble_eq_true rfl⟩ (Nat.le_of_ble_eq_true rfl) dX5_leave_28 (fun u11 r10 H => ?_)
    refine k_X5_classIn X ml_X5_57 H ⟨Nat.le_of_ble_eq_true rfl, Nat.le_of_ble_eq_true rfl⟩ (Nat.le_of_ble_eq_true rfl) dX5_leave_31 (fun r12 H => ?_)
    refine z_iload_n X dX5_leave_34 1 rfl rfl ?_
    obtain ⟨q14, H⟩ := H
    refine aw_first X q14 dX5_leave_35 H (fun u15 H => ?_)
    refine z_goto (tgt := 47) X dX5_leave_36 (by decide) ?_
    exact z_sub (j_X5_leave_47 hh N X P u15 ((u.1.1 (a1).toNatClampNeg)).toInt32 ((u.1.1 ((a1 + (1 : Int32))).toNatClampNeg)).toInt32 H) [2, 1, 0] rfl
theorem k_X5_leave {g : zE} {κ : zK} {h : zG} (hh : zDM κ h) {u : MS} {Φ : MS → Option Value → Prop} {cc : ByteArray} {nL : Nat} {own : String} {ret : Option FieldType} {rm : Room} {lv : List (Nat × Value)} {pc : Nat} {st : List Value} {idx N : Nat} {a1 : Int32} {P : MS → Prop} (X : zC g κ (hsM h) (wM κ h) cc nL own ret rm) (hml : Cond.methodLink own idx yX5_leave ∈ zT) (H : w_X5_leave N u a1 P) (hR : 1 + 1 ≤ rm.frames ∧ 8 + (4 + 11) + 21 ≤ rm.locals) (hroom : (st.map fun v => v.category).sum ≤ 8) (d : decode cc pc = .ok (.invokevirtual idx, 3)) (kk : ∀ u1, P u1 → zJ g κ (hsM h) (wM κ h) Φ nL u1 lv (pc + 3) st) : zJ g κ (hsM h) (wM κ h) Φ nL u lv pc (.int a1 :: .ref h.1 :: st) := z_callV (As := [.int a1]) X yy_X5_leave hml im_X5_leave se_X5_leave (c_X5_leave hh N u a1 P H) 4 0 rfl rfl rfl ⟨rfl, rfl⟩ hR rfl hroom d (fun u1 r hz => by obtain ⟨hr, hP⟩ := hz; subst hr; exact kk u1 hP)
def w_X5_least (N : Nat) (a1 : Int32) (P : Int32 → Prop) : Prop := ((a1 < (3 : Int32) → (P (3 : Int32))) ∧ (¬ a1 < (3 : Int32) → (P a1)))
set_option maxHeartbeats 4000000 in
set_option maxRecDepth 100000 in
theorem c_X5_least {l : Launch} {κ : zK} (N : Nat) (a1 : Int32) (P : Int32 → Prop) (H : w_X5_least N a1 P) : zM l κ [] zw0 yX5_least cX5_least 1 (some .int) { frames := 0, cells := 0, slots := 0, locals := 0 } [.int a1] () (zsi P) := by
  refine z_met (own := RX5) (by decide) rfl (Nat.le_of_ble_eq_true rfl) z_D0 (fun g X => ?_)
  show zJ g κ [] zw0 (zsi P) 1 () [(0, .int a1)] 0 []
  unfold w_X5_least at H
  refine z_iload_n X dX5_least_0 0 rfl rfl ?_
  refine z_iconst (v := 3) X dX5_least_1 (by decide) ?_
  refine z_icmp_ge (tgt := 9) X dX5_least_2 (by decide) (fun q1 => ?_) (fun q1 => ?_)
  · have H := H.2 q1
    refine z_iload_n X dX5_least_9 0 rfl rfl ?_
    exact z_siret X dX5_least_10 H
  · have H := H.1 q1
    refine z_iconst (v := 3) X dX5_least_5 (by decide) ?_
    refine z_goto (tgt := 10) X dX5_least_6 (by decide) ?_
    exact z_siret X dX5_least_10 H
theorem k_X5_least {σ : Type} {g : zE} {hs : List Nat} {ω : σ → va_W} {κ : zK} {u : σ} {Φ : σ → Option Value → Prop} {cc : ByteArray} {nL : Nat} {own : String} {ret : Option FieldType} {rm : Room} {lv : List (Nat × Value)} {pc : Nat} {st : List Value} {idx N : Nat} {a1 : Int32} {P : Int32 → Prop} (X : zC g κ hs ω cc nL own ret rm) (hml : Cond.methodLink own idx yX5_least ∈ zT) (H : w_X5_least N a1 P) (hR : 0 + 1 ≤ rm.frames ∧ 8 + (1 + 11) + 0 ≤ rm.locals) (hroom : (st.map fun v => v.category).sum ≤ 8) (d : decode cc pc = .ok (.invokestatic idx, 3)) (kk : ∀ v, P v → zJ g κ hs ω Φ nL u lv (pc + 3) (.int v :: st)) : zJ g κ hs ω Φ nL u lv pc (.int a1 :: st) := z_callS (As := [.int a1]) X yy_X5_least hml st_X5_least (c_X5_least N a1 P H) rfl ⟨rfl, rfl⟩ hR rfl hroom d kk
def w_X5_take (N : Nat) (u : MS) (a1 : Int32) (a2 : Int32) (a3 : Int32) (a4 : Int64) (P : MS → Prop) : Prop := ((a2 < (a3 + (4 : Int32)) → (vp_in (a1 - (1 : Int32)) 2048 ∧ zlet (sW u.1 (vp_updL u.1.1 ((a1 - (1 : Int32))).toNatClampNeg (((4 : Int64) * (a2).toInt64) + a4)), u.2) fun u7 => (w_X5_behind N u7 a1 fun u9 r8 => (w_X5_tell N u9 r8 (0 : Int32) fun u11 => (P u11))))) ∧ (¬ a2 < (a3 + (4 : Int32)) → (vp_in (a1 - (1 : Int32)) 2048 ∧ zlet (sW u.1 (vp_updL u.1.1 ((a1 - (1 : Int32))).toNatClampNeg (((4 : Int64) * (a3).toInt64) + a4)), u.2) fun u3 => (w_X5_lend N u3 ((a1 + a3) + (1 : Int32)) ((a2 - a3) - (1 : Int32)) (0 : Int64) fun u5 => (P u5)))))
set_option maxHeartbeats 4000000 in
set_option maxRecDepth 100000 in
theorem c_X5_take {l : Launch} {κ : zK} {h : zG} (hh : zDM κ h) (N : Nat) (u : MS) (a1 : Int32) (a2 : Int32) (a3 : Int32) (a4 : Int64) (P : MS → Prop) (H : w_X5_take N u a1 a2 a3 a4 P) : zM l κ (hsM h) (wM κ h) yX5_take cX5_take 6 none { frames := 3, cells := 0, slots := 0, locals := 68 } [.ref h.1, .int a1, .int a2, .int a3, .long a4] u (zv P) := by
  refine z_met (own := RX5) (by decide) rfl (Nat.le_of_ble_eq_true rfl) hh (fun g X => ?_)
  show zJ g κ (hsM h) (wM κ h) (zv P) 6 u [(0, .ref h.1), (1, .int a1), (2, .int a2), (3, .int a3), (4, .long a4)] 0 []
  unfold w_X5_take at H
  refine z_iload_n X dX5_take_0 2 rfl rfl ?_
  refine z_iload_n X dX5_take_1 3 rfl rfl ?_
  refine z_iconst (v := 4) X dX5_take_2 (by decide) ?_
  refine z_iadd X dX5_take_3 ?_
  refine z_icmp_ge (tgt := 35) X dX5_take_4 (by decide) (fun q1 => ?_) (fun q1 => ?_)
  · have H := H.2 q1
    refine z_aload_n X dX5_take_35 0 rfl rfl ?_
    refine gf_X5_7 X dX5_take_36 ?_
    refine z_iload_n X dX5_take_39 1 rfl rfl ?_
    refine z_iconst (v := 1) X dX5_take_40 (by decide) ?_
    refine z_isub X dX5_take_41 ?_
    refine z_ldc2 X kl_X5_73 dX5_take_42 ?_
    refine z_iload_n X dX5_take_45 3 rfl rfl ?_
    refine z_i2l X dX5_take_46 ?_
    refine z_lmul X dX5_take_47 ?_
    refine z_lload X dX5_take_48 4 rfl ?_
    refine z_ladd X dX5_take_50 ?_
    obtain ⟨q2, H⟩ := H
    refine aw_pool X q2 dX5_take_51 H (fun u3 H => ?_)
    refine z_aload_n X dX5_take_52 0 rfl rfl ?_
    refine z_iload_n X dX5_take_53 1 rfl rfl ?_
    refine z_iload_n X dX5_take_54 3 rfl rfl ?_
    refine z_iadd X dX5_take_55 ?_
    refine z_iconst (v := 1) X dX5_take_56 (by decide) ?_
    refine z_iadd X dX5_take_57 ?_
    refine z_iload_n X dX5_take_58 2 rfl rfl ?_
    refine z_iload_n X dX5_take_59 3 rfl rfl ?_
    refine z_isub X dX5_take_60 ?_
    refine z_iconst (v := 1) X dX5_take_61 (by decide) ?_
    refine z_isub X dX5_take_62 ?_
    refine z_lconst (v := 0) X dX5_take_63 (by decide) ?_
    refine k_X5_lend hh X ml_X5_42 H ⟨Nat.le_of_ble_eq_true rfl, Nat.le_of_ble_eq_true rfl⟩ (Nat.le_of_ble_eq_true rfl) dX5_take_64 (fun u5 H => ?_)
    exact z_vret X dX5_take_67 H
  · have H := H.1 q1
    refine z_aload_n X dX5_take_7 0 rfl rfl ?_
    refine gf_X5_7 X dX5_take_8 ?_
    refine z_iload_n X dX5_take_11 1 rfl rfl ?_
    refine z_iconst (v := 1) X dX5_take_12 (by decide) ?_
    refine z_isub X dX5_take_13 ?_
    refine z_ldc2 X kl_X5_73 dX5_take_14 ?_
    refine z_iload_n X dX5_take_17 2 rfl rfl ?_
    refine z_i2l X dX5_take_18 ?_
    refine z_lmul X dX5_take_19 ?_
    refine z_lload X dX5_take_20 4 rfl ?_
    refine z_ladd X dX5_take_22 ?_
    obtain ⟨q6, H⟩ := H
    refine aw_pool X q6 dX5_take_23 H (fun u7 H => ?_)
    refine z_aload_n X dX5_take_24 0 rfl rfl ?_
    refine z_aload_n X dX5_take_25 0 rfl rfl ?_
    refine z_iload_n X dX5_take_26 1 rfl rfl ?_
    refine k_X5_behind hh X ml_X5_75 H ⟨Nat.le_of_ble_eq_true rfl, Nat.le_of_ble_eq_true rfl⟩ (Nat.le_of_ble_eq_true rfl) dX5_take_27 (fun u9 r8 H => ?_)
    refine z_iconst (v := 0) X dX5_take_30 (by decide) ?_
    refine k_X5_tell hh X ml_X5_78 H ⟨Nat.le_of_ble_eq_true rfl, Nat.le_of_ble_eq_true rfl⟩ (Nat.le_of_ble_eq_true rfl) dX5_take_31 (fun u11 H => ?_)
    exact z_vret X dX5_take_34 H
theorem k_X5_take {g : zE} {κ : zK} {h : zG} (hh : zDM κ h) {u : MS} {Φ : MS → Option Value → Prop} {cc : ByteArray} {nL : Nat} {own : String} {ret : Option FieldType} {rm : Room} {lv : List (Nat × Value)} {pc : Nat} {st : List Value} {idx N : Nat} {a1 : Int32} {a2 : Int32} {a3 : Int32} {a4 : Int64} {P : MS → Prop} (X : zC g κ (hsM h) (wM κ h) cc nL own ret rm) (hml : Cond.methodLink own idx yX5_take ∈ zT) (H : w_X5_take N u a1 a2 a3 a4 P) (hR : 3 + 1 ≤ rm.frames ∧ 8 + (6 + 11) + 68 ≤ rm.locals) (hroom : (st.map fun v => v.category).sum ≤ 8) (d : decode cc pc = .ok (.invokevirtual idx, 3)) (kk : ∀ u1, P u1 → zJ g κ (hsM h) (wM κ h) Φ nL u1 lv (pc + 3) st) : zJ g κ (hsM h) (wM κ h) Φ nL u lv pc (.long a4 :: .int a3 :: .int a2 :: .int a1 :: .ref h.1 :: st) := z_callV (As := [.int a1, .int a2, .int a3, .long a4]) X yy_X5_take hml im_X5_take se_X5_take (c_X5_take hh N u a1 a2 a3 a4 P H) 4 0 rfl rfl rfl ⟨rfl, rfl⟩ hR rfl hroom d (fun u1 r hz => by obtain ⟨hr, hP⟩ := hz; subst hr; exact kk u1 hP)
def w_X5_alloc (N : Nat) (u : MS) (a1 : Int32) (P : MS → Int32 → Prop) : Prop := (w_X5_in N (a1).toInt64 (1 : Int64) (2048 : Int64) fun r1 => ((r1 = 0 → (P u (-2 : Int32))) ∧ (¬ r1 = 0 → (((u.1.2.2.2.2.2.1) = 0 → (w_X5_lookFor N u a1 fun u6 r5 => ((r5 = 0 → (zlet (sRf u6.1 ((u6.1.2.2.2.2.1) + (1 : Int32)), u6.2) fun u17 => (P u17 (-1 : Int32)))) ∧ (¬ r5 = 0 → (zlet (sMv u6.1 (0 : Int32), u6.2) fun u8 => (w_X5_leave N u8 r5 fun u10 => (w_X5_words N u10 r5 fun u12 r11 => (w_X5_least N a1 fun r13 => (w_X5_take N u12 r5 r11 r13 (0 : Int64) fun u16 => (P u16 r5)))))))))) ∧ (¬ (u.1.2.2.2.2.2.1) = 0 → (P u (-3 : Int32)))))))
set_option maxHeartbeats 4000000 in
set_option maxRecDepth 100000 in
theorem c_X5_alloc {l : Launch} {κ : zK} {h : zG} (hh : zDM κ h) (N : Nat) (u : MS) (a1 : Int32) (P : MS → Int32 → Prop) (H : w_X5_alloc N u a1 P) : zM l κ (hsM h) (wM κ h) yX5_alloc cX5_alloc 3 (some .int) { frames := 4, cells := 0, slots := 0, locals := 93 } [.ref h.1, .int a1] u (zi P) := by
  refine z_met (own := RX5) (by decide) rfl (Nat.le_of_ble_eq_true rfl) hh (fun g X => ?_)
  show zJ g κ (hsM h) (wM κ h) (zi P) 3 u [(0, .ref h.1), (1, .int a1)] 0 []
  unfold w_X5_alloc at H
  refine z_iload_n X dX5_alloc_0 1 rfl rfl ?_
  refine z_i2l X dX5_alloc_1 ?_
  refine z_lconst (v := 1) X dX5_alloc_2 (by decide) ?_
  refine z_ldc2 X kl_X5_51 dX5_alloc_3 ?_
  refine k_X5_in X ml_X5_53 H ⟨Nat.le_of_ble_eq_true rfl, Nat.le_of_ble_eq_true rfl⟩ (Nat.le_of_ble_eq_true rfl) dX5_alloc_6 (fun r1 H => ?_)
  refine z_if_ne (tgt := 15) X dX5_alloc_9 (by decide) (fun q3 => ?_) (fun q3 => ?_)
  · have H := H.2 q3
    refine z_aload_n X dX5_alloc_15 0 rfl rfl ?_
    refine gf_X5_35 X dX5_alloc_16 ?_
    refine z_if_eq (tgt := 25) X dX5_alloc_19 (by decide) (fun q4 => ?_) (fun q4 => ?_)
    · have H := H.1 q4
      refine z_aload_n X dX5_alloc_25 0 rfl rfl ?_
      refine z_iload_n X dX5_alloc_26 1 rfl rfl ?_
      refine k_X5_lookFor hh X ml_X5_86 H ⟨Nat.le_of_ble_eq_true rfl, Nat.le_of_ble_eq_true rfl⟩ (Nat.le_of_ble_eq_true rfl) dX5_alloc_27 (fun u6 r5 H => ?_)
      refine z_istore_n (lv' := [(2, .int r5), (0, .ref h.1), (1, .int a1)]) X dX5_alloc_30 rfl (by decide) rfl ?_
      refine z_iload_n X dX5_alloc_31 0 rfl rfl ?_
      refine z_if_ne (tgt := 47) X dX5_alloc_32 (by decide) (fun q7 => ?_) (fun q7 => ?_)
      · have H := H.2 q7
        refine z_aload_n X dX5_alloc_47 1 rfl rfl ?_
        refine z_iconst (v := 0) X dX5_alloc_48 (by decide) ?_
        refine pf_X5_46 X dX5_alloc_49 H (fun u8 H => ?_)
        refine z_aload_n X dX5_alloc_52 1 rfl rfl ?_
        refine z_iload_n X dX5_alloc_53 0 rfl rfl ?_
        refine k_X5_leave hh X ml_X5_89 H ⟨Nat.le_of_ble_eq_true rfl, Nat.le_of_ble_eq_true rfl⟩ (Nat.le_of_ble_eq_true rfl) dX5_alloc_54 (fun u10 H => ?_)
        refine z_aload_n X dX5_alloc_57 1 rfl rfl ?_
        refine z_iload_n X dX5_alloc_58 0 rfl rfl ?_
        refine z_aload_n X dX5_alloc_59 1 rfl rfl ?_
        refine z_iload_n X dX5_alloc_60 0 rfl rfl ?_
        refine k_X5_words hh X ml_X5_66 H ⟨Nat.le_of_ble_eq_true rfl, Nat.le_of_ble_eq_true rfl⟩ (Nat.le_of_ble_eq_true rfl) dX5_alloc_61 (fun u12 r11 H => ?_)
        refine z_iload_n X dX5_alloc_64 2 rfl rfl ?_
        refine k_X5_least X ml_X5_92 H ⟨Nat.le_of_ble_eq_true rfl, Nat.le_of_ble_eq_true rfl⟩ (Nat.le_of_ble_eq_true rfl) dX5_alloc_65 (fun r13 H => ?_)
        refine z_lconst (v := 0) X dX5_alloc_68 (by decide) ?_
        refine k_X5_take hh X ml_X5_95 H ⟨Nat.le_of_ble_eq_true rfl, Nat.le_of_ble_eq_true rfl⟩ (Nat.le_of_ble_eq_true rfl) dX5_alloc_69 (fun u16 H => ?_)
        refine z_iload_n X dX5_alloc_72 0 rfl rfl ?_
        exact z_iret X dX5_alloc_73 H
      · have H := H.1 q7
        refine z_aload_n X dX5_alloc_35 1 rfl rfl ?_
        refine z_dup X dX5_alloc_36 rfl ?_
        refine gf_X5_39 X dX5_alloc_37 ?_
        refine z_iconst (v := 1) X dX5_alloc_40 (by decide) ?_
        refine z_iadd X dX5_alloc_41 ?_
        refine pf_X5_39 X dX5_alloc_42 H (fun u17 H => ?_)
        refine z_iconst (v := -1) X dX5_alloc_45 (by decide) ?_
        exact z_iret X dX5_alloc_46 H
    · have H := H.2 q4
      refine z_bipush (v := -3) X dX5_alloc_22 (by decide) ?_
      exact z_iret X dX5_alloc_24 H
  · have H := H.1 q3
    refine z_bipush (v := -2) X dX5_alloc_12 (by decide) ?_
    exact z_iret X dX5_alloc_14 H
theorem k_X5_alloc {g : zE} {κ : zK} {h : zG} (hh : zDM κ h) {u : MS} {Φ : MS → Option Value → Prop} {cc : ByteArray} {nL : Nat} {own : String} {ret : Option FieldType} {rm : Room} {lv : List (Nat × Value)} {pc : Nat} {st : List Value} {idx N : Nat} {a1 : Int32} {P : MS → Int32 → Prop} (X : zC g κ (hsM h) (wM κ h) cc nL own ret rm) (hml : Cond.methodLink own idx yX5_alloc ∈ zT) (H : w_X5_alloc N u a1 P) (hR : 4 + 1 ≤ rm.frames ∧ 8 + (3 + 11) + 93 ≤ rm.locals) (hroom : (st.map fun v => v.category).sum ≤ 8) (d : decode cc pc = .ok (.invokevirtual idx, 3)) (kk : ∀ u1 v, P u1 v → zJ g κ (hsM h) (wM κ h) Φ nL u1 lv (pc + 3) (.int v :: st)) : zJ g κ (hsM h) (wM κ h) Φ nL u lv pc (.int a1 :: .ref h.1 :: st) := z_callV (As := [.int a1]) X yy_X5_alloc hml im_X5_alloc se_X5_alloc (c_X5_alloc hh N u a1 P H) 4 0 rfl rfl rfl ⟨rfl, rfl⟩ hR rfl hroom d (fun u1 r hz => by obtain ⟨v, hr, hP⟩ := hz; subst hr; exact kk u1 v hP)
def w_X5_aligned_187 (N : Nat) (P : MS → Int32 → Prop) (u : MS) (x1 : Int32) (x4 : Int32) (x5 : Int32) (x6 : Int32) : Prop := (w_X5_least N x1 fun r20 => ((x6 = x4 → (w_X5_take N u x6 (x5 - (x6 - x4)) r20 (0 : Int64) fun u26 => (P u26 x6))) ∧ (¬ x6 = x4 → (w_X5_take N u x6 (x5 - (x6 - x4)) r20 (2 : Int64) fun u24 => (P u24 x6)))))
def w_X5_aligned_144 (N : Nat) (P : MS → Int32 → Prop) (u : MS) (x1 : Int32) (x4 : Int32) (x5 : Int32) (x6 : Int32) : Prop := ((x6 = x4 → (w_X5_aligned_187 N P u x1 x4 x5 x6)) ∧ (¬ x6 = x4 → (vp_in (x6 - (1 : Int32)) 2048 ∧ zlet (sW u.1 (vp_updL u.1.1 ((x6 - (1 : Int32))).toNatClampNeg ((4 : Int64) * ((x5 - (x6 - x4))).toInt64)), u.2) fun u28 => (w_X5_lend N u28 x4 ((x6 - x4) - (1 : Int32)) (0 : Int64) fun u30 => (w_X5_aligned_187 N P u30 x1 x4 x5 x6)))))
def w_X5_aligned_39 (N : Nat) (P : MS → Int32 → Prop) (u : MS) (x1 : Int32) (x2 : Int32) (y0 : Int32) : Prop := (w_X5_in N (x1).toInt64 (1 : Int64) (2048 : Int64) fun r2 => ((r2 = 0 → (P u (-2 : Int32))) ∧ (¬ r2 = 0 → ((y0 = 0 → (P u (-2 : Int32))) ∧ (¬ y0 = 0 → (((u.1.2.2.2.2.2.1) = 0 → (w_X5_least N x1 fun r7 => (w_X5_lookFor N u ((r7 + x2) + (3 : Int32)) fun u10 r9 => ((r9 = 0 → (zlet (sRf u10.1 ((u10.1.2.2.2.2.1) + (1 : Int32)), u10.2) fun u32 => (P u32 (-1 : Int32)))) ∧ (¬ r9 = 0 → (zlet (sMv u10.1 (0 : Int32), u10.2) fun u12 => (w_X5_leave N u12 r9 fun u14 => (w_X5_words N u14 r9 fun u16 r15 => (¬ x2 = 0 ∧ (((r9 - r9 / x2 * x2) = 0 → (w_X5_aligned_144 N P u16 x1 r9 r15 r9)) ∧ (¬ (r9 - r9 / x2 * x2) = 0 → (¬ x2 = 0 ∧ (w_X5_aligned_144 N P u16 x1 r9 r15 (((((r9 + (4 : Int32)) + x2) - (1 : Int32)) / x2) * x2)))))))))))))) ∧ (¬ (u.1.2.2.2.2.2.1) = 0 → (P u (-3 : Int32)))))))))
def w_X5_aligned_34 (N : Nat) (P : MS → Int32 → Prop) (u : MS) (x1 : Int32) (x2 : Int32) : Prop := (w_X5_aligned_39 N P u x1 x2 (1 : Int32))
def w_X5_aligned (N : Nat) (u : MS) (a1 : Int32) (a2 : Int32) (P : MS → Int32 → Prop) : Prop := ((a2 = (2 : Int32) → (w_X5_aligned_34 N P u a1 a2)) ∧ (¬ a2 = (2 : Int32) → ((a2 = (4 : Int32) → (w_X5_aligned_34 N P u a1 a2)) ∧ (¬ a2 = (4 : Int32) → ((a2 = (8 : Int32) → (w_X5_aligned_34 N P u a1 a2)) ∧ (¬ a2 = (8 : Int32) → ((a2 = (16 : Int32) → (w_X5_aligned_34 N P u a1 a2)) ∧ (¬ a2 = (16 : Int32) → ((a2 = (32 : Int32) → (w_X5_aligned_34 N P u a1 a2)) ∧ (¬ a2 = (32 : Int32) → ((a2 = (64 : Int32) → (w_X5_aligned_34 N P u a1 a2)) ∧ (¬ a2 = (64 : Int32) → (w_X5_aligned_39 N P u a1 a2 (0 : Int32))))))))))))))
set_option maxHeartbeats 4000000 in
set_option maxRecDepth 100000 in
theorem j_X5_aligned_187 {κ : zK} {h : zG} (hh : zDM κ h) (N : Nat) {g : zE} (X : zC g κ (hsM h) (wM κ h) cX5_aligned 7 RX5 (some .int) { frames := 4, cells := 0, slots := 0, locals := 93 }) (P : MS → Int32 → Prop) (u : MS) (x1 : Int32) (x4 : Int32) (x5 : Int32) (x6 : Int32) (H : w_X5_aligned_187 N P u x1 x4 x5 x6) : zJ g κ (hsM h) (wM κ h) (zi P) 7 u [(0, .ref h.1), (1, .int x1), (4, .int x4), (5, .int x5), (6, .int x6)] 187 [] := by
  unfold w_X5_aligned_187 at H
  refine z_aload_n X dX5_aligned_187 0 rfl rfl ?_
  refine z_iload X dX5_aligned_188 4 rfl ?_
  refine z_iload X dX5_aligned_190 3 rfl ?_
  refine z_iload X dX5_aligned_192 4 rfl ?_
  refine z_iload X dX5_aligned_194 2 rfl ?_
  refine z_isub X dX5_aligned_196 ?_
  refine z_isub X dX5_aligned_197 ?_
  refine z_iload_n X dX5_aligned_198 1 rfl rfl ?_
  refine k_X5_least X ml_X5_92 H ⟨Nat.le_of_ble_eq_true rfl, Nat.le_of_ble_eq_true rfl⟩ (Nat.le_of_ble_eq_true rfl) dX5_aligned_199 (fun r20 H => ?_)
  refine z_iload X dX5_aligned_202 4 rfl ?_
  refine z_iload X dX5_aligned_204 2 rfl ?_
  refine z_icmp_ne (tgt := 213) X dX5_aligned_206 (by decide) (fun q22 => ?_) (fun q22 => ?_)
  · have H := H.2 q22
    refine z_ldc2 X kl_X5_69 dX5_aligned_213 ?_
    refine k_X5_take hh X ml_X5_95 H ⟨Nat.le_of_ble_eq_true rfl, Nat.le_of_ble_eq_true rfl⟩ (Nat.le_of_ble_eq_true rfl) dX5_aligned_216 (fun u24 H => ?_)
    refine z_iload X dX5_aligned_219 4 rfl ?_
    exact z_iret X dX5_aligned_221 H
  · have H := H.1 q22
    refine z_lconst (v := 0) X dX5_aligned_209 (by decide) ?_
    refine z_goto (tgt := 216) X dX5_aligned_210 (by decide) ?_
    refine k_X5_take hh X ml_X5_95 H ⟨Nat.le_of_ble_eq_true rfl, Nat.le_of_ble_eq_true rfl⟩ (Nat.le_of_ble_eq_true rfl) dX5_aligned_216 (fun u26 H => ?_)
    refine z_iload X dX5_aligned_219 4 rfl ?_
    exact z_iret X dX5_aligned_221 H
set_option maxHeartbeats 4000000 in
set_option maxRecDepth 100000 in
theorem j_X5_aligned_144 {κ : zK} {h : zG} (hh : zDM κ h) (N : Nat) {g : zE} (X : zC g κ (hsM h) (wM κ h) cX5_aligned 7 RX5 (some .int) { frames := 4, cells := 0, slots := 0, locals := 93 }) (P : MS → Int32 → Prop) (u : MS) (x1 : Int32) (x4 : Int32) (x5 : Int32) (x6 : Int32) (H : w_X5_aligned_144 N P u x1 x4 x5 x6) : zJ g κ (hsM h) (wM κ h) (zi P) 7 u [(0, .ref h.1), (1, .int x1), (4, .int x4), (5, .int x5), (6, .int x6)] 144 [] := by
  unfold w_X5_aligned_144 at H
  refine z_iload X dX5_aligned_144 4 rfl ?_
  refine z_iload X dX5_aligned_146 2 rfl ?_
  refine z_icmp_eq (tgt := 187) X dX5_aligned_148 (by decide) (fun q19 => ?_) (fun q19 => ?_)
  · have H := H.1 q19
    exact z_sub (j_X5_aligned_187 hh N X P u x1 x4 x5 x6 H) [0, 1, 2, 3, 4] rfl
  · have H := H.2 q19
    refine z_aload_n X dX5_aligned_151 0 rfl rfl ?_
    refine gf_X5_7 X dX5_aligned_152 ?_
    refine z_iload X dX5_aligned_155 4 rfl ?_
    refine z_iconst (v := 1) X dX5_aligned_157 (by decide) ?_
    refine z_isub X dX5_aligned_158 ?_
    refine z_ldc2 X kl_X5_73 dX5_aligned_159 ?_
    refine z_iload X dX5_aligned_162 3 rfl ?_
    refine z_iload X dX5_aligned_164 4 rfl ?_
    refine z_iload X dX5_aligned_166 2 rfl ?_
    refine z_isub X dX5_aligned_168 ?_
    refine z_isub X dX5_aligned_169 ?_
    refine z_i2l X dX5_aligned_170 ?_
    refine z_lmul X dX5_aligned_171 ?_
    obtain ⟨q27, H⟩ := H
    refine aw_pool X q27 dX5_aligned_172 H (fun u28 H => ?_)
    refine z_aload_n X dX5_aligned_173 0 rfl rfl ?_
    refine z_iload X dX5_aligned_174 2 rfl ?_
    refine z_iload X dX5_aligned_176 4 rfl ?_
    refine z_iload X dX5_aligned_178 2 rfl ?_
    refine z_isub X dX5_aligned_180 ?_
    refine z_iconst (v := 1) X dX5_aligned_181 (by decide) ?_
    refine z_isub X dX5_aligned_182 ?_
    refine z_lconst (v := 0) X dX5_aligned_183 (by decide) ?_
    refine k_X5_lend hh X ml_X5_42 H ⟨Nat.le_of_ble_eq_true rfl, Nat.le_of_ble_eq_true rfl⟩ (Nat.le_of_ble_eq_true rfl) dX5_aligned_184 (fun u30 H => ?_)
    exact z_sub (j_X5_aligned_187 hh N X P u30 x1 x4 x5 x6 H) [0, 1, 2, 3, 4] rfl
set_option maxHeartbeats 4000000 in
set_option maxRecDepth 100000 in
theorem j_X5_aligned_39 {κ : zK} {h : zG} (hh : zDM κ h) (N : Nat) {g : zE} (X : zC g κ (hsM h) (wM κ h) cX5_aligned 7 RX5 (some .int) { frames := 4, cells := 0, slots := 0, locals := 93 }) (P : MS → Int32 → Prop) (u : MS) (x1 : Int32) (x2 : Int32) (y0 : Int32) (H : w_X5_aligned_39 N P u x1 x2 y0) : zJ g κ (hsM h) (wM κ h) (zi P) 7 u [(0, .ref h.1), (1, .int x1), (2, .int x2)] 39 [.int y0] := by
  unfold w_X5_aligned_39 at H
  refine z_istore_n (lv' := [(3, .int y0), (0, .ref h.1), (1, .int x1), (2, .int x2)]) X dX5_aligned_39 rfl (by decide) rfl ?_
  refine z_iload_n X dX5_aligned_40 2 rfl rfl ?_
  refine z_i2l X dX5_aligned_41 ?_
  refine z_lconst (v := 1) X dX5_aligned_42 (by decide) ?_
  refine z_ldc2 X kl_X5_51 dX5_aligned_43 ?_
  refine k_X5_in X ml_X5_53 H ⟨Nat.le_of_ble_eq_true rfl, Nat.le_of_ble_eq_true rfl⟩ (Nat.le_of_ble_eq_true rfl) dX5_aligned_46 (fun r2 H => ?_)
  refine z_if_eq (tgt := 56) X dX5_aligned_49 (by decide) (fun q4 => ?_) (fun q4 => ?_)
  · have H := H.1 q4
    refine z_bipush (v := -2) X dX5_aligned_56 (by decide) ?_
    exact z_iret X dX5_aligned_58 H
  · have H := H.2 q4
    refine z_iload_n X dX5_aligned_52 0 rfl rfl ?_
    refine z_if_ne (tgt := 59) X dX5_aligned_53 (by decide) (fun q5 => ?_) (fun q5 => ?_)
    · have H := H.2 q5
      refine z_aload_n X dX5_aligned_59 1 rfl rfl ?_
      refine gf_X5_35 X dX5_aligned_60 ?_
      refine z_if_eq (tgt := 69) X dX5_aligned_63 (by decide) (fun q6 => ?_) (fun q6 => ?_)
      · have H := H.1 q6
        refine z_aload_n X dX5_aligned_69 1 rfl rfl ?_
        refine z_iload_n X dX5_aligned_70 2 rfl rfl ?_
        refine k_X5_least X ml_X5_92 H ⟨Nat.le_of_ble_eq_true rfl, Nat.le_of_ble_eq_true rfl⟩ (Nat.le_of_ble_eq_true rfl) dX5_aligned_71 (fun r7 H => ?_)
        refine z_iload_n X dX5_aligned_74 3 rfl rfl ?_
        refine z_iadd X dX5_aligned_75 ?_
        refine z_iconst (v := 3) X dX5_aligned_76 (by decide) ?_
        refine z_iadd X dX5_aligned_77 ?_
        refine k_X5_lookFor hh X ml_X5_86 H ⟨Nat.le_of_ble_eq_true rfl, Nat.le_of_ble_eq_true rfl⟩ (Nat.le_of_ble_eq_true rfl) dX5_aligned_78 (fun u10 r9 H => ?_)
        refine z_istore (lv' := [(4, .int r9), (3, .int y0), (0, .ref h.1), (1, .int x1), (2, .int x2)]) X dX5_aligned_81 (by decide) rfl ?_
        refine z_iload X dX5_aligned_83 0 rfl ?_
        refine z_if_ne (tgt := 100) X dX5_aligned_85 (by decide) (fun q11 => ?_) (fun q11 => ?_)
        · have H := H.2 q11
          refine z_aload_n X dX5_aligned_100 2 rfl rfl ?_
          refine z_iconst (v := 0) X dX5_aligned_101 (by decide) ?_
          refine pf_X5_46 X dX5_aligned_102 H (fun u12 H => ?_)
          refine z_aload_n X dX5_aligned_105 2 rfl rfl ?_
          refine z_iload X dX5_aligned_106 0 rfl ?_
          refine k_X5_leave hh X ml_X5_89 H ⟨Nat.le_of_ble_eq_true rfl, Nat.le_of_ble_eq_true rfl⟩ (Nat.le_of_ble_eq_true rfl) dX5_aligned_108 (fun u14 H => ?_)
          refine z_aload_n X dX5_aligned_111 2 rfl rfl ?_
          refine z_iload X dX5_aligned_112 0 rfl ?_
          refine k_X5_words hh X ml_X5_66 H ⟨Nat.le_of_ble_eq_true rfl, Nat.le_of_ble_eq_true rfl⟩ (Nat.le_of_ble_eq_true rfl) dX5_aligned_114 (fun u16 r15 H => ?_)
          refine z_istore (lv' := [(5, .int r15), (4, .int r9), (3, .int y0), (0, .ref h.1), (1, .int x1), (2, .int x2)]) X dX5_aligned_117 (by decide) rfl ?_
          refine z_iload X dX5_aligned_119 1 rfl ?_
          refine z_istore (lv' := [(6, .int r9), (5, .int r15), (4, .int r9), (3, .int y0), (0, .ref h.1), (1, .int x1), (2, .int x2)]) X dX5_aligned_121 (by decide) rfl ?_
          refine z_iload X dX5_aligned_123 2 rfl ?_
          refine z_iload_n X dX5_aligned_125 6 rfl rfl ?_
          obtain ⟨q17, H⟩ := H
          refine z_irem X dX5_aligned_126 q17 ?_
          refine z_if_eq (tgt := 144) X dX5_aligned_127 (by decide) (fun q18 => ?_) (fun q18 => ?_)
          · have H := H.1 q18
            exact z_sub (j_X5_aligned_144 hh N X P u16 x1 r9 r15 r9 H) [4, 5, 2, 1, 0] rfl
          · have H := H.2 q18
            refine z_iload X dX5_aligned_130 2 rfl ?_
            refine z_iconst (v := 4) X dX5_aligned_132 (by decide) ?_
            refine z_iadd X dX5_aligned_133 ?_
            refine z_iload_n X dX5_aligned_134 6 rfl rfl ?_
            refine z_iadd X dX5_aligned_135 ?_
            refine z_iconst (v := 1) X dX5_aligned_136 (by decide) ?_
            refine z_isub X dX5_aligned_137 ?_
            refine z_iload_n X dX5_aligned_138 6 rfl rfl ?_
            obtain ⟨q31, H⟩ := H
            refine z_idiv X dX5_aligned_139 q31 ?_
            refine z_iload_n X dX5_aligned_140 6 rfl rfl ?_
            refine z_imul X dX5_aligned_141 ?_
            refine z_istore (lv' := [(6, .int (((((r9 + (4 : Int32)) + x2) - (1 : Int32)) / x2) * x2)), (5, .int r15), (4, .int r9), (3, .int y0), (0, .ref h.1), (1, .int x1), (2, .int x2)]) X dX5_aligned_142 (by decide) rfl ?_
            exact z_sub (j_X5_aligned_144 hh N X P u16 x1 r9 r15 (((((r9 + (4 : Int32)) + x2) - (1 : Int32)) / x2) * x2) H) [4, 5, 2, 1, 0] rfl
        · have H := H.1 q11
          refine z_aload_n X dX5_aligned_88 2 rfl rfl ?_
          refine z_dup X dX5_aligned_89 rfl ?_
          refine gf_X5_39 X dX5_aligned_90 ?_
          refine z_iconst (v := 1) X dX5_aligned_93 (by decide) ?_
          refine z_iadd X dX5_aligned_94 ?_
          refine pf_X5_39 X dX5_aligned_95 H (fun u32 H => ?_)
          refine z_iconst (v := -1) X dX5_aligned_98 (by decide) ?_
          exact z_iret X dX5_aligned_99 H
      · have H := H.2 q6
        refine z_bipush (v := -3) X dX5_aligned_66 (by decide) ?_
        exact z_iret X dX5_aligned_68 H
    · have H := H.1 q5
      refine z_bipush (v := -2) X dX5_aligned_56 (by decide) ?_
      exact z_iret X dX5_aligned_58 H
set_option maxHeartbeats 4000000 in
set_option maxRecDepth 100000 in
theorem j_X5_aligned_34 {κ : zK} {h : zG} (hh : zDM κ h) (N : Nat) {g : zE} (X : zC g κ (hsM h) (wM κ h) cX5_aligned 7 RX5 (some .int) { frames := 4, cells := 0, slots := 0, locals := 93 }) (P : MS → Int32 → Prop) (u : MS) (x1 : Int32) (x2 : Int32) (H : w_X5_aligned_34 N P u x1 x2) : zJ g κ (hsM h) (wM κ h) (zi P) 7 u [(0, .ref h.1), (1, .int x1), (2, .int x2)] 34 [] := by
  unfold w_X5_aligned_34 at H
  refine z_iconst (v := 1) X dX5_aligned_34 (by decide) ?_
  refine z_goto (tgt := 39) X dX5_aligned_35 (by decide) ?_
  exact z_sub (j_X5_aligned_39 hh N X P u x1 x2 (1 : Int32) H) [0, 1, 2] rfl
set_option maxHeartbeats 4000000 in
set_option maxRecDepth 100000 in
theorem c_X5_aligned {l : Launch} {κ : zK} {h : zG} (hh : zDM κ h) (N : Nat) (u : MS) (a1 : Int32) (a2 : Int32) (P : MS → Int32 → Prop) (H : w_X5_aligned N u a1 a2 P) : zM l κ (hsM h) (wM κ h) yX5_aligned cX5_aligned 7 (some .int) { frames := 4, cells := 0, slots := 0, locals := 93 } [.ref h.1, .int a1, .int a2] u (zi P) := by
  refine z_met (own := RX5) (by decide) rfl (Nat.le_of_ble_eq_true rfl) hh (fun g X => ?_)
  show zJ g κ (hsM h) (wM κ h) (zi P) 7 u [(0, .ref h.1), (1, .int a1), (2, .int a2)] 0 []
  unfold w_X5_aligned at H
  refine z_iload_n X dX5_aligned_0 2 rfl rfl ?_
  refine z_iconst (v := 2) X dX5_aligned_1 (by decide) ?_
  refine z_icmp_eq (tgt := 34) X dX5_aligned_2 (by decide) (fun q1 => ?_) (fun q1 => ?_)
  · have H := H.1 q1
    exact z_sub (j_X5_aligned_34 hh N X P u a1 a2 H) [0, 1, 2] rfl
  · have H := H.2 q1
    refine z_iload_n X dX5_aligned_5 2 rfl rfl ?_
    refine z_iconst (v := 4) X dX5_aligned_6 (by decide) ?_
    refine z_icmp_eq (tgt := 34) X dX5_aligned_7 (by decide) (fun q33 => ?_) (fun q33 => ?_)
    · have H := H.1 q33
      exact z_sub (j_X5_aligned_34 hh N X P u a1 a2 H) [0, 1, 2] rfl
    · have H := H.2 q33
      refine z_iload_n X dX5_aligned_10 2 rfl rfl ?_
      refine z_bipush (v := 8) X dX5_aligned_11 (by decide) ?_
      refine z_icmp_eq (tgt := 34) X dX5_aligned_13 (by decide) (fun q34 => ?_) (fun q34 => ?_)
      · have H := H.1 q34
        exact z_sub (j_X5_aligned_34 hh N X P u a1 a2 H) [0, 1, 2] rfl
      · have H := H.2 q34
        refine z_iload_n X dX5_aligned_16 2 rfl rfl ?_
        refine z_bipush (v := 16) X dX5_aligned_17 (by decide) ?_
        refine z_icmp_eq (tgt := 34) X dX5_aligned_19 (by decide) (fun q35 => ?_) (fun q35 => ?_)
        · have H := H.1 q35
          exact z_sub (j_X5_aligned_34 hh N X P u a1 a2 H) [0, 1, 2] rfl
        · have H := H.2 q35
          refine z_iload_n X dX5_aligned_22 2 rfl rfl ?_
          refine z_bipush (v := 32) X dX5_aligned_23 (by decide) ?_
          refine z_icmp_eq (tgt := 34) X dX5_aligned_25 (by decide) (fun q36 => ?_) (fun q36 => ?_)
          · have H := H.1 q36
            exact z_sub (j_X5_aligned_34 hh N X P u a1 a2 H) [0, 1, 2] rfl
          · have H := H.2 q36
            refine z_iload_n X dX5_aligned_28 2 rfl rfl ?_
            refine z_bipush (v := 64) X dX5_aligned_29 (by decide) ?_
            refine z_icmp_ne (tgt := 38) X dX5_aligned_31 (by decide) (fun q37 => ?_) (fun q37 => ?_)
            · have H := H.2 q37
              refine z_iconst (v := 0) X dX5_aligned_38 (by decide) ?_
              exact z_sub (j_X5_aligned_39 hh N X P u a1 a2 (0 : Int32) H) [0, 1, 2] rfl
            · have H := H.1 q37
              exact z_sub (j_X5_aligned_34 hh N X P u a1 a2 H) [0, 1, 2] rfl
theorem k_X5_aligned {g : zE} {κ : zK} {h : zG} (hh : zDM κ h) {u : MS} {Φ : MS → Option Value → Prop} {cc : ByteArray} {nL : Nat} {own : String} {ret : Option FieldType} {rm : Room} {lv : List (Nat × Value)} {pc : Nat} {st : List Value} {idx N : Nat} {a1 : Int32} {a2 : Int32} {P : MS → Int32 → Prop} (X : zC g κ (hsM h) (wM κ h) cc nL own ret rm) (hml : Cond.methodLink own idx yX5_aligned ∈ zT) (H : w_X5_aligned N u a1 a2 P) (hR : 4 + 1 ≤ rm.frames ∧ 8 + (7 + 11) + 93 ≤ rm.locals) (hroom : (st.map fun v => v.category).sum ≤ 8) (d : decode cc pc = .ok (.invokevirtual idx, 3)) (kk : ∀ u1 v, P u1 v → zJ g κ (hsM h) (wM κ h) Φ nL u1 lv (pc + 3) (.int v :: st)) : zJ g κ (hsM h) (wM κ h) Φ nL u lv pc (.int a2 :: .int a1 :: .ref h.1 :: st) := z_callV (As := [.int a1, .int a2]) X yy_X5_aligned hml im_X5_aligned se_X5_aligned (c_X5_aligned hh N u a1 a2 P H) 4 0 rfl rfl rfl ⟨rfl, rfl⟩ hR rfl hroom d (fun u1 r hz => by obtain ⟨v, hr, hP⟩ := hz; subst hr; exact kk u1 v hP)
def w_X5_isFree (N : Nat) (u : MS) (a1 : Int32) (P : MS → Int32 → Prop) : Prop := (vp_in (a1 - (1 : Int32)) 2048 ∧ ((((u.1.1 ((a1 - (1 : Int32))).toNatClampNeg) &&& (1 : Int64)) = (1 : Int64) → (P u (1 : Int32))) ∧ (¬ ((u.1.1 ((a1 - (1 : Int32))).toNatClampNeg) &&& (1 : Int64)) = (1 : Int64) → (P u (0 : Int32)))))
set_option maxHeartbeats 4000000 in
set_option maxRecDepth 100000 in
theorem c_X5_isFree {l : Launch} {κ : zK} {h : zG} (hh : zDM κ h) (N : Nat) (u : MS) (a1 : Int32) (P : MS → Int32 → Prop) (H : w_X5_isFree N u a1 P) : zM l κ (hsM h) (wM κ h) yX5_isFree cX5_isFree 2 (some .boolean) { frames := 0, cells := 0, slots := 0, locals := 0 } [.ref h.1, .int a1] u (zi P) := by
  refine z_met (own := RX5) (by decide) rfl (Nat.le_of_ble_eq_true rfl) hh (fun g X => ?_)
  show zJ g κ (hsM h) (wM κ h) (zi P) 2 u [(0, .ref h.1), (1, .int a1)] 0 []
  unfold w_X5_isFree at H
  refine z_aload_n X dX5_isFree_0 0 rfl rfl ?_
  refine gf_X5_7 X dX5_isFree_1 ?_
  refine z_iload_n X dX5_isFree_4 1 rfl rfl ?_
  refine z_iconst (v := 1) X dX5_isFree_5 (by decide) ?_
  refine z_isub X dX5_isFree_6 ?_
  obtain ⟨q1, H⟩ := H
  refine ar_pool X q1 dX5_isFree_7 ?_
  refine z_lconst (v := 1) X dX5_isFree_8 (by decide) ?_
  refine z_land X dX5_isFree_9 ?_
  refine z_lconst (v := 1) X dX5_isFree_10 (by decide) ?_
  refine z_lcmp_ne (tgt := 19) X dX5_isFree_11 dX5_isFree_12 (by decide) (fun q2 => ?_) (fun q2 => ?_)
  · have H := H.2 q2
    refine z_iconst (v := 0) X dX5_isFree_19 (by decide) ?_
    exact z_zret X rfl dX5_isFree_20 H
  · have H := H.1 q2
    refine z_iconst (v := 1) X dX5_isFree_15 (by decide) ?_
    refine z_goto (tgt := 20) X dX5_isFree_16 (by decide) ?_
    exact z_zret X rfl dX5_isFree_20 H
theorem k_X5_isFree {g : zE} {κ : zK} {h : zG} (hh : zDM κ h) {u : MS} {Φ : MS → Option Value → Prop} {cc : ByteArray} {nL : Nat} {own : String} {ret : Option FieldType} {rm : Room} {lv : List (Nat × Value)} {pc : Nat} {st : List Value} {idx N : Nat} {a1 : Int32} {P : MS → Int32 → Prop} (X : zC g κ (hsM h) (wM κ h) cc nL own ret rm) (hml : Cond.methodLink own idx yX5_isFree ∈ zT) (H : w_X5_isFree N u a1 P) (hR : 0 + 1 ≤ rm.frames ∧ 8 + (2 + 11) + 0 ≤ rm.locals) (hroom : (st.map fun v => v.category).sum ≤ 8) (d : decode cc pc = .ok (.invokevirtual idx, 3)) (kk : ∀ u1 v, P u1 v → zJ g κ (hsM h) (wM κ h) Φ nL u1 lv (pc + 3) (.int v :: st)) : zJ g κ (hsM h) (wM κ h) Φ nL u lv pc (.int a1 :: .ref h.1 :: st) := z_callV (As := [.int a1]) X yy_X5_isFree hml im_X5_isFree se_X5_isFree (c_X5_isFree hh N u a1 P H) 4 0 rfl rfl rfl ⟨rfl, rfl⟩ hR rfl hroom d (fun u1 r hz => by obtain ⟨v, hr, hP⟩ := hz; subst hr; exact kk u1 v hP)
def w_X5_isBad_49 (N : Nat) (P : MS → Int32 → Prop) (u : MS) (x1 : Int32) (x2 : Int32) : Prop := ((x1 < (1 : Int32) → (P u (1 : Int32))) ∧ (¬ x1 < (1 : Int32) → ((x2 = x1 → (w_X5_isFree N u x2 fun u6 r5 => ((r5 = 0 → (P u6 (0 : Int32))) ∧ (¬ r5 = 0 → (P u6 (1 : Int32)))))) ∧ (¬ x2 = x1 → (P u (1 : Int32))))))
def w_X5_isBad_31 (N : Nat) (P : MS → Int32 → Prop) : Nat → MS → Int32 → Int32 → Prop
  | 0, _, _, _ => False
  | n + 1, u, x1, x2 => ((0 < x2 → ((x2 < x1 → (w_X5_behind N u x2 fun u10 r9 => (w_X5_isBad_31 N P n u10 x1 r9))) ∧ (¬ x2 < x1 → (w_X5_isBad_49 N P u x1 x2)))) ∧ (¬ 0 < x2 → (w_X5_isBad_49 N P u x1 x2)))
def w_X5_isBad (N : Nat) (u : MS) (a1 : Int32) (P : MS → Int32 → Prop) : Prop := (((u.1.2.2.2.2.2.1) = 0 → (w_X5_isBad_31 N P N u a1 (1 : Int32))) ∧ (¬ (u.1.2.2.2.2.2.1) = 0 → (w_X5_in N (a1).toInt64 (1 : Int64) (((u.1.2.1) - (1 : Int32))).toInt64 fun r11 => ((r11 = 0 → (P u (1 : Int32))) ∧ (¬ r11 = 0 → (P u (0 : Int32)))))))
set_option maxHeartbeats 4000000 in
set_option maxRecDepth 100000 in
theorem j_X5_isBad_49 {κ : zK} {h : zG} (hh : zDM κ h) (N : Nat) {g : zE} (X : zC g κ (hsM h) (wM κ h) cX5_isBad 3 RX5 (some .boolean) { frames := 2, cells := 0, slots := 0, locals := 43 }) (P : MS → Int32 → Prop) (u : MS) (x1 : Int32) (x2 : Int32) (H : w_X5_isBad_49 N P u x1 x2) : zJ g κ (hsM h) (wM κ h) (zi P) 3 u [(0, .ref h.1), (1, .int x1), (2, .int x2)] 49 [] := by
  unfold w_X5_isBad_49 at H
  refine z_iload_n X dX5_isBad_49 1 rfl rfl ?_
  refine z_iconst (v := 1) X dX5_isBad_50 (by decide) ?_
  refine z_icmp_lt (tgt := 67) X dX5_isBad_51 (by decide) (fun q3 => ?_) (fun q3 => ?_)
  · have H := H.1 q3
    refine z_iconst (v := 1) X dX5_isBad_67 (by decide) ?_
    refine z_goto (tgt := 72) X dX5_isBad_68 (by decide) ?_
    exact z_zret X rfl dX5_isBad_72 H
  · have H := H.2 q3
    refine z_iload_n X dX5_isBad_54 2 rfl rfl ?_
    refine z_iload_n X dX5_isBad_55 1 rfl rfl ?_
    refine z_icmp_ne (tgt := 67) X dX5_isBad_56 (by decide) (fun q4 => ?_) (fun q4 => ?_)
    · have H := H.2 q4
      refine z_iconst (v := 1) X dX5_isBad_67 (by decide) ?_
      refine z_goto (tgt := 72) X dX5_isBad_68 (by decide) ?_
      exact z_zret X rfl dX5_isBad_72 H
    · have H := H.1 q4
      refine z_aload_n X dX5_isBad_59 0 rfl rfl ?_
      refine z_iload_n X dX5_isBad_60 2 rfl rfl ?_
      refine k_X5_isFree hh X ml_X5_82 H ⟨Nat.le_of_ble_eq_true rfl, Nat.le_of_ble_eq_true rfl⟩ (Nat.le_of_ble_eq_true rfl) dX5_isBad_61 (fun u6 r5 H => ?_)
      refine z_if_eq (tgt := 71) X dX5_isBad_64 (by decide) (fun q7 => ?_) (fun q7 => ?_)
      · have H := H.1 q7
        refine z_iconst (v := 0) X dX5_isBad_71 (by decide) ?_
        exact z_zret X rfl dX5_isBad_72 H
      · have H := H.2 q7
        refine z_iconst (v := 1) X dX5_isBad_67 (by decide) ?_
        refine z_goto (tgt := 72) X dX5_isBad_68 (by decide) ?_
        exact z_zret X rfl dX5_isBad_72 H
set_option maxHeartbeats 4000000 in
set_option maxRecDepth 100000 in
theorem j_X5_isBad_31 {κ : zK} {h : zG} (hh : zDM κ h) (N : Nat) {g : zE} (X : zC g κ (hsM h) (wM κ h) cX5_isBad 3 RX5 (some .boolean) { frames := 2, cells := 0, slots := 0, locals := 43 }) (P : MS → Int32 → Prop) : ∀ (n : Nat) (u : MS) (x1 : Int32) (x2 : Int32), w_X5_isBad_31 N P n u x1 x2 → zJ g κ (hsM h) (wM κ h) (zi P) 3 u [(0, .ref h.1), (1, .int x1), (2, .int x2)] 31 [] := by
  intro n
  induction n with
  | zero => intro u x1 x2 H; exact absurd H (by rw [w_X5_isBad_31]; exact id)
  | succ n ih =>
    intro u x1 x2 H
    rw [w_X5_isBad_31] at H
    refine z_iload_n X dX5_isBad_31 2 rfl rfl ?_
    refine z_if_le (tgt := 49) X dX5_isBad_32 (by decide) (fun q2 => ?_) (fun q2 => ?_)
    · have H := H.2 q2
      exact z_sub (j_X5_isBad_49 hh N X P u x1 x2 H) [0, 1, 2] rfl
    · have H := H.1 q2
      refine z_iload_n X dX5_isBad_35 2 rfl rfl ?_
      refine z_iload_n X dX5_isBad_36 1 rfl rfl ?_
      refine z_icmp_ge (tgt := 49) X dX5_isBad_37 (by decide) (fun q8 => ?_) (fun q8 => ?_)
      · have H := H.2 q8
        exact z_sub (j_X5_isBad_49 hh N X P u x1 x2 H) [0, 1, 2] rfl
      · have H := H.1 q8
        refine z_aload_n X dX5_isBad_40 0 rfl rfl ?_
        refine z_iload_n X dX5_isBad_41 2 rfl rfl ?_
        refine k_X5_behind hh X ml_X5_75 H ⟨Nat.le_of_ble_eq_true rfl, Nat.le_of_ble_eq_true rfl⟩ (Nat.le_of_ble_eq_true rfl) dX5_isBad_42 (fun u10 r9 H => ?_)
        refine z_istore_n (lv' := [(2, .int r9), (0, .ref h.1), (1, .int x1)]) X dX5_isBad_45 rfl (by decide) rfl ?_
        refine z_goto (tgt := 31) X dX5_isBad_46 (by decide) ?_
        exact z_sub (ih u10 x1 r9 H) [1, 2, 0] rfl
set_option maxHeartbeats 4000000 in
set_option maxRecDepth 100000 in
theorem c_X5_isBad {l : Launch} {κ : zK} {h : zG} (hh : zDM κ h) (N : Nat) (u : MS) (a1 : Int32) (P : MS → Int32 → Prop) (H : w_X5_isBad N u a1 P) : zM l κ (hsM h) (wM κ h) yX5_isBad cX5_isBad 3 (some .boolean) { frames := 2, cells := 0, slots := 0, locals := 43 } [.ref h.1, .int a1] u (zi P) := by
  refine z_met (own := RX5) (by decide) rfl (Nat.le_of_ble_eq_true rfl) hh (fun g X => ?_)
  show zJ g κ (hsM h) (wM κ h) (zi P) 3 u [(0, .ref h.1), (1, .int a1)] 0 []
  unfold w_X5_isBad at H
  refine z_aload_n X dX5_isBad_0 0 rfl rfl ?_
  refine gf_X5_35 X dX5_isBad_1 ?_
  refine z_if_eq (tgt := 29) X dX5_isBad_4 (by decide) (fun q1 => ?_) (fun q1 => ?_)
  · have H := H.1 q1
    refine z_iconst (v := 1) X dX5_isBad_29 (by decide) ?_
    refine z_istore_n (lv' := [(2, .int (1 : Int32)), (0, .ref h.1), (1, .int a1)]) X dX5_isBad_30 rfl (by decide) rfl ?_
    exact z_sub (j_X5_isBad_31 hh N X P N u a1 (1 : Int32) H) [1, 2, 0] rfl
  · have H := H.2 q1
    refine z_iload_n X dX5_isBad_7 1 rfl rfl ?_
    refine z_i2l X dX5_isBad_8 ?_
    refine z_lconst (v := 1) X dX5_isBad_9 (by decide) ?_
    refine z_aload_n X dX5_isBad_10 0 rfl rfl ?_
    refine gf_X5_32 X dX5_isBad_11 ?_
    refine z_iconst (v := 1) X dX5_isBad_14 (by decide) ?_
    refine z_isub X dX5_isBad_15 ?_
    refine z_i2l X dX5_isBad_16 ?_
    refine k_X5_in X ml_X5_53 H ⟨Nat.le_of_ble_eq_true rfl, Nat.le_of_ble_eq_true rfl⟩ (Nat.le_of_ble_eq_true rfl) dX5_isBad_17 (fun r11 H => ?_)
    refine z_if_ne (tgt := 27) X dX5_isBad_20 (by decide) (fun q13 => ?_) (fun q13 => ?_)
    · have H := H.2 q13
      refine z_iconst (v := 0) X dX5_isBad_27 (by decide) ?_
      exact z_zret X rfl dX5_isBad_28 H
    · have H := H.1 q13
      refine z_iconst (v := 1) X dX5_isBad_23 (by decide) ?_
      refine z_goto (tgt := 28) X dX5_isBad_24 (by decide) ?_
      exact z_zret X rfl dX5_isBad_28 H
theorem k_X5_isBad {g : zE} {κ : zK} {h : zG} (hh : zDM κ h) {u : MS} {Φ : MS → Option Value → Prop} {cc : ByteArray} {nL : Nat} {own : String} {ret : Option FieldType} {rm : Room} {lv : List (Nat × Value)} {pc : Nat} {st : List Value} {idx N : Nat} {a1 : Int32} {P : MS → Int32 → Prop} (X : zC g κ (hsM h) (wM κ h) cc nL own ret rm) (hml : Cond.methodLink own idx yX5_isBad ∈ zT) (H : w_X5_isBad N u a1 P) (hR : 2 + 1 ≤ rm.frames ∧ 8 + (3 + 11) + 43 ≤ rm.locals) (hroom : (st.map fun v => v.category).sum ≤ 8) (d : decode cc pc = .ok (.invokevirtual idx, 3)) (kk : ∀ u1 v, P u1 v → zJ g κ (hsM h) (wM κ h) Φ nL u1 lv (pc + 3) (.int v :: st)) : zJ g κ (hsM h) (wM κ h) Φ nL u lv pc (.int a1 :: .ref h.1 :: st) := z_callV (As := [.int a1]) X yy_X5_isBad hml im_X5_isBad se_X5_isBad (c_X5_isBad hh N u a1 P H) 4 0 rfl rfl rfl ⟨rfl, rfl⟩ hR rfl hroom d (fun u1 r hz => by obtain ⟨v, hr, hP⟩ := hz; subst hr; exact kk u1 v hP)
def w_X5_release_95 (N : Nat) (P : MS → Int32 → Prop) (u : MS) (x2 : Int32) (x3 : Int32) : Prop := (w_X5_lend N u x2 x3 (0 : Int64) fun u9 => (P u9 x3))
def w_X5_release_46 (N : Nat) (P : MS → Int32 → Prop) (u : MS) (x1 : Int32) (x2 : Int32) (x3 : Int32) : Prop := (vp_in (x1 - (1 : Int32)) 2048 ∧ ((((u.1.1 ((x1 - (1 : Int32))).toNatClampNeg) &&& (2 : Int64)) = (2 : Int64) → (vp_in (x1 - (2 : Int32)) 2048 ∧ (w_X5_leave N u ((x1 - (1 : Int32)) - ((u.1.1 ((x1 - (2 : Int32))).toNatClampNeg)).toInt32) fun u12 => (w_X5_release_95 N P u12 ((x1 - (1 : Int32)) - ((u.1.1 ((x1 - (2 : Int32))).toNatClampNeg)).toInt32) (x3 + ((1 : Int32) + ((u.1.1 ((x1 - (2 : Int32))).toNatClampNeg)).toInt32)))))) ∧ (¬ ((u.1.1 ((x1 - (1 : Int32))).toNatClampNeg) &&& (2 : Int64)) = (2 : Int64) → (w_X5_release_95 N P u x2 x3))))
def w_X5_release (N : Nat) (u : MS) (a1 : Int32) (P : MS → Int32 → Prop) : Prop := (w_X5_words N u a1 fun u2 r1 => (w_X5_behind N u2 a1 fun u4 r3 => ((0 < r3 → (w_X5_isFree N u4 r3 fun u14 r13 => ((r13 = 0 → (w_X5_release_46 N P u14 a1 a1 r1)) ∧ (¬ r13 = 0 → (w_X5_leave N u14 r3 fun u17 => (w_X5_words N u17 r3 fun u19 r18 => (w_X5_release_46 N P u19 a1 a1 (r1 + ((1 : Int32) + r18))))))))) ∧ (¬ 0 < r3 → (w_X5_release_46 N P u4 a1 a1 r1)))))
set_option maxHeartbeats 4000000 in
set_option maxRecDepth 100000 in
theorem j_X5_release_95 {κ : zK} {h : zG} (hh : zDM κ h) (N : Nat) {g : zE} (X : zC g κ (hsM h) (wM κ h) cX5_release 6 RX5 (some .int) { frames := 3, cells := 0, slots := 0, locals := 68 }) (P : MS → Int32 → Prop) (u : MS) (x2 : Int32) (x3 : Int32) (H : w_X5_release_95 N P u x2 x3) : zJ g κ (hsM h) (wM κ h) (zi P) 6 u [(0, .ref h.1), (2, .int x2), (3, .int x3)] 95 [] := by
  unfold w_X5_release_95 at H
  refine z_aload_n X dX5_release_95 0 rfl rfl ?_
  refine z_iload_n X dX5_release_96 1 rfl rfl ?_
  refine z_iload_n X dX5_release_97 2 rfl rfl ?_
  refine z_lconst (v := 0) X dX5_release_98 (by decide) ?_
  refine k_X5_lend hh X ml_X5_42 H ⟨Nat.le_of_ble_eq_true rfl, Nat.le_of_ble_eq_true rfl⟩ (Nat.le_of_ble_eq_true rfl) dX5_release_99 (fun u9 H => ?_)
  refine z_iload_n X dX5_release_102 2 rfl rfl ?_
  exact z_iret X dX5_release_103 H
set_option maxHeartbeats 4000000 in
set_option maxRecDepth 100000 in
theorem j_X5_release_46 {κ : zK} {h : zG} (hh : zDM κ h) (N : Nat) {g : zE} (X : zC g κ (hsM h) (wM κ h) cX5_release 6 RX5 (some .int) { frames := 3, cells := 0, slots := 0, locals := 68 }) (P : MS → Int32 → Prop) (u : MS) (x1 : Int32) (x2 : Int32) (x3 : Int32) (H : w_X5_release_46 N P u x1 x2 x3) : zJ g κ (hsM h) (wM κ h) (zi P) 6 u [(0, .ref h.1), (1, .int x1), (2, .int x2), (3, .int x3)] 46 [] := by
  unfold w_X5_release_46 at H
  refine z_aload_n X dX5_release_46 0 rfl rfl ?_
  refine gf_X5_7 X dX5_release_47 ?_
  refine z_iload_n X dX5_release_50 1 rfl rfl ?_
  refine z_iconst (v := 1) X dX5_release_51 (by decide) ?_
  refine z_isub X dX5_release_52 ?_
  obtain ⟨q6, H⟩ := H
  refine ar_pool X q6 dX5_release_53 ?_
  refine z_ldc2 X kl_X5_69 dX5_release_54 ?_
  refine z_land X dX5_release_57 ?_
  refine z_ldc2 X kl_X5_69 dX5_release_58 ?_
  refine z_lcmp_ne (tgt := 95) X dX5_release_61 dX5_release_62 (by decide) (fun q7 => ?_) (fun q7 => ?_)
  · have H := H.2 q7
    exact z_sub (j_X5_release_95 hh N X P u x2 x3 H) [0, 2, 3] rfl
  · have H := H.1 q7
    refine z_aload_n X dX5_release_65 0 rfl rfl ?_
    refine gf_X5_7 X dX5_release_66 ?_
    refine z_iload_n X dX5_release_69 1 rfl rfl ?_
    refine z_iconst (v := 2) X dX5_release_70 (by decide) ?_
    refine z_isub X dX5_release_71 ?_
    obtain ⟨q10, H⟩ := H
    refine ar_pool X q10 dX5_release_72 ?_
    refine z_l2i X dX5_release_73 ?_
    refine z_istore (lv' := [(5, .int ((u.1.1 ((x1 - (2 : Int32))).toNatClampNeg)).toInt32), (0, .ref h.1), (1, .int x1), (2, .int x2), (3, .int x3)]) X dX5_release_74 (by decide) rfl ?_
    refine z_iload_n X dX5_release_76 2 rfl rfl ?_
    refine z_iconst (v := 1) X dX5_release_77 (by decide) ?_
    refine z_isub X dX5_release_78 ?_
    refine z_iload X dX5_release_79 0 rfl ?_
    refine z_isub X dX5_release_81 ?_
    refine z_istore_n (lv' := [(2, .int ((x1 - (1 : Int32)) - ((u.1.1 ((x1 - (2 : Int32))).toNatClampNeg)).toInt32)), (5, .int ((u.1.1 ((x1 - (2 : Int32))).toNatClampNeg)).toInt32), (0, .ref h.1), (1, .int x1), (3, .int x3)]) X dX5_release_82 rfl (by decide) rfl ?_
    refine z_aload_n X dX5_release_83 2 rfl rfl ?_
    refine z_iload_n X dX5_release_84 0 rfl rfl ?_
    refine k_X5_leave hh X ml_X5_89 H ⟨Nat.le_of_ble_eq_true rfl, Nat.le_of_ble_eq_true rfl⟩ (Nat.le_of_ble_eq_true rfl) dX5_release_85 (fun u12 H => ?_)
    refine z_iload_n X dX5_release_88 4 rfl rfl ?_
    refine z_iconst (v := 1) X dX5_release_89 (by decide) ?_
    refine z_iload X dX5_release_90 1 rfl ?_
    refine z_iadd X dX5_release_92 ?_
    refine z_iadd X dX5_release_93 ?_
    refine z_istore_n (lv' := [(3, .int (x3 + ((1 : Int32) + ((u.1.1 ((x1 - (2 : Int32))).toNatClampNeg)).toInt32))), (2, .int ((x1 - (1 : Int32)) - ((u.1.1 ((x1 - (2 : Int32))).toNatClampNeg)).toInt32)), (5, .int ((u.1.1 ((x1 - (2 : Int32))).toNatClampNeg)).toInt32), (0, .ref h.1), (1, .int x1)]) X dX5_release_94 rfl (by decide) rfl ?_
    exact z_sub (j_X5_release_95 hh N X P u12 ((x1 - (1 : Int32)) - ((u.1.1 ((x1 - (2 : Int32))).toNatClampNeg)).toInt32) (x3 + ((1 : Int32) + ((u.1.1 ((x1 - (2 : Int32))).toNatClampNeg)).toInt32)) H) [3, 1, 0] rfl
set_option maxHeartbeats 4000000 in
set_option maxRecDepth 100000 in
theorem c_X5_release {l : Launch} {κ : zK} {h : zG} (hh : zDM κ h) (N : Nat) (u : MS) (a1 : Int32) (P : MS → Int32 → Prop) (H : w_X5_release N u a1 P) : zM l κ (hsM h) (wM κ h) yX5_release cX5_release 6 (some .int) { frames := 3, cells := 0, slots := 0, locals := 68 } [.ref h.1, .int a1] u (zi P) := by
  refine z_met (own := RX5) (by decide) rfl (Nat.le_of_ble_eq_true rfl) hh (fun g X => ?_)
  show zJ g κ (hsM h) (wM κ h) (zi P) 6 u [(0, .ref h.1), (1, .int a1)] 0 []
  unfold w_X5_release at H
  refine z_iload_n X dX5_release_0 1 rfl rfl ?_
  refine z_istore_n (lv' := [(2, .int a1), (0, .ref h.1), (1, .int a1)]) X dX5_release_1 rfl (by decide) rfl ?_
  refine z_aload_n X dX5_release_2 1 rfl rfl ?_
  refine z_iload_n X dX5_release_3 2 rfl rfl ?_
  refine k_X5_words hh X ml_X5_66 H ⟨Nat.le_of_ble_eq_true rfl, Nat.le_of_ble_eq_true rfl⟩ (Nat.le_of_ble_eq_true rfl) dX5_release_4 (fun u2 r1 H => ?_)
  refine z_istore_n (lv' := [(3, .int r1), (2, .int a1), (0, .ref h.1), (1, .int a1)]) X dX5_release_7 rfl (by decide) rfl ?_
  refine z_aload_n X dX5_release_8 2 rfl rfl ?_
  refine z_iload_n X dX5_release_9 3 rfl rfl ?_
  refine k_X5_behind hh X ml_X5_75 H ⟨Nat.le_of_ble_eq_true rfl, Nat.le_of_ble_eq_true rfl⟩ (Nat.le_of_ble_eq_true rfl) dX5_release_10 (fun u4 r3 H => ?_)
  refine z_istore (lv' := [(4, .int r3), (3, .int r1), (2, .int a1), (0, .ref h.1), (1, .int a1)]) X dX5_release_13 (by decide) rfl ?_
  refine z_iload X dX5_release_15 0 rfl ?_
  refine z_if_le (tgt := 46) X dX5_release_17 (by decide) (fun q5 => ?_) (fun q5 => ?_)
  · have H := H.2 q5
    exact z_sub (j_X5_release_46 hh N X P u4 a1 a1 r1 H) [3, 4, 2, 1] rfl
  · have H := H.1 q5
    refine z_aload_n X dX5_release_20 3 rfl rfl ?_
    refine z_iload X dX5_release_21 0 rfl ?_
    refine k_X5_isFree hh X ml_X5_82 H ⟨Nat.le_of_ble_eq_true rfl, Nat.le_of_ble_eq_true rfl⟩ (Nat.le_of_ble_eq_true rfl) dX5_release_23 (fun u14 r13 H => ?_)
    refine z_if_eq (tgt := 46) X dX5_release_26 (by decide) (fun q15 => ?_) (fun q15 => ?_)
    · have H := H.1 q15
      exact z_sub (j_X5_release_46 hh N X P u14 a1 a1 r1 H) [3, 4, 2, 1] rfl
    · have H := H.2 q15
      refine z_aload_n X dX5_release_29 3 rfl rfl ?_
      refine z_iload X dX5_release_30 0 rfl ?_
      refine k_X5_leave hh X ml_X5_89 H ⟨Nat.le_of_ble_eq_true rfl, Nat.le_of_ble_eq_true rfl⟩ (Nat.le_of_ble_eq_true rfl) dX5_release_32 (fun u17 H => ?_)
      refine z_iload_n X dX5_release_35 1 rfl rfl ?_
      refine z_iconst (v := 1) X dX5_release_36 (by decide) ?_
      refine z_aload_n X dX5_release_37 3 rfl rfl ?_
      refine z_iload X dX5_release_38 0 rfl ?_
      refine k_X5_words hh X ml_X5_66 H ⟨Nat.le_of_ble_eq_true rfl, Nat.le_of_ble_eq_true rfl⟩ (Nat.le_of_ble_eq_true rfl) dX5_release_40 (fun u19 r18 H => ?_)
      refine z_iadd X dX5_release_43 ?_
      refine z_iadd X dX5_release_44 ?_
      refine z_istore_n (lv' := [(3, .int (r1 + ((1 : Int32) + r18))), (4, .int r3), (2, .int a1), (0, .ref h.1), (1, .int a1)]) X dX5_release_45 rfl (by decide) rfl ?_
      exact z_sub (j_X5_release_46 hh N X P u19 a1 a1 (r1 + ((1 : Int32) + r18)) H) [3, 4, 2, 0] rfl
theorem k_X5_release {g : zE} {κ : zK} {h : zG} (hh : zDM κ h) {u : MS} {Φ : MS → Option Value → Prop} {cc : ByteArray} {nL : Nat} {own : String} {ret : Option FieldType} {rm : Room} {lv : List (Nat × Value)} {pc : Nat} {st : List Value} {idx N : Nat} {a1 : Int32} {P : MS → Int32 → Prop} (X : zC g κ (hsM h) (wM κ h) cc nL own ret rm) (hml : Cond.methodLink own idx yX5_release ∈ zT) (H : w_X5_release N u a1 P) (hR : 3 + 1 ≤ rm.frames ∧ 8 + (6 + 11) + 68 ≤ rm.locals) (hroom : (st.map fun v => v.category).sum ≤ 8) (d : decode cc pc = .ok (.invokevirtual idx, 3)) (kk : ∀ u1 v, P u1 v → zJ g κ (hsM h) (wM κ h) Φ nL u1 lv (pc + 3) (.int v :: st)) : zJ g κ (hsM h) (wM κ h) Φ nL u lv pc (.int a1 :: .ref h.1 :: st) := z_callV (As := [.int a1]) X yy_X5_release hml im_X5_release se_X5_release (c_X5_release hh N u a1 P H) 4 0 rfl rfl rfl ⟨rfl, rfl⟩ hR rfl hroom d (fun u1 r hz => by obtain ⟨v, hr, hP⟩ := hz; subst hr; exact kk u1 v hP)
def w_X5_free (N : Nat) (u : MS) (a1 : Int32) (P : MS → Int32 → Prop) : Prop := (w_X5_isBad N u a1 fun u2 r1 => ((r1 = 0 → (((u2.1.2.2.2.2.2.1) = 0 → (zlet (sMv u2.1 (0 : Int32), u2.2) fun u5 => (w_X5_release N u5 a1 fun u7 r6 => (P u7 r6)))) ∧ (¬ (u2.1.2.2.2.2.2.1) = 0 → (P u2 (-3 : Int32))))) ∧ (¬ r1 = 0 → (P u2 (-2 : Int32)))))
set_option maxHeartbeats 4000000 in
set_option maxRecDepth 100000 in
theorem c_X5_free {l : Launch} {κ : zK} {h : zG} (hh : zDM κ h) (N : Nat) (u : MS) (a1 : Int32) (P : MS → Int32 → Prop) (H : w_X5_free N u a1 P) : zM l κ (hsM h) (wM κ h) yX5_free cX5_free 2 (some .int) { frames := 4, cells := 0, slots := 0, locals := 93 } [.ref h.1, .int a1] u (zi P) := by
  refine z_met (own := RX5) (by decide) rfl (Nat.le_of_ble_eq_true rfl) hh (fun g X => ?_)
  show zJ g κ (hsM h) (wM κ h) (zi P) 2 u [(0, .ref h.1), (1, .int a1)] 0 []
  unfold w_X5_free at H
  refine z_aload_n X dX5_free_0 0 rfl rfl ?_
  refine z_iload_n X dX5_free_1 1 rfl rfl ?_
  refine k_X5_isBad hh X ml_X5_99 H ⟨Nat.le_of_ble_eq_true rfl, Nat.le_of_ble_eq_true rfl⟩ (Nat.le_of_ble_eq_true rfl) dX5_free_2 (fun u2 r1 H => ?_)
  refine z_if_eq (tgt := 11) X dX5_free_5 (by decide) (fun q3 => ?_) (fun q3 => ?_)
  · have H := H.1 q3
    refine z_aload_n X dX5_free_11 0 rfl rfl ?_
    refine gf_X5_35 X dX5_free_12 ?_
    refine z_if_eq (tgt := 21) X dX5_free_15 (by decide) (fun q4 => ?_) (fun q4 => ?_)
    · have H := H.1 q4
      refine z_aload_n X dX5_free_21 0 rfl rfl ?_
      refine z_iconst (v := 0) X dX5_free_22 (by decide) ?_
      refine pf_X5_46 X dX5_free_23 H (fun u5 H => ?_)
      refine z_aload_n X dX5_free_26 0 rfl rfl ?_
      refine z_iload_n X dX5_free_27 1 rfl rfl ?_
      refine k_X5_release hh X ml_X5_102 H ⟨Nat.le_of_ble_eq_true rfl, Nat.le_of_ble_eq_true rfl⟩ (Nat.le_of_ble_eq_true rfl) dX5_free_28 (fun u7 r6 H => ?_)
      exact z_iret X dX5_free_31 H
    · have H := H.2 q4
      refine z_bipush (v := -3) X dX5_free_18 (by decide) ?_
      exact z_iret X dX5_free_20 H
  · have H := H.2 q3
    refine z_bipush (v := -2) X dX5_free_8 (by decide) ?_
    exact z_iret X dX5_free_10 H
theorem k_X5_free {g : zE} {κ : zK} {h : zG} (hh : zDM κ h) {u : MS} {Φ : MS → Option Value → Prop} {cc : ByteArray} {nL : Nat} {own : String} {ret : Option FieldType} {rm : Room} {lv : List (Nat × Value)} {pc : Nat} {st : List Value} {idx N : Nat} {a1 : Int32} {P : MS → Int32 → Prop} (X : zC g κ (hsM h) (wM κ h) cc nL own ret rm) (hml : Cond.methodLink own idx yX5_free ∈ zT) (H : w_X5_free N u a1 P) (hR : 4 + 1 ≤ rm.frames ∧ 8 + (2 + 11) + 93 ≤ rm.locals) (hroom : (st.map fun v => v.category).sum ≤ 8) (d : decode cc pc = .ok (.invokevirtual idx, 3)) (kk : ∀ u1 v, P u1 v → zJ g κ (hsM h) (wM κ h) Φ nL u1 lv (pc + 3) (.int v :: st)) : zJ g κ (hsM h) (wM κ h) Φ nL u lv pc (.int a1 :: .ref h.1 :: st) := z_callV (As := [.int a1]) X yy_X5_free hml im_X5_free se_X5_free (c_X5_free hh N u a1 P H) 4 0 rfl rfl rfl ⟨rfl, rfl⟩ hR rfl hroom d (fun u1 r hz => by obtain ⟨v, hr, hP⟩ := hz; subst hr; exact kk u1 v hP)
def w_X5_moved_52 (N : Nat) (P : MS → Int32 → Prop) : Nat → MS → Int32 → Int32 → Int32 → Int32 → Prop
  | 0, _, _, _, _, _ => False
  | n + 1, u, x1, x2, x4, x5 => ((x5 < x2 → (vp_in (x1 + x5) 2048 ∧ (vp_in (x4 + x5) 2048 ∧ zlet (sW u.1 (vp_updL u.1.1 ((x4 + x5)).toNatClampNeg (u.1.1 ((x1 + x5)).toNatClampNeg)), u.2) fun u16 => (w_X5_moved_52 N P n u16 x1 x2 x4 (x5 + (1 : Int32)))))) ∧ (¬ x5 < x2 → (w_X5_release N u x1 fun u13 r12 => (P u13 x4))))
def w_X5_moved (N : Nat) (u : MS) (a1 : Int32) (a2 : Int32) (a3 : Int32) (P : MS → Int32 → Prop) : Prop := (w_X5_lookFor N u a3 fun u2 r1 => ((r1 = 0 → (zlet (sRf u2.1 ((u2.1.2.2.2.2.1) + (1 : Int32)), u2.2) fun u17 => (P u17 (-1 : Int32)))) ∧ (¬ r1 = 0 → (zlet (sMv u2.1 (0 : Int32), u2.2) fun u4 => (w_X5_leave N u4 r1 fun u6 => (w_X5_words N u6 r1 fun u8 r7 => (w_X5_take N u8 r1 r7 a3 (0 : Int64) fun u10 => (w_X5_moved_52 N P N u10 a1 a2 r1 (0 : Int32)))))))))
set_option maxHeartbeats 4000000 in
set_option maxRecDepth 100000 in
theorem j_X5_moved_52 {κ : zK} {h : zG} (hh : zDM κ h) (N : Nat) {g : zE} (X : zC g κ (hsM h) (wM κ h) cX5_moved 6 RX5 (some .int) { frames := 4, cells := 0, slots := 0, locals := 93 }) (P : MS → Int32 → Prop) : ∀ (n : Nat) (u : MS) (x1 : Int32) (x2 : Int32) (x4 : Int32) (x5 : Int32), w_X5_moved_52 N P n u x1 x2 x4 x5 → zJ g κ (hsM h) (wM κ h) (zi P) 6 u [(0, .ref h.1), (1, .int x1), (2, .int x2), (4, .int x4), (5, .int x5)] 52 [] := by
  intro n
  induction n with
  | zero => intro u x1 x2 x4 x5 H; exact absurd H (by rw [w_X5_moved_52]; exact id)
  | succ n ih =>
    intro u x1 x2 x4 x5 H
    rw [w_X5_moved_52] at H
    refine z_iload X dX5_moved_52 4 rfl ?_
    refine z_iload_n X dX5_moved_54 2 rfl rfl ?_
    refine z_icmp_ge (tgt := 83) X dX5_moved_55 (by decide) (fun q11 => ?_) (fun q11 => ?_)
    · have H := H.2 q11
      refine z_aload_n X dX5_moved_83 0 rfl rfl ?_
      refine z_iload_n X dX5_moved_84 1 rfl rfl ?_
      refine k_X5_release hh X ml_X5_102 H ⟨Nat.le_of_ble_eq_true rfl, Nat.le_of_ble_eq_true rfl⟩ (Nat.le_of_ble_eq_true rfl) dX5_moved_85 (fun u13 r12 H => ?_)
      refine z_pop X dX5_moved_88 rfl ?_
      refine z_iload X dX5_moved_89 3 rfl ?_
      exact z_iret X dX5_moved_91 H
    · have H := H.1 q11
      refine z_aload_n X dX5_moved_58 0 rfl rfl ?_
      refine gf_X5_7 X dX5_moved_59 ?_
      refine z_iload X dX5_moved_62 3 rfl ?_
      refine z_iload X dX5_moved_64 4 rfl ?_
      refine z_iadd X dX5_moved_66 ?_
      refine z_aload_n X dX5_moved_67 0 rfl rfl ?_
      refine gf_X5_7 X dX5_moved_68 ?_
      refine z_iload_n X dX5_moved_71 1 rfl rfl ?_
      refine z_iload X dX5_moved_72 4 rfl ?_
      refine z_iadd X dX5_moved_74 ?_
      obtain ⟨q14, H⟩ := H
      refine ar_pool X q14 dX5_moved_75 ?_
      obtain ⟨q15, H⟩ := H
      refine aw_pool X q15 dX5_moved_76 H (fun u16 H => ?_)
      refine z_iinc (k := 4) (v := (x5 + (1 : Int32))) (lv' := [(5, .int (x5 + (1 : Int32))), (0, .ref h.1), (1, .int x1), (2, .int x2), (4, .int x4)]) X dX5_moved_77 rfl rfl (by decide) rfl ?_
      refine z_goto (tgt := 52) X dX5_moved_80 (by decide) ?_
      exact z_sub (ih u16 x1 x2 x4 (x5 + (1 : Int32)) H) [1, 2, 3, 4, 0] rfl
set_option maxHeartbeats 4000000 in
set_option maxRecDepth 100000 in
theorem c_X5_moved {l : Launch} {κ : zK} {h : zG} (hh : zDM κ h) (N : Nat) (u : MS) (a1 : Int32) (a2 : Int32) (a3 : Int32) (P : MS → Int32 → Prop) (H : w_X5_moved N u a1 a2 a3 P) : zM l κ (hsM h) (wM κ h) yX5_moved cX5_moved 6 (some .int) { frames := 4, cells := 0, slots := 0, locals := 93 } [.ref h.1, .int a1, .int a2, .int a3] u (zi P) := by
  refine z_met (own := RX5) (by decide) rfl (Nat.le_of_ble_eq_true rfl) hh (fun g X => ?_)
  show zJ g κ (hsM h) (wM κ h) (zi P) 6 u [(0, .ref h.1), (1, .int a1), (2, .int a2), (3, .int a3)] 0 []
  unfold w_X5_moved at H
  refine z_aload_n X dX5_moved_0 0 rfl rfl ?_
  refine z_iload_n X dX5_moved_1 3 rfl rfl ?_
  refine k_X5_lookFor hh X ml_X5_86 H ⟨Nat.le_of_ble_eq_true rfl, Nat.le_of_ble_eq_true rfl⟩ (Nat.le_of_ble_eq_true rfl) dX5_moved_2 (fun u2 r1 H => ?_)
  refine z_istore (lv' := [(4, .int r1), (0, .ref h.1), (1, .int a1), (2, .int a2), (3, .int a3)]) X dX5_moved_5 (by decide) rfl ?_
  refine z_iload X dX5_moved_7 0 rfl ?_
  refine z_if_ne (tgt := 24) X dX5_moved_9 (by decide) (fun q3 => ?_) (fun q3 => ?_)
  · have H := H.2 q3
    refine z_aload_n X dX5_moved_24 1 rfl rfl ?_
    refine z_iconst (v := 0) X dX5_moved_25 (by decide) ?_
    refine pf_X5_46 X dX5_moved_26 H (fun u4 H => ?_)
    refine z_aload_n X dX5_moved_29 1 rfl rfl ?_
    refine z_iload X dX5_moved_30 0 rfl ?_
    refine k_X5_leave hh X ml_X5_89 H ⟨Nat.le_of_ble_eq_true rfl, Nat.le_of_ble_eq_true rfl⟩ (Nat.le_of_ble_eq_true rfl) dX5_moved_32 (fun u6 H => ?_)
    refine z_aload_n X dX5_moved_35 1 rfl rfl ?_
    refine z_iload X dX5_moved_36 0 rfl ?_
    refine z_aload_n X dX5_moved_38 1 rfl rfl ?_
    refine z_iload X dX5_moved_39 0 rfl ?_
    refine k_X5_words hh X ml_X5_66 H ⟨Nat.le_of_ble_eq_true rfl, Nat.le_of_ble_eq_true rfl⟩ (Nat.le_of_ble_eq_true rfl) dX5_moved_41 (fun u8 r7 H => ?_)
    refine z_iload_n X dX5_moved_44 4 rfl rfl ?_
    refine z_lconst (v := 0) X dX5_moved_45 (by decide) ?_
    refine k_X5_take hh X ml_X5_95 H ⟨Nat.le_of_ble_eq_true rfl, Nat.le_of_ble_eq_true rfl⟩ (Nat.le_of_ble_eq_true rfl) dX5_moved_46 (fun u10 H => ?_)
    refine z_iconst (v := 0) X dX5_moved_49 (by decide) ?_
    refine z_istore (lv' := [(5, .int (0 : Int32)), (4, .int r1), (0, .ref h.1), (1, .int a1), (2, .int a2), (3, .int a3)]) X dX5_moved_50 (by decide) rfl ?_
    exact z_sub (j_X5_moved_52 hh N X P N u10 a1 a2 r1 (0 : Int32) H) [2, 3, 4, 1, 0] rfl
  · have H := H.1 q3
    refine z_aload_n X dX5_moved_12 1 rfl rfl ?_
    refine z_dup X dX5_moved_13 rfl ?_
    refine gf_X5_39 X dX5_moved_14 ?_
    refine z_iconst (v := 1) X dX5_moved_17 (by decide) ?_
    refine z_iadd X dX5_moved_18 ?_
    refine pf_X5_39 X dX5_moved_19 H (fun u17 H => ?_)
    refine z_iconst (v := -1) X dX5_moved_22 (by decide) ?_
    exact z_iret X dX5_moved_23 H
theorem k_X5_moved {g : zE} {κ : zK} {h : zG} (hh : zDM κ h) {u : MS} {Φ : MS → Option Value → Prop} {cc : ByteArray} {nL : Nat} {own : String} {ret : Option FieldType} {rm : Room} {lv : List (Nat × Value)} {pc : Nat} {st : List Value} {idx N : Nat} {a1 : Int32} {a2 : Int32} {a3 : Int32} {P : MS → Int32 → Prop} (X : zC g κ (hsM h) (wM κ h) cc nL own ret rm) (hml : Cond.methodLink own idx yX5_moved ∈ zT) (H : w_X5_moved N u a1 a2 a3 P) (hR : 4 + 1 ≤ rm.frames ∧ 8 + (6 + 11) + 93 ≤ rm.locals) (hroom : (st.map fun v => v.category).sum ≤ 8) (d : decode cc pc = .ok (.invokevirtual idx, 3)) (kk : ∀ u1 v, P u1 v → zJ g κ (hsM h) (wM κ h) Φ nL u1 lv (pc + 3) (.int v :: st)) : zJ g κ (hsM h) (wM κ h) Φ nL u lv pc (.int a3 :: .int a2 :: .int a1 :: .ref h.1 :: st) := z_callV (As := [.int a1, .int a2, .int a3]) X yy_X5_moved hml im_X5_moved se_X5_moved (c_X5_moved hh N u a1 a2 a3 P H) 4 0 rfl rfl rfl ⟨rfl, rfl⟩ hR rfl hroom d (fun u1 r hz => by obtain ⟨v, hr, hP⟩ := hz; subst hr; exact kk u1 v hP)
def w_X5_resize_157 (N : Nat) (P : MS → Int32 → Prop) (u : MS) (x1 : Int32) (x3 : Int32) (x5 : Int64) (x9 : Int32) : Prop := (w_X5_take N u x1 x9 x3 x5 fun u22 => (P u22 x1))
def w_X5_resize_146 (N : Nat) (P : MS → Int32 → Prop) (u : MS) (x1 : Int32) (x3 : Int32) (x5 : Int64) (x7 : Int32) (x8 : Int32) (x9 : Int32) : Prop := ((x8 = 0 → (w_X5_resize_157 N P u x1 x3 x5 x9)) ∧ (¬ x8 = 0 → (w_X5_leave N u x7 fun u24 => (w_X5_resize_157 N P u24 x1 x3 x5 x9))))
def w_X5_resize_108 (N : Nat) (P : MS → Int32 → Prop) (u : MS) (x1 : Int32) (x3 : Int32) (x4 : Int32) (x5 : Int64) (x7 : Int32) (x8 : Int32) (y0 : Int32) : Prop := ((y0 < x3 → (w_X5_moved N u x1 x4 x3 fun u27 r26 => (P u27 r26))) ∧ (¬ y0 < x3 → (zlet (sMv u.1 (0 : Int32), u.2) fun u18 => ((x4 < x3 → (w_X5_resize_146 N P u18 x1 x3 x5 x7 x8 y0)) ∧ (¬ x4 < x3 → (((x4 - x3) < (4 : Int32) → (P u18 x1)) ∧ (¬ (x4 - x3) < (4 : Int32) → (w_X5_resize_146 N P u18 x1 x3 x5 x7 x8 y0))))))))
def w_X5_resize_85 (N : Nat) (P : MS → Int32 → Prop) (u : MS) (x1 : Int32) (x3 : Int32) (x4 : Int32) (x5 : Int64) (x7 : Int32) (y0 : Int32) : Prop := ((y0 = 0 → (w_X5_resize_108 N P u x1 x3 x4 x5 x7 y0 x4)) ∧ (¬ y0 = 0 → (w_X5_words N u x7 fun u29 r28 => (w_X5_resize_108 N P u29 x1 x3 x4 x5 x7 y0 ((x4 + (1 : Int32)) + r28)))))
def w_X5_resize_84 (N : Nat) (P : MS → Int32 → Prop) (u : MS) (x1 : Int32) (x3 : Int32) (x4 : Int32) (x5 : Int64) (x7 : Int32) : Prop := (w_X5_resize_85 N P u x1 x3 x4 x5 x7 (0 : Int32))
def w_X5_resize (N : Nat) (u : MS) (a1 : Int32) (a2 : Int32) (P : MS → Int32 → Prop) : Prop := (w_X5_isBad N u a1 fun u2 r1 => ((r1 = 0 → (w_X5_in N (a2).toInt64 (1 : Int64) (2048 : Int64) fun r4 => ((r4 = 0 → (P u2 (-2 : Int32))) ∧ (¬ r4 = 0 → (((u2.1.2.2.2.2.2.1) = 0 → (w_X5_least N a2 fun r8 => (w_X5_words N u2 a1 fun u11 r10 => (vp_in (a1 - (1 : Int32)) 2048 ∧ (w_X5_behind N u11 a1 fun u14 r13 => ((0 < r13 → (w_X5_isFree N u14 r13 fun u31 r30 => ((r30 = 0 → (w_X5_resize_84 N P u31 a1 r8 r10 ((u11.1.1 ((a1 - (1 : Int32))).toNatClampNeg) &&& (2 : Int64)) r13)) ∧ (¬ r30 = 0 → (w_X5_resize_85 N P u31 a1 r8 r10 ((u11.1.1 ((a1 - (1 : Int32))).toNatClampNeg) &&& (2 : Int64)) r13 (1 : Int32)))))) ∧ (¬ 0 < r13 → (w_X5_resize_84 N P u14 a1 r8 r10 ((u11.1.1 ((a1 - (1 : Int32))).toNatClampNeg) &&& (2 : Int64)) r13)))))))) ∧ (¬ (u2.1.2.2.2.2.2.1) = 0 → (P u2 (-3 : Int32)))))))) ∧ (¬ r1 = 0 → (P u2 (-2 : Int32)))))
set_option maxHeartbeats 4000000 in
set_option maxRecDepth 100000 in
theorem j_X5_resize_157 {κ : zK} {h : zG} (hh : zDM κ h) (N : Nat) {g : zE} (X : zC g κ (hsM h) (wM κ h) cX5_resize 10 RX5 (some .int) { frames := 5, cells := 0, slots := 0, locals := 118 }) (P : MS → Int32 → Prop) (u : MS) (x1 : Int32) (x3 : Int32) (x5 : Int64) (x9 : Int32) (H : w_X5_resize_157 N P u x1 x3 x5 x9) : zJ g κ (hsM h) (wM κ h) (zi P) 10 u [(0, .ref h.1), (1, .int x1), (3, .int x3), (5, .long x5), (9, .int x9)] 157 [] := by
  unfold w_X5_resize_157 at H
  refine z_aload_n X dX5_resize_157 0 rfl rfl ?_
  refine z_iload_n X dX5_resize_158 1 rfl rfl ?_
  refine z_iload X dX5_resize_159 4 rfl ?_
  refine z_iload_n X dX5_resize_161 2 rfl rfl ?_
  refine z_lload X dX5_resize_162 3 rfl ?_
  refine k_X5_take hh X ml_X5_95 H ⟨Nat.le_of_ble_eq_true rfl, Nat.le_of_ble_eq_true rfl⟩ (Nat.le_of_ble_eq_true rfl) dX5_resize_164 (fun u22 H => ?_)
  refine z_iload_n X dX5_resize_167 1 rfl rfl ?_
  exact z_iret X dX5_resize_168 H
set_option maxHeartbeats 4000000 in
set_option maxRecDepth 100000 in
theorem j_X5_resize_146 {κ : zK} {h : zG} (hh : zDM κ h) (N : Nat) {g : zE} (X : zC g κ (hsM h) (wM κ h) cX5_resize 10 RX5 (some .int) { frames := 5, cells := 0, slots := 0, locals := 118 }) (P : MS → Int32 → Prop) (u : MS) (x1 : Int32) (x3 : Int32) (x5 : Int64) (x7 : Int32) (x8 : Int32) (x9 : Int32) (H : w_X5_resize_146 N P u x1 x3 x5 x7 x8 x9) : zJ g κ (hsM h) (wM κ h) (zi P) 10 u [(0, .ref h.1), (1, .int x1), (3, .int x3), (5, .long x5), (7, .int x7), (8, .int x8), (9, .int x9)] 146 [] := by
  unfold w_X5_resize_146 at H
  refine z_iload X dX5_resize_146 5 rfl ?_
  refine z_if_eq (tgt := 157) X dX5_resize_148 (by decide) (fun q20 => ?_) (fun q20 => ?_)
  · have H := H.1 q20
    exact z_sub (j_X5_resize_157 hh N X P u x1 x3 x5 x9 H) [0, 1, 2, 3, 6] rfl
  · have H := H.2 q20
    refine z_aload_n X dX5_resize_151 0 rfl rfl ?_
    refine z_iload X dX5_resize_152 4 rfl ?_
    refine k_X5_leave hh X ml_X5_89 H ⟨Nat.le_of_ble_eq_true rfl, Nat.le_of_ble_eq_true rfl⟩ (Nat.le_of_ble_eq_true rfl) dX5_resize_154 (fun u24 H => ?_)
    exact z_sub (j_X5_resize_157 hh N X P u24 x1 x3 x5 x9 H) [0, 1, 2, 3, 6] rfl
set_option maxHeartbeats 4000000 in
set_option maxRecDepth 100000 in
theorem j_X5_resize_108 {κ : zK} {h : zG} (hh : zDM κ h) (N : Nat) {g : zE} (X : zC g κ (hsM h) (wM κ h) cX5_resize 10 RX5 (some .int) { frames := 5, cells := 0, slots := 0, locals := 118 }) (P : MS → Int32 → Prop) (u : MS) (x1 : Int32) (x3 : Int32) (x4 : Int32) (x5 : Int64) (x7 : Int32) (x8 : Int32) (y0 : Int32) (H : w_X5_resize_108 N P u x1 x3 x4 x5 x7 x8 y0) : zJ g κ (hsM h) (wM κ h) (zi P) 10 u [(0, .ref h.1), (1, .int x1), (3, .int x3), (4, .int x4), (5, .long x5), (7, .int x7), (8, .int x8)] 108 [.int y0] := by
  unfold w_X5_resize_108 at H
  refine z_istore (lv' := [(9, .int y0), (0, .ref h.1), (1, .int x1), (3, .int x3), (4, .int x4), (5, .long x5), (7, .int x7), (8, .int x8)]) X dX5_resize_108 (by decide) rfl ?_
  refine z_iload_n X dX5_resize_110 3 rfl rfl ?_
  refine z_iload X dX5_resize_111 0 rfl ?_
  refine z_icmp_le (tgt := 125) X dX5_resize_113 (by decide) (fun q17 => ?_) (fun q17 => ?_)
  · have H := H.2 q17
    refine z_aload_n X dX5_resize_125 1 rfl rfl ?_
    refine z_iconst (v := 0) X dX5_resize_126 (by decide) ?_
    refine pf_X5_46 X dX5_resize_127 H (fun u18 H => ?_)
    refine z_iload_n X dX5_resize_130 3 rfl rfl ?_
    refine z_iload X dX5_resize_131 4 rfl ?_
    refine z_icmp_gt (tgt := 146) X dX5_resize_133 (by decide) (fun q19 => ?_) (fun q19 => ?_)
    · have H := H.1 q19
      exact z_sub (j_X5_resize_146 hh N X P u18 x1 x3 x5 x7 x8 y0 H) [1, 2, 3, 5, 6, 7, 0] rfl
    · have H := H.2 q19
      refine z_iload X dX5_resize_136 4 rfl ?_
      refine z_iload_n X dX5_resize_138 3 rfl rfl ?_
      refine z_isub X dX5_resize_139 ?_
      refine z_iconst (v := 4) X dX5_resize_140 (by decide) ?_
      refine z_icmp_ge (tgt := 146) X dX5_resize_141 (by decide) (fun q25 => ?_) (fun q25 => ?_)
      · have H := H.2 q25
        exact z_sub (j_X5_resize_146 hh N X P u18 x1 x3 x5 x7 x8 y0 H) [1, 2, 3, 5, 6, 7, 0] rfl
      · have H := H.1 q25
        refine z_iload_n X dX5_resize_144 2 rfl rfl ?_
        exact z_iret X dX5_resize_145 H
  · have H := H.1 q17
    refine z_aload_n X dX5_resize_116 1 rfl rfl ?_
    refine z_iload_n X dX5_resize_117 2 rfl rfl ?_
    refine z_iload X dX5_resize_118 4 rfl ?_
    refine z_iload_n X dX5_resize_120 3 rfl rfl ?_
    refine k_X5_moved hh X ml_X5_105 H ⟨Nat.le_of_ble_eq_true rfl, Nat.le_of_ble_eq_true rfl⟩ (Nat.le_of_ble_eq_true rfl) dX5_resize_121 (fun u27 r26 H => ?_)
    exact z_iret X dX5_resize_124 H
set_option maxHeartbeats 4000000 in
set_option maxRecDepth 100000 in
theorem j_X5_resize_85 {κ : zK} {h : zG} (hh : zDM κ h) (N : Nat) {g : zE} (X : zC g κ (hsM h) (wM κ h) cX5_resize 10 RX5 (some .int) { frames := 5, cells := 0, slots := 0, locals := 118 }) (P : MS → Int32 → Prop) (u : MS) (x1 : Int32) (x3 : Int32) (x4 : Int32) (x5 : Int64) (x7 : Int32) (y0 : Int32) (H : w_X5_resize_85 N P u x1 x3 x4 x5 x7 y0) : zJ g κ (hsM h) (wM κ h) (zi P) 10 u [(0, .ref h.1), (1, .int x1), (3, .int x3), (4, .int x4), (5, .long x5), (7, .int x7)] 85 [.int y0] := by
  unfold w_X5_resize_85 at H
  refine z_istore (lv' := [(8, .int y0), (0, .ref h.1), (1, .int x1), (3, .int x3), (4, .int x4), (5, .long x5), (7, .int x7)]) X dX5_resize_85 (by decide) rfl ?_
  refine z_iload X dX5_resize_87 0 rfl ?_
  refine z_if_eq (tgt := 106) X dX5_resize_89 (by decide) (fun q16 => ?_) (fun q16 => ?_)
  · have H := H.1 q16
    refine z_iload X dX5_resize_106 4 rfl ?_
    exact z_sub (j_X5_resize_108 hh N X P u x1 x3 x4 x5 x7 y0 x4 H) [1, 2, 3, 4, 5, 6, 0] rfl
  · have H := H.2 q16
    refine z_iload X dX5_resize_92 4 rfl ?_
    refine z_iconst (v := 1) X dX5_resize_94 (by decide) ?_
    refine z_iadd X dX5_resize_95 ?_
    refine z_aload_n X dX5_resize_96 1 rfl rfl ?_
    refine z_iload X dX5_resize_97 6 rfl ?_
    refine k_X5_words hh X ml_X5_66 H ⟨Nat.le_of_ble_eq_true rfl, Nat.le_of_ble_eq_true rfl⟩ (Nat.le_of_ble_eq_true rfl) dX5_resize_99 (fun u29 r28 H => ?_)
    refine z_iadd X dX5_resize_102 ?_
    refine z_goto (tgt := 108) X dX5_resize_103 (by decide) ?_
    exact z_sub (j_X5_resize_108 hh N X P u29 x1 x3 x4 x5 x7 y0 ((x4 + (1 : Int32)) + r28) H) [1, 2, 3, 4, 5, 6, 0] rfl
set_option maxHeartbeats 4000000 in
set_option maxRecDepth 100000 in
theorem j_X5_resize_84 {κ : zK} {h : zG} (hh : zDM κ h) (N : Nat) {g : zE} (X : zC g κ (hsM h) (wM κ h) cX5_resize 10 RX5 (some .int) { frames := 5, cells := 0, slots := 0, locals := 118 }) (P : MS → Int32 → Prop) (u : MS) (x1 : Int32) (x3 : Int32) (x4 : Int32) (x5 : Int64) (x7 : Int32) (H : w_X5_resize_84 N P u x1 x3 x4 x5 x7) : zJ g κ (hsM h) (wM κ h) (zi P) 10 u [(0, .ref h.1), (1, .int x1), (3, .int x3), (4, .int x4), (5, .long x5), (7, .int x7)] 84 [] := by
  unfold w_X5_resize_84 at H
  refine z_iconst (v := 0) X dX5_resize_84 (by decide) ?_
  exact z_sub (j_X5_resize_85 hh N X P u x1 x3 x4 x5 x7 (0 : Int32) H) [0, 1, 2, 3, 4, 5] rfl
set_option maxHeartbeats 4000000 in
set_option maxRecDepth 100000 in
theorem c_X5_resize {l : Launch} {κ : zK} {h : zG} (hh : zDM κ h) (N : Nat) (u : MS) (a1 : Int32) (a2 : Int32) (P : MS → Int32 → Prop) (H : w_X5_resize N u a1 a2 P) : zM l κ (hsM h) (wM κ h) yX5_resize cX5_resize 10 (some .int) { frames := 5, cells := 0, slots := 0, locals := 118 } [.ref h.1, .int a1, .int a2] u (zi P) := by
  refine z_met (own := RX5) (by decide) rfl (Nat.le_of_ble_eq_true rfl) hh (fun g X => ?_)
  show zJ g κ (hsM h) (wM κ h) (zi P) 10 u [(0, .ref h.1), (1, .int a1), (2, .int a2)] 0 []
  unfold w_X5_resize at H
  refine z_aload_n X dX5_resize_0 0 rfl rfl ?_
  refine z_iload_n X dX5_resize_1 1 rfl rfl ?_
  refine k_X5_isBad hh X ml_X5_99 H ⟨Nat.le_of_ble_eq_true rfl, Nat.le_of_ble_eq_true rfl⟩ (Nat.le_of_ble_eq_true rfl) dX5_resize_2 (fun u2 r1 H => ?_)
  refine z_if_ne (tgt := 20) X dX5_resize_5 (by decide) (fun q3 => ?_) (fun q3 => ?_)
  · have H := H.2 q3
    refine z_bipush (v := -2) X dX5_resize_20 (by decide) ?_
    exact z_iret X dX5_resize_22 H
  · have H := H.1 q3
    refine z_iload_n X dX5_resize_8 2 rfl rfl ?_
    refine z_i2l X dX5_resize_9 ?_
    refine z_lconst (v := 1) X dX5_resize_10 (by decide) ?_
    refine z_ldc2 X kl_X5_51 dX5_resize_11 ?_
    refine k_X5_in X ml_X5_53 H ⟨Nat.le_of_ble_eq_true rfl, Nat.le_of_ble_eq_true rfl⟩ (Nat.le_of_ble_eq_true rfl) dX5_resize_14 (fun r4 H => ?_)
    refine z_if_ne (tgt := 23) X dX5_resize_17 (by decide) (fun q6 => ?_) (fun q6 => ?_)
    · have H := H.2 q6
      refine z_aload_n X dX5_resize_23 0 rfl rfl ?_
      refine gf_X5_35 X dX5_resize_24 ?_
      refine z_if_eq (tgt := 33) X dX5_resize_27 (by decide) (fun q7 => ?_) (fun q7 => ?_)
      · have H := H.1 q7
        refine z_iload_n X dX5_resize_33 2 rfl rfl ?_
        refine k_X5_least X ml_X5_92 H ⟨Nat.le_of_ble_eq_true rfl, Nat.le_of_ble_eq_true rfl⟩ (Nat.le_of_ble_eq_true rfl) dX5_resize_34 (fun r8 H => ?_)
        refine z_istore_n (lv' := [(3, .int r8), (0, .ref h.1), (1, .int a1), (2, .int a2)]) X dX5_resize_37 rfl (by decide) rfl ?_
        refine z_aload_n X dX5_resize_38 1 rfl rfl ?_
        refine z_iload_n X dX5_resize_39 2 rfl rfl ?_
        refine k_X5_words hh X ml_X5_66 H ⟨Nat.le_of_ble_eq_true rfl, Nat.le_of_ble_eq_true rfl⟩ (Nat.le_of_ble_eq_true rfl) dX5_resize_40 (fun u11 r10 H => ?_)
        refine z_istore (lv' := [(4, .int r10), (3, .int r8), (0, .ref h.1), (1, .int a1), (2, .int a2)]) X dX5_resize_43 (by decide) rfl ?_
        refine z_aload_n X dX5_resize_45 2 rfl rfl ?_
        refine gf_X5_7 X dX5_resize_46 ?_
        refine z_iload_n X dX5_resize_49 3 rfl rfl ?_
        refine z_iconst (v := 1) X dX5_resize_50 (by decide) ?_
        refine z_isub X dX5_resize_51 ?_
        obtain ⟨q12, H⟩ := H
        refine ar_pool X q12 dX5_resize_52 ?_
        refine z_ldc2 X kl_X5_69 dX5_resize_53 ?_
        refine z_land X dX5_resize_56 ?_
        refine z_lstore (lv' := [(5, .long ((u11.1.1 ((a1 - (1 : Int32))).toNatClampNeg) &&& (2 : Int64))), (4, .int r10), (3, .int r8), (0, .ref h.1), (1, .int a1), (2, .int a2)]) X dX5_resize_57 (by decide) rfl ?_
        refine z_aload_n X dX5_resize_59 3 rfl rfl ?_
        refine z_iload_n X dX5_resize_60 4 rfl rfl ?_
        refine k_X5_behind hh X ml_X5_75 H ⟨Nat.le_of_ble_eq_true rfl, Nat.le_of_ble_eq_true rfl⟩ (Nat.le_of_ble_eq_true rfl) dX5_resize_61 (fun u14 r13 H => ?_)
        refine z_istore (lv' := [(7, .int r13), (5, .long ((u11.1.1 ((a1 - (1 : Int32))).toNatClampNeg) &&& (2 : Int64))), (4, .int r10), (3, .int r8), (0, .ref h.1), (1, .int a1), (2, .int a2)]) X dX5_resize_64 (by decide) rfl ?_
        refine z_iload X dX5_resize_66 0 rfl ?_
        refine z_if_le (tgt := 84) X dX5_resize_68 (by decide) (fun q15 => ?_) (fun q15 => ?_)
        · have H := H.2 q15
          exact z_sub (j_X5_resize_84 hh N X P u14 a1 r8 r10 ((u11.1.1 ((a1 - (1 : Int32))).toNatClampNeg) &&& (2 : Int64)) r13 H) [4, 5, 3, 2, 1, 0] rfl
        · have H := H.1 q15
          refine z_aload_n X dX5_resize_71 4 rfl rfl ?_
          refine z_iload X dX5_resize_72 0 rfl ?_
          refine k_X5_isFree hh X ml_X5_82 H ⟨Nat.le_of_ble_eq_true rfl, Nat.le_of_ble_eq_true rfl⟩ (Nat.le_of_ble_eq_true rfl) dX5_resize_74 (fun u31 r30 H => ?_)
          refine z_if_eq (tgt := 84) X dX5_resize_77 (by decide) (fun q32 => ?_) (fun q32 => ?_)
          · have H := H.1 q32
            exact z_sub (j_X5_resize_84 hh N X P u31 a1 r8 r10 ((u11.1.1 ((a1 - (1 : Int32))).toNatClampNeg) &&& (2 : Int64)) r13 H) [4, 5, 3, 2, 1, 0] rfl
          · have H := H.2 q32
            refine z_iconst (v := 1) X dX5_resize_80 (by decide) ?_
            refine z_goto (tgt := 85) X dX5_resize_81 (by decide) ?_
            exact z_sub (j_X5_resize_85 hh N X P u31 a1 r8 r10 ((u11.1.1 ((a1 - (1 : Int32))).toNatClampNeg) &&& (2 : Int64)) r13 (1 : Int32) H) [4, 5, 3, 2, 1, 0] rfl
      · have H := H.2 q7
        refine z_bipush (v := -3) X dX5_resize_30 (by decide) ?_
        exact z_iret X dX5_resize_32 H
    · have H := H.1 q6
      refine z_bipush (v := -2) X dX5_resize_20 (by decide) ?_
      exact z_iret X dX5_resize_22 H
theorem k_X5_resize {g : zE} {κ : zK} {h : zG} (hh : zDM κ h) {u : MS} {Φ : MS → Option Value → Prop} {cc : ByteArray} {nL : Nat} {own : String} {ret : Option FieldType} {rm : Room} {lv : List (Nat × Value)} {pc : Nat} {st : List Value} {idx N : Nat} {a1 : Int32} {a2 : Int32} {P : MS → Int32 → Prop} (X : zC g κ (hsM h) (wM κ h) cc nL own ret rm) (hml : Cond.methodLink own idx yX5_resize ∈ zT) (H : w_X5_resize N u a1 a2 P) (hR : 5 + 1 ≤ rm.frames ∧ 8 + (10 + 11) + 118 ≤ rm.locals) (hroom : (st.map fun v => v.category).sum ≤ 8) (d : decode cc pc = .ok (.invokevirtual idx, 3)) (kk : ∀ u1 v, P u1 v → zJ g κ (hsM h) (wM κ h) Φ nL u1 lv (pc + 3) (.int v :: st)) : zJ g κ (hsM h) (wM κ h) Φ nL u lv pc (.int a2 :: .int a1 :: .ref h.1 :: st) := z_callV (As := [.int a1, .int a2]) X yy_X5_resize hml im_X5_resize se_X5_resize (c_X5_resize hh N u a1 a2 P H) 4 0 rfl rfl rfl ⟨rfl, rfl⟩ hR rfl hroom d (fun u1 r hz => by obtain ⟨v, hr, hP⟩ := hz; subst hr; exact kk u1 v hP)
def w_X5_grow_109 (N : Nat) (P : MS → Int32 → Prop) (u : MS) (x3 : Int32) (y0 : Int64) (y1 : Int64) (y2 : Int32) : Prop := (vp_in y2 2048 ∧ zlet (sW u.1 (vp_updL u.1.1 (y2).toNatClampNeg (y1 + y0)), u.2) fun u15 => (w_X5_release N u15 (x3 + (1 : Int32)) fun u17 r16 => (P u17 (u17.1.2.1))))
def w_X5_grow_44 (N : Nat) (P : MS → Int32 → Prop) : Nat → MS → Int32 → Int32 → Prop
  | 0, _, _, _ => False
  | n + 1, u, x1, x2 => (w_X5_behind N u x2 fun u7 r6 => ((0 < r6 → (w_X5_behind N u7 x2 fun u19 r18 => (w_X5_grow_44 N P n u19 x1 r18))) ∧ (¬ 0 < r6 → (zlet (sMv u7.1 (0 : Int32), u7.2) fun u9 => (zlet (sN u9.1 ((u9.1.2.1) + x1), u9.2) fun u10 => (w_X5_isFree N u10 x2 fun u12 r11 => ((r11 = 0 → (w_X5_grow_109 N P u12 (u9.1.2.1) (0 : Int64) ((4 : Int64) * ((x1 - (1 : Int32))).toInt64) (u9.1.2.1))) ∧ (¬ r11 = 0 → (w_X5_grow_109 N P u12 (u9.1.2.1) (2 : Int64) ((4 : Int64) * ((x1 - (1 : Int32))).toInt64) (u9.1.2.1))))))))))
def w_X5_grow (N : Nat) (u : MS) (a1 : Int32) (P : MS → Int32 → Prop) : Prop := (w_X5_in N (a1).toInt64 (4 : Int64) (1024 : Int64) fun r1 => ((r1 = 0 → (P u (-2 : Int32))) ∧ (¬ r1 = 0 → (((u.1.2.2.2.2.2.1) = 0 → (((2048 : Int32) < ((u.1.2.1) + a1) → (P u (-4 : Int32))) ∧ (¬ (2048 : Int32) < ((u.1.2.1) + a1) → (w_X5_grow_44 N P N u a1 (1 : Int32))))) ∧ (¬ (u.1.2.2.2.2.2.1) = 0 → (P u (-3 : Int32)))))))
set_option maxHeartbeats 4000000 in
set_option maxRecDepth 100000 in
theorem j_X5_grow_109 {κ : zK} {h : zG} (hh : zDM κ h) (N : Nat) {g : zE} (X : zC g κ (hsM h) (wM κ h) cX5_grow 4 RX5 (some .int) { frames := 4, cells := 0, slots := 0, locals := 93 }) (P : MS → Int32 → Prop) (u : MS) (x3 : Int32) (y0 : Int64) (y1 : Int64) (y2 : Int32) (H : w_X5_grow_109 N P u x3 y0 y1 y2) : zJ g κ (hsM h) (wM κ h) (zi P) 4 u [(0, .ref h.1), (3, .int x3)] 109 [.long y0, .long y1, .int y2, .ref h.2.1] := by
  unfold w_X5_grow_109 at H
  refine z_ladd X dX5_grow_109 ?_
  obtain ⟨q14, H⟩ := H
  refine aw_pool X q14 dX5_grow_110 H (fun u15 H => ?_)
  refine z_aload_n X dX5_grow_111 0 rfl rfl ?_
  refine z_iload_n X dX5_grow_112 1 rfl rfl ?_
  refine z_iconst (v := 1) X dX5_grow_113 (by decide) ?_
  refine z_iadd X dX5_grow_114 ?_
  refine k_X5_release hh X ml_X5_102 H ⟨Nat.le_of_ble_eq_true rfl, Nat.le_of_ble_eq_true rfl⟩ (Nat.le_of_ble_eq_true rfl) dX5_grow_115 (fun u17 r16 H => ?_)
  refine z_pop X dX5_grow_118 rfl ?_
  refine z_aload_n X dX5_grow_119 0 rfl rfl ?_
  refine gf_X5_32 X dX5_grow_120 ?_
  exact z_iret X dX5_grow_123 H
set_option maxHeartbeats 4000000 in
set_option maxRecDepth 100000 in
theorem j_X5_grow_44 {κ : zK} {h : zG} (hh : zDM κ h) (N : Nat) {g : zE} (X : zC g κ (hsM h) (wM κ h) cX5_grow 4 RX5 (some .int) { frames := 4, cells := 0, slots := 0, locals := 93 }) (P : MS → Int32 → Prop) : ∀ (n : Nat) (u : MS) (x1 : Int32) (x2 : Int32), w_X5_grow_44 N P n u x1 x2 → zJ g κ (hsM h) (wM κ h) (zi P) 4 u [(0, .ref h.1), (1, .int x1), (2, .int x2)] 44 [] := by
  intro n
  induction n with
  | zero => intro u x1 x2 H; exact absurd H (by rw [w_X5_grow_44]; exact id)
  | succ n ih =>
    intro u x1 x2 H
    rw [w_X5_grow_44] at H
    refine z_aload_n X dX5_grow_44 0 rfl rfl ?_
    refine z_iload_n X dX5_grow_45 2 rfl rfl ?_
    refine k_X5_behind hh X ml_X5_75 H ⟨Nat.le_of_ble_eq_true rfl, Nat.le_of_ble_eq_true rfl⟩ (Nat.le_of_ble_eq_true rfl) dX5_grow_46 (fun u7 r6 H => ?_)
    refine z_if_le (tgt := 61) X dX5_grow_49 (by decide) (fun q8 => ?_) (fun q8 => ?_)
    · have H := H.2 q8
      refine z_aload_n X dX5_grow_61 0 rfl rfl ?_
      refine z_iconst (v := 0) X dX5_grow_62 (by decide) ?_
      refine pf_X5_46 X dX5_grow_63 H (fun u9 H => ?_)
      refine z_aload_n X dX5_grow_66 0 rfl rfl ?_
      refine gf_X5_32 X dX5_grow_67 ?_
      refine z_istore_n (lv' := [(3, .int (u9.1.2.1)), (0, .ref h.1), (1, .int x1), (2, .int x2)]) X dX5_grow_70 rfl (by decide) rfl ?_
      refine z_aload_n X dX5_grow_71 1 rfl rfl ?_
      refine z_dup X dX5_grow_72 rfl ?_
      refine gf_X5_32 X dX5_grow_73 ?_
      refine z_iload_n X dX5_grow_76 2 rfl rfl ?_
      refine z_iadd X dX5_grow_77 ?_
      refine pf_X5_32 X dX5_grow_78 H (fun u10 H => ?_)
      refine z_aload_n X dX5_grow_81 1 rfl rfl ?_
      refine gf_X5_7 X dX5_grow_82 ?_
      refine z_iload_n X dX5_grow_85 0 rfl rfl ?_
      refine z_ldc2 X kl_X5_73 dX5_grow_86 ?_
      refine z_iload_n X dX5_grow_89 2 rfl rfl ?_
      refine z_iconst (v := 1) X dX5_grow_90 (by decide) ?_
      refine z_isub X dX5_grow_91 ?_
      refine z_i2l X dX5_grow_92 ?_
      refine z_lmul X dX5_grow_93 ?_
      refine z_aload_n X dX5_grow_94 1 rfl rfl ?_
      refine z_iload_n X dX5_grow_95 3 rfl rfl ?_
      refine k_X5_isFree hh X ml_X5_82 H ⟨Nat.le_of_ble_eq_true rfl, Nat.le_of_ble_eq_true rfl⟩ (Nat.le_of_ble_eq_true rfl) dX5_grow_96 (fun u12 r11 H => ?_)
      refine z_if_eq (tgt := 108) X dX5_grow_99 (by decide) (fun q13 => ?_) (fun q13 => ?_)
      · have H := H.1 q13
        refine z_lconst (v := 0) X dX5_grow_108 (by decide) ?_
        exact z_sub (j_X5_grow_109 hh N X P u12 (u9.1.2.1) (0 : Int64) ((4 : Int64) * ((x1 - (1 : Int32))).toInt64) (u9.1.2.1) H) [1, 0] rfl
      · have H := H.2 q13
        refine z_ldc2 X kl_X5_69 dX5_grow_102 ?_
        refine z_goto (tgt := 109) X dX5_grow_105 (by decide) ?_
        exact z_sub (j_X5_grow_109 hh N X P u12 (u9.1.2.1) (2 : Int64) ((4 : Int64) * ((x1 - (1 : Int32))).toInt64) (u9.1.2.1) H) [1, 0] rfl
    · have H := H.1 q8
      refine z_aload_n X dX5_grow_52 0 rfl rfl ?_
      refine z_iload_n X dX5_grow_53 2 rfl rfl ?_
      refine k_X5_behind hh X ml_X5_75 H ⟨Nat.le_of_ble_eq_true rfl, Nat.le_of_ble_eq_true rfl⟩ (Nat.le_of_ble_eq_true rfl) dX5_grow_54 (fun u19 r18 H => ?_)
      refine z_istore_n (lv' := [(2, .int r18), (0, .ref h.1), (1, .int x1)]) X dX5_grow_57 rfl (by decide) rfl ?_
      refine z_goto (tgt := 44) X dX5_grow_58 (by decide) ?_
      exact z_sub (ih u19 x1 r18 H) [1, 2, 0] rfl
set_option maxHeartbeats 4000000 in
set_option maxRecDepth 100000 in
theorem c_X5_grow {l : Launch} {κ : zK} {h : zG} (hh : zDM κ h) (N : Nat) (u : MS) (a1 : Int32) (P : MS → Int32 → Prop) (H : w_X5_grow N u a1 P) : zM l κ (hsM h) (wM κ h) yX5_grow cX5_grow 4 (some .int) { frames := 4, cells := 0, slots := 0, locals := 93 } [.ref h.1, .int a1] u (zi P) := by
  refine z_met (own := RX5) (by decide) rfl (Nat.le_of_ble_eq_true rfl) hh (fun g X => ?_)
  show zJ g κ (hsM h) (wM κ h) (zi P) 4 u [(0, .ref h.1), (1, .int a1)] 0 []
  unfold w_X5_grow at H
  refine z_iload_n X dX5_grow_0 1 rfl rfl ?_
  refine z_i2l X dX5_grow_1 ?_
  refine z_ldc2 X kl_X5_73 dX5_grow_2 ?_
  refine z_ldc2 X kl_X5_109 dX5_grow_5 ?_
  refine k_X5_in X ml_X5_53 H ⟨Nat.le_of_ble_eq_true rfl, Nat.le_of_ble_eq_true rfl⟩ (Nat.le_of_ble_eq_true rfl) dX5_grow_8 (fun r1 H => ?_)
  refine z_if_ne (tgt := 17) X dX5_grow_11 (by decide) (fun q3 => ?_) (fun q3 => ?_)
  · have H := H.2 q3
    refine z_aload_n X dX5_grow_17 0 rfl rfl ?_
    refine gf_X5_35 X dX5_grow_18 ?_
    refine z_if_eq (tgt := 27) X dX5_grow_21 (by decide) (fun q4 => ?_) (fun q4 => ?_)
    · have H := H.1 q4
      refine z_aload_n X dX5_grow_27 0 rfl rfl ?_
      refine gf_X5_32 X dX5_grow_28 ?_
      refine z_iload_n X dX5_grow_31 1 rfl rfl ?_
      refine z_iadd X dX5_grow_32 ?_
      refine z_sipush (v := 2048) X dX5_grow_33 (by decide) ?_
      refine z_icmp_le (tgt := 42) X dX5_grow_36 (by decide) (fun q5 => ?_) (fun q5 => ?_)
      · have H := H.2 q5
        refine z_iconst (v := 1) X dX5_grow_42 (by decide) ?_
        refine z_istore_n (lv' := [(2, .int (1 : Int32)), (0, .ref h.1), (1, .int a1)]) X dX5_grow_43 rfl (by decide) rfl ?_
        exact z_sub (j_X5_grow_44 hh N X P N u a1 (1 : Int32) H) [1, 2, 0] rfl
      · have H := H.1 q5
        refine z_bipush (v := -4) X dX5_grow_39 (by decide) ?_
        exact z_iret X dX5_grow_41 H
    · have H := H.2 q4
      refine z_bipush (v := -3) X dX5_grow_24 (by decide) ?_
      exact z_iret X dX5_grow_26 H
  · have H := H.1 q3
    refine z_bipush (v := -2) X dX5_grow_14 (by decide) ?_
    exact z_iret X dX5_grow_16 H
theorem k_X5_grow {g : zE} {κ : zK} {h : zG} (hh : zDM κ h) {u : MS} {Φ : MS → Option Value → Prop} {cc : ByteArray} {nL : Nat} {own : String} {ret : Option FieldType} {rm : Room} {lv : List (Nat × Value)} {pc : Nat} {st : List Value} {idx N : Nat} {a1 : Int32} {P : MS → Int32 → Prop} (X : zC g κ (hsM h) (wM κ h) cc nL own ret rm) (hml : Cond.methodLink own idx yX5_grow ∈ zT) (H : w_X5_grow N u a1 P) (hR : 4 + 1 ≤ rm.frames ∧ 8 + (4 + 11) + 93 ≤ rm.locals) (hroom : (st.map fun v => v.category).sum ≤ 8) (d : decode cc pc = .ok (.invokevirtual idx, 3)) (kk : ∀ u1 v, P u1 v → zJ g κ (hsM h) (wM κ h) Φ nL u1 lv (pc + 3) (.int v :: st)) : zJ g κ (hsM h) (wM κ h) Φ nL u lv pc (.int a1 :: .ref h.1 :: st) := z_callV (As := [.int a1]) X yy_X5_grow hml im_X5_grow se_X5_grow (c_X5_grow hh N u a1 P H) 4 0 rfl rfl rfl ⟨rfl, rfl⟩ hR rfl hroom d (fun u1 r hz => by obtain ⟨v, hr, hP⟩ := hz; subst hr; exact kk u1 v hP)
def w_X5_size (N : Nat) (u : MS) (a1 : Int32) (P : MS → Int32 → Prop) : Prop := (w_X5_isBad N u a1 fun u2 r1 => ((r1 = 0 → (((u2.1.2.2.2.2.2.1) = 0 → (w_X5_words N u2 a1 fun u6 r5 => (P u6 r5))) ∧ (¬ (u2.1.2.2.2.2.2.1) = 0 → (P u2 (-3 : Int32))))) ∧ (¬ r1 = 0 → (P u2 (-2 : Int32)))))
set_option maxHeartbeats 4000000 in
set_option maxRecDepth 100000 in
theorem c_X5_size {l : Launch} {κ : zK} {h : zG} (hh : zDM κ h) (N : Nat) (u : MS) (a1 : Int32) (P : MS → Int32 → Prop) (H : w_X5_size N u a1 P) : zM l κ (hsM h) (wM κ h) yX5_size cX5_size 2 (some .int) { frames := 3, cells := 0, slots := 0, locals := 65 } [.ref h.1, .int a1] u (zi P) := by
  refine z_met (own := RX5) (by decide) rfl (Nat.le_of_ble_eq_true rfl) hh (fun g X => ?_)
  show zJ g κ (hsM h) (wM κ h) (zi P) 2 u [(0, .ref h.1), (1, .int a1)] 0 []
  unfold w_X5_size at H
  refine z_aload_n X dX5_size_0 0 rfl rfl ?_
  refine z_iload_n X dX5_size_1 1 rfl rfl ?_
  refine k_X5_isBad hh X ml_X5_99 H ⟨Nat.le_of_ble_eq_true rfl, Nat.le_of_ble_eq_true rfl⟩ (Nat.le_of_ble_eq_true rfl) dX5_size_2 (fun u2 r1 H => ?_)
  refine z_if_eq (tgt := 13) X dX5_size_5 (by decide) (fun q3 => ?_) (fun q3 => ?_)
  · have H := H.1 q3
    refine z_aload_n X dX5_size_13 0 rfl rfl ?_
    refine gf_X5_35 X dX5_size_14 ?_
    refine z_if_eq (tgt := 25) X dX5_size_17 (by decide) (fun q4 => ?_) (fun q4 => ?_)
    · have H := H.1 q4
      refine z_aload_n X dX5_size_25 0 rfl rfl ?_
      refine z_iload_n X dX5_size_26 1 rfl rfl ?_
      refine k_X5_words hh X ml_X5_66 H ⟨Nat.le_of_ble_eq_true rfl, Nat.le_of_ble_eq_true rfl⟩ (Nat.le_of_ble_eq_true rfl) dX5_size_27 (fun u6 r5 H => ?_)
      exact z_iret X dX5_size_30 H
    · have H := H.2 q4
      refine z_bipush (v := -3) X dX5_size_20 (by decide) ?_
      refine z_goto (tgt := 30) X dX5_size_22 (by decide) ?_
      exact z_iret X dX5_size_30 H
  · have H := H.2 q3
    refine z_bipush (v := -2) X dX5_size_8 (by decide) ?_
    refine z_goto (tgt := 30) X dX5_size_10 (by decide) ?_
    exact z_iret X dX5_size_30 H
theorem k_X5_size {g : zE} {κ : zK} {h : zG} (hh : zDM κ h) {u : MS} {Φ : MS → Option Value → Prop} {cc : ByteArray} {nL : Nat} {own : String} {ret : Option FieldType} {rm : Room} {lv : List (Nat × Value)} {pc : Nat} {st : List Value} {idx N : Nat} {a1 : Int32} {P : MS → Int32 → Prop} (X : zC g κ (hsM h) (wM κ h) cc nL own ret rm) (hml : Cond.methodLink own idx yX5_size ∈ zT) (H : w_X5_size N u a1 P) (hR : 3 + 1 ≤ rm.frames ∧ 8 + (2 + 11) + 65 ≤ rm.locals) (hroom : (st.map fun v => v.category).sum ≤ 8) (d : decode cc pc = .ok (.invokevirtual idx, 3)) (kk : ∀ u1 v, P u1 v → zJ g κ (hsM h) (wM κ h) Φ nL u1 lv (pc + 3) (.int v :: st)) : zJ g κ (hsM h) (wM κ h) Φ nL u lv pc (.int a1 :: .ref h.1 :: st) := z_callV (As := [.int a1]) X yy_X5_size hml im_X5_size se_X5_size (c_X5_size hh N u a1 P H) 4 0 rfl rfl rfl ⟨rfl, rfl⟩ hR rfl hroom d (fun u1 r hz => by obtain ⟨v, hr, hP⟩ := hz; subst hr; exact kk u1 v hP)
def w_X5_put (N : Nat) (u : MS) (a1 : Int32) (a2 : Int32) (a3 : Int64) (P : MS → Int32 → Prop) : Prop := (w_X5_isBad N u a1 fun u2 r1 => ((r1 = 0 → (((u2.1.2.2.2.2.2.1) = 0 → (w_X5_words N u2 a1 fun u6 r5 => (w_X5_in N (a2).toInt64 (0 : Int64) ((r5 - (1 : Int32))).toInt64 fun r7 => ((r7 = 0 → (P u6 (-2 : Int32))) ∧ (¬ r7 = 0 → (vp_in (a1 + a2) 2048 ∧ zlet (sW u6.1 (vp_updL u6.1.1 ((a1 + a2)).toNatClampNeg a3), u6.2) fun u11 => (P u11 (1 : Int32)))))))) ∧ (¬ (u2.1.2.2.2.2.2.1) = 0 → (P u2 (-3 : Int32))))) ∧ (¬ r1 = 0 → (P u2 (-2 : Int32)))))
set_option maxHeartbeats 4000000 in
set_option maxRecDepth 100000 in
theorem c_X5_put {l : Launch} {κ : zK} {h : zG} (hh : zDM κ h) (N : Nat) (u : MS) (a1 : Int32) (a2 : Int32) (a3 : Int64) (P : MS → Int32 → Prop) (H : w_X5_put N u a1 a2 a3 P) : zM l κ (hsM h) (wM κ h) yX5_put cX5_put 5 (some .int) { frames := 3, cells := 0, slots := 0, locals := 65 } [.ref h.1, .int a1, .int a2, .long a3] u (zi P) := by
  refine z_met (own := RX5) (by decide) rfl (Nat.le_of_ble_eq_true rfl) hh (fun g X => ?_)
  show zJ g κ (hsM h) (wM κ h) (zi P) 5 u [(0, .ref h.1), (1, .int a1), (2, .int a2), (3, .long a3)] 0 []
  unfold w_X5_put at H
  refine z_aload_n X dX5_put_0 0 rfl rfl ?_
  refine z_iload_n X dX5_put_1 1 rfl rfl ?_
  refine k_X5_isBad hh X ml_X5_99 H ⟨Nat.le_of_ble_eq_true rfl, Nat.le_of_ble_eq_true rfl⟩ (Nat.le_of_ble_eq_true rfl) dX5_put_2 (fun u2 r1 H => ?_)
  refine z_if_eq (tgt := 11) X dX5_put_5 (by decide) (fun q3 => ?_) (fun q3 => ?_)
  · have H := H.1 q3
    refine z_aload_n X dX5_put_11 0 rfl rfl ?_
    refine gf_X5_35 X dX5_put_12 ?_
    refine z_if_eq (tgt := 21) X dX5_put_15 (by decide) (fun q4 => ?_) (fun q4 => ?_)
    · have H := H.1 q4
      refine z_iload_n X dX5_put_21 2 rfl rfl ?_
      refine z_i2l X dX5_put_22 ?_
      refine z_lconst (v := 0) X dX5_put_23 (by decide) ?_
      refine z_aload_n X dX5_put_24 0 rfl rfl ?_
      refine z_iload_n X dX5_put_25 1 rfl rfl ?_
      refine k_X5_words hh X ml_X5_66 H ⟨Nat.le_of_ble_eq_true rfl, Nat.le_of_ble_eq_true rfl⟩ (Nat.le_of_ble_eq_true rfl) dX5_put_26 (fun u6 r5 H => ?_)
      refine z_iconst (v := 1) X dX5_put_29 (by decide) ?_
      refine z_isub X dX5_put_30 ?_
      refine z_i2l X dX5_put_31 ?_
      refine k_X5_in X ml_X5_53 H ⟨Nat.le_of_ble_eq_true rfl, Nat.le_of_ble_eq_true rfl⟩ (Nat.le_of_ble_eq_true rfl) dX5_put_32 (fun r7 H => ?_)
      refine z_if_ne (tgt := 41) X dX5_put_35 (by decide) (fun q9 => ?_) (fun q9 => ?_)
      · have H := H.2 q9
        refine z_aload_n X dX5_put_41 0 rfl rfl ?_
        refine gf_X5_7 X dX5_put_42 ?_
        refine z_iload_n X dX5_put_45 1 rfl rfl ?_
        refine z_iload_n X dX5_put_46 2 rfl rfl ?_
        refine z_iadd X dX5_put_47 ?_
        refine z_lload_n X dX5_put_48 3 rfl rfl ?_
        obtain ⟨q10, H⟩ := H
        refine aw_pool X q10 dX5_put_49 H (fun u11 H => ?_)
        refine z_iconst (v := 1) X dX5_put_50 (by decide) ?_
        exact z_iret X dX5_put_51 H
      · have H := H.1 q9
        refine z_bipush (v := -2) X dX5_put_38 (by decide) ?_
        exact z_iret X dX5_put_40 H
    · have H := H.2 q4
      refine z_bipush (v := -3) X dX5_put_18 (by decide) ?_
      exact z_iret X dX5_put_20 H
  · have H := H.2 q3
    refine z_bipush (v := -2) X dX5_put_8 (by decide) ?_
    exact z_iret X dX5_put_10 H
theorem k_X5_put {g : zE} {κ : zK} {h : zG} (hh : zDM κ h) {u : MS} {Φ : MS → Option Value → Prop} {cc : ByteArray} {nL : Nat} {own : String} {ret : Option FieldType} {rm : Room} {lv : List (Nat × Value)} {pc : Nat} {st : List Value} {idx N : Nat} {a1 : Int32} {a2 : Int32} {a3 : Int64} {P : MS → Int32 → Prop} (X : zC g κ (hsM h) (wM κ h) cc nL own ret rm) (hml : Cond.methodLink own idx yX5_put ∈ zT) (H : w_X5_put N u a1 a2 a3 P) (hR : 3 + 1 ≤ rm.frames ∧ 8 + (5 + 11) + 65 ≤ rm.locals) (hroom : (st.map fun v => v.category).sum ≤ 8) (d : decode cc pc = .ok (.invokevirtual idx, 3)) (kk : ∀ u1 v, P u1 v → zJ g κ (hsM h) (wM κ h) Φ nL u1 lv (pc + 3) (.int v :: st)) : zJ g κ (hsM h) (wM κ h) Φ nL u lv pc (.long a3 :: .int a2 :: .int a1 :: .ref h.1 :: st) := z_callV (As := [.int a1, .int a2, .long a3]) X yy_X5_put hml im_X5_put se_X5_put (c_X5_put hh N u a1 a2 a3 P H) 4 0 rfl rfl rfl ⟨rfl, rfl⟩ hR rfl hroom d (fun u1 r hz => by obtain ⟨v, hr, hP⟩ := hz; subst hr; exact kk u1 v hP)
def w_X5_word (N : Nat) (u : MS) (a1 : Int32) (P : MS → Int64 → Prop) : Prop := (w_X5_in N (a1).toInt64 (0 : Int64) (((u.1.2.1) - (1 : Int32))).toInt64 fun r1 => ((r1 = 0 → (P u (0 : Int64))) ∧ (¬ r1 = 0 → (vp_in a1 2048 ∧ (P u (u.1.1 (a1).toNatClampNeg))))))
set_option maxHeartbeats 4000000 in
set_option maxRecDepth 100000 in
theorem c_X5_word {l : Launch} {κ : zK} {h : zG} (hh : zDM κ h) (N : Nat) (u : MS) (a1 : Int32) (P : MS → Int64 → Prop) (H : w_X5_word N u a1 P) : zM l κ (hsM h) (wM κ h) yX5_word cX5_word 2 (some .long) { frames := 1, cells := 0, slots := 0, locals := 25 } [.ref h.1, .int a1] u (zl P) := by
  refine z_met (own := RX5) (by decide) rfl (Nat.le_of_ble_eq_true rfl) hh (fun g X => ?_)
  show zJ g κ (hsM h) (wM κ h) (zl P) 2 u [(0, .ref h.1), (1, .int a1)] 0 []
  unfold w_X5_word at H
  refine z_iload_n X dX5_word_0 1 rfl rfl ?_
  refine z_i2l X dX5_word_1 ?_
  refine z_lconst (v := 0) X dX5_word_2 (by decide) ?_
  refine z_aload_n X dX5_word_3 0 rfl rfl ?_
  refine gf_X5_32 X dX5_word_4 ?_
  refine z_iconst (v := 1) X dX5_word_7 (by decide) ?_
  refine z_isub X dX5_word_8 ?_
  refine z_i2l X dX5_word_9 ?_
  refine k_X5_in X ml_X5_53 H ⟨Nat.le_of_ble_eq_true rfl, Nat.le_of_ble_eq_true rfl⟩ (Nat.le_of_ble_eq_true rfl) dX5_word_10 (fun r1 H => ?_)
  refine z_if_eq (tgt := 25) X dX5_word_13 (by decide) (fun q3 => ?_) (fun q3 => ?_)
  · have H := H.1 q3
    refine z_lconst (v := 0) X dX5_word_25 (by decide) ?_
    exact z_lret X dX5_word_26 H
  · have H := H.2 q3
    refine z_aload_n X dX5_word_16 0 rfl rfl ?_
    refine gf_X5_7 X dX5_word_17 ?_
    refine z_iload_n X dX5_word_20 1 rfl rfl ?_
    obtain ⟨q4, H⟩ := H
    refine ar_pool X q4 dX5_word_21 ?_
    refine z_goto (tgt := 26) X dX5_word_22 (by decide) ?_
    exact z_lret X dX5_word_26 H
theorem k_X5_word {g : zE} {κ : zK} {h : zG} (hh : zDM κ h) {u : MS} {Φ : MS → Option Value → Prop} {cc : ByteArray} {nL : Nat} {own : String} {ret : Option FieldType} {rm : Room} {lv : List (Nat × Value)} {pc : Nat} {st : List Value} {idx N : Nat} {a1 : Int32} {P : MS → Int64 → Prop} (X : zC g κ (hsM h) (wM κ h) cc nL own ret rm) (hml : Cond.methodLink own idx yX5_word ∈ zT) (H : w_X5_word N u a1 P) (hR : 1 + 1 ≤ rm.frames ∧ 8 + (2 + 11) + 25 ≤ rm.locals) (hroom : (st.map fun v => v.category).sum ≤ 8) (d : decode cc pc = .ok (.invokevirtual idx, 3)) (kk : ∀ u1 v, P u1 v → zJ g κ (hsM h) (wM κ h) Φ nL u1 lv (pc + 3) (.long v :: st)) : zJ g κ (hsM h) (wM κ h) Φ nL u lv pc (.int a1 :: .ref h.1 :: st) := z_callV (As := [.int a1]) X yy_X5_word hml im_X5_word se_X5_word (c_X5_word hh N u a1 P H) 4 0 rfl rfl rfl ⟨rfl, rfl⟩ hR rfl hroom d (fun u1 r hz => by obtain ⟨v, hr, hP⟩ := hz; subst hr; exact kk u1 v hP)
def w_X5_spoil (N : Nat) (u : MS) (a1 : Int32) (a2 : Int64) (P : MS → Int32 → Prop) : Prop := (w_X5_in N (a1).toInt64 (0 : Int64) (((u.1.2.1) - (1 : Int32))).toInt64 fun r1 => ((r1 = 0 → (P u (-2 : Int32))) ∧ (¬ r1 = 0 → (vp_in a1 2048 ∧ zlet (sW u.1 (vp_updL u.1.1 (a1).toNatClampNeg a2), u.2) fun u5 => (zlet (sSp u5.1 (1 : Int32), u5.2) fun u6 => (P u6 (1 : Int32)))))))
set_option maxHeartbeats 4000000 in
set_option maxRecDepth 100000 in
theorem c_X5_spoil {l : Launch} {κ : zK} {h : zG} (hh : zDM κ h) (N : Nat) (u : MS) (a1 : Int32) (a2 : Int64) (P : MS → Int32 → Prop) (H : w_X5_spoil N u a1 a2 P) : zM l κ (hsM h) (wM κ h) yX5_spoil cX5_spoil 4 (some .int) { frames := 1, cells := 0, slots := 0, locals := 25 } [.ref h.1, .int a1, .long a2] u (zi P) := by
  refine z_met (own := RX5) (by decide) rfl (Nat.le_of_ble_eq_true rfl) hh (fun g X => ?_)
  show zJ g κ (hsM h) (wM κ h) (zi P) 4 u [(0, .ref h.1), (1, .int a1), (2, .long a2)] 0 []
  unfold w_X5_spoil at H
  refine z_iload_n X dX5_spoil_0 1 rfl rfl ?_
  refine z_i2l X dX5_spoil_1 ?_
  refine z_lconst (v := 0) X dX5_spoil_2 (by decide) ?_
  refine z_aload_n X dX5_spoil_3 0 rfl rfl ?_
  refine gf_X5_32 X dX5_spoil_4 ?_
  refine z_iconst (v := 1) X dX5_spoil_7 (by decide) ?_
  refine z_isub X dX5_spoil_8 ?_
  refine z_i2l X dX5_spoil_9 ?_
  refine k_X5_in X ml_X5_53 H ⟨Nat.le_of_ble_eq_true rfl, Nat.le_of_ble_eq_true rfl⟩ (Nat.le_of_ble_eq_true rfl) dX5_spoil_10 (fun r1 H => ?_)
  refine z_if_ne (tgt := 19) X dX5_spoil_13 (by decide) (fun q3 => ?_) (fun q3 => ?_)
  · have H := H.2 q3
    refine z_aload_n X dX5_spoil_19 0 rfl rfl ?_
    refine gf_X5_7 X dX5_spoil_20 ?_
    refine z_iload_n X dX5_spoil_23 1 rfl rfl ?_
    refine z_lload_n X dX5_spoil_24 2 rfl rfl ?_
    obtain ⟨q4, H⟩ := H
    refine aw_pool X q4 dX5_spoil_25 H (fun u5 H => ?_)
    refine z_aload_n X dX5_spoil_26 0 rfl rfl ?_
    refine z_iconst (v := 1) X dX5_spoil_27 (by decide) ?_
    refine pf_X5_35 X ⟨rfl, rfl⟩ dX5_spoil_28 H (fun u6 H => ?_)
    refine z_iconst (v := 1) X dX5_spoil_31 (by decide) ?_
    exact z_iret X dX5_spoil_32 H
  · have H := H.1 q3
    refine z_bipush (v := -2) X dX5_spoil_16 (by decide) ?_
    exact z_iret X dX5_spoil_18 H
theorem k_X5_spoil {g : zE} {κ : zK} {h : zG} (hh : zDM κ h) {u : MS} {Φ : MS → Option Value → Prop} {cc : ByteArray} {nL : Nat} {own : String} {ret : Option FieldType} {rm : Room} {lv : List (Nat × Value)} {pc : Nat} {st : List Value} {idx N : Nat} {a1 : Int32} {a2 : Int64} {P : MS → Int32 → Prop} (X : zC g κ (hsM h) (wM κ h) cc nL own ret rm) (hml : Cond.methodLink own idx yX5_spoil ∈ zT) (H : w_X5_spoil N u a1 a2 P) (hR : 1 + 1 ≤ rm.frames ∧ 8 + (4 + 11) + 25 ≤ rm.locals) (hroom : (st.map fun v => v.category).sum ≤ 8) (d : decode cc pc = .ok (.invokevirtual idx, 3)) (kk : ∀ u1 v, P u1 v → zJ g κ (hsM h) (wM κ h) Φ nL u1 lv (pc + 3) (.int v :: st)) : zJ g κ (hsM h) (wM κ h) Φ nL u lv pc (.long a2 :: .int a1 :: .ref h.1 :: st) := z_callV (As := [.int a1, .long a2]) X yy_X5_spoil hml im_X5_spoil se_X5_spoil (c_X5_spoil hh N u a1 a2 P H) 4 0 rfl rfl rfl ⟨rfl, rfl⟩ hR rfl hroom d (fun u1 r hz => by obtain ⟨v, hr, hP⟩ := hz; subst hr; exact kk u1 v hP)
def w_X5_wrongIn_96 (N : Nat) (P : MS → Int32 → Prop) (u : MS) (x1 : Int32) (x5 : Int64) (x7 : Int32) : Prop := ((x7 = 0 → (P u (0 : Int32))) ∧ (¬ x7 = 0 → (vp_in (x1 + (x5).toInt32) 2048 ∧ (((u.1.1 ((x1 + (x5).toInt32)).toNatClampNeg) = x5 → (P u (0 : Int32))) ∧ (¬ (u.1.1 ((x1 + (x5).toInt32)).toNatClampNeg) = x5 → (P u (4 : Int32)))))))
def w_X5_wrongIn_77 (N : Nat) (P : MS → Int32 → Prop) (u : MS) (x1 : Int32) (x2 : Int32) (x5 : Int64) (x7 : Int32) (y0 : Int32) : Prop := ((y0 = x2 → ((x7 = 0 → (w_X5_wrongIn_96 N P u x1 x5 x7)) ∧ (¬ x7 = 0 → ((x2 = 0 → (w_X5_wrongIn_96 N P u x1 x5 x7)) ∧ (¬ x2 = 0 → (P u (3 : Int32))))))) ∧ (¬ y0 = x2 → (P u (2 : Int32))))
def w_X5_wrongIn_25 (N : Nat) (P : MS → Int32 → Prop) (u : MS) (x1 : Int32) (x2 : Int32) (x3 : Int64) (x5 : Int64) (y0 : Int32) : Prop := ((x3 < (0 : Int64) → (P u (1 : Int32))) ∧ (¬ x3 < (0 : Int64) → ((x5 < (3 : Int64) → (P u (1 : Int32))) ∧ (¬ x5 < (3 : Int64) → ((((u.1.2.1)).toInt64 < (((x1).toInt64 + (1 : Int64)) + x5) → (P u (1 : Int32))) ∧ (¬ ((u.1.2.1)).toInt64 < (((x1).toInt64 + (1 : Int64)) + x5) → (((x3 &&& (2 : Int64)) = (2 : Int64) → (w_X5_wrongIn_77 N P u x1 x2 x5 y0 (1 : Int32))) ∧ (¬ (x3 &&& (2 : Int64)) = (2 : Int64) → (w_X5_wrongIn_77 N P u x1 x2 x5 y0 (0 : Int32))))))))))
def w_X5_wrongIn (N : Nat) (u : MS) (a1 : Int32) (a2 : Int32) (P : MS → Int32 → Prop) : Prop := (vp_in a1 2048 ∧ ((((u.1.1 (a1).toNatClampNeg) &&& (1 : Int64)) = (1 : Int64) → (w_X5_wrongIn_25 N P u a1 a2 (u.1.1 (a1).toNatClampNeg) ((u.1.1 (a1).toNatClampNeg) >>> (((2 : Int32)).toInt64 &&& 63)) (1 : Int32))) ∧ (¬ ((u.1.1 (a1).toNatClampNeg) &&& (1 : Int64)) = (1 : Int64) → (w_X5_wrongIn_25 N P u a1 a2 (u.1.1 (a1).toNatClampNeg) ((u.1.1 (a1).toNatClampNeg) >>> (((2 : Int32)).toInt64 &&& 63)) (0 : Int32)))))
set_option maxHeartbeats 4000000 in
set_option maxRecDepth 100000 in
theorem j_X5_wrongIn_96 {κ : zK} {h : zG} (hh : zDM κ h) (N : Nat) {g : zE} (X : zC g κ (hsM h) (wM κ h) cX5_wrongIn 8 RX5 (some .int) { frames := 0, cells := 0, slots := 0, locals := 0 }) (P : MS → Int32 → Prop) (u : MS) (x1 : Int32) (x5 : Int64) (x7 : Int32) (H : w_X5_wrongIn_96 N P u x1 x5 x7) : zJ g κ (hsM h) (wM κ h) (zi P) 8 u [(0, .ref h.1), (1, .int x1), (5, .long x5), (7, .int x7)] 96 [] := by
  unfold w_X5_wrongIn_96 at H
  refine z_iload X dX5_wrongIn_96 3 rfl ?_
  refine z_if_eq (tgt := 121) X dX5_wrongIn_98 (by decide) (fun q9 => ?_) (fun q9 => ?_)
  · have H := H.1 q9
    refine z_iconst (v := 0) X dX5_wrongIn_121 (by decide) ?_
    exact z_iret X dX5_wrongIn_122 H
  · have H := H.2 q9
    refine z_aload_n X dX5_wrongIn_101 0 rfl rfl ?_
    refine gf_X5_7 X dX5_wrongIn_102 ?_
    refine z_iload_n X dX5_wrongIn_105 1 rfl rfl ?_
    refine z_lload X dX5_wrongIn_106 2 rfl ?_
    refine z_l2i X dX5_wrongIn_108 ?_
    refine z_iadd X dX5_wrongIn_109 ?_
    obtain ⟨q10, H⟩ := H
    refine ar_pool X q10 dX5_wrongIn_110 ?_
    refine z_lload X dX5_wrongIn_111 2 rfl ?_
    refine z_lcmp_eq (tgt := 121) X dX5_wrongIn_113 dX5_wrongIn_114 (by decide) (fun q11 => ?_) (fun q11 => ?_)
    · have H := H.1 q11
      refine z_iconst (v := 0) X dX5_wrongIn_121 (by decide) ?_
      exact z_iret X dX5_wrongIn_122 H
    · have H := H.2 q11
      refine z_iconst (v := 4) X dX5_wrongIn_117 (by decide) ?_
      refine z_goto (tgt := 122) X dX5_wrongIn_118 (by decide) ?_
      exact z_iret X dX5_wrongIn_122 H
set_option maxHeartbeats 4000000 in
set_option maxRecDepth 100000 in
theorem j_X5_wrongIn_77 {κ : zK} {h : zG} (hh : zDM κ h) (N : Nat) {g : zE} (X : zC g κ (hsM h) (wM κ h) cX5_wrongIn 8 RX5 (some .int) { frames := 0, cells := 0, slots := 0, locals := 0 }) (P : MS → Int32 → Prop) (u : MS) (x1 : Int32) (x2 : Int32) (x5 : Int64) (x7 : Int32) (y0 : Int32) (H : w_X5_wrongIn_77 N P u x1 x2 x5 x7 y0) : zJ g κ (hsM h) (wM κ h) (zi P) 8 u [(0, .ref h.1), (1, .int x1), (2, .int x2), (5, .long x5), (7, .int x7)] 77 [.int y0] := by
  unfold w_X5_wrongIn_77 at H
  refine z_iload_n X dX5_wrongIn_77 2 rfl rfl ?_
  refine z_icmp_eq (tgt := 83) X dX5_wrongIn_78 (by decide) (fun q7 => ?_) (fun q7 => ?_)
  · have H := H.1 q7
    refine z_iload X dX5_wrongIn_83 4 rfl ?_
    refine z_if_eq (tgt := 96) X dX5_wrongIn_85 (by decide) (fun q8 => ?_) (fun q8 => ?_)
    · have H := H.1 q8
      exact z_sub (j_X5_wrongIn_96 hh N X P u x1 x5 x7 H) [0, 1, 3, 4] rfl
    · have H := H.2 q8
      refine z_iload_n X dX5_wrongIn_88 2 rfl rfl ?_
      refine z_if_eq (tgt := 96) X dX5_wrongIn_89 (by decide) (fun q12 => ?_) (fun q12 => ?_)
      · have H := H.1 q12
        exact z_sub (j_X5_wrongIn_96 hh N X P u x1 x5 x7 H) [0, 1, 3, 4] rfl
      · have H := H.2 q12
        refine z_iconst (v := 3) X dX5_wrongIn_92 (by decide) ?_
        refine z_goto (tgt := 122) X dX5_wrongIn_93 (by decide) ?_
        exact z_iret X dX5_wrongIn_122 H
  · have H := H.2 q7
    refine z_iconst (v := 2) X dX5_wrongIn_81 (by decide) ?_
    exact z_iret X dX5_wrongIn_82 H
set_option maxHeartbeats 4000000 in
set_option maxRecDepth 100000 in
theorem j_X5_wrongIn_25 {κ : zK} {h : zG} (hh : zDM κ h) (N : Nat) {g : zE} (X : zC g κ (hsM h) (wM κ h) cX5_wrongIn 8 RX5 (some .int) { frames := 0, cells := 0, slots := 0, locals := 0 }) (P : MS → Int32 → Prop) (u : MS) (x1 : Int32) (x2 : Int32) (x3 : Int64) (x5 : Int64) (y0 : Int32) (H : w_X5_wrongIn_25 N P u x1 x2 x3 x5 y0) : zJ g κ (hsM h) (wM κ h) (zi P) 8 u [(0, .ref h.1), (1, .int x1), (2, .int x2), (3, .long x3), (5, .long x5)] 25 [.int y0] := by
  unfold w_X5_wrongIn_25 at H
  refine z_istore (lv' := [(7, .int y0), (0, .ref h.1), (1, .int x1), (2, .int x2), (3, .long x3), (5, .long x5)]) X dX5_wrongIn_25 (by decide) rfl ?_
  refine z_lload_n X dX5_wrongIn_27 4 rfl rfl ?_
  refine z_lconst (v := 0) X dX5_wrongIn_28 (by decide) ?_
  refine z_lcmp_lt (tgt := 58) X dX5_wrongIn_29 dX5_wrongIn_30 (by decide) (fun q3 => ?_) (fun q3 => ?_)
  · have H := H.1 q3
    refine z_iconst (v := 1) X dX5_wrongIn_58 (by decide) ?_
    exact z_iret X dX5_wrongIn_59 H
  · have H := H.2 q3
    refine z_lload X dX5_wrongIn_33 5 rfl ?_
    refine z_ldc2 X kl_X5_111 dX5_wrongIn_35 ?_
    refine z_lcmp_lt (tgt := 58) X dX5_wrongIn_38 dX5_wrongIn_39 (by decide) (fun q4 => ?_) (fun q4 => ?_)
    · have H := H.1 q4
      refine z_iconst (v := 1) X dX5_wrongIn_58 (by decide) ?_
      exact z_iret X dX5_wrongIn_59 H
    · have H := H.2 q4
      refine z_iload_n X dX5_wrongIn_42 2 rfl rfl ?_
      refine z_i2l X dX5_wrongIn_43 ?_
      refine z_lconst (v := 1) X dX5_wrongIn_44 (by decide) ?_
      refine z_ladd X dX5_wrongIn_45 ?_
      refine z_lload X dX5_wrongIn_46 5 rfl ?_
      refine z_ladd X dX5_wrongIn_48 ?_
      refine z_aload_n X dX5_wrongIn_49 1 rfl rfl ?_
      refine gf_X5_32 X dX5_wrongIn_50 ?_
      refine z_i2l X dX5_wrongIn_53 ?_
      refine z_lcmp_le (tgt := 60) X dX5_wrongIn_54 dX5_wrongIn_55 (by decide) (fun q5 => ?_) (fun q5 => ?_)
      · have H := H.2 q5
        refine z_lload_n X dX5_wrongIn_60 4 rfl rfl ?_
        refine z_ldc2 X kl_X5_69 dX5_wrongIn_61 ?_
        refine z_land X dX5_wrongIn_64 ?_
        refine z_ldc2 X kl_X5_69 dX5_wrongIn_65 ?_
        refine z_lcmp_ne (tgt := 76) X dX5_wrongIn_68 dX5_wrongIn_69 (by decide) (fun q6 => ?_) (fun q6 => ?_)
        · have H := H.2 q6
          refine z_iconst (v := 0) X dX5_wrongIn_76 (by decide) ?_
          exact z_sub (j_X5_wrongIn_77 hh N X P u x1 x2 x5 y0 (0 : Int32) H) [1, 2, 3, 5, 0] rfl
        · have H := H.1 q6
          refine z_iconst (v := 1) X dX5_wrongIn_72 (by decide) ?_
          refine z_goto (tgt := 77) X dX5_wrongIn_73 (by decide) ?_
          exact z_sub (j_X5_wrongIn_77 hh N X P u x1 x2 x5 y0 (1 : Int32) H) [1, 2, 3, 5, 0] rfl
      · have H := H.1 q5
        refine z_iconst (v := 1) X dX5_wrongIn_58 (by decide) ?_
        exact z_iret X dX5_wrongIn_59 H
set_option maxHeartbeats 4000000 in
set_option maxRecDepth 100000 in
theorem c_X5_wrongIn {l : Launch} {κ : zK} {h : zG} (hh : zDM κ h) (N : Nat) (u : MS) (a1 : Int32) (a2 : Int32) (P : MS → Int32 → Prop) (H : w_X5_wrongIn N u a1 a2 P) : zM l κ (hsM h) (wM κ h) yX5_wrongIn cX5_wrongIn 8 (some .int) { frames := 0, cells := 0, slots := 0, locals := 0 } [.ref h.1, .int a1, .int a2] u (zi P) := by
  refine z_met (own := RX5) (by decide) rfl (Nat.le_of_ble_eq_true rfl) hh (fun g X => ?_)
  show zJ g κ (hsM h) (wM κ h) (zi P) 8 u [(0, .ref h.1), (1, .int a1), (2, .int a2)] 0 []
  unfold w_X5_wrongIn at H
  refine z_aload_n X dX5_wrongIn_0 0 rfl rfl ?_
  refine gf_X5_7 X dX5_wrongIn_1 ?_
  refine z_iload_n X dX5_wrongIn_4 1 rfl rfl ?_
  obtain ⟨q1, H⟩ := H
  refine ar_pool X q1 dX5_wrongIn_5 ?_
  refine z_lstore_n (lv' := [(3, .long (u.1.1 (a1).toNatClampNeg)), (0, .ref h.1), (1, .int a1), (2, .int a2)]) X dX5_wrongIn_6 rfl (by decide) rfl ?_
  refine z_lload_n X dX5_wrongIn_7 0 rfl rfl ?_
  refine z_iconst (v := 2) X dX5_wrongIn_8 (by decide) ?_
  refine z_lshr X dX5_wrongIn_9 ?_
  refine z_lstore (lv' := [(5, .long ((u.1.1 (a1).toNatClampNeg) >>> (((2 : Int32)).toInt64 &&& 63))), (3, .long (u.1.1 (a1).toNatClampNeg)), (0, .ref h.1), (1, .int a1), (2, .int a2)]) X dX5_wrongIn_10 (by decide) rfl ?_
  refine z_lload_n X dX5_wrongIn_12 1 rfl rfl ?_
  refine z_lconst (v := 1) X dX5_wrongIn_13 (by decide) ?_
  refine z_land X dX5_wrongIn_14 ?_
  refine z_lconst (v := 1) X dX5_wrongIn_15 (by decide) ?_
  refine z_lcmp_ne (tgt := 24) X dX5_wrongIn_16 dX5_wrongIn_17 (by decide) (fun q2 => ?_) (fun q2 => ?_)
  · have H := H.2 q2
    refine z_iconst (v := 0) X dX5_wrongIn_24 (by decide) ?_
    exact z_sub (j_X5_wrongIn_25 hh N X P u a1 a2 (u.1.1 (a1).toNatClampNeg) ((u.1.1 (a1).toNatClampNeg) >>> (((2 : Int32)).toInt64 &&& 63)) (0 : Int32) H) [2, 3, 4, 1, 0] rfl
  · have H := H.1 q2
    refine z_iconst (v := 1) X dX5_wrongIn_20 (by decide) ?_
    refine z_goto (tgt := 25) X dX5_wrongIn_21 (by decide) ?_
    exact z_sub (j_X5_wrongIn_25 hh N X P u a1 a2 (u.1.1 (a1).toNatClampNeg) ((u.1.1 (a1).toNatClampNeg) >>> (((2 : Int32)).toInt64 &&& 63)) (1 : Int32) H) [2, 3, 4, 1, 0] rfl
theorem k_X5_wrongIn {g : zE} {κ : zK} {h : zG} (hh : zDM κ h) {u : MS} {Φ : MS → Option Value → Prop} {cc : ByteArray} {nL : Nat} {own : String} {ret : Option FieldType} {rm : Room} {lv : List (Nat × Value)} {pc : Nat} {st : List Value} {idx N : Nat} {a1 : Int32} {a2 : Int32} {P : MS → Int32 → Prop} (X : zC g κ (hsM h) (wM κ h) cc nL own ret rm) (hml : Cond.methodLink own idx yX5_wrongIn ∈ zT) (H : w_X5_wrongIn N u a1 a2 P) (hR : 0 + 1 ≤ rm.frames ∧ 8 + (8 + 11) + 0 ≤ rm.locals) (hroom : (st.map fun v => v.category).sum ≤ 8) (d : decode cc pc = .ok (.invokevirtual idx, 3)) (kk : ∀ u1 v, P u1 v → zJ g κ (hsM h) (wM κ h) Φ nL u1 lv (pc + 3) (.int v :: st)) : zJ g κ (hsM h) (wM κ h) Φ nL u lv pc (.int a2 :: .int a1 :: .ref h.1 :: st) := z_callV (As := [.int a1, .int a2]) X yy_X5_wrongIn hml im_X5_wrongIn se_X5_wrongIn (c_X5_wrongIn hh N u a1 a2 P H) 4 0 rfl rfl rfl ⟨rfl, rfl⟩ hR rfl hroom d (fun u1 r hz => by obtain ⟨v, hr, hP⟩ := hz; subst hr; exact kk u1 v hP)
def w_X5_wrong (N : Nat) (u : MS) (a1 : Int32) (a2 : Int32) (P : MS → Int32 → Prop) : Prop := (zlet (sWa u.1 a2, u.2) fun u1 => (P u1 a1))
set_option maxHeartbeats 4000000 in
set_option maxRecDepth 100000 in
theorem c_X5_wrong {l : Launch} {κ : zK} {h : zG} (hh : zDM κ h) (N : Nat) (u : MS) (a1 : Int32) (a2 : Int32) (P : MS → Int32 → Prop) (H : w_X5_wrong N u a1 a2 P) : zM l κ (hsM h) (wM κ h) yX5_wrong cX5_wrong 3 (some .int) { frames := 0, cells := 0, slots := 0, locals := 0 } [.ref h.1, .int a1, .int a2] u (zi P) := by
  refine z_met (own := RX5) (by decide) rfl (Nat.le_of_ble_eq_true rfl) hh (fun g X => ?_)
  show zJ g κ (hsM h) (wM κ h) (zi P) 3 u [(0, .ref h.1), (1, .int a1), (2, .int a2)] 0 []
  unfold w_X5_wrong at H
  refine z_aload_n X dX5_wrong_0 0 rfl rfl ?_
  refine z_iload_n X dX5_wrong_1 2 rfl rfl ?_
  refine pf_X5_17 X dX5_wrong_2 H (fun u1 H => ?_)
  refine z_iload_n X dX5_wrong_5 1 rfl rfl ?_
  exact z_iret X dX5_wrong_6 H
theorem k_X5_wrong {g : zE} {κ : zK} {h : zG} (hh : zDM κ h) {u : MS} {Φ : MS → Option Value → Prop} {cc : ByteArray} {nL : Nat} {own : String} {ret : Option FieldType} {rm : Room} {lv : List (Nat × Value)} {pc : Nat} {st : List Value} {idx N : Nat} {a1 : Int32} {a2 : Int32} {P : MS → Int32 → Prop} (X : zC g κ (hsM h) (wM κ h) cc nL own ret rm) (hml : Cond.methodLink own idx yX5_wrong ∈ zT) (H : w_X5_wrong N u a1 a2 P) (hR : 0 + 1 ≤ rm.frames ∧ 8 + (3 + 11) + 0 ≤ rm.locals) (hroom : (st.map fun v => v.category).sum ≤ 8) (d : decode cc pc = .ok (.invokevirtual idx, 3)) (kk : ∀ u1 v, P u1 v → zJ g κ (hsM h) (wM κ h) Φ nL u1 lv (pc + 3) (.int v :: st)) : zJ g κ (hsM h) (wM κ h) Φ nL u lv pc (.int a2 :: .int a1 :: .ref h.1 :: st) := z_callV (As := [.int a1, .int a2]) X yy_X5_wrong hml im_X5_wrong se_X5_wrong (c_X5_wrong hh N u a1 a2 P H) 4 0 rfl rfl rfl ⟨rfl, rfl⟩ hR rfl hroom d (fun u1 r hz => by obtain ⟨v, hr, hP⟩ := hz; subst hr; exact kk u1 v hP)
def w_X5_checkBlocks_33 (N : Nat) (P : MS → Int32 → Prop) : Nat → MS → Int32 → Int32 → Prop
  | 0, _, _, _ => False
  | n + 1, u, x1, x2 => ((x1 < (u.1.2.1) → (w_X5_wrongIn N u x1 x2 fun u4 r3 => ((0 < r3 → (w_X5_wrong N u4 r3 x1 fun u15 r14 => (P u15 r14))) ∧ (¬ 0 < r3 → (vp_in x1 2048 ∧ ((((u4.1.1 (x1).toNatClampNeg) &&& (1 : Int64)) = (1 : Int64) → (vp_in (x1 + (1 : Int32)) 2049 ∧ zlet (u4.1, u4.2.1, upd u4.2.2 ((x1 + (1 : Int32))).toNatClampNeg (vp_nar .boolean (1 : Int32))) fun u12 => (vp_in x1 2048 ∧ (w_X5_checkBlocks_33 N P n u12 (x1 + ((((u12.1.1 (x1).toNatClampNeg) >>> (((2 : Int32)).toInt64 &&& 63))).toInt32 + (1 : Int32))) (1 : Int32))))) ∧ (¬ ((u4.1.1 (x1).toNatClampNeg) &&& (1 : Int64)) = (1 : Int64) → (vp_in (x1 + (1 : Int32)) 2049 ∧ zlet (u4.1, u4.2.1, upd u4.2.2 ((x1 + (1 : Int32))).toNatClampNeg (vp_nar .boolean (0 : Int32))) fun u9 => (vp_in x1 2048 ∧ (w_X5_checkBlocks_33 N P n u9 (x1 + ((((u9.1.1 (x1).toNatClampNeg) >>> (((2 : Int32)).toInt64 &&& 63))).toInt32 + (1 : Int32))) (0 : Int32))))))))))) ∧ (¬ x1 < (u.1.2.1) → (P u (0 : Int32))))
def w_X5_checkBlocks_2 (N : Nat) (P : MS → Int32 → Prop) : Nat → MS → Int32 → Prop
  | 0, _, _ => False
  | n + 1, u, x1 => (((2048 : Int32) < x1 → (w_X5_checkBlocks_33 N P N u (0 : Int32) (0 : Int32))) ∧ (¬ (2048 : Int32) < x1 → (vp_in x1 2049 ∧ zlet (u.1, u.2.1, upd u.2.2 (x1).toNatClampNeg (vp_nar .boolean (0 : Int32))) fun u17 => (vp_in x1 2049 ∧ zlet (u17.1, upd u17.2.1 (x1).toNatClampNeg (vp_nar .boolean (0 : Int32)), u17.2.2) fun u19 => (w_X5_checkBlocks_2 N P n u19 (x1 + (1 : Int32)))))))
def w_X5_checkBlocks (N : Nat) (u : MS) (P : MS → Int32 → Prop) : Prop := (w_X5_checkBlocks_2 N P N u (0 : Int32))
set_option maxHeartbeats 4000000 in
set_option maxRecDepth 100000 in
theorem j_X5_checkBlocks_33 {κ : zK} {h : zG} (hh : zDM κ h) (N : Nat) {g : zE} (X : zC g κ (hsM h) (wM κ h) cX5_checkBlocks 4 RX5 (some .int) { frames := 1, cells := 0, slots := 0, locals := 27 }) (P : MS → Int32 → Prop) : ∀ (n : Nat) (u : MS) (x1 : Int32) (x2 : Int32), w_X5_checkBlocks_33 N P n u x1 x2 → zJ g κ (hsM h) (wM κ h) (zi P) 4 u [(0, .ref h.1), (1, .int x1), (2, .int x2)] 33 [] := by
  intro n
  induction n with
  | zero => intro u x1 x2 H; exact absurd H (by rw [w_X5_checkBlocks_33]; exact id)
  | succ n ih =>
    intro u x1 x2 H
    rw [w_X5_checkBlocks_33] at H
    refine z_iload_n X dX5_checkBlocks_33 1 rfl rfl ?_
    refine z_aload_n X dX5_checkBlocks_34 0 rfl rfl ?_
    refine gf_X5_32 X dX5_checkBlocks_35 ?_
    refine z_icmp_ge (tgt := 104) X dX5_checkBlocks_38 (by decide) (fun q2 => ?_) (fun q2 => ?_)
    · have H := H.2 q2
      refine z_iconst (v := 0) X dX5_checkBlocks_104 (by decide) ?_
      exact z_iret X dX5_checkBlocks_105 H
    · have H := H.1 q2
      refine z_aload_n X dX5_checkBlocks_41 0 rfl rfl ?_
      refine z_iload_n X dX5_checkBlocks_42 1 rfl rfl ?_
      refine z_iload_n X dX5_checkBlocks_43 2 rfl rfl ?_
      refine k_X5_wrongIn hh X ml_X5_113 H ⟨Nat.le_of_ble_eq_true rfl, Nat.le_of_ble_eq_true rfl⟩ (Nat.le_of_ble_eq_true rfl) dX5_checkBlocks_44 (fun u4 r3 H => ?_)
      refine z_istore_n (lv' := [(3, .int r3), (0, .ref h.1), (1, .int x1), (2, .int x2)]) X dX5_checkBlocks_47 rfl (by decide) rfl ?_
      refine z_iload_n X dX5_checkBlocks_48 0 rfl rfl ?_
      refine z_if_le (tgt := 59) X dX5_checkBlocks_49 (by decide) (fun q5 => ?_) (fun q5 => ?_)
      · have H := H.2 q5
        refine z_aload_n X dX5_checkBlocks_59 1 rfl rfl ?_
        refine gf_X5_7 X dX5_checkBlocks_60 ?_
        refine z_iload_n X dX5_checkBlocks_63 2 rfl rfl ?_
        obtain ⟨q6, H⟩ := H
        refine ar_pool X q6 dX5_checkBlocks_64 ?_
        refine z_lconst (v := 1) X dX5_checkBlocks_65 (by decide) ?_
        refine z_land X dX5_checkBlocks_66 ?_
        refine z_lconst (v := 1) X dX5_checkBlocks_67 (by decide) ?_
        refine z_lcmp_ne (tgt := 76) X dX5_checkBlocks_68 dX5_checkBlocks_69 (by decide) (fun q7 => ?_) (fun q7 => ?_)
        · have H := H.2 q7
          refine z_iconst (v := 0) X dX5_checkBlocks_76 (by decide) ?_
          refine z_istore_n (lv' := [(2, .int (0 : Int32)), (3, .int r3), (0, .ref h.1), (1, .int x1)]) X dX5_checkBlocks_77 rfl (by decide) rfl ?_
          refine z_aload_n X dX5_checkBlocks_78 2 rfl rfl ?_
          refine gf_X5_25 X dX5_checkBlocks_79 ?_
          refine z_iload_n X dX5_checkBlocks_82 3 rfl rfl ?_
          refine z_iconst (v := 1) X dX5_checkBlocks_83 (by decide) ?_
          refine z_iadd X dX5_checkBlocks_84 ?_
          refine z_iload_n X dX5_checkBlocks_85 0 rfl rfl ?_
          obtain ⟨q8, H⟩ := H
          refine aw_begins X q8 dX5_checkBlocks_86 H (fun u9 H => ?_)
          refine z_iload_n X dX5_checkBlocks_87 3 rfl rfl ?_
          refine z_aload_n X dX5_checkBlocks_88 2 rfl rfl ?_
          refine gf_X5_7 X dX5_checkBlocks_89 ?_
          refine z_iload_n X dX5_checkBlocks_92 3 rfl rfl ?_
          obtain ⟨q10, H⟩ := H
          refine ar_pool X q10 dX5_checkBlocks_93 ?_
          refine z_iconst (v := 2) X dX5_checkBlocks_94 (by decide) ?_
          refine z_lshr X dX5_checkBlocks_95 ?_
          refine z_l2i X dX5_checkBlocks_96 ?_
          refine z_iconst (v := 1) X dX5_checkBlocks_97 (by decide) ?_
          refine z_iadd X dX5_checkBlocks_98 ?_
          refine z_iadd X dX5_checkBlocks_99 ?_
          refine z_istore_n (lv' := [(1, .int (x1 + ((((u9.1.1 (x1).toNatClampNeg) >>> (((2 : Int32)).toInt64 &&& 63))).toInt32 + (1 : Int32)))), (2, .int (0 : Int32)), (3, .int r3), (0, .ref h.1)]) X dX5_checkBlocks_100 rfl (by decide) rfl ?_
          refine z_goto (tgt := 33) X dX5_checkBlocks_101 (by decide) ?_
          exact z_sub (ih u9 (x1 + ((((u9.1.1 (x1).toNatClampNeg) >>> (((2 : Int32)).toInt64 &&& 63))).toInt32 + (1 : Int32))) (0 : Int32) H) [3, 0, 1] rfl
        · have H := H.1 q7
          refine z_iconst (v := 1) X dX5_checkBlocks_72 (by decide) ?_
          refine z_goto (tgt := 77) X dX5_checkBlocks_73 (by decide) ?_
          refine z_istore_n (lv' := [(2, .int (1 : Int32)), (3, .int r3), (0, .ref h.1), (1, .int x1)]) X dX5_checkBlocks_77 rfl (by decide) rfl ?_
          refine z_aload_n X dX5_checkBlocks_78 2 rfl rfl ?_
          refine gf_X5_25 X dX5_checkBlocks_79 ?_
          refine z_iload_n X dX5_checkBlocks_82 3 rfl rfl ?_
          refine z_iconst (v := 1) X dX5_checkBlocks_83 (by decide) ?_
          refine z_iadd X dX5_checkBlocks_84 ?_
          refine z_iload_n X dX5_checkBlocks_85 0 rfl rfl ?_
          obtain ⟨q11, H⟩ := H
          refine aw_begins X q11 dX5_checkBlocks_86 H (fun u12 H => ?_)
          refine z_iload_n X dX5_checkBlocks_87 3 rfl rfl ?_
          refine z_aload_n X dX5_checkBlocks_88 2 rfl rfl ?_
          refine gf_X5_7 X dX5_checkBlocks_89 ?_
          refine z_iload_n X dX5_checkBlocks_92 3 rfl rfl ?_
          obtain ⟨q13, H⟩ := H
          refine ar_pool X q13 dX5_checkBlocks_93 ?_
          refine z_iconst (v := 2) X dX5_checkBlocks_94 (by decide) ?_
          refine z_lshr X dX5_checkBlocks_95 ?_
          refine z_l2i X dX5_checkBlocks_96 ?_
          refine z_iconst (v := 1) X dX5_checkBlocks_97 (by decide) ?_
          refine z_iadd X dX5_checkBlocks_98 ?_
          refine z_iadd X dX5_checkBlocks_99 ?_
          refine z_istore_n (lv' := [(1, .int (x1 + ((((u12.1.1 (x1).toNatClampNeg) >>> (((2 : Int32)).toInt64 &&& 63))).toInt32 + (1 : Int32)))), (2, .int (1 : Int32)), (3, .int r3), (0, .ref h.1)]) X dX5_checkBlocks_100 rfl (by decide) rfl ?_
          refine z_goto (tgt := 33) X dX5_checkBlocks_101 (by decide) ?_
          exact z_sub (ih u12 (x1 + ((((u12.1.1 (x1).toNatClampNeg) >>> (((2 : Int32)).toInt64 &&& 63))).toInt32 + (1 : Int32))) (1 : Int32) H) [3, 0, 1] rfl
      · have H := H.1 q5
        refine z_aload_n X dX5_checkBlocks_52 1 rfl rfl ?_
        refine z_iload_n X dX5_checkBlocks_53 0 rfl rfl ?_
        refine z_iload_n X dX5_checkBlocks_54 2 rfl rfl ?_
        refine k_X5_wrong hh X ml_X5_117 H ⟨Nat.le_of_ble_eq_true rfl, Nat.le_of_ble_eq_true rfl⟩ (Nat.le_of_ble_eq_true rfl) dX5_checkBlocks_55 (fun u15 r14 H => ?_)
        exact z_iret X dX5_checkBlocks_58 H
set_option maxHeartbeats 4000000 in
set_option maxRecDepth 100000 in
theorem j_X5_checkBlocks_2 {κ : zK} {h : zG} (hh : zDM κ h) (N : Nat) {g : zE} (X : zC g κ (hsM h) (wM κ h) cX5_checkBlocks 4 RX5 (some .int) { frames := 1, cells := 0, slots := 0, locals := 27 }) (P : MS → Int32 → Prop) : ∀ (n : Nat) (u : MS) (x1 : Int32), w_X5_checkBlocks_2 N P n u x1 → zJ g κ (hsM h) (wM κ h) (zi P) 4 u [(0, .ref h.1), (1, .int x1)] 2 [] := by
  intro n
  induction n with
  | zero => intro u x1 H; exact absurd H (by rw [w_X5_checkBlocks_2]; exact id)
  | succ n ih =>
    intro u x1 H
    rw [w_X5_checkBlocks_2] at H
    refine z_iload_n X dX5_checkBlocks_2 1 rfl rfl ?_
    refine z_sipush (v := 2048) X dX5_checkBlocks_3 (by decide) ?_
    refine z_icmp_gt (tgt := 29) X dX5_checkBlocks_6 (by decide) (fun q1 => ?_) (fun q1 => ?_)
    · have H := H.1 q1
      refine z_iconst (v := 0) X dX5_checkBlocks_29 (by decide) ?_
      refine z_istore_n (lv' := [(1, .int (0 : Int32)), (0, .ref h.1)]) X dX5_checkBlocks_30 rfl (by decide) rfl ?_
      refine z_iconst (v := 0) X dX5_checkBlocks_31 (by decide) ?_
      refine z_istore_n (lv' := [(2, .int (0 : Int32)), (1, .int (0 : Int32)), (0, .ref h.1)]) X dX5_checkBlocks_32 rfl (by decide) rfl ?_
      exact z_sub (j_X5_checkBlocks_33 hh N X P N u (0 : Int32) (0 : Int32) H) [2, 1, 0] rfl
    · have H := H.2 q1
      refine z_aload_n X dX5_checkBlocks_9 0 rfl rfl ?_
      refine gf_X5_25 X dX5_checkBlocks_10 ?_
      refine z_iload_n X dX5_checkBlocks_13 1 rfl rfl ?_
      refine z_iconst (v := 0) X dX5_checkBlocks_14 (by decide) ?_
      obtain ⟨q16, H⟩ := H
      refine aw_begins X q16 dX5_checkBlocks_15 H (fun u17 H => ?_)
      refine z_aload_n X dX5_checkBlocks_16 0 rfl rfl ?_
      refine gf_X5_21 X dX5_checkBlocks_17 ?_
      refine z_iload_n X dX5_checkBlocks_20 1 rfl rfl ?_
      refine z_iconst (v := 0) X dX5_checkBlocks_21 (by decide) ?_
      obtain ⟨q18, H⟩ := H
      refine aw_met X q18 dX5_checkBlocks_22 H (fun u19 H => ?_)
      refine z_iinc (k := 1) (v := (x1 + (1 : Int32))) (lv' := [(1, .int (x1 + (1 : Int32))), (0, .ref h.1)]) X dX5_checkBlocks_23 rfl rfl (by decide) rfl ?_
      refine z_goto (tgt := 2) X dX5_checkBlocks_26 (by decide) ?_
      exact z_sub (ih u19 (x1 + (1 : Int32)) H) [1, 0] rfl
set_option maxHeartbeats 4000000 in
set_option maxRecDepth 100000 in
theorem c_X5_checkBlocks {l : Launch} {κ : zK} {h : zG} (hh : zDM κ h) (N : Nat) (u : MS) (P : MS → Int32 → Prop) (H : w_X5_checkBlocks N u P) : zM l κ (hsM h) (wM κ h) yX5_checkBlocks cX5_checkBlocks 4 (some .int) { frames := 1, cells := 0, slots := 0, locals := 27 } [.ref h.1] u (zi P) := by
  refine z_met (own := RX5) (by decide) rfl (Nat.le_of_ble_eq_true rfl) hh (fun g X => ?_)
  show zJ g κ (hsM h) (wM κ h) (zi P) 4 u [(0, .ref h.1)] 0 []
  unfold w_X5_checkBlocks at H
  refine z_iconst (v := 0) X dX5_checkBlocks_0 (by decide) ?_
  refine z_istore_n (lv' := [(1, .int (0 : Int32)), (0, .ref h.1)]) X dX5_checkBlocks_1 rfl (by decide) rfl ?_
  exact z_sub (j_X5_checkBlocks_2 hh N X P N u (0 : Int32) H) [1, 0] rfl
theorem k_X5_checkBlocks {g : zE} {κ : zK} {h : zG} (hh : zDM κ h) {u : MS} {Φ : MS → Option Value → Prop} {cc : ByteArray} {nL : Nat} {own : String} {ret : Option FieldType} {rm : Room} {lv : List (Nat × Value)} {pc : Nat} {st : List Value} {idx N : Nat}  {P : MS → Int32 → Prop} (X : zC g κ (hsM h) (wM κ h) cc nL own ret rm) (hml : Cond.methodLink own idx yX5_checkBlocks ∈ zT) (H : w_X5_checkBlocks N u P) (hR : 1 + 1 ≤ rm.frames ∧ 8 + (4 + 11) + 27 ≤ rm.locals) (hroom : (st.map fun v => v.category).sum ≤ 8) (d : decode cc pc = .ok (.invokevirtual idx, 3)) (kk : ∀ u1 v, P u1 v → zJ g κ (hsM h) (wM κ h) Φ nL u1 lv (pc + 3) (.int v :: st)) : zJ g κ (hsM h) (wM κ h) Φ nL u lv pc (.ref h.1 :: st) := z_callV (As := []) X yy_X5_checkBlocks hml im_X5_checkBlocks se_X5_checkBlocks (c_X5_checkBlocks hh N u P H) 4 0 rfl rfl rfl ⟨rfl, rfl⟩ hR rfl hroom d (fun u1 r hz => by obtain ⟨v, hr, hP⟩ := hz; subst hr; exact kk u1 v hP)
def w_X5_checkList_91 (N : Nat) (P : MS → Int32 → Prop) (u : MS) (x4 : Int32) : Prop := ((x4 = 0 → (w_X5_wrong N u (5 : Int32) (-1 : Int32) fun u10 r9 => (P u10 r9))) ∧ (¬ x4 = 0 → (w_X5_wrong N u (5 : Int32) (x4 - (1 : Int32)) fun u8 r7 => (P u8 r7))))
def w_X5_checkList_11 (N : Nat) (P : MS → Int32 → Prop) : Nat → MS → Int32 → Int64 → Int32 → Prop
  | 0, _, _, _, _ => False
  | n + 1, u, x1, x2, x4 => ((x2 = (0 : Int64) → (P u (0 : Int32))) ∧ (¬ x2 = (0 : Int64) → (w_X5_in N x2 (1 : Int64) ((u.1.2.1)).toInt64 fun r3 => ((r3 = 0 → (w_X5_checkList_91 N P u x4)) ∧ (¬ r3 = 0 → (vp_in (x2).toInt32 2049 ∧ (((u.2.2 ((x2).toInt32).toNatClampNeg) = 0 → (w_X5_checkList_91 N P u x4)) ∧ (¬ (u.2.2 ((x2).toInt32).toNatClampNeg) = 0 → (vp_in (x2).toInt32 2049 ∧ (((u.2.1 ((x2).toInt32).toNatClampNeg) = 0 → (w_X5_words N u (x2).toInt32 fun u16 r15 => (w_X5_classIn N r15 fun r17 => ((r17 = x1 → (vp_in ((x2).toInt32 + (1 : Int32)) 2048 ∧ (((u16.1.1 (((x2).toInt32 + (1 : Int32))).toNatClampNeg) = (x4).toInt64 → (vp_in (x2).toInt32 2049 ∧ zlet (u16.1, upd u16.2.1 ((x2).toInt32).toNatClampNeg (vp_nar .boolean (1 : Int32)), u16.2.2) fun u23 => (vp_in (x2).toInt32 2048 ∧ (w_X5_checkList_11 N P n u23 x1 (u23.1.1 ((x2).toInt32).toNatClampNeg) (x2).toInt32)))) ∧ (¬ (u16.1.1 (((x2).toInt32 + (1 : Int32))).toNatClampNeg) = (x4).toInt64 → (w_X5_checkList_91 N P u16 x4))))) ∧ (¬ r17 = x1 → (w_X5_checkList_91 N P u16 x4)))))) ∧ (¬ (u.2.1 ((x2).toInt32).toNatClampNeg) = 0 → (w_X5_checkList_91 N P u x4))))))))))))
def w_X5_checkList (N : Nat) (u : MS) (a1 : Int32) (P : MS → Int32 → Prop) : Prop := (vp_in a1 72 ∧ (w_X5_checkList_11 N P N u a1 ((u.1.2.2.1 (a1).toNatClampNeg)).toInt64 (0 : Int32)))
set_option maxHeartbeats 4000000 in
set_option maxRecDepth 100000 in
theorem j_X5_checkList_91 {κ : zK} {h : zG} (hh : zDM κ h) (N : Nat) {g : zE} (X : zC g κ (hsM h) (wM κ h) cX5_checkList 6 RX5 (some .int) { frames := 1, cells := 0, slots := 0, locals := 25 }) (P : MS → Int32 → Prop) (u : MS) (x4 : Int32) (H : w_X5_checkList_91 N P u x4) : zJ g κ (hsM h) (wM κ h) (zi P) 6 u [(0, .ref h.1), (4, .int x4)] 91 [] := by
  unfold w_X5_checkList_91 at H
  refine z_aload_n X dX5_checkList_91 0 rfl rfl ?_
  refine z_iconst (v := 5) X dX5_checkList_92 (by decide) ?_
  refine z_iload X dX5_checkList_93 1 rfl ?_
  refine z_if_ne (tgt := 102) X dX5_checkList_95 (by decide) (fun q6 => ?_) (fun q6 => ?_)
  · have H := H.2 q6
    refine z_iload X dX5_checkList_102 1 rfl ?_
    refine z_iconst (v := 1) X dX5_checkList_104 (by decide) ?_
    refine z_isub X dX5_checkList_105 ?_
    refine k_X5_wrong hh X ml_X5_117 H ⟨Nat.le_of_ble_eq_true rfl, Nat.le_of_ble_eq_true rfl⟩ (Nat.le_of_ble_eq_true rfl) dX5_checkList_106 (fun u8 r7 H => ?_)
    exact z_iret X dX5_checkList_109 H
  · have H := H.1 q6
    refine z_iconst (v := -1) X dX5_checkList_98 (by decide) ?_
    refine z_goto (tgt := 106) X dX5_checkList_99 (by decide) ?_
    refine k_X5_wrong hh X ml_X5_117 H ⟨Nat.le_of_ble_eq_true rfl, Nat.le_of_ble_eq_true rfl⟩ (Nat.le_of_ble_eq_true rfl) dX5_checkList_106 (fun u10 r9 H => ?_)
    exact z_iret X dX5_checkList_109 H
set_option maxHeartbeats 4000000 in
set_option maxRecDepth 100000 in
theorem j_X5_checkList_11 {κ : zK} {h : zG} (hh : zDM κ h) (N : Nat) {g : zE} (X : zC g κ (hsM h) (wM κ h) cX5_checkList 6 RX5 (some .int) { frames := 1, cells := 0, slots := 0, locals := 25 }) (P : MS → Int32 → Prop) : ∀ (n : Nat) (u : MS) (x1 : Int32) (x2 : Int64) (x4 : Int32), w_X5_checkList_11 N P n u x1 x2 x4 → zJ g κ (hsM h) (wM κ h) (zi P) 6 u [(0, .ref h.1), (1, .int x1), (2, .long x2), (4, .int x4)] 11 [] := by
  intro n
  induction n with
  | zero => intro u x1 x2 x4 H; exact absurd H (by rw [w_X5_checkList_11]; exact id)
  | succ n ih =>
    intro u x1 x2 x4 H
    rw [w_X5_checkList_11] at H
    refine z_lload_n X dX5_checkList_11 2 rfl rfl ?_
    refine z_lconst (v := 0) X dX5_checkList_12 (by decide) ?_
    refine z_lcmp_eq (tgt := 133) X dX5_checkList_13 dX5_checkList_14 (by decide) (fun q2 => ?_) (fun q2 => ?_)
    · have H := H.1 q2
      refine z_iconst (v := 0) X dX5_checkList_133 (by decide) ?_
      exact z_iret X dX5_checkList_134 H
    · have H := H.2 q2
      refine z_lload_n X dX5_checkList_17 2 rfl rfl ?_
      refine z_lconst (v := 1) X dX5_checkList_18 (by decide) ?_
      refine z_aload_n X dX5_checkList_19 0 rfl rfl ?_
      refine gf_X5_32 X dX5_checkList_20 ?_
      refine z_i2l X dX5_checkList_23 ?_
      refine k_X5_in X ml_X5_53 H ⟨Nat.le_of_ble_eq_true rfl, Nat.le_of_ble_eq_true rfl⟩ (Nat.le_of_ble_eq_true rfl) dX5_checkList_24 (fun r3 H => ?_)
      refine z_if_eq (tgt := 54) X dX5_checkList_27 (by decide) (fun q5 => ?_) (fun q5 => ?_)
      · have H := H.1 q5
        refine z_iconst (v := 0) X dX5_checkList_54 (by decide) ?_
        refine z_istore (lv' := [(5, .int (0 : Int32)), (0, .ref h.1), (1, .int x1), (2, .long x2), (4, .int x4)]) X dX5_checkList_55 (by decide) rfl ?_
        refine z_iload X dX5_checkList_57 0 rfl ?_
        refine z_if_eq (tgt := 91) X dX5_checkList_59 (by decide) (fun _ => ?_) (fun q => absurd q (by decide))
        exact z_sub (j_X5_checkList_91 hh N X P u x4 H) [1, 4] rfl
      · have H := H.2 q5
        refine z_aload_n X dX5_checkList_30 0 rfl rfl ?_
        refine gf_X5_25 X dX5_checkList_31 ?_
        refine z_lload_n X dX5_checkList_34 2 rfl rfl ?_
        refine z_l2i X dX5_checkList_35 ?_
        obtain ⟨q11, H⟩ := H
        refine ar_begins X q11 dX5_checkList_36 ?_
        refine z_if_eq (tgt := 54) X dX5_checkList_37 (by decide) (fun q12 => ?_) (fun q12 => ?_)
        · have H := H.1 q12
          refine z_iconst (v := 0) X dX5_checkList_54 (by decide) ?_
          refine z_istore (lv' := [(5, .int (0 : Int32)), (0, .ref h.1), (1, .int x1), (2, .long x2), (4, .int x4)]) X dX5_checkList_55 (by decide) rfl ?_
          refine z_iload X dX5_checkList_57 0 rfl ?_
          refine z_if_eq (tgt := 91) X dX5_checkList_59 (by decide) (fun _ => ?_) (fun q => absurd q (by decide))
          exact z_sub (j_X5_checkList_91 hh N X P u x4 H) [1, 4] rfl
        · have H := H.2 q12
          refine z_aload_n X dX5_checkList_40 0 rfl rfl ?_
          refine gf_X5_21 X dX5_checkList_41 ?_
          refine z_lload_n X dX5_checkList_44 2 rfl rfl ?_
          refine z_l2i X dX5_checkList_45 ?_
          obtain ⟨q13, H⟩ := H
          refine ar_met X q13 dX5_checkList_46 ?_
          refine z_if_ne (tgt := 54) X dX5_checkList_47 (by decide) (fun q14 => ?_) (fun q14 => ?_)
          · have H := H.2 q14
            refine z_iconst (v := 0) X dX5_checkList_54 (by decide) ?_
            refine z_istore (lv' := [(5, .int (0 : Int32)), (0, .ref h.1), (1, .int x1), (2, .long x2), (4, .int x4)]) X dX5_checkList_55 (by decide) rfl ?_
            refine z_iload X dX5_checkList_57 0 rfl ?_
            refine z_if_eq (tgt := 91) X dX5_checkList_59 (by decide) (fun _ => ?_) (fun q => absurd q (by decide))
            exact z_sub (j_X5_checkList_91 hh N X P u x4 H) [1, 4] rfl
          · have H := H.1 q14
            refine z_iconst (v := 1) X dX5_checkList_50 (by decide) ?_
            refine z_goto (tgt := 55) X dX5_checkList_51 (by decide) ?_
            refine z_istore (lv' := [(5, .int (1 : Int32)), (0, .ref h.1), (1, .int x1), (2, .long x2), (4, .int x4)]) X dX5_checkList_55 (by decide) rfl ?_
            refine z_iload X dX5_checkList_57 0 rfl ?_
            refine z_if_eq (tgt := 91) X dX5_checkList_59 (by decide) (fun q => absurd q (by decide)) (fun _ => ?_)
            refine z_aload_n X dX5_checkList_62 1 rfl rfl ?_
            refine z_lload_n X dX5_checkList_63 3 rfl rfl ?_
            refine z_l2i X dX5_checkList_64 ?_
            refine k_X5_words hh X ml_X5_66 H ⟨Nat.le_of_ble_eq_true rfl, Nat.le_of_ble_eq_true rfl⟩ (Nat.le_of_ble_eq_true rfl) dX5_checkList_65 (fun u16 r15 H => ?_)
            refine k_X5_classIn X ml_X5_57 H ⟨Nat.le_of_ble_eq_true rfl, Nat.le_of_ble_eq_true rfl⟩ (Nat.le_of_ble_eq_true rfl) dX5_checkList_68 (fun r17 H => ?_)
            refine z_iload_n X dX5_checkList_71 2 rfl rfl ?_
            refine z_icmp_ne (tgt := 91) X dX5_checkList_72 (by decide) (fun q19 => ?_) (fun q19 => ?_)
            · have H := H.2 q19
              exact z_sub (j_X5_checkList_91 hh N X P u16 x4 H) [1, 4] rfl
            · have H := H.1 q19
              refine z_aload_n X dX5_checkList_75 1 rfl rfl ?_
              refine gf_X5_7 X dX5_checkList_76 ?_
              refine z_lload_n X dX5_checkList_79 3 rfl rfl ?_
              refine z_l2i X dX5_checkList_80 ?_
              refine z_iconst (v := 1) X dX5_checkList_81 (by decide) ?_
              refine z_iadd X dX5_checkList_82 ?_
              obtain ⟨q20, H⟩ := H
              refine ar_pool X q20 dX5_checkList_83 ?_
              refine z_iload X dX5_checkList_84 4 rfl ?_
              refine z_i2l X dX5_checkList_86 ?_
              refine z_lcmp_eq (tgt := 110) X dX5_checkList_87 dX5_checkList_88 (by decide) (fun q21 => ?_) (fun q21 => ?_)
              · have H := H.1 q21
                refine z_aload_n X dX5_checkList_110 1 rfl rfl ?_
                refine gf_X5_21 X dX5_checkList_111 ?_
                refine z_lload_n X dX5_checkList_114 3 rfl rfl ?_
                refine z_l2i X dX5_checkList_115 ?_
                refine z_iconst (v := 1) X dX5_checkList_116 (by decide) ?_
                obtain ⟨q22, H⟩ := H
                refine aw_met X q22 dX5_checkList_117 H (fun u23 H => ?_)
                refine z_lload_n X dX5_checkList_118 3 rfl rfl ?_
                refine z_l2i X dX5_checkList_119 ?_
                refine z_istore (lv' := [(4, .int (x2).toInt32), (5, .int (1 : Int32)), (0, .ref h.1), (1, .int x1), (2, .long x2)]) X dX5_checkList_120 (by decide) rfl ?_
                refine z_aload_n X dX5_checkList_122 2 rfl rfl ?_
                refine gf_X5_7 X dX5_checkList_123 ?_
                refine z_iload X dX5_checkList_126 0 rfl ?_
                obtain ⟨q24, H⟩ := H
                refine ar_pool X q24 dX5_checkList_128 ?_
                refine z_lstore_n (lv' := [(2, .long (u23.1.1 ((x2).toInt32).toNatClampNeg)), (4, .int (x2).toInt32), (5, .int (1 : Int32)), (0, .ref h.1), (1, .int x1)]) X dX5_checkList_129 rfl (by decide) rfl ?_
                refine z_goto (tgt := 11) X dX5_checkList_130 (by decide) ?_
                exact z_sub (ih u23 x1 (u23.1.1 ((x2).toInt32).toNatClampNeg) (x2).toInt32 H) [3, 4, 0, 1] rfl
              · have H := H.2 q21
                exact z_sub (j_X5_checkList_91 hh N X P u16 x4 H) [1, 4] rfl
set_option maxHeartbeats 4000000 in
set_option maxRecDepth 100000 in
theorem c_X5_checkList {l : Launch} {κ : zK} {h : zG} (hh : zDM κ h) (N : Nat) (u : MS) (a1 : Int32) (P : MS → Int32 → Prop) (H : w_X5_checkList N u a1 P) : zM l κ (hsM h) (wM κ h) yX5_checkList cX5_checkList 6 (some .int) { frames := 1, cells := 0, slots := 0, locals := 25 } [.ref h.1, .int a1] u (zi P) := by
  refine z_met (own := RX5) (by decide) rfl (Nat.le_of_ble_eq_true rfl) hh (fun g X => ?_)
  show zJ g κ (hsM h) (wM κ h) (zi P) 6 u [(0, .ref h.1), (1, .int a1)] 0 []
  unfold w_X5_checkList at H
  refine z_aload_n X dX5_checkList_0 0 rfl rfl ?_
  refine gf_X5_13 X dX5_checkList_1 ?_
  refine z_iload_n X dX5_checkList_4 1 rfl rfl ?_
  obtain ⟨q1, H⟩ := H
  refine ar_first X q1 dX5_checkList_5 ?_
  refine z_i2l X dX5_checkList_6 ?_
  refine z_lstore_n (lv' := [(2, .long ((u.1.2.2.1 (a1).toNatClampNeg)).toInt64), (0, .ref h.1), (1, .int a1)]) X dX5_checkList_7 rfl (by decide) rfl ?_
  refine z_iconst (v := 0) X dX5_checkList_8 (by decide) ?_
  refine z_istore (lv' := [(4, .int (0 : Int32)), (2, .long ((u.1.2.2.1 (a1).toNatClampNeg)).toInt64), (0, .ref h.1), (1, .int a1)]) X dX5_checkList_9 (by decide) rfl ?_
  exact z_sub (j_X5_checkList_11 hh N X P N u a1 ((u.1.2.2.1 (a1).toNatClampNeg)).toInt64 (0 : Int32) H) [2, 3, 1, 0] rfl
theorem k_X5_checkList {g : zE} {κ : zK} {h : zG} (hh : zDM κ h) {u : MS} {Φ : MS → Option Value → Prop} {cc : ByteArray} {nL : Nat} {own : String} {ret : Option FieldType} {rm : Room} {lv : List (Nat × Value)} {pc : Nat} {st : List Value} {idx N : Nat} {a1 : Int32} {P : MS → Int32 → Prop} (X : zC g κ (hsM h) (wM κ h) cc nL own ret rm) (hml : Cond.methodLink own idx yX5_checkList ∈ zT) (H : w_X5_checkList N u a1 P) (hR : 1 + 1 ≤ rm.frames ∧ 8 + (6 + 11) + 25 ≤ rm.locals) (hroom : (st.map fun v => v.category).sum ≤ 8) (d : decode cc pc = .ok (.invokevirtual idx, 3)) (kk : ∀ u1 v, P u1 v → zJ g κ (hsM h) (wM κ h) Φ nL u1 lv (pc + 3) (.int v :: st)) : zJ g κ (hsM h) (wM κ h) Φ nL u lv pc (.int a1 :: .ref h.1 :: st) := z_callV (As := [.int a1]) X yy_X5_checkList hml im_X5_checkList se_X5_checkList (c_X5_checkList hh N u a1 P H) 4 0 rfl rfl rfl ⟨rfl, rfl⟩ hR rfl hroom d (fun u1 r hz => by obtain ⟨v, hr, hP⟩ := hz; subst hr; exact kk u1 v hP)
def w_X5_check_82 (N : Nat) (P : MS → Int32 → Prop) (u : MS) (x1 : Int32) : Prop := (((u.1.2.2.2.2.2.1) = 0 → (zlet (sSp u.1 (0 : Int32), u.2) fun u7 => (P u7 x1))) ∧ (¬ (u.1.2.2.2.2.2.1) = 0 → ((x1 = 0 → (zlet (sSp u.1 (0 : Int32), u.2) fun u9 => (P u9 x1))) ∧ (¬ x1 = 0 → (zlet (sSp u.1 (1 : Int32), u.2) fun u10 => (P u10 x1))))))
def w_X5_check_36 (N : Nat) (P : MS → Int32 → Prop) : Nat → MS → Int32 → Int32 → Prop
  | 0, _, _, _ => False
  | n + 1, u, x1, x2 => (((u.1.2.1) < x2 → (w_X5_check_82 N P u x1)) ∧ (¬ (u.1.2.1) < x2 → ((x1 = 0 → (vp_in x2 2049 ∧ (((u.2.2 (x2).toNatClampNeg) = 0 → (w_X5_check_36 N P n u x1 (x2 + (1 : Int32)))) ∧ (¬ (u.2.2 (x2).toNatClampNeg) = 0 → (vp_in x2 2049 ∧ (((u.2.1 (x2).toNatClampNeg) = 0 → (w_X5_wrong N u (6 : Int32) (x2 - (1 : Int32)) fun u17 r16 => (w_X5_check_36 N P n u17 r16 (x2 + (1 : Int32))))) ∧ (¬ (u.2.1 (x2).toNatClampNeg) = 0 → (w_X5_check_36 N P n u x1 (x2 + (1 : Int32)))))))))) ∧ (¬ x1 = 0 → (w_X5_check_82 N P u x1)))))
def w_X5_check_34 (N : Nat) (P : MS → Int32 → Prop) (u : MS) (x1 : Int32) : Prop := (w_X5_check_36 N P N u x1 (1 : Int32))
def w_X5_check_12 (N : Nat) (P : MS → Int32 → Prop) : Nat → MS → Int32 → Int32 → Prop
  | 0, _, _, _ => False
  | n + 1, u, x1, x2 => ((x2 < (72 : Int32) → ((x1 = 0 → (w_X5_checkList N u x2 fun u20 r19 => (w_X5_check_12 N P n u20 r19 (x2 + (1 : Int32))))) ∧ (¬ x1 = 0 → (w_X5_check_34 N P u x1)))) ∧ (¬ x2 < (72 : Int32) → (w_X5_check_34 N P u x1)))
def w_X5_check (N : Nat) (u : MS) (P : MS → Int32 → Prop) : Prop := (zlet (sWa u.1 (-1 : Int32), u.2) fun u1 => (w_X5_checkBlocks N u1 fun u3 r2 => (w_X5_check_12 N P N u3 r2 (0 : Int32))))
set_option maxHeartbeats 4000000 in
set_option maxRecDepth 100000 in
theorem j_X5_check_82 {κ : zK} {h : zG} (hh : zDM κ h) (N : Nat) {g : zE} (X : zC g κ (hsM h) (wM κ h) cX5_check 3 RX5 (some .int) { frames := 2, cells := 0, slots := 0, locals := 50 }) (P : MS → Int32 → Prop) (u : MS) (x1 : Int32) (H : w_X5_check_82 N P u x1) : zJ g κ (hsM h) (wM κ h) (zi P) 3 u [(0, .ref h.1), (1, .int x1)] 82 [] := by
  unfold w_X5_check_82 at H
  refine z_aload_n X dX5_check_82 0 rfl rfl ?_
  refine z_aload_n X dX5_check_83 0 rfl rfl ?_
  refine gf_X5_35 X dX5_check_84 ?_
  refine z_if_eq (tgt := 98) X dX5_check_87 (by decide) (fun q6 => ?_) (fun q6 => ?_)
  · have H := H.1 q6
    refine z_iconst (v := 0) X dX5_check_98 (by decide) ?_
    refine pf_X5_35 X ⟨rfl, rfl⟩ dX5_check_99 H (fun u7 H => ?_)
    refine z_iload_n X dX5_check_102 1 rfl rfl ?_
    exact z_iret X dX5_check_103 H
  · have H := H.2 q6
    refine z_iload_n X dX5_check_90 1 rfl rfl ?_
    refine z_if_eq (tgt := 98) X dX5_check_91 (by decide) (fun q8 => ?_) (fun q8 => ?_)
    · have H := H.1 q8
      refine z_iconst (v := 0) X dX5_check_98 (by decide) ?_
      refine pf_X5_35 X ⟨rfl, rfl⟩ dX5_check_99 H (fun u9 H => ?_)
      refine z_iload_n X dX5_check_102 1 rfl rfl ?_
      exact z_iret X dX5_check_103 H
    · have H := H.2 q8
      refine z_iconst (v := 1) X dX5_check_94 (by decide) ?_
      refine z_goto (tgt := 99) X dX5_check_95 (by decide) ?_
      refine pf_X5_35 X ⟨rfl, rfl⟩ dX5_check_99 H (fun u10 H => ?_)
      refine z_iload_n X dX5_check_102 1 rfl rfl ?_
      exact z_iret X dX5_check_103 H
set_option maxHeartbeats 4000000 in
set_option maxRecDepth 100000 in
theorem j_X5_check_36 {κ : zK} {h : zG} (hh : zDM κ h) (N : Nat) {g : zE} (X : zC g κ (hsM h) (wM κ h) cX5_check 3 RX5 (some .int) { frames := 2, cells := 0, slots := 0, locals := 50 }) (P : MS → Int32 → Prop) : ∀ (n : Nat) (u : MS) (x1 : Int32) (x2 : Int32), w_X5_check_36 N P n u x1 x2 → zJ g κ (hsM h) (wM κ h) (zi P) 3 u [(0, .ref h.1), (1, .int x1), (2, .int x2)] 36 [] := by
  intro n
  induction n with
  | zero => intro u x1 x2 H; exact absurd H (by rw [w_X5_check_36]; exact id)
  | succ n ih =>
    intro u x1 x2 H
    rw [w_X5_check_36] at H
    refine z_iload_n X dX5_check_36 2 rfl rfl ?_
    refine z_aload_n X dX5_check_37 0 rfl rfl ?_
    refine gf_X5_32 X dX5_check_38 ?_
    refine z_icmp_gt (tgt := 82) X dX5_check_41 (by decide) (fun q5 => ?_) (fun q5 => ?_)
    · have H := H.1 q5
      exact z_sub (j_X5_check_82 hh N X P u x1 H) [0, 1] rfl
    · have H := H.2 q5
      refine z_iload_n X dX5_check_44 1 rfl rfl ?_
      refine z_if_ne (tgt := 82) X dX5_check_45 (by decide) (fun q11 => ?_) (fun q11 => ?_)
      · have H := H.2 q11
        exact z_sub (j_X5_check_82 hh N X P u x1 H) [0, 1] rfl
      · have H := H.1 q11
        refine z_aload_n X dX5_check_48 0 rfl rfl ?_
        refine gf_X5_25 X dX5_check_49 ?_
        refine z_iload_n X dX5_check_52 2 rfl rfl ?_
        obtain ⟨q12, H⟩ := H
        refine ar_begins X q12 dX5_check_53 ?_
        refine z_if_eq (tgt := 76) X dX5_check_54 (by decide) (fun q13 => ?_) (fun q13 => ?_)
        · have H := H.1 q13
          refine z_iinc (k := 2) (v := (x2 + (1 : Int32))) (lv' := [(2, .int (x2 + (1 : Int32))), (0, .ref h.1), (1, .int x1)]) X dX5_check_76 rfl rfl (by decide) rfl ?_
          refine z_goto (tgt := 36) X dX5_check_79 (by decide) ?_
          exact z_sub (ih u x1 (x2 + (1 : Int32)) H) [1, 2, 0] rfl
        · have H := H.2 q13
          refine z_aload_n X dX5_check_57 0 rfl rfl ?_
          refine gf_X5_21 X dX5_check_58 ?_
          refine z_iload_n X dX5_check_61 2 rfl rfl ?_
          obtain ⟨q14, H⟩ := H
          refine ar_met X q14 dX5_check_62 ?_
          refine z_if_ne (tgt := 76) X dX5_check_63 (by decide) (fun q15 => ?_) (fun q15 => ?_)
          · have H := H.2 q15
            refine z_iinc (k := 2) (v := (x2 + (1 : Int32))) (lv' := [(2, .int (x2 + (1 : Int32))), (0, .ref h.1), (1, .int x1)]) X dX5_check_76 rfl rfl (by decide) rfl ?_
            refine z_goto (tgt := 36) X dX5_check_79 (by decide) ?_
            exact z_sub (ih u x1 (x2 + (1 : Int32)) H) [1, 2, 0] rfl
          · have H := H.1 q15
            refine z_aload_n X dX5_check_66 0 rfl rfl ?_
            refine z_bipush (v := 6) X dX5_check_67 (by decide) ?_
            refine z_iload_n X dX5_check_69 2 rfl rfl ?_
            refine z_iconst (v := 1) X dX5_check_70 (by decide) ?_
            refine z_isub X dX5_check_71 ?_
            refine k_X5_wrong hh X ml_X5_117 H ⟨Nat.le_of_ble_eq_true rfl, Nat.le_of_ble_eq_true rfl⟩ (Nat.le_of_ble_eq_true rfl) dX5_check_72 (fun u17 r16 H => ?_)
            refine z_istore_n (lv' := [(1, .int r16), (0, .ref h.1), (2, .int x2)]) X dX5_check_75 rfl (by decide) rfl ?_
            refine z_iinc (k := 2) (v := (x2 + (1 : Int32))) (lv' := [(2, .int (x2 + (1 : Int32))), (1, .int r16), (0, .ref h.1)]) X dX5_check_76 rfl rfl (by decide) rfl ?_
            refine z_goto (tgt := 36) X dX5_check_79 (by decide) ?_
            exact z_sub (ih u17 r16 (x2 + (1 : Int32)) H) [2, 1, 0] rfl
set_option maxHeartbeats 4000000 in
set_option maxRecDepth 100000 in
theorem j_X5_check_34 {κ : zK} {h : zG} (hh : zDM κ h) (N : Nat) {g : zE} (X : zC g κ (hsM h) (wM κ h) cX5_check 3 RX5 (some .int) { frames := 2, cells := 0, slots := 0, locals := 50 }) (P : MS → Int32 → Prop) (u : MS) (x1 : Int32) (H : w_X5_check_34 N P u x1) : zJ g κ (hsM h) (wM κ h) (zi P) 3 u [(0, .ref h.1), (1, .int x1)] 34 [] := by
  unfold w_X5_check_34 at H
  refine z_iconst (v := 1) X dX5_check_34 (by decide) ?_
  refine z_istore_n (lv' := [(2, .int (1 : Int32)), (0, .ref h.1), (1, .int x1)]) X dX5_check_35 rfl (by decide) rfl ?_
  exact z_sub (j_X5_check_36 hh N X P N u x1 (1 : Int32) H) [1, 2, 0] rfl
set_option maxHeartbeats 4000000 in
set_option maxRecDepth 100000 in
theorem j_X5_check_12 {κ : zK} {h : zG} (hh : zDM κ h) (N : Nat) {g : zE} (X : zC g κ (hsM h) (wM κ h) cX5_check 3 RX5 (some .int) { frames := 2, cells := 0, slots := 0, locals := 50 }) (P : MS → Int32 → Prop) : ∀ (n : Nat) (u : MS) (x1 : Int32) (x2 : Int32), w_X5_check_12 N P n u x1 x2 → zJ g κ (hsM h) (wM κ h) (zi P) 3 u [(0, .ref h.1), (1, .int x1), (2, .int x2)] 12 [] := by
  intro n
  induction n with
  | zero => intro u x1 x2 H; exact absurd H (by rw [w_X5_check_12]; exact id)
  | succ n ih =>
    intro u x1 x2 H
    rw [w_X5_check_12] at H
    refine z_iload_n X dX5_check_12 2 rfl rfl ?_
    refine z_bipush (v := 72) X dX5_check_13 (by decide) ?_
    refine z_icmp_ge (tgt := 34) X dX5_check_15 (by decide) (fun q4 => ?_) (fun q4 => ?_)
    · have H := H.2 q4
      exact z_sub (j_X5_check_34 hh N X P u x1 H) [0, 1] rfl
    · have H := H.1 q4
      refine z_iload_n X dX5_check_18 1 rfl rfl ?_
      refine z_if_ne (tgt := 34) X dX5_check_19 (by decide) (fun q18 => ?_) (fun q18 => ?_)
      · have H := H.2 q18
        exact z_sub (j_X5_check_34 hh N X P u x1 H) [0, 1] rfl
      · have H := H.1 q18
        refine z_aload_n X dX5_check_22 0 rfl rfl ?_
        refine z_iload_n X dX5_check_23 2 rfl rfl ?_
        refine k_X5_checkList hh X ml_X5_125 H ⟨Nat.le_of_ble_eq_true rfl, Nat.le_of_ble_eq_true rfl⟩ (Nat.le_of_ble_eq_true rfl) dX5_check_24 (fun u20 r19 H => ?_)
        refine z_istore_n (lv' := [(1, .int r19), (0, .ref h.1), (2, .int x2)]) X dX5_check_27 rfl (by decide) rfl ?_
        refine z_iinc (k := 2) (v := (x2 + (1 : Int32))) (lv' := [(2, .int (x2 + (1 : Int32))), (1, .int r19), (0, .ref h.1)]) X dX5_check_28 rfl rfl (by decide) rfl ?_
        refine z_goto (tgt := 12) X dX5_check_31 (by decide) ?_
        exact z_sub (ih u20 r19 (x2 + (1 : Int32)) H) [2, 1, 0] rfl
set_option maxHeartbeats 4000000 in
set_option maxRecDepth 100000 in
theorem c_X5_check {l : Launch} {κ : zK} {h : zG} (hh : zDM κ h) (N : Nat) (u : MS) (P : MS → Int32 → Prop) (H : w_X5_check N u P) : zM l κ (hsM h) (wM κ h) yX5_check cX5_check 3 (some .int) { frames := 2, cells := 0, slots := 0, locals := 50 } [.ref h.1] u (zi P) := by
  refine z_met (own := RX5) (by decide) rfl (Nat.le_of_ble_eq_true rfl) hh (fun g X => ?_)
  show zJ g κ (hsM h) (wM κ h) (zi P) 3 u [(0, .ref h.1)] 0 []
  unfold w_X5_check at H
  refine z_aload_n X dX5_check_0 0 rfl rfl ?_
  refine z_iconst (v := -1) X dX5_check_1 (by decide) ?_
  refine pf_X5_17 X dX5_check_2 H (fun u1 H => ?_)
  refine z_aload_n X dX5_check_5 0 rfl rfl ?_
  refine k_X5_checkBlocks hh X ml_X5_121 H ⟨Nat.le_of_ble_eq_true rfl, Nat.le_of_ble_eq_true rfl⟩ (Nat.le_of_ble_eq_true rfl) dX5_check_6 (fun u3 r2 H => ?_)
  refine z_istore_n (lv' := [(1, .int r2), (0, .ref h.1)]) X dX5_check_9 rfl (by decide) rfl ?_
  refine z_iconst (v := 0) X dX5_check_10 (by decide) ?_
  refine z_istore_n (lv' := [(2, .int (0 : Int32)), (1, .int r2), (0, .ref h.1)]) X dX5_check_11 rfl (by decide) rfl ?_
  exact z_sub (j_X5_check_12 hh N X P N u3 r2 (0 : Int32) H) [2, 1, 0] rfl
theorem k_X5_check {g : zE} {κ : zK} {h : zG} (hh : zDM κ h) {u : MS} {Φ : MS → Option Value → Prop} {cc : ByteArray} {nL : Nat} {own : String} {ret : Option FieldType} {rm : Room} {lv : List (Nat × Value)} {pc : Nat} {st : List Value} {idx N : Nat}  {P : MS → Int32 → Prop} (X : zC g κ (hsM h) (wM κ h) cc nL own ret rm) (hml : Cond.methodLink own idx yX5_check ∈ zT) (H : w_X5_check N u P) (hR : 2 + 1 ≤ rm.frames ∧ 8 + (3 + 11) + 50 ≤ rm.locals) (hroom : (st.map fun v => v.category).sum ≤ 8) (d : decode cc pc = .ok (.invokevirtual idx, 3)) (kk : ∀ u1 v, P u1 v → zJ g κ (hsM h) (wM κ h) Φ nL u1 lv (pc + 3) (.int v :: st)) : zJ g κ (hsM h) (wM κ h) Φ nL u lv pc (.ref h.1 :: st) := z_callV (As := []) X yy_X5_check hml im_X5_check se_X5_check (c_X5_check hh N u P H) 4 0 rfl rfl rfl ⟨rfl, rfl⟩ hR rfl hroom d (fun u1 r hz => by obtain ⟨v, hr, hP⟩ := hz; subst hr; exact kk u1 v hP)
def w_X5_where (N : Nat) (u : MS) (P : MS → Int32 → Prop) : Prop := (P u (u.1.2.2.2.2.2.2))
set_option maxHeartbeats 4000000 in
set_option maxRecDepth 100000 in
theorem c_X5_where {l : Launch} {κ : zK} {h : zG} (hh : zDM κ h) (N : Nat) (u : MS) (P : MS → Int32 → Prop) (H : w_X5_where N u P) : zM l κ (hsM h) (wM κ h) yX5_where cX5_where 1 (some .int) { frames := 0, cells := 0, slots := 0, locals := 0 } [.ref h.1] u (zi P) := by
  refine z_met (own := RX5) (by decide) rfl (Nat.le_of_ble_eq_true rfl) hh (fun g X => ?_)
  show zJ g κ (hsM h) (wM κ h) (zi P) 1 u [(0, .ref h.1)] 0 []
  unfold w_X5_where at H
  refine z_aload_n X dX5_where_0 0 rfl rfl ?_
  refine gf_X5_17 X dX5_where_1 ?_
  exact z_iret X dX5_where_4 H
theorem k_X5_where {g : zE} {κ : zK} {h : zG} (hh : zDM κ h) {u : MS} {Φ : MS → Option Value → Prop} {cc : ByteArray} {nL : Nat} {own : String} {ret : Option FieldType} {rm : Room} {lv : List (Nat × Value)} {pc : Nat} {st : List Value} {idx N : Nat}  {P : MS → Int32 → Prop} (X : zC g κ (hsM h) (wM κ h) cc nL own ret rm) (hml : Cond.methodLink own idx yX5_where ∈ zT) (H : w_X5_where N u P) (hR : 0 + 1 ≤ rm.frames ∧ 8 + (1 + 11) + 0 ≤ rm.locals) (hroom : (st.map fun v => v.category).sum ≤ 8) (d : decode cc pc = .ok (.invokevirtual idx, 3)) (kk : ∀ u1 v, P u1 v → zJ g κ (hsM h) (wM κ h) Φ nL u1 lv (pc + 3) (.int v :: st)) : zJ g κ (hsM h) (wM κ h) Φ nL u lv pc (.ref h.1 :: st) := z_callV (As := []) X yy_X5_where hml im_X5_where se_X5_where (c_X5_where hh N u P H) 4 0 rfl rfl rfl ⟨rfl, rfl⟩ hR rfl hroom d (fun u1 r hz => by obtain ⟨v, hr, hP⟩ := hz; subst hr; exact kk u1 v hP)
def w_X5_listed_39 (N : Nat) (P : MS → Int32 → Prop) : Nat → MS → Int32 → Int32 → Int32 → Prop
  | 0, _, _, _, _ => False
  | n + 1, u, x2, x3, x4 => ((x4 < x2 → ((x3 = 0 → ((x3 = 0 → (P u (-1 : Int32))) ∧ (¬ x3 = 0 → (P u x3)))) ∧ (¬ x3 = 0 → (vp_in x3 2048 ∧ (w_X5_listed_39 N P n u x2 ((u.1.1 (x3).toNatClampNeg)).toInt32 (x4 + (1 : Int32))))))) ∧ (¬ x4 < x2 → ((x3 = 0 → (P u (-1 : Int32))) ∧ (¬ x3 = 0 → (P u x3)))))
def w_X5_listed (N : Nat) (u : MS) (a1 : Int32) (a2 : Int32) (P : MS → Int32 → Prop) : Prop := (w_X5_in N (a1).toInt64 (0 : Int64) (71 : Int64) fun r1 => ((r1 = 0 → (P u (-2 : Int32))) ∧ (¬ r1 = 0 → ((a2 < 0 → (P u (-2 : Int32))) ∧ (¬ a2 < 0 → (((u.1.2.2.2.2.2.1) = 0 → (vp_in a1 72 ∧ (w_X5_listed_39 N P N u a2 (u.1.2.2.1 (a1).toNatClampNeg) (0 : Int32)))) ∧ (¬ (u.1.2.2.2.2.2.1) = 0 → (P u (-3 : Int32)))))))))
set_option maxHeartbeats 4000000 in
set_option maxRecDepth 100000 in
theorem j_X5_listed_39 {κ : zK} {h : zG} (hh : zDM κ h) (N : Nat) {g : zE} (X : zC g κ (hsM h) (wM κ h) cX5_listed 5 RX5 (some .int) { frames := 1, cells := 0, slots := 0, locals := 25 }) (P : MS → Int32 → Prop) : ∀ (n : Nat) (u : MS) (x2 : Int32) (x3 : Int32) (x4 : Int32), w_X5_listed_39 N P n u x2 x3 x4 → zJ g κ (hsM h) (wM κ h) (zi P) 5 u [(0, .ref h.1), (2, .int x2), (3, .int x3), (4, .int x4)] 39 [] := by
  intro n
  induction n with
  | zero => intro u x2 x3 x4 H; exact absurd H (by rw [w_X5_listed_39]; exact id)
  | succ n ih =>
    intro u x2 x3 x4 H
    rw [w_X5_listed_39] at H
    refine z_iload X dX5_listed_39 3 rfl ?_
    refine z_iload_n X dX5_listed_41 1 rfl rfl ?_
    refine z_icmp_ge (tgt := 63) X dX5_listed_42 (by decide) (fun q7 => ?_) (fun q7 => ?_)
    · have H := H.2 q7
      refine z_iload_n X dX5_listed_63 2 rfl rfl ?_
      refine z_if_ne (tgt := 71) X dX5_listed_64 (by decide) (fun q8 => ?_) (fun q8 => ?_)
      · have H := H.2 q8
        refine z_iload_n X dX5_listed_71 2 rfl rfl ?_
        exact z_iret X dX5_listed_72 H
      · have H := H.1 q8
        refine z_iconst (v := -1) X dX5_listed_67 (by decide) ?_
        refine z_goto (tgt := 72) X dX5_listed_68 (by decide) ?_
        exact z_iret X dX5_listed_72 H
    · have H := H.1 q7
      refine z_iload_n X dX5_listed_45 2 rfl rfl ?_
      refine z_if_eq (tgt := 63) X dX5_listed_46 (by decide) (fun q9 => ?_) (fun q9 => ?_)
      · have H := H.1 q9
        refine z_iload_n X dX5_listed_63 2 rfl rfl ?_
        refine z_if_ne (tgt := 71) X dX5_listed_64 (by decide) (fun q10 => ?_) (fun q10 => ?_)
        · have H := H.2 q10
          refine z_iload_n X dX5_listed_71 2 rfl rfl ?_
          exact z_iret X dX5_listed_72 H
        · have H := H.1 q10
          refine z_iconst (v := -1) X dX5_listed_67 (by decide) ?_
          refine z_goto (tgt := 72) X dX5_listed_68 (by decide) ?_
          exact z_iret X dX5_listed_72 H
      · have H := H.2 q9
        refine z_aload_n X dX5_listed_49 0 rfl rfl ?_
        refine gf_X5_7 X dX5_listed_50 ?_
        refine z_iload_n X dX5_listed_53 2 rfl rfl ?_
        obtain ⟨q11, H⟩ := H
        refine ar_pool X q11 dX5_listed_54 ?_
        refine z_l2i X dX5_listed_55 ?_
        refine z_istore_n (lv' := [(3, .int ((u.1.1 (x3).toNatClampNeg)).toInt32), (0, .ref h.1), (2, .int x2), (4, .int x4)]) X dX5_listed_56 rfl (by decide) rfl ?_
        refine z_iinc (k := 3) (v := (x4 + (1 : Int32))) (lv' := [(4, .int (x4 + (1 : Int32))), (3, .int ((u.1.1 (x3).toNatClampNeg)).toInt32), (0, .ref h.1), (2, .int x2)]) X dX5_listed_57 rfl rfl (by decide) rfl ?_
        refine z_goto (tgt := 39) X dX5_listed_60 (by decide) ?_
        exact z_sub (ih u x2 ((u.1.1 (x3).toNatClampNeg)).toInt32 (x4 + (1 : Int32)) H) [2, 3, 1, 0] rfl
set_option maxHeartbeats 4000000 in
set_option maxRecDepth 100000 in
theorem c_X5_listed {l : Launch} {κ : zK} {h : zG} (hh : zDM κ h) (N : Nat) (u : MS) (a1 : Int32) (a2 : Int32) (P : MS → Int32 → Prop) (H : w_X5_listed N u a1 a2 P) : zM l κ (hsM h) (wM κ h) yX5_listed cX5_listed 5 (some .int) { frames := 1, cells := 0, slots := 0, locals := 25 } [.ref h.1, .int a1, .int a2] u (zi P) := by
  refine z_met (own := RX5) (by decide) rfl (Nat.le_of_ble_eq_true rfl) hh (fun g X => ?_)
  show zJ g κ (hsM h) (wM κ h) (zi P) 5 u [(0, .ref h.1), (1, .int a1), (2, .int a2)] 0 []
  unfold w_X5_listed at H
  refine z_iload_n X dX5_listed_0 1 rfl rfl ?_
  refine z_i2l X dX5_listed_1 ?_
  refine z_lconst (v := 0) X dX5_listed_2 (by decide) ?_
  refine z_ldc2 X kl_X5_128 dX5_listed_3 ?_
  refine k_X5_in X ml_X5_53 H ⟨Nat.le_of_ble_eq_true rfl, Nat.le_of_ble_eq_true rfl⟩ (Nat.le_of_ble_eq_true rfl) dX5_listed_6 (fun r1 H => ?_)
  refine z_if_eq (tgt := 16) X dX5_listed_9 (by decide) (fun q3 => ?_) (fun q3 => ?_)
  · have H := H.1 q3
    refine z_bipush (v := -2) X dX5_listed_16 (by decide) ?_
    exact z_iret X dX5_listed_18 H
  · have H := H.2 q3
    refine z_iload_n X dX5_listed_12 2 rfl rfl ?_
    refine z_if_ge (tgt := 19) X dX5_listed_13 (by decide) (fun q4 => ?_) (fun q4 => ?_)
    · have H := H.2 q4
      refine z_aload_n X dX5_listed_19 0 rfl rfl ?_
      refine gf_X5_35 X dX5_listed_20 ?_
      refine z_if_eq (tgt := 29) X dX5_listed_23 (by decide) (fun q5 => ?_) (fun q5 => ?_)
      · have H := H.1 q5
        refine z_aload_n X dX5_listed_29 0 rfl rfl ?_
        refine gf_X5_13 X dX5_listed_30 ?_
        refine z_iload_n X dX5_listed_33 1 rfl rfl ?_
        obtain ⟨q6, H⟩ := H
        refine ar_first X q6 dX5_listed_34 ?_
        refine z_istore_n (lv' := [(3, .int (u.1.2.2.1 (a1).toNatClampNeg)), (0, .ref h.1), (1, .int a1), (2, .int a2)]) X dX5_listed_35 rfl (by decide) rfl ?_
        refine z_iconst (v := 0) X dX5_listed_36 (by decide) ?_
        refine z_istore (lv' := [(4, .int (0 : Int32)), (3, .int (u.1.2.2.1 (a1).toNatClampNeg)), (0, .ref h.1), (1, .int a1), (2, .int a2)]) X dX5_listed_37 (by decide) rfl ?_
        exact z_sub (j_X5_listed_39 hh N X P N u a2 (u.1.2.2.1 (a1).toNatClampNeg) (0 : Int32) H) [2, 4, 1, 0] rfl
      · have H := H.2 q5
        refine z_bipush (v := -3) X dX5_listed_26 (by decide) ?_
        exact z_iret X dX5_listed_28 H
    · have H := H.1 q4
      refine z_bipush (v := -2) X dX5_listed_16 (by decide) ?_
      exact z_iret X dX5_listed_18 H
theorem k_X5_listed {g : zE} {κ : zK} {h : zG} (hh : zDM κ h) {u : MS} {Φ : MS → Option Value → Prop} {cc : ByteArray} {nL : Nat} {own : String} {ret : Option FieldType} {rm : Room} {lv : List (Nat × Value)} {pc : Nat} {st : List Value} {idx N : Nat} {a1 : Int32} {a2 : Int32} {P : MS → Int32 → Prop} (X : zC g κ (hsM h) (wM κ h) cc nL own ret rm) (hml : Cond.methodLink own idx yX5_listed ∈ zT) (H : w_X5_listed N u a1 a2 P) (hR : 1 + 1 ≤ rm.frames ∧ 8 + (5 + 11) + 25 ≤ rm.locals) (hroom : (st.map fun v => v.category).sum ≤ 8) (d : decode cc pc = .ok (.invokevirtual idx, 3)) (kk : ∀ u1 v, P u1 v → zJ g κ (hsM h) (wM κ h) Φ nL u1 lv (pc + 3) (.int v :: st)) : zJ g κ (hsM h) (wM κ h) Φ nL u lv pc (.int a2 :: .int a1 :: .ref h.1 :: st) := z_callV (As := [.int a1, .int a2]) X yy_X5_listed hml im_X5_listed se_X5_listed (c_X5_listed hh N u a1 a2 P H) 4 0 rfl rfl rfl ⟨rfl, rfl⟩ hR rfl hroom d (fun u1 r hz => by obtain ⟨v, hr, hP⟩ := hz; subst hr; exact kk u1 v hP)
def w_X5_bitsIn_4 (N : Nat) (P : MS → Int32 → Prop) : Nat → MS → Int32 → Int32 → Int32 → Prop
  | 0, _, _, _, _ => False
  | n + 1, u, x1, x2, x3 => ((x3 < (8 : Int32) → (vp_in (((8 : Int32) * x1) + x3) 72 ∧ (((u.1.2.2.1 ((((8 : Int32) * x1) + x3)).toNatClampNeg) = 0 → (w_X5_bitsIn_4 N P n u x1 (x2 ||| (0 : Int32)) (x3 + (1 : Int32)))) ∧ (¬ (u.1.2.2.1 ((((8 : Int32) * x1) + x3)).toNatClampNeg) = 0 → (w_X5_bitsIn_4 N P n u x1 (x2 ||| ((1 : Int32) <<< (x3 &&& 31))) (x3 + (1 : Int32))))))) ∧ (¬ x3 < (8 : Int32) → (P u x2)))
def w_X5_bitsIn (N : Nat) (u : MS) (a1 : Int32) (P : MS → Int32 → Prop) : Prop := (w_X5_bitsIn_4 N P N u a1 (0 : Int32) (0 : Int32))
set_option maxHeartbeats 4000000 in
set_option maxRecDepth 100000 in
theorem j_X5_bitsIn_4 {κ : zK} {h : zG} (hh : zDM κ h) (N : Nat) {g : zE} (X : zC g κ (hsM h) (wM κ h) cX5_bitsIn 4 RX5 (some .int) { frames := 0, cells := 0, slots := 0, locals := 0 }) (P : MS → Int32 → Prop) : ∀ (n : Nat) (u : MS) (x1 : Int32) (x2 : Int32) (x3 : Int32), w_X5_bitsIn_4 N P n u x1 x2 x3 → zJ g κ (hsM h) (wM κ h) (zi P) 4 u [(0, .ref h.1), (1, .int x1), (2, .int x2), (3, .int x3)] 4 [] := by
  intro n
  induction n with
  | zero => intro u x1 x2 x3 H; exact absurd H (by rw [w_X5_bitsIn_4]; exact id)
  | succ n ih =>
    intro u x1 x2 x3 H
    rw [w_X5_bitsIn_4] at H
    refine z_iload_n X dX5_bitsIn_4 3 rfl rfl ?_
    refine z_bipush (v := 8) X dX5_bitsIn_5 (by decide) ?_
    refine z_icmp_ge (tgt := 40) X dX5_bitsIn_7 (by decide) (fun q1 => ?_) (fun q1 => ?_)
    · have H := H.2 q1
      refine z_iload_n X dX5_bitsIn_40 2 rfl rfl ?_
      exact z_iret X dX5_bitsIn_41 H
    · have H := H.1 q1
      refine z_iload_n X dX5_bitsIn_10 2 rfl rfl ?_
      refine z_aload_n X dX5_bitsIn_11 0 rfl rfl ?_
      refine gf_X5_13 X dX5_bitsIn_12 ?_
      refine z_bipush (v := 8) X dX5_bitsIn_15 (by decide) ?_
      refine z_iload_n X dX5_bitsIn_17 1 rfl rfl ?_
      refine z_imul X dX5_bitsIn_18 ?_
      refine z_iload_n X dX5_bitsIn_19 3 rfl rfl ?_
      refine z_iadd X dX5_bitsIn_20 ?_
      obtain ⟨q2, H⟩ := H
      refine ar_first X q2 dX5_bitsIn_21 ?_
      refine z_if_eq (tgt := 31) X dX5_bitsIn_22 (by decide) (fun q3 => ?_) (fun q3 => ?_)
      · have H := H.1 q3
        refine z_iconst (v := 0) X dX5_bitsIn_31 (by decide) ?_
        refine z_ior X dX5_bitsIn_32 ?_
        refine z_istore_n (lv' := [(2, .int (x2 ||| (0 : Int32))), (0, .ref h.1), (1, .int x1), (3, .int x3)]) X dX5_bitsIn_33 rfl (by decide) rfl ?_
        refine z_iinc (k := 3) (v := (x3 + (1 : Int32))) (lv' := [(3, .int (x3 + (1 : Int32))), (2, .int (x2 ||| (0 : Int32))), (0, .ref h.1), (1, .int x1)]) X dX5_bitsIn_34 rfl rfl (by decide) rfl ?_
        refine z_goto (tgt := 4) X dX5_bitsIn_37 (by decide) ?_
        exact z_sub (ih u x1 (x2 ||| (0 : Int32)) (x3 + (1 : Int32)) H) [2, 3, 1, 0] rfl
      · have H := H.2 q3
        refine z_iconst (v := 1) X dX5_bitsIn_25 (by decide) ?_
        refine z_iload_n X dX5_bitsIn_26 3 rfl rfl ?_
        refine z_ishl X dX5_bitsIn_27 ?_
        refine z_goto (tgt := 32) X dX5_bitsIn_28 (by decide) ?_
        refine z_ior X dX5_bitsIn_32 ?_
        refine z_istore_n (lv' := [(2, .int (x2 ||| ((1 : Int32) <<< (x3 &&& 31)))), (0, .ref h.1), (1, .int x1), (3, .int x3)]) X dX5_bitsIn_33 rfl (by decide) rfl ?_
        refine z_iinc (k := 3) (v := (x3 + (1 : Int32))) (lv' := [(3, .int (x3 + (1 : Int32))), (2, .int (x2 ||| ((1 : Int32) <<< (x3 &&& 31)))), (0, .ref h.1), (1, .int x1)]) X dX5_bitsIn_34 rfl rfl (by decide) rfl ?_
        refine z_goto (tgt := 4) X dX5_bitsIn_37 (by decide) ?_
        exact z_sub (ih u x1 (x2 ||| ((1 : Int32) <<< (x3 &&& 31))) (x3 + (1 : Int32)) H) [2, 3, 1, 0] rfl
set_option maxHeartbeats 4000000 in
set_option maxRecDepth 100000 in
theorem c_X5_bitsIn {l : Launch} {κ : zK} {h : zG} (hh : zDM κ h) (N : Nat) (u : MS) (a1 : Int32) (P : MS → Int32 → Prop) (H : w_X5_bitsIn N u a1 P) : zM l κ (hsM h) (wM κ h) yX5_bitsIn cX5_bitsIn 4 (some .int) { frames := 0, cells := 0, slots := 0, locals := 0 } [.ref h.1, .int a1] u (zi P) := by
  refine z_met (own := RX5) (by decide) rfl (Nat.le_of_ble_eq_true rfl) hh (fun g X => ?_)
  show zJ g κ (hsM h) (wM κ h) (zi P) 4 u [(0, .ref h.1), (1, .int a1)] 0 []
  unfold w_X5_bitsIn at H
  refine z_iconst (v := 0) X dX5_bitsIn_0 (by decide) ?_
  refine z_istore_n (lv' := [(2, .int (0 : Int32)), (0, .ref h.1), (1, .int a1)]) X dX5_bitsIn_1 rfl (by decide) rfl ?_
  refine z_iconst (v := 0) X dX5_bitsIn_2 (by decide) ?_
  refine z_istore_n (lv' := [(3, .int (0 : Int32)), (2, .int (0 : Int32)), (0, .ref h.1), (1, .int a1)]) X dX5_bitsIn_3 rfl (by decide) rfl ?_
  exact z_sub (j_X5_bitsIn_4 hh N X P N u a1 (0 : Int32) (0 : Int32) H) [2, 3, 1, 0] rfl
theorem k_X5_bitsIn {g : zE} {κ : zK} {h : zG} (hh : zDM κ h) {u : MS} {Φ : MS → Option Value → Prop} {cc : ByteArray} {nL : Nat} {own : String} {ret : Option FieldType} {rm : Room} {lv : List (Nat × Value)} {pc : Nat} {st : List Value} {idx N : Nat} {a1 : Int32} {P : MS → Int32 → Prop} (X : zC g κ (hsM h) (wM κ h) cc nL own ret rm) (hml : Cond.methodLink own idx yX5_bitsIn ∈ zT) (H : w_X5_bitsIn N u a1 P) (hR : 0 + 1 ≤ rm.frames ∧ 8 + (4 + 11) + 0 ≤ rm.locals) (hroom : (st.map fun v => v.category).sum ≤ 8) (d : decode cc pc = .ok (.invokevirtual idx, 3)) (kk : ∀ u1 v, P u1 v → zJ g κ (hsM h) (wM κ h) Φ nL u1 lv (pc + 3) (.int v :: st)) : zJ g κ (hsM h) (wM κ h) Φ nL u lv pc (.int a1 :: .ref h.1 :: st) := z_callV (As := [.int a1]) X yy_X5_bitsIn hml im_X5_bitsIn se_X5_bitsIn (c_X5_bitsIn hh N u a1 P H) 4 0 rfl rfl rfl ⟨rfl, rfl⟩ hR rfl hroom d (fun u1 r hz => by obtain ⟨v, hr, hP⟩ := hz; subst hr; exact kk u1 v hP)
def w_X5_bits_31 (N : Nat) (P : MS → Int32 → Prop) : Nat → MS → Int32 → Int32 → Prop
  | 0, _, _, _ => False
  | n + 1, u, x2, x3 => ((x3 < (9 : Int32) → (w_X5_bitsIn N u x3 fun u7 r6 => ((r6 = 0 → (w_X5_bits_31 N P n u7 (x2 ||| (0 : Int32)) (x3 + (1 : Int32)))) ∧ (¬ r6 = 0 → (w_X5_bits_31 N P n u7 (x2 ||| ((1 : Int32) <<< (x3 &&& 31))) (x3 + (1 : Int32))))))) ∧ (¬ x3 < (9 : Int32) → (P u x2)))
def w_X5_bits (N : Nat) (u : MS) (a1 : Int32) (P : MS → Int32 → Prop) : Prop := (w_X5_in N (a1).toInt64 (0 : Int64) (9 : Int64) fun r1 => ((r1 = 0 → (P u (-2 : Int32))) ∧ (¬ r1 = 0 → ((a1 < (9 : Int32) → (w_X5_bitsIn N u a1 fun u10 r9 => (P u10 r9))) ∧ (¬ a1 < (9 : Int32) → (w_X5_bits_31 N P N u (0 : Int32) (0 : Int32)))))))
set_option maxHeartbeats 4000000 in
set_option maxRecDepth 100000 in
theorem j_X5_bits_31 {κ : zK} {h : zG} (hh : zDM κ h) (N : Nat) {g : zE} (X : zC g κ (hsM h) (wM κ h) cX5_bits 4 RX5 (some .int) { frames := 1, cells := 0, slots := 0, locals := 25 }) (P : MS → Int32 → Prop) : ∀ (n : Nat) (u : MS) (x2 : Int32) (x3 : Int32), w_X5_bits_31 N P n u x2 x3 → zJ g κ (hsM h) (wM κ h) (zi P) 4 u [(0, .ref h.1), (2, .int x2), (3, .int x3)] 31 [] := by
  intro n
  induction n with
  | zero => intro u x2 x3 H; exact absurd H (by rw [w_X5_bits_31]; exact id)
  | succ n ih =>
    intro u x2 x3 H
    rw [w_X5_bits_31] at H
    refine z_iload_n X dX5_bits_31 2 rfl rfl ?_
    refine z_bipush (v := 9) X dX5_bits_32 (by decide) ?_
    refine z_icmp_ge (tgt := 61) X dX5_bits_34 (by decide) (fun q5 => ?_) (fun q5 => ?_)
    · have H := H.2 q5
      refine z_iload_n X dX5_bits_61 1 rfl rfl ?_
      exact z_iret X dX5_bits_62 H
    · have H := H.1 q5
      refine z_iload_n X dX5_bits_37 1 rfl rfl ?_
      refine z_aload_n X dX5_bits_38 0 rfl rfl ?_
      refine z_iload_n X dX5_bits_39 2 rfl rfl ?_
      refine k_X5_bitsIn hh X ml_X5_132 H ⟨Nat.le_of_ble_eq_true rfl, Nat.le_of_ble_eq_true rfl⟩ (Nat.le_of_ble_eq_true rfl) dX5_bits_40 (fun u7 r6 H => ?_)
      refine z_if_eq (tgt := 52) X dX5_bits_43 (by decide) (fun q8 => ?_) (fun q8 => ?_)
      · have H := H.1 q8
        refine z_iconst (v := 0) X dX5_bits_52 (by decide) ?_
        refine z_ior X dX5_bits_53 ?_
        refine z_istore_n (lv' := [(2, .int (x2 ||| (0 : Int32))), (0, .ref h.1), (3, .int x3)]) X dX5_bits_54 rfl (by decide) rfl ?_
        refine z_iinc (k := 2) (v := (x3 + (1 : Int32))) (lv' := [(3, .int (x3 + (1 : Int32))), (2, .int (x2 ||| (0 : Int32))), (0, .ref h.1)]) X dX5_bits_55 rfl rfl (by decide) rfl ?_
        refine z_goto (tgt := 31) X dX5_bits_58 (by decide) ?_
        exact z_sub (ih u7 (x2 ||| (0 : Int32)) (x3 + (1 : Int32)) H) [2, 1, 0] rfl
      · have H := H.2 q8
        refine z_iconst (v := 1) X dX5_bits_46 (by decide) ?_
        refine z_iload_n X dX5_bits_47 2 rfl rfl ?_
        refine z_ishl X dX5_bits_48 ?_
        refine z_goto (tgt := 53) X dX5_bits_49 (by decide) ?_
        refine z_ior X dX5_bits_53 ?_
        refine z_istore_n (lv' := [(2, .int (x2 ||| ((1 : Int32) <<< (x3 &&& 31)))), (0, .ref h.1), (3, .int x3)]) X dX5_bits_54 rfl (by decide) rfl ?_
        refine z_iinc (k := 2) (v := (x3 + (1 : Int32))) (lv' := [(3, .int (x3 + (1 : Int32))), (2, .int (x2 ||| ((1 : Int32) <<< (x3 &&& 31)))), (0, .ref h.1)]) X dX5_bits_55 rfl rfl (by decide) rfl ?_
        refine z_goto (tgt := 31) X dX5_bits_58 (by decide) ?_
        exact z_sub (ih u7 (x2 ||| ((1 : Int32) <<< (x3 &&& 31))) (x3 + (1 : Int32)) H) [2, 1, 0] rfl
set_option maxHeartbeats 4000000 in
set_option maxRecDepth 100000 in
theorem c_X5_bits {l : Launch} {κ : zK} {h : zG} (hh : zDM κ h) (N : Nat) (u : MS) (a1 : Int32) (P : MS → Int32 → Prop) (H : w_X5_bits N u a1 P) : zM l κ (hsM h) (wM κ h) yX5_bits cX5_bits 4 (some .int) { frames := 1, cells := 0, slots := 0, locals := 25 } [.ref h.1, .int a1] u (zi P) := by
  refine z_met (own := RX5) (by decide) rfl (Nat.le_of_ble_eq_true rfl) hh (fun g X => ?_)
  show zJ g κ (hsM h) (wM κ h) (zi P) 4 u [(0, .ref h.1), (1, .int a1)] 0 []
  unfold w_X5_bits at H
  refine z_iload_n X dX5_bits_0 1 rfl rfl ?_
  refine z_i2l X dX5_bits_1 ?_
  refine z_lconst (v := 0) X dX5_bits_2 (by decide) ?_
  refine z_ldc2 X kl_X5_130 dX5_bits_3 ?_
  refine k_X5_in X ml_X5_53 H ⟨Nat.le_of_ble_eq_true rfl, Nat.le_of_ble_eq_true rfl⟩ (Nat.le_of_ble_eq_true rfl) dX5_bits_6 (fun r1 H => ?_)
  refine z_if_ne (tgt := 15) X dX5_bits_9 (by decide) (fun q3 => ?_) (fun q3 => ?_)
  · have H := H.2 q3
    refine z_iload_n X dX5_bits_15 1 rfl rfl ?_
    refine z_bipush (v := 9) X dX5_bits_16 (by decide) ?_
    refine z_icmp_ge (tgt := 27) X dX5_bits_18 (by decide) (fun q4 => ?_) (fun q4 => ?_)
    · have H := H.2 q4
      refine z_iconst (v := 0) X dX5_bits_27 (by decide) ?_
      refine z_istore_n (lv' := [(2, .int (0 : Int32)), (0, .ref h.1), (1, .int a1)]) X dX5_bits_28 rfl (by decide) rfl ?_
      refine z_iconst (v := 0) X dX5_bits_29 (by decide) ?_
      refine z_istore_n (lv' := [(3, .int (0 : Int32)), (2, .int (0 : Int32)), (0, .ref h.1), (1, .int a1)]) X dX5_bits_30 rfl (by decide) rfl ?_
      exact z_sub (j_X5_bits_31 hh N X P N u (0 : Int32) (0 : Int32) H) [2, 1, 0] rfl
    · have H := H.1 q4
      refine z_aload_n X dX5_bits_21 0 rfl rfl ?_
      refine z_iload_n X dX5_bits_22 1 rfl rfl ?_
      refine k_X5_bitsIn hh X ml_X5_132 H ⟨Nat.le_of_ble_eq_true rfl, Nat.le_of_ble_eq_true rfl⟩ (Nat.le_of_ble_eq_true rfl) dX5_bits_23 (fun u10 r9 H => ?_)
      exact z_iret X dX5_bits_26 H
  · have H := H.1 q3
    refine z_bipush (v := -2) X dX5_bits_12 (by decide) ?_
    exact z_iret X dX5_bits_14 H
theorem k_X5_bits {g : zE} {κ : zK} {h : zG} (hh : zDM κ h) {u : MS} {Φ : MS → Option Value → Prop} {cc : ByteArray} {nL : Nat} {own : String} {ret : Option FieldType} {rm : Room} {lv : List (Nat × Value)} {pc : Nat} {st : List Value} {idx N : Nat} {a1 : Int32} {P : MS → Int32 → Prop} (X : zC g κ (hsM h) (wM κ h) cc nL own ret rm) (hml : Cond.methodLink own idx yX5_bits ∈ zT) (H : w_X5_bits N u a1 P) (hR : 1 + 1 ≤ rm.frames ∧ 8 + (4 + 11) + 25 ≤ rm.locals) (hroom : (st.map fun v => v.category).sum ≤ 8) (d : decode cc pc = .ok (.invokevirtual idx, 3)) (kk : ∀ u1 v, P u1 v → zJ g κ (hsM h) (wM κ h) Φ nL u1 lv (pc + 3) (.int v :: st)) : zJ g κ (hsM h) (wM κ h) Φ nL u lv pc (.int a1 :: .ref h.1 :: st) := z_callV (As := [.int a1]) X yy_X5_bits hml im_X5_bits se_X5_bits (c_X5_bits hh N u a1 P H) 4 0 rfl rfl rfl ⟨rfl, rfl⟩ hR rfl hroom d (fun u1 r hz => by obtain ⟨v, hr, hP⟩ := hz; subst hr; exact kk u1 v hP)
def w_X5_block_56 (N : Nat) (P : MS → Int32 → Prop) (u : MS) (x2 : Int32) (x3 : Int32) : Prop := ((x3 = 0 → (P u (-1 : Int32))) ∧ (¬ x3 = 0 → ((x2 = 0 → (P u x3)) ∧ (¬ x2 = 0 → ((x2 = (1 : Int32) → (w_X5_words N u x3 fun u14 r13 => (P u14 r13))) ∧ (¬ x2 = (1 : Int32) → (w_X5_isFree N u x3 fun u11 r10 => ((r10 = 0 → (P u11 (0 : Int32))) ∧ (¬ r10 = 0 → (P u11 (1 : Int32)))))))))))
def w_X5_block_34 (N : Nat) (P : MS → Int32 → Prop) : Nat → MS → Int32 → Int32 → Int32 → Int32 → Prop
  | 0, _, _, _, _, _ => False
  | n + 1, u, x1, x2, x3, x4 => ((x4 < x1 → ((0 < x3 → (w_X5_behind N u x3 fun u17 r16 => (w_X5_block_34 N P n u17 x1 x2 r16 (x4 + (1 : Int32))))) ∧ (¬ 0 < x3 → (w_X5_block_56 N P u x2 x3)))) ∧ (¬ x4 < x1 → (w_X5_block_56 N P u x2 x3)))
def w_X5_block (N : Nat) (u : MS) (a1 : Int32) (a2 : Int32) (P : MS → Int32 → Prop) : Prop := (w_X5_in N (a2).toInt64 (0 : Int64) (2 : Int64) fun r1 => ((r1 = 0 → (P u (-2 : Int32))) ∧ (¬ r1 = 0 → ((a1 < 0 → (P u (-2 : Int32))) ∧ (¬ a1 < 0 → (((u.1.2.2.2.2.2.1) = 0 → (w_X5_block_34 N P N u a1 a2 (1 : Int32) (0 : Int32))) ∧ (¬ (u.1.2.2.2.2.2.1) = 0 → (P u (-3 : Int32)))))))))
set_option maxHeartbeats 4000000 in
set_option maxRecDepth 100000 in
theorem j_X5_block_56 {κ : zK} {h : zG} (hh : zDM κ h) (N : Nat) {g : zE} (X : zC g κ (hsM h) (wM κ h) cX5_block 5 RX5 (some .int) { frames := 2, cells := 0, slots := 0, locals := 43 }) (P : MS → Int32 → Prop) (u : MS) (x2 : Int32) (x3 : Int32) (H : w_X5_block_56 N P u x2 x3) : zJ g κ (hsM h) (wM κ h) (zi P) 5 u [(0, .ref h.1), (2, .int x2), (3, .int x3)] 56 [] := by
  unfold w_X5_block_56 at H
  refine z_iload_n X dX5_block_56 2 rfl rfl ?_
  refine z_if_ne (tgt := 64) X dX5_block_57 (by decide) (fun q7 => ?_) (fun q7 => ?_)
  · have H := H.2 q7
    refine z_iload_n X dX5_block_64 1 rfl rfl ?_
    refine z_if_ne (tgt := 72) X dX5_block_65 (by decide) (fun q8 => ?_) (fun q8 => ?_)
    · have H := H.2 q8
      refine z_iload_n X dX5_block_72 1 rfl rfl ?_
      refine z_iconst (v := 1) X dX5_block_73 (by decide) ?_
      refine z_icmp_ne (tgt := 85) X dX5_block_74 (by decide) (fun q9 => ?_) (fun q9 => ?_)
      · have H := H.2 q9
        refine z_aload_n X dX5_block_85 0 rfl rfl ?_
        refine z_iload_n X dX5_block_86 2 rfl rfl ?_
        refine k_X5_isFree hh X ml_X5_82 H ⟨Nat.le_of_ble_eq_true rfl, Nat.le_of_ble_eq_true rfl⟩ (Nat.le_of_ble_eq_true rfl) dX5_block_87 (fun u11 r10 H => ?_)
        refine z_if_eq (tgt := 97) X dX5_block_90 (by decide) (fun q12 => ?_) (fun q12 => ?_)
        · have H := H.1 q12
          refine z_iconst (v := 0) X dX5_block_97 (by decide) ?_
          exact z_iret X dX5_block_98 H
        · have H := H.2 q12
          refine z_iconst (v := 1) X dX5_block_93 (by decide) ?_
          refine z_goto (tgt := 98) X dX5_block_94 (by decide) ?_
          exact z_iret X dX5_block_98 H
      · have H := H.1 q9
        refine z_aload_n X dX5_block_77 0 rfl rfl ?_
        refine z_iload_n X dX5_block_78 2 rfl rfl ?_
        refine k_X5_words hh X ml_X5_66 H ⟨Nat.le_of_ble_eq_true rfl, Nat.le_of_ble_eq_true rfl⟩ (Nat.le_of_ble_eq_true rfl) dX5_block_79 (fun u14 r13 H => ?_)
        refine z_goto (tgt := 98) X dX5_block_82 (by decide) ?_
        exact z_iret X dX5_block_98 H
    · have H := H.1 q8
      refine z_iload_n X dX5_block_68 2 rfl rfl ?_
      refine z_goto (tgt := 98) X dX5_block_69 (by decide) ?_
      exact z_iret X dX5_block_98 H
  · have H := H.1 q7
    refine z_iconst (v := -1) X dX5_block_60 (by decide) ?_
    refine z_goto (tgt := 98) X dX5_block_61 (by decide) ?_
    exact z_iret X dX5_block_98 H
set_option maxHeartbeats 4000000 in
set_option maxRecDepth 100000 in
theorem j_X5_block_34 {κ : zK} {h : zG} (hh : zDM κ h) (N : Nat) {g : zE} (X : zC g κ (hsM h) (wM κ h) cX5_block 5 RX5 (some .int) { frames := 2, cells := 0, slots := 0, locals := 43 }) (P : MS → Int32 → Prop) : ∀ (n : Nat) (u : MS) (x1 : Int32) (x2 : Int32) (x3 : Int32) (x4 : Int32), w_X5_block_34 N P n u x1 x2 x3 x4 → zJ g κ (hsM h) (wM κ h) (zi P) 5 u [(0, .ref h.1), (1, .int x1), (2, .int x2), (3, .int x3), (4, .int x4)] 34 [] := by
  intro n
  induction n with
  | zero => intro u x1 x2 x3 x4 H; exact absurd H (by rw [w_X5_block_34]; exact id)
  | succ n ih =>
    intro u x1 x2 x3 x4 H
    rw [w_X5_block_34] at H
    refine z_iload X dX5_block_34 4 rfl ?_
    refine z_iload_n X dX5_block_36 1 rfl rfl ?_
    refine z_icmp_ge (tgt := 56) X dX5_block_37 (by decide) (fun q6 => ?_) (fun q6 => ?_)
    · have H := H.2 q6
      exact z_sub (j_X5_block_56 hh N X P u x2 x3 H) [0, 2, 3] rfl
    · have H := H.1 q6
      refine z_iload_n X dX5_block_40 3 rfl rfl ?_
      refine z_if_le (tgt := 56) X dX5_block_41 (by decide) (fun q15 => ?_) (fun q15 => ?_)
      · have H := H.2 q15
        exact z_sub (j_X5_block_56 hh N X P u x2 x3 H) [0, 2, 3] rfl
      · have H := H.1 q15
        refine z_aload_n X dX5_block_44 0 rfl rfl ?_
        refine z_iload_n X dX5_block_45 3 rfl rfl ?_
        refine k_X5_behind hh X ml_X5_75 H ⟨Nat.le_of_ble_eq_true rfl, Nat.le_of_ble_eq_true rfl⟩ (Nat.le_of_ble_eq_true rfl) dX5_block_46 (fun u17 r16 H => ?_)
        refine z_istore_n (lv' := [(3, .int r16), (0, .ref h.1), (1, .int x1), (2, .int x2), (4, .int x4)]) X dX5_block_49 rfl (by decide) rfl ?_
        refine z_iinc (k := 4) (v := (x4 + (1 : Int32))) (lv' := [(4, .int (x4 + (1 : Int32))), (3, .int r16), (0, .ref h.1), (1, .int x1), (2, .int x2)]) X dX5_block_50 rfl rfl (by decide) rfl ?_
        refine z_goto (tgt := 34) X dX5_block_53 (by decide) ?_
        exact z_sub (ih u17 x1 x2 r16 (x4 + (1 : Int32)) H) [2, 3, 4, 1, 0] rfl
set_option maxHeartbeats 4000000 in
set_option maxRecDepth 100000 in
theorem c_X5_block {l : Launch} {κ : zK} {h : zG} (hh : zDM κ h) (N : Nat) (u : MS) (a1 : Int32) (a2 : Int32) (P : MS → Int32 → Prop) (H : w_X5_block N u a1 a2 P) : zM l κ (hsM h) (wM κ h) yX5_block cX5_block 5 (some .int) { frames := 2, cells := 0, slots := 0, locals := 43 } [.ref h.1, .int a1, .int a2] u (zi P) := by
  refine z_met (own := RX5) (by decide) rfl (Nat.le_of_ble_eq_true rfl) hh (fun g X => ?_)
  show zJ g κ (hsM h) (wM κ h) (zi P) 5 u [(0, .ref h.1), (1, .int a1), (2, .int a2)] 0 []
  unfold w_X5_block at H
  refine z_iload_n X dX5_block_0 2 rfl rfl ?_
  refine z_i2l X dX5_block_1 ?_
  refine z_lconst (v := 0) X dX5_block_2 (by decide) ?_
  refine z_ldc2 X kl_X5_69 dX5_block_3 ?_
  refine k_X5_in X ml_X5_53 H ⟨Nat.le_of_ble_eq_true rfl, Nat.le_of_ble_eq_true rfl⟩ (Nat.le_of_ble_eq_true rfl) dX5_block_6 (fun r1 H => ?_)
  refine z_if_eq (tgt := 16) X dX5_block_9 (by decide) (fun q3 => ?_) (fun q3 => ?_)
  · have H := H.1 q3
    refine z_bipush (v := -2) X dX5_block_16 (by decide) ?_
    exact z_iret X dX5_block_18 H
  · have H := H.2 q3
    refine z_iload_n X dX5_block_12 1 rfl rfl ?_
    refine z_if_ge (tgt := 19) X dX5_block_13 (by decide) (fun q4 => ?_) (fun q4 => ?_)
    · have H := H.2 q4
      refine z_aload_n X dX5_block_19 0 rfl rfl ?_
      refine gf_X5_35 X dX5_block_20 ?_
      refine z_if_eq (tgt := 29) X dX5_block_23 (by decide) (fun q5 => ?_) (fun q5 => ?_)
      · have H := H.1 q5
        refine z_iconst (v := 1) X dX5_block_29 (by decide) ?_
        refine z_istore_n (lv' := [(3, .int (1 : Int32)), (0, .ref h.1), (1, .int a1), (2, .int a2)]) X dX5_block_30 rfl (by decide) rfl ?_
        refine z_iconst (v := 0) X dX5_block_31 (by decide) ?_
        refine z_istore (lv' := [(4, .int (0 : Int32)), (3, .int (1 : Int32)), (0, .ref h.1), (1, .int a1), (2, .int a2)]) X dX5_block_32 (by decide) rfl ?_
        exact z_sub (j_X5_block_34 hh N X P N u a1 a2 (1 : Int32) (0 : Int32) H) [2, 3, 4, 1, 0] rfl
      · have H := H.2 q5
        refine z_bipush (v := -3) X dX5_block_26 (by decide) ?_
        exact z_iret X dX5_block_28 H
    · have H := H.1 q4
      refine z_bipush (v := -2) X dX5_block_16 (by decide) ?_
      exact z_iret X dX5_block_18 H
theorem k_X5_block {g : zE} {κ : zK} {h : zG} (hh : zDM κ h) {u : MS} {Φ : MS → Option Value → Prop} {cc : ByteArray} {nL : Nat} {own : String} {ret : Option FieldType} {rm : Room} {lv : List (Nat × Value)} {pc : Nat} {st : List Value} {idx N : Nat} {a1 : Int32} {a2 : Int32} {P : MS → Int32 → Prop} (X : zC g κ (hsM h) (wM κ h) cc nL own ret rm) (hml : Cond.methodLink own idx yX5_block ∈ zT) (H : w_X5_block N u a1 a2 P) (hR : 2 + 1 ≤ rm.frames ∧ 8 + (5 + 11) + 43 ≤ rm.locals) (hroom : (st.map fun v => v.category).sum ≤ 8) (d : decode cc pc = .ok (.invokevirtual idx, 3)) (kk : ∀ u1 v, P u1 v → zJ g κ (hsM h) (wM κ h) Φ nL u1 lv (pc + 3) (.int v :: st)) : zJ g κ (hsM h) (wM κ h) Φ nL u lv pc (.int a2 :: .int a1 :: .ref h.1 :: st) := z_callV (As := [.int a1, .int a2]) X yy_X5_block hml im_X5_block se_X5_block (c_X5_block hh N u a1 a2 P H) 4 0 rfl rfl rfl ⟨rfl, rfl⟩ hR rfl hroom d (fun u1 r hz => by obtain ⟨v, hr, hP⟩ := hz; subst hr; exact kk u1 v hP)
def w_X5_found (N : Nat) (u : MS) (a1 : Int32) (P : MS → Int32 → Prop) : Prop := (w_X5_in N (a1).toInt64 (1 : Int64) (2048 : Int64) fun r1 => ((r1 = 0 → (P u (-2 : Int32))) ∧ (¬ r1 = 0 → (((u.1.2.2.2.2.2.1) = 0 → (w_X5_lookFor N u a1 fun u6 r5 => ((r5 = 0 → (P u6 (-1 : Int32))) ∧ (¬ r5 = 0 → (P u6 r5))))) ∧ (¬ (u.1.2.2.2.2.2.1) = 0 → (P u (-3 : Int32)))))))
set_option maxHeartbeats 4000000 in
set_option maxRecDepth 100000 in
theorem c_X5_found {l : Launch} {κ : zK} {h : zG} (hh : zDM κ h) (N : Nat) (u : MS) (a1 : Int32) (P : MS → Int32 → Prop) (H : w_X5_found N u a1 P) : zM l κ (hsM h) (wM κ h) yX5_found cX5_found 3 (some .int) { frames := 3, cells := 0, slots := 0, locals := 64 } [.ref h.1, .int a1] u (zi P) := by
  refine z_met (own := RX5) (by decide) rfl (Nat.le_of_ble_eq_true rfl) hh (fun g X => ?_)
  show zJ g κ (hsM h) (wM κ h) (zi P) 3 u [(0, .ref h.1), (1, .int a1)] 0 []
  unfold w_X5_found at H
  refine z_iload_n X dX5_found_0 1 rfl rfl ?_
  refine z_i2l X dX5_found_1 ?_
  refine z_lconst (v := 1) X dX5_found_2 (by decide) ?_
  refine z_ldc2 X kl_X5_51 dX5_found_3 ?_
  refine k_X5_in X ml_X5_53 H ⟨Nat.le_of_ble_eq_true rfl, Nat.le_of_ble_eq_true rfl⟩ (Nat.le_of_ble_eq_true rfl) dX5_found_6 (fun r1 H => ?_)
  refine z_if_ne (tgt := 15) X dX5_found_9 (by decide) (fun q3 => ?_) (fun q3 => ?_)
  · have H := H.2 q3
    refine z_aload_n X dX5_found_15 0 rfl rfl ?_
    refine gf_X5_35 X dX5_found_16 ?_
    refine z_if_eq (tgt := 25) X dX5_found_19 (by decide) (fun q4 => ?_) (fun q4 => ?_)
    · have H := H.1 q4
      refine z_aload_n X dX5_found_25 0 rfl rfl ?_
      refine z_iload_n X dX5_found_26 1 rfl rfl ?_
      refine k_X5_lookFor hh X ml_X5_86 H ⟨Nat.le_of_ble_eq_true rfl, Nat.le_of_ble_eq_true rfl⟩ (Nat.le_of_ble_eq_true rfl) dX5_found_27 (fun u6 r5 H => ?_)
      refine z_istore_n (lv' := [(2, .int r5), (0, .ref h.1), (1, .int a1)]) X dX5_found_30 rfl (by decide) rfl ?_
      refine z_iload_n X dX5_found_31 0 rfl rfl ?_
      refine z_if_ne (tgt := 39) X dX5_found_32 (by decide) (fun q7 => ?_) (fun q7 => ?_)
      · have H := H.2 q7
        refine z_iload_n X dX5_found_39 0 rfl rfl ?_
        exact z_iret X dX5_found_40 H
      · have H := H.1 q7
        refine z_iconst (v := -1) X dX5_found_35 (by decide) ?_
        refine z_goto (tgt := 40) X dX5_found_36 (by decide) ?_
        exact z_iret X dX5_found_40 H
    · have H := H.2 q4
      refine z_bipush (v := -3) X dX5_found_22 (by decide) ?_
      exact z_iret X dX5_found_24 H
  · have H := H.1 q3
    refine z_bipush (v := -2) X dX5_found_12 (by decide) ?_
    exact z_iret X dX5_found_14 H
theorem k_X5_found {g : zE} {κ : zK} {h : zG} (hh : zDM κ h) {u : MS} {Φ : MS → Option Value → Prop} {cc : ByteArray} {nL : Nat} {own : String} {ret : Option FieldType} {rm : Room} {lv : List (Nat × Value)} {pc : Nat} {st : List Value} {idx N : Nat} {a1 : Int32} {P : MS → Int32 → Prop} (X : zC g κ (hsM h) (wM κ h) cc nL own ret rm) (hml : Cond.methodLink own idx yX5_found ∈ zT) (H : w_X5_found N u a1 P) (hR : 3 + 1 ≤ rm.frames ∧ 8 + (3 + 11) + 64 ≤ rm.locals) (hroom : (st.map fun v => v.category).sum ≤ 8) (d : decode cc pc = .ok (.invokevirtual idx, 3)) (kk : ∀ u1 v, P u1 v → zJ g κ (hsM h) (wM κ h) Φ nL u1 lv (pc + 3) (.int v :: st)) : zJ g κ (hsM h) (wM κ h) Φ nL u lv pc (.int a1 :: .ref h.1 :: st) := z_callV (As := [.int a1]) X yy_X5_found hml im_X5_found se_X5_found (c_X5_found hh N u a1 P H) 4 0 rfl rfl rfl ⟨rfl, rfl⟩ hR rfl hroom d (fun u1 r hz => by obtain ⟨v, hr, hP⟩ := hz; subst hr; exact kk u1 v hP)
def w_X5_counted_4 (N : Nat) (P : MS → Int32 → Prop) : Nat → MS → Int32 → Int32 → Int32 → Prop
  | 0, _, _, _, _ => False
  | n + 1, u, x1, x2, x3 => ((0 < x3 → (w_X5_words N u x3 fun u3 r2 => ((x1 = (8 : Int32) → (w_X5_isFree N u3 x3 fun u34 r33 => ((r33 = 0 → (w_X5_behind N u34 x3 fun u37 r36 => (w_X5_counted_4 N P n u37 x1 x2 r36))) ∧ (¬ r33 = 0 → ((x2 < r2 → (w_X5_behind N u34 x3 fun u42 r41 => (w_X5_counted_4 N P n u42 x1 r2 r41))) ∧ (¬ x2 < r2 → (w_X5_behind N u34 x3 fun u40 r39 => (w_X5_counted_4 N P n u40 x1 x2 r39)))))))) ∧ (¬ x1 = (8 : Int32) → (w_X5_isFree N u3 x3 fun u6 r5 => ((x1 = (5 : Int32) → ((r5 = (1 : Int32) → ((x1 < (6 : Int32) → (w_X5_behind N u6 x3 fun u15 r14 => (w_X5_counted_4 N P n u15 x1 (x2 + r2) r14))) ∧ (¬ x1 < (6 : Int32) → (w_X5_behind N u6 x3 fun u13 r12 => (w_X5_counted_4 N P n u13 x1 (x2 + (1 : Int32)) r12))))) ∧ (¬ r5 = (1 : Int32) → (w_X5_behind N u6 x3 fun u10 r9 => (w_X5_counted_4 N P n u10 x1 x2 r9))))) ∧ (¬ x1 = (5 : Int32) → ((x1 = (7 : Int32) → ((r5 = (1 : Int32) → ((x1 < (6 : Int32) → (w_X5_behind N u6 x3 fun u32 r31 => (w_X5_counted_4 N P n u32 x1 (x2 + r2) r31))) ∧ (¬ x1 < (6 : Int32) → (w_X5_behind N u6 x3 fun u30 r29 => (w_X5_counted_4 N P n u30 x1 (x2 + (1 : Int32)) r29))))) ∧ (¬ r5 = (1 : Int32) → (w_X5_behind N u6 x3 fun u27 r26 => (w_X5_counted_4 N P n u27 x1 x2 r26))))) ∧ (¬ x1 = (7 : Int32) → ((r5 = (0 : Int32) → ((x1 < (6 : Int32) → (w_X5_behind N u6 x3 fun u24 r23 => (w_X5_counted_4 N P n u24 x1 (x2 + r2) r23))) ∧ (¬ x1 < (6 : Int32) → (w_X5_behind N u6 x3 fun u22 r21 => (w_X5_counted_4 N P n u22 x1 (x2 + (1 : Int32)) r21))))) ∧ (¬ r5 = (0 : Int32) → (w_X5_behind N u6 x3 fun u19 r18 => (w_X5_counted_4 N P n u19 x1 x2 r18))))))))))))) ∧ (¬ 0 < x3 → (P u x2)))
def w_X5_counted (N : Nat) (u : MS) (a1 : Int32) (P : MS → Int32 → Prop) : Prop := (w_X5_counted_4 N P N u a1 (0 : Int32) (1 : Int32))
set_option maxHeartbeats 4000000 in
set_option maxRecDepth 100000 in
theorem j_X5_counted_4 {κ : zK} {h : zG} (hh : zDM κ h) (N : Nat) {g : zE} (X : zC g κ (hsM h) (wM κ h) cX5_counted 5 RX5 (some .int) { frames := 2, cells := 0, slots := 0, locals := 43 }) (P : MS → Int32 → Prop) : ∀ (n : Nat) (u : MS) (x1 : Int32) (x2 : Int32) (x3 : Int32), w_X5_counted_4 N P n u x1 x2 x3 → zJ g κ (hsM h) (wM κ h) (zi P) 5 u [(0, .ref h.1), (1, .int x1), (2, .int x2), (3, .int x3)] 4 [] := by
  intro n
  induction n with
  | zero => intro u x1 x2 x3 H; exact absurd H (by rw [w_X5_counted_4]; exact id)
  | succ n ih =>
    intro u x1 x2 x3 H
    rw [w_X5_counted_4] at H
    refine z_iload_n X dX5_counted_4 3 rfl rfl ?_
    refine z_if_le (tgt := 93) X dX5_counted_5 (by decide) (fun q1 => ?_) (fun q1 => ?_)
    · have H := H.2 q1
      refine z_iload_n X dX5_counted_93 2 rfl rfl ?_
      exact z_iret X dX5_counted_94 H
    · have H := H.1 q1
      refine z_aload_n X dX5_counted_8 0 rfl rfl ?_
      refine z_iload_n X dX5_counted_9 3 rfl rfl ?_
      refine k_X5_words hh X ml_X5_66 H ⟨Nat.le_of_ble_eq_true rfl, Nat.le_of_ble_eq_true rfl⟩ (Nat.le_of_ble_eq_true rfl) dX5_counted_10 (fun u3 r2 H => ?_)
      refine z_istore (lv' := [(4, .int r2), (0, .ref h.1), (1, .int x1), (2, .int x2), (3, .int x3)]) X dX5_counted_13 (by decide) rfl ?_
      refine z_iload_n X dX5_counted_15 2 rfl rfl ?_
      refine z_bipush (v := 8) X dX5_counted_16 (by decide) ?_
      refine z_icmp_ne (tgt := 45) X dX5_counted_18 (by decide) (fun q4 => ?_) (fun q4 => ?_)
      · have H := H.2 q4
        refine z_aload_n X dX5_counted_45 1 rfl rfl ?_
        refine z_iload_n X dX5_counted_46 4 rfl rfl ?_
        refine k_X5_isFree hh X ml_X5_82 H ⟨Nat.le_of_ble_eq_true rfl, Nat.le_of_ble_eq_true rfl⟩ (Nat.le_of_ble_eq_true rfl) dX5_counted_47 (fun u6 r5 H => ?_)
        refine z_iload_n X dX5_counted_50 2 rfl rfl ?_
        refine z_iconst (v := 5) X dX5_counted_51 (by decide) ?_
        refine z_icmp_eq (tgt := 61) X dX5_counted_52 (by decide) (fun q7 => ?_) (fun q7 => ?_)
        · have H := H.1 q7
          refine z_iconst (v := 1) X dX5_counted_61 (by decide) ?_
          refine z_goto (tgt := 66) X dX5_counted_62 (by decide) ?_
          refine z_icmp_ne (tgt := 84) X dX5_counted_66 (by decide) (fun q8 => ?_) (fun q8 => ?_)
          · have H := H.2 q8
            refine z_aload_n X dX5_counted_84 1 rfl rfl ?_
            refine z_iload_n X dX5_counted_85 4 rfl rfl ?_
            refine k_X5_behind hh X ml_X5_75 H ⟨Nat.le_of_ble_eq_true rfl, Nat.le_of_ble_eq_true rfl⟩ (Nat.le_of_ble_eq_true rfl) dX5_counted_86 (fun u10 r9 H => ?_)
            refine z_istore_n (lv' := [(3, .int r9), (4, .int r2), (0, .ref h.1), (1, .int x1), (2, .int x2)]) X dX5_counted_89 rfl (by decide) rfl ?_
            refine z_goto (tgt := 4) X dX5_counted_90 (by decide) ?_
            exact z_sub (ih u10 x1 x2 r9 H) [2, 3, 4, 0] rfl
          · have H := H.1 q8
            refine z_iload_n X dX5_counted_69 3 rfl rfl ?_
            refine z_iload_n X dX5_counted_70 2 rfl rfl ?_
            refine z_bipush (v := 6) X dX5_counted_71 (by decide) ?_
            refine z_icmp_ge (tgt := 81) X dX5_counted_73 (by decide) (fun q11 => ?_) (fun q11 => ?_)
            · have H := H.2 q11
              refine z_iconst (v := 1) X dX5_counted_81 (by decide) ?_
              refine z_iadd X dX5_counted_82 ?_
              refine z_istore_n (lv' := [(2, .int (x2 + (1 : Int32))), (4, .int r2), (0, .ref h.1), (1, .int x1), (3, .int x3)]) X dX5_counted_83 rfl (by decide) rfl ?_
              refine z_aload_n X dX5_counted_84 2 rfl rfl ?_
              refine z_iload_n X dX5_counted_85 4 rfl rfl ?_
              refine k_X5_behind hh X ml_X5_75 H ⟨Nat.le_of_ble_eq_true rfl, Nat.le_of_ble_eq_true rfl⟩ (Nat.le_of_ble_eq_true rfl) dX5_counted_86 (fun u13 r12 H => ?_)
              refine z_istore_n (lv' := [(3, .int r12), (2, .int (x2 + (1 : Int32))), (4, .int r2), (0, .ref h.1), (1, .int x1)]) X dX5_counted_89 rfl (by decide) rfl ?_
              refine z_goto (tgt := 4) X dX5_counted_90 (by decide) ?_
              exact z_sub (ih u13 x1 (x2 + (1 : Int32)) r12 H) [3, 4, 1, 0] rfl
            · have H := H.1 q11
              refine z_iload X dX5_counted_76 0 rfl ?_
              refine z_goto (tgt := 82) X dX5_counted_78 (by decide) ?_
              refine z_iadd X dX5_counted_82 ?_
              refine z_istore_n (lv' := [(2, .int (x2 + r2)), (4, .int r2), (0, .ref h.1), (1, .int x1), (3, .int x3)]) X dX5_counted_83 rfl (by decide) rfl ?_
              refine z_aload_n X dX5_counted_84 2 rfl rfl ?_
              refine z_iload_n X dX5_counted_85 4 rfl rfl ?_
              refine k_X5_behind hh X ml_X5_75 H ⟨Nat.le_of_ble_eq_true rfl, Nat.le_of_ble_eq_true rfl⟩ (Nat.le_of_ble_eq_true rfl) dX5_counted_86 (fun u15 r14 H => ?_)
              refine z_istore_n (lv' := [(3, .int r14), (2, .int (x2 + r2)), (4, .int r2), (0, .ref h.1), (1, .int x1)]) X dX5_counted_89 rfl (by decide) rfl ?_
              refine z_goto (tgt := 4) X dX5_counted_90 (by decide) ?_
              exact z_sub (ih u15 x1 (x2 + r2) r14 H) [3, 4, 1, 0] rfl
        · have H := H.2 q7
          refine z_iload_n X dX5_counted_55 2 rfl rfl ?_
          refine z_bipush (v := 7) X dX5_counted_56 (by decide) ?_
          refine z_icmp_ne (tgt := 65) X dX5_counted_58 (by decide) (fun q16 => ?_) (fun q16 => ?_)
          · have H := H.2 q16
            refine z_iconst (v := 0) X dX5_counted_65 (by decide) ?_
            refine z_icmp_ne (tgt := 84) X dX5_counted_66 (by decide) (fun q17 => ?_) (fun q17 => ?_)
            · have H := H.2 q17
              refine z_aload_n X dX5_counted_84 1 rfl rfl ?_
              refine z_iload_n X dX5_counted_85 4 rfl rfl ?_
              refine k_X5_behind hh X ml_X5_75 H ⟨Nat.le_of_ble_eq_true rfl, Nat.le_of_ble_eq_true rfl⟩ (Nat.le_of_ble_eq_true rfl) dX5_counted_86 (fun u19 r18 H => ?_)
              refine z_istore_n (lv' := [(3, .int r18), (4, .int r2), (0, .ref h.1), (1, .int x1), (2, .int x2)]) X dX5_counted_89 rfl (by decide) rfl ?_
              refine z_goto (tgt := 4) X dX5_counted_90 (by decide) ?_
              exact z_sub (ih u19 x1 x2 r18 H) [2, 3, 4, 0] rfl
            · have H := H.1 q17
              refine z_iload_n X dX5_counted_69 3 rfl rfl ?_
              refine z_iload_n X dX5_counted_70 2 rfl rfl ?_
              refine z_bipush (v := 6) X dX5_counted_71 (by decide) ?_
              refine z_icmp_ge (tgt := 81) X dX5_counted_73 (by decide) (fun q20 => ?_) (fun q20 => ?_)
              · have H := H.2 q20
                refine z_iconst (v := 1) X dX5_counted_81 (by decide) ?_
                refine z_iadd X dX5_counted_82 ?_
                refine z_istore_n (lv' := [(2, .int (x2 + (1 : Int32))), (4, .int r2), (0, .ref h.1), (1, .int x1), (3, .int x3)]) X dX5_counted_83 rfl (by decide) rfl ?_
                refine z_aload_n X dX5_counted_84 2 rfl rfl ?_
                refine z_iload_n X dX5_counted_85 4 rfl rfl ?_
                refine k_X5_behind hh X ml_X5_75 H ⟨Nat.le_of_ble_eq_true rfl, Nat.le_of_ble_eq_true rfl⟩ (Nat.le_of_ble_eq_true rfl) dX5_counted_86 (fun u22 r21 H => ?_)
                refine z_istore_n (lv' := [(3, .int r21), (2, .int (x2 + (1 : Int32))), (4, .int r2), (0, .ref h.1), (1, .int x1)]) X dX5_counted_89 rfl (by decide) rfl ?_
                refine z_goto (tgt := 4) X dX5_counted_90 (by decide) ?_
                exact z_sub (ih u22 x1 (x2 + (1 : Int32)) r21 H) [3, 4, 1, 0] rfl
              · have H := H.1 q20
                refine z_iload X dX5_counted_76 0 rfl ?_
                refine z_goto (tgt := 82) X dX5_counted_78 (by decide) ?_
                refine z_iadd X dX5_counted_82 ?_
                refine z_istore_n (lv' := [(2, .int (x2 + r2)), (4, .int r2), (0, .ref h.1), (1, .int x1), (3, .int x3)]) X dX5_counted_83 rfl (by decide) rfl ?_
                refine z_aload_n X dX5_counted_84 2 rfl rfl ?_
                refine z_iload_n X dX5_counted_85 4 rfl rfl ?_
                refine k_X5_behind hh X ml_X5_75 H ⟨Nat.le_of_ble_eq_true rfl, Nat.le_of_ble_eq_true rfl⟩ (Nat.le_of_ble_eq_true rfl) dX5_counted_86 (fun u24 r23 H => ?_)
                refine z_istore_n (lv' := [(3, .int r23), (2, .int (x2 + r2)), (4, .int r2), (0, .ref h.1), (1, .int x1)]) X dX5_counted_89 rfl (by decide) rfl ?_
                refine z_goto (tgt := 4) X dX5_counted_90 (by decide) ?_
                exact z_sub (ih u24 x1 (x2 + r2) r23 H) [3, 4, 1, 0] rfl
          · have H := H.1 q16
            refine z_iconst (v := 1) X dX5_counted_61 (by decide) ?_
            refine z_goto (tgt := 66) X dX5_counted_62 (by decide) ?_
            refine z_icmp_ne (tgt := 84) X dX5_counted_66 (by decide) (fun q25 => ?_) (fun q25 => ?_)
            · have H := H.2 q25
              refine z_aload_n X dX5_counted_84 1 rfl rfl ?_
              refine z_iload_n X dX5_counted_85 4 rfl rfl ?_
              refine k_X5_behind hh X ml_X5_75 H ⟨Nat.le_of_ble_eq_true rfl, Nat.le_of_ble_eq_true rfl⟩ (Nat.le_of_ble_eq_true rfl) dX5_counted_86 (fun u27 r26 H => ?_)
              refine z_istore_n (lv' := [(3, .int r26), (4, .int r2), (0, .ref h.1), (1, .int x1), (2, .int x2)]) X dX5_counted_89 rfl (by decide) rfl ?_
              refine z_goto (tgt := 4) X dX5_counted_90 (by decide) ?_
              exact z_sub (ih u27 x1 x2 r26 H) [2, 3, 4, 0] rfl
            · have H := H.1 q25
              refine z_iload_n X dX5_counted_69 3 rfl rfl ?_
              refine z_iload_n X dX5_counted_70 2 rfl rfl ?_
              refine z_bipush (v := 6) X dX5_counted_71 (by decide) ?_
              refine z_icmp_ge (tgt := 81) X dX5_counted_73 (by decide) (fun q28 => ?_) (fun q28 => ?_)
              · have H := H.2 q28
                refine z_iconst (v := 1) X dX5_counted_81 (by decide) ?_
                refine z_iadd X dX5_counted_82 ?_
                refine z_istore_n (lv' := [(2, .int (x2 + (1 : Int32))), (4, .int r2), (0, .ref h.1), (1, .int x1), (3, .int x3)]) X dX5_counted_83 rfl (by decide) rfl ?_
                refine z_aload_n X dX5_counted_84 2 rfl rfl ?_
                refine z_iload_n X dX5_counted_85 4 rfl rfl ?_
                refine k_X5_behind hh X ml_X5_75 H ⟨Nat.le_of_ble_eq_true rfl, Nat.le_of_ble_eq_true rfl⟩ (Nat.le_of_ble_eq_true rfl) dX5_counted_86 (fun u30 r29 H => ?_)
                refine z_istore_n (lv' := [(3, .int r29), (2, .int (x2 + (1 : Int32))), (4, .int r2), (0, .ref h.1), (1, .int x1)]) X dX5_counted_89 rfl (by decide) rfl ?_
                refine z_goto (tgt := 4) X dX5_counted_90 (by decide) ?_
                exact z_sub (ih u30 x1 (x2 + (1 : Int32)) r29 H) [3, 4, 1, 0] rfl
              · have H := H.1 q28
                refine z_iload X dX5_counted_76 0 rfl ?_
                refine z_goto (tgt := 82) X dX5_counted_78 (by decide) ?_
                refine z_iadd X dX5_counted_82 ?_
                refine z_istore_n (lv' := [(2, .int (x2 + r2)), (4, .int r2), (0, .ref h.1), (1, .int x1), (3, .int x3)]) X dX5_counted_83 rfl (by decide) rfl ?_
                refine z_aload_n X dX5_counted_84 2 rfl rfl ?_
                refine z_iload_n X dX5_counted_85 4 rfl rfl ?_
                refine k_X5_behind hh X ml_X5_75 H ⟨Nat.le_of_ble_eq_true rfl, Nat.le_of_ble_eq_true rfl⟩ (Nat.le_of_ble_eq_true rfl) dX5_counted_86 (fun u32 r31 H => ?_)
                refine z_istore_n (lv' := [(3, .int r31), (2, .int (x2 + r2)), (4, .int r2), (0, .ref h.1), (1, .int x1)]) X dX5_counted_89 rfl (by decide) rfl ?_
                refine z_goto (tgt := 4) X dX5_counted_90 (by decide) ?_
                exact z_sub (ih u32 x1 (x2 + r2) r31 H) [3, 4, 1, 0] rfl
      · have H := H.1 q4
        refine z_aload_n X dX5_counted_21 1 rfl rfl ?_
        refine z_iload_n X dX5_counted_22 4 rfl rfl ?_
        refine k_X5_isFree hh X ml_X5_82 H ⟨Nat.le_of_ble_eq_true rfl, Nat.le_of_ble_eq_true rfl⟩ (Nat.le_of_ble_eq_true rfl) dX5_counted_23 (fun u34 r33 H => ?_)
        refine z_if_eq (tgt := 40) X dX5_counted_26 (by decide) (fun q35 => ?_) (fun q35 => ?_)
        · have H := H.1 q35
          refine z_iload_n X dX5_counted_40 3 rfl rfl ?_
          refine z_istore_n (lv' := [(2, .int x2), (4, .int r2), (0, .ref h.1), (1, .int x1), (3, .int x3)]) X dX5_counted_41 rfl (by decide) rfl ?_
          refine z_goto (tgt := 84) X dX5_counted_42 (by decide) ?_
          refine z_aload_n X dX5_counted_84 2 rfl rfl ?_
          refine z_iload_n X dX5_counted_85 4 rfl rfl ?_
          refine k_X5_behind hh X ml_X5_75 H ⟨Nat.le_of_ble_eq_true rfl, Nat.le_of_ble_eq_true rfl⟩ (Nat.le_of_ble_eq_true rfl) dX5_counted_86 (fun u37 r36 H => ?_)
          refine z_istore_n (lv' := [(3, .int r36), (2, .int x2), (4, .int r2), (0, .ref h.1), (1, .int x1)]) X dX5_counted_89 rfl (by decide) rfl ?_
          refine z_goto (tgt := 4) X dX5_counted_90 (by decide) ?_
          exact z_sub (ih u37 x1 x2 r36 H) [3, 4, 1, 0] rfl
        · have H := H.2 q35
          refine z_iload X dX5_counted_29 0 rfl ?_
          refine z_iload_n X dX5_counted_31 3 rfl rfl ?_
          refine z_icmp_le (tgt := 40) X dX5_counted_32 (by decide) (fun q38 => ?_) (fun q38 => ?_)
          · have H := H.2 q38
            refine z_iload_n X dX5_counted_40 3 rfl rfl ?_
            refine z_istore_n (lv' := [(2, .int x2), (4, .int r2), (0, .ref h.1), (1, .int x1), (3, .int x3)]) X dX5_counted_41 rfl (by decide) rfl ?_
            refine z_goto (tgt := 84) X dX5_counted_42 (by decide) ?_
            refine z_aload_n X dX5_counted_84 2 rfl rfl ?_
            refine z_iload_n X dX5_counted_85 4 rfl rfl ?_
            refine k_X5_behind hh X ml_X5_75 H ⟨Nat.le_of_ble_eq_true rfl, Nat.le_of_ble_eq_true rfl⟩ (Nat.le_of_ble_eq_true rfl) dX5_counted_86 (fun u40 r39 H => ?_)
            refine z_istore_n (lv' := [(3, .int r39), (2, .int x2), (4, .int r2), (0, .ref h.1), (1, .int x1)]) X dX5_counted_89 rfl (by decide) rfl ?_
            refine z_goto (tgt := 4) X dX5_counted_90 (by decide) ?_
            exact z_sub (ih u40 x1 x2 r39 H) [3, 4, 1, 0] rfl
          · have H := H.1 q38
            refine z_iload X dX5_counted_35 0 rfl ?_
            refine z_goto (tgt := 41) X dX5_counted_37 (by decide) ?_
            refine z_istore_n (lv' := [(2, .int r2), (4, .int r2), (0, .ref h.1), (1, .int x1), (3, .int x3)]) X dX5_counted_41 rfl (by decide) rfl ?_
            refine z_goto (tgt := 84) X dX5_counted_42 (by decide) ?_
            refine z_aload_n X dX5_counted_84 2 rfl rfl ?_
            refine z_iload_n X dX5_counted_85 4 rfl rfl ?_
            refine k_X5_behind hh X ml_X5_75 H ⟨Nat.le_of_ble_eq_true rfl, Nat.le_of_ble_eq_true rfl⟩ (Nat.le_of_ble_eq_true rfl) dX5_counted_86 (fun u42 r41 H => ?_)
            refine z_istore_n (lv' := [(3, .int r41), (2, .int r2), (4, .int r2), (0, .ref h.1), (1, .int x1)]) X dX5_counted_89 rfl (by decide) rfl ?_
            refine z_goto (tgt := 4) X dX5_counted_90 (by decide) ?_
            exact z_sub (ih u42 x1 r2 r41 H) [3, 4, 1, 0] rfl
set_option maxHeartbeats 4000000 in
set_option maxRecDepth 100000 in
theorem c_X5_counted {l : Launch} {κ : zK} {h : zG} (hh : zDM κ h) (N : Nat) (u : MS) (a1 : Int32) (P : MS → Int32 → Prop) (H : w_X5_counted N u a1 P) : zM l κ (hsM h) (wM κ h) yX5_counted cX5_counted 5 (some .int) { frames := 2, cells := 0, slots := 0, locals := 43 } [.ref h.1, .int a1] u (zi P) := by
  refine z_met (own := RX5) (by decide) rfl (Nat.le_of_ble_eq_true rfl) hh (fun g X => ?_)
  show zJ g κ (hsM h) (wM κ h) (zi P) 5 u [(0, .ref h.1), (1, .int a1)] 0 []
  unfold w_X5_counted at H
  refine z_iconst (v := 0) X dX5_counted_0 (by decide) ?_
  refine z_istore_n (lv' := [(2, .int (0 : Int32)), (0, .ref h.1), (1, .int a1)]) X dX5_counted_1 rfl (by decide) rfl ?_
  refine z_iconst (v := 1) X dX5_counted_2 (by decide) ?_
  refine z_istore_n (lv' := [(3, .int (1 : Int32)), (2, .int (0 : Int32)), (0, .ref h.1), (1, .int a1)]) X dX5_counted_3 rfl (by decide) rfl ?_
  exact z_sub (j_X5_counted_4 hh N X P N u a1 (0 : Int32) (1 : Int32) H) [2, 3, 1, 0] rfl
theorem k_X5_counted {g : zE} {κ : zK} {h : zG} (hh : zDM κ h) {u : MS} {Φ : MS → Option Value → Prop} {cc : ByteArray} {nL : Nat} {own : String} {ret : Option FieldType} {rm : Room} {lv : List (Nat × Value)} {pc : Nat} {st : List Value} {idx N : Nat} {a1 : Int32} {P : MS → Int32 → Prop} (X : zC g κ (hsM h) (wM κ h) cc nL own ret rm) (hml : Cond.methodLink own idx yX5_counted ∈ zT) (H : w_X5_counted N u a1 P) (hR : 2 + 1 ≤ rm.frames ∧ 8 + (5 + 11) + 43 ≤ rm.locals) (hroom : (st.map fun v => v.category).sum ≤ 8) (d : decode cc pc = .ok (.invokevirtual idx, 3)) (kk : ∀ u1 v, P u1 v → zJ g κ (hsM h) (wM κ h) Φ nL u1 lv (pc + 3) (.int v :: st)) : zJ g κ (hsM h) (wM κ h) Φ nL u lv pc (.int a1 :: .ref h.1 :: st) := z_callV (As := [.int a1]) X yy_X5_counted hml im_X5_counted se_X5_counted (c_X5_counted hh N u a1 P H) 4 0 rfl rfl rfl ⟨rfl, rfl⟩ hR rfl hroom d (fun u1 r hz => by obtain ⟨v, hr, hP⟩ := hz; subst hr; exact kk u1 v hP)
def w_X5_count (N : Nat) (u : MS) (a1 : Int32) (P : MS → Int32 → Prop) : Prop := (w_X5_in N (a1).toInt64 (0 : Int64) (8 : Int64) fun r1 => ((r1 = 0 → (P u (-2 : Int32))) ∧ (¬ r1 = 0 → ((a1 < (4 : Int32) → ((a1 = 0 → (P u (u.1.2.1))) ∧ (¬ a1 = 0 → ((a1 = (1 : Int32) → (P u (u.1.2.2.2.1))) ∧ (¬ a1 = (1 : Int32) → ((a1 = (2 : Int32) → (((u.1.2.2.2.2.2.1) = 0 → (P u (0 : Int32))) ∧ (¬ (u.1.2.2.2.2.2.1) = 0 → (P u (1 : Int32))))) ∧ (¬ a1 = (2 : Int32) → (P u (u.1.2.2.2.2.1))))))))) ∧ (¬ a1 < (4 : Int32) → (((u.1.2.2.2.2.2.1) = 0 → (w_X5_counted N u a1 fun u7 r6 => (P u7 r6))) ∧ (¬ (u.1.2.2.2.2.2.1) = 0 → (P u (-3 : Int32)))))))))
set_option maxHeartbeats 4000000 in
set_option maxRecDepth 100000 in
theorem c_X5_count {l : Launch} {κ : zK} {h : zG} (hh : zDM κ h) (N : Nat) (u : MS) (a1 : Int32) (P : MS → Int32 → Prop) (H : w_X5_count N u a1 P) : zM l κ (hsM h) (wM κ h) yX5_count cX5_count 2 (some .int) { frames := 3, cells := 0, slots := 0, locals := 67 } [.ref h.1, .int a1] u (zi P) := by
  refine z_met (own := RX5) (by decide) rfl (Nat.le_of_ble_eq_true rfl) hh (fun g X => ?_)
  show zJ g κ (hsM h) (wM κ h) (zi P) 2 u [(0, .ref h.1), (1, .int a1)] 0 []
  unfold w_X5_count at H
  refine z_iload_n X dX5_count_0 1 rfl rfl ?_
  refine z_i2l X dX5_count_1 ?_
  refine z_lconst (v := 0) X dX5_count_2 (by decide) ?_
  refine z_ldc2 X kl_X5_135 dX5_count_3 ?_
  refine k_X5_in X ml_X5_53 H ⟨Nat.le_of_ble_eq_true rfl, Nat.le_of_ble_eq_true rfl⟩ (Nat.le_of_ble_eq_true rfl) dX5_count_6 (fun r1 H => ?_)
  refine z_if_ne (tgt := 15) X dX5_count_9 (by decide) (fun q3 => ?_) (fun q3 => ?_)
  · have H := H.2 q3
    refine z_iload_n X dX5_count_15 1 rfl rfl ?_
    refine z_iconst (v := 4) X dX5_count_16 (by decide) ?_
    refine z_icmp_ge (tgt := 68) X dX5_count_17 (by decide) (fun q4 => ?_) (fun q4 => ?_)
    · have H := H.2 q4
      refine z_aload_n X dX5_count_68 0 rfl rfl ?_
      refine gf_X5_35 X dX5_count_69 ?_
      refine z_if_eq (tgt := 80) X dX5_count_72 (by decide) (fun q5 => ?_) (fun q5 => ?_)
      · have H := H.1 q5
        refine z_aload_n X dX5_count_80 0 rfl rfl ?_
        refine z_iload_n X dX5_count_81 1 rfl rfl ?_
        refine k_X5_counted hh X ml_X5_137 H ⟨Nat.le_of_ble_eq_true rfl, Nat.le_of_ble_eq_true rfl⟩ (Nat.le_of_ble_eq_true rfl) dX5_count_82 (fun u7 r6 H => ?_)
        exact z_iret X dX5_count_85 H
      · have H := H.2 q5
        refine z_bipush (v := -3) X dX5_count_75 (by decide) ?_
        refine z_goto (tgt := 85) X dX5_count_77 (by decide) ?_
        exact z_iret X dX5_count_85 H
    · have H := H.1 q4
      refine z_iload_n X dX5_count_20 1 rfl rfl ?_
      refine z_if_ne (tgt := 31) X dX5_count_21 (by decide) (fun q8 => ?_) (fun q8 => ?_)
      · have H := H.2 q8
        refine z_iload_n X dX5_count_31 1 rfl rfl ?_
        refine z_iconst (v := 1) X dX5_count_32 (by decide) ?_
        refine z_icmp_ne (tgt := 43) X dX5_count_33 (by decide) (fun q9 => ?_) (fun q9 => ?_)
        · have H := H.2 q9
          refine z_iload_n X dX5_count_43 1 rfl rfl ?_
          refine z_iconst (v := 2) X dX5_count_44 (by decide) ?_
          refine z_icmp_ne (tgt := 63) X dX5_count_45 (by decide) (fun q10 => ?_) (fun q10 => ?_)
          · have H := H.2 q10
            refine z_aload_n X dX5_count_63 0 rfl rfl ?_
            refine gf_X5_39 X dX5_count_64 ?_
            exact z_iret X dX5_count_67 H
          · have H := H.1 q10
            refine z_aload_n X dX5_count_48 0 rfl rfl ?_
            refine gf_X5_35 X dX5_count_49 ?_
            refine z_if_eq (tgt := 59) X dX5_count_52 (by decide) (fun q11 => ?_) (fun q11 => ?_)
            · have H := H.1 q11
              refine z_iconst (v := 0) X dX5_count_59 (by decide) ?_
              refine z_goto (tgt := 67) X dX5_count_60 (by decide) ?_
              exact z_iret X dX5_count_67 H
            · have H := H.2 q11
              refine z_iconst (v := 1) X dX5_count_55 (by decide) ?_
              refine z_goto (tgt := 67) X dX5_count_56 (by decide) ?_
              exact z_iret X dX5_count_67 H
        · have H := H.1 q9
          refine z_aload_n X dX5_count_36 0 rfl rfl ?_
          refine gf_X5_46 X dX5_count_37 ?_
          refine z_goto (tgt := 67) X dX5_count_40 (by decide) ?_
          exact z_iret X dX5_count_67 H
      · have H := H.1 q8
        refine z_aload_n X dX5_count_24 0 rfl rfl ?_
        refine gf_X5_32 X dX5_count_25 ?_
        refine z_goto (tgt := 67) X dX5_count_28 (by decide) ?_
        exact z_iret X dX5_count_67 H
  · have H := H.1 q3
    refine z_bipush (v := -2) X dX5_count_12 (by decide) ?_
    exact z_iret X dX5_count_14 H
theorem k_X5_count {g : zE} {κ : zK} {h : zG} (hh : zDM κ h) {u : MS} {Φ : MS → Option Value → Prop} {cc : ByteArray} {nL : Nat} {own : String} {ret : Option FieldType} {rm : Room} {lv : List (Nat × Value)} {pc : Nat} {st : List Value} {idx N : Nat} {a1 : Int32} {P : MS → Int32 → Prop} (X : zC g κ (hsM h) (wM κ h) cc nL own ret rm) (hml : Cond.methodLink own idx yX5_count ∈ zT) (H : w_X5_count N u a1 P) (hR : 3 + 1 ≤ rm.frames ∧ 8 + (2 + 11) + 67 ≤ rm.locals) (hroom : (st.map fun v => v.category).sum ≤ 8) (d : decode cc pc = .ok (.invokevirtual idx, 3)) (kk : ∀ u1 v, P u1 v → zJ g κ (hsM h) (wM κ h) Φ nL u1 lv (pc + 3) (.int v :: st)) : zJ g κ (hsM h) (wM κ h) Φ nL u lv pc (.int a1 :: .ref h.1 :: st) := z_callV (As := [.int a1]) X yy_X5_count hml im_X5_count se_X5_count (c_X5_count hh N u a1 P H) 4 0 rfl rfl rfl ⟨rfl, rfl⟩ hR rfl hroom d (fun u1 r hz => by obtain ⟨v, hr, hP⟩ := hz; subst hr; exact kk u1 v hP)
