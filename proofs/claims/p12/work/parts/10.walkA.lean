section ZW
variable {σ : Type} {g : zE} {κ : zK} {hs : List Nat} {ω : σ → va_W} {Φ : σ → Option Value → Prop} {cc : ByteArray} {nL : Nat} {own : String} {ret : Option FieldType} {rm : Room} {u : σ} {lv : List (Nat × Value)} {pc : Nat} {st0 : List Value}
theorem z_callSw {y : MethodName} {bytes : ByteArray} {maxL : Nat} {ret1 : Option FieldType} {rm1 : Room} {As rest : List Value} {Φ1 : σ → Option Value → Prop} {idx n : Nat} (X : zC g κ hs ω cc nL own ret rm) (Y : zY y bytes maxL ret1 n) (hml : Cond.methodLink own idx y ∈ zT) (hstt : Cond.static y ∈ zT)
    (M : zM g.2.1 κ hs ω y bytes maxL ret1 rm1 As u Φ1) (hn : As.length = n)
    (hz : rm1.cells = 0 ∧ rm1.slots = 0) (hR : rm1.frames + 1 ≤ rm.frames ∧ 8 + (maxL + 11) + rm1.locals ≤ rm.locals) (hst : st0 = As.reverse ++ rest) (hroom : (rest.map fun v => v.category).sum ≤ 8) (d : decode cc pc = .ok (.invokestatic idx, 3))
    (kk : ∀ (u' : σ) (r : Option Value), Φ1 u' r → zJ g κ hs ω Φ nL u' lv (pc + 3) (r.toList ++ rest)) : zJ g κ hs ω Φ nL u lv pc st0 := by
  intro H locs ls hP hS hl
  obtain ⟨p, l, e, R, s, m, args, below, meth, c⟩ := g
  obtain ⟨S, hret, hlk, hK, hN, hRr, hD⟩ := X
  have hRr : R = rm := hRr
  subst hRr
  subst hst
  have hts : ∀ w ∈ zT, w.before args s = true := S.2.2.2.2
  have cw : CallB R s args own idx y bytes maxL ret1 (.code y bytes maxL ret1 :: zT) rm1 0 0 n ∧ (Cond.static y).before args s = true := ⟨callB_of n hts (zT_code Y.1) rfl hz.1 hz.2 (hts _ Y.2.1) (hts _ hml) Y.2.2 hR, hts _ hstt⟩
  have hp : PreS s H (zP κ As (ω u)) As := ⟨zP_blind _ _ _, fun U hU hW => ⟨rfl, by rw [hU]; exact hP, va_K.moved hW.alike hK, hN.warm hW⟩⟩
  intro T0 hT X0
  obtain ⟨v, st₀, t, T', L, h0, X', hL, e1, e2, ⟨⟨u', r, hv, hΦ, hP'⟩, hsz, hk⟩, stp⟩ := va_runS (g := F0 m pc ls (As.reverse ++ rest)) S M cw hp rfl hn hl.1 rfl (lv_room hroom) d ⟨Nat.zero_le _, Nat.zero_le _⟩ T0 hT X0
  cases hv
  rw [h0] at hsz hk
  obtain ⟨t2, a1, b1⟩ := kk u' _ hΦ T'.heap (locs ++ L) ls (by rw [e1]; exact hP') ⟨Nat.le_trans hS.1 (by rw [e1]; exact hsz), fun q h1 h2 => by rw [e1, hk q (Nat.lt_of_lt_of_le h1 hS.1) h2]; exact hS.2.1 q h1 h2, fun q hq => (List.mem_append.mp hq).elim (hS.2.2 q) (hL q)⟩ hl T' rfl X'
  exact ⟨t2, stp t2 a1, b1⟩
end ZW
def w_fillW_6 (N : Nat) (P : TS → Prop) : Nat → TS → Int64 → Int32 → Int32 → Prop
  | 0, _, _, _, _ => False
  | n + 1, u, x1, x3, x4 => ((x3 < x4 → (vp_in x3 2048 ∧ zlet (sW u.1 (vp_updL u.1.1 (x3).toNatClampNeg x1), u.2) fun u3 => (w_fillW_6 N P n u3 x1 (x3 + (1 : Int32)) x4))) ∧ (¬ x3 < x4 → (P u)))
def w_fillW (N : Nat) (u : TS) (a2 : Int64) (P : TS → Prop) : Prop := (w_fillW_6 N P N u a2 (0 : Int32) (2048 : Int32))
set_option maxHeartbeats 4000000 in
set_option maxRecDepth 100000 in
theorem j_fillW_6 {κ : zK} {h : zH} (hh : zDT κ h) (N : Nat) {g : zE} (X : zC g κ (hsT h) (wT κ h) cJ7_fill_d0a16 5 RJ7 none { frames := 0, cells := 0, slots := 0, locals := 0 }) (P : TS → Prop) : ∀ (n : Nat) (u : TS) (x1 : Int64) (x3 : Int32) (x4 : Int32), w_fillW_6 N P n u x1 x3 x4 → zJ g κ (hsT h) (wT κ h) (zv P) 5 u [(0, .ref h.2.2.1), (1, .long x1), (3, .int x3), (4, .int x4)] 6 [] := by
  intro n
  induction n with
  | zero => intro u x1 x3 x4 H; exact absurd H (by rw [w_fillW_6]; exact id)
  | succ n ih =>
    intro u x1 x3 x4 H
    rw [w_fillW_6] at H
    refine z_iload_n X dJ7_fill_d0a16_6 2 rfl rfl ?_
    refine z_iload X dJ7_fill_d0a16_7 3 rfl ?_
    refine z_icmp_ge (tgt := 22) X dJ7_fill_d0a16_9 (by decide) (fun q1 => ?_) (fun q1 => ?_)
    · have H := H.2 q1
      exact z_vret X dJ7_fill_d0a16_22 H
    · have H := H.1 q1
      refine z_aload_n X dJ7_fill_d0a16_12 0 rfl rfl ?_
      refine z_iload_n X dJ7_fill_d0a16_13 2 rfl rfl ?_
      refine z_lload_n X dJ7_fill_d0a16_14 1 rfl rfl ?_
      obtain ⟨q2, H⟩ := H
      refine aw_words X q2 dJ7_fill_d0a16_15 H (fun u3 H => ?_)
      refine z_iinc (k := 2) (v := (x3 + (1 : Int32))) (lv' := [(3, .int (x3 + (1 : Int32))), (0, .ref h.2.2.1), (1, .long x1), (4, .int x4)]) X dJ7_fill_d0a16_16 rfl rfl (by decide) rfl ?_
      refine z_goto (tgt := 6) X dJ7_fill_d0a16_19 (by decide) ?_
      exact z_sub (ih u3 x1 (x3 + (1 : Int32)) x4 H) [1, 2, 0, 3] rfl
set_option maxHeartbeats 4000000 in
set_option maxRecDepth 100000 in
theorem c_fillW {l : Launch} {κ : zK} {h : zH} (hh : zDT κ h) (N : Nat) (u : TS) (a2 : Int64) (P : TS → Prop) (H : w_fillW N u a2 P) : zM l κ (hsT h) (wT κ h) yJ7_fill_d0a16 cJ7_fill_d0a16 5 none { frames := 0, cells := 0, slots := 0, locals := 0 } [.ref h.2.2.1, .long a2] u (zv P) := by
  refine z_met (own := RJ7) (by decide) rfl (Nat.le_of_ble_eq_true rfl) hh (fun g X => ?_)
  show zJ g κ (hsT h) (wT κ h) (zv P) 5 u [(0, .ref h.2.2.1), (1, .long a2)] 0 []
  unfold w_fillW at H
  refine z_iconst (v := 0) X dJ7_fill_d0a16_0 (by decide) ?_
  refine z_istore_n (lv' := [(3, .int (0 : Int32)), (0, .ref h.2.2.1), (1, .long a2)]) X dJ7_fill_d0a16_1 rfl (by decide) rfl ?_
  refine z_aload_n X dJ7_fill_d0a16_2 1 rfl rfl ?_
  refine z_alen (v := 2048) X 2 1 rfl rfl rfl dJ7_fill_d0a16_3 ?_
  refine z_istore (lv' := [(4, .int (2048 : Int32)), (3, .int (0 : Int32)), (0, .ref h.2.2.1), (1, .long a2)]) X dJ7_fill_d0a16_4 (by decide) rfl ?_
  exact z_sub (j_fillW_6 hh N X P N u a2 (0 : Int32) (2048 : Int32) H) [2, 3, 1, 0] rfl
theorem k_fillW {g : zE} {κ : zK} {h : zH} (hh : zDT κ h) {u : TS} {Φ : TS → Option Value → Prop} {cc : ByteArray} {nL : Nat} {own : String} {ret : Option FieldType} {rm : Room} {lv : List (Nat × Value)} {pc : Nat} {st : List Value} {idx N : Nat} {a2 : Int64} {P : TS → Prop} (X : zC g κ (hsT h) (wT κ h) cc nL own ret rm) (hml : Cond.methodLink own idx yJ7_fill_d0a16 ∈ zT) (H : w_fillW N u a2 P) (hR : 0 + 1 ≤ rm.frames ∧ 8 + (5 + 11) + 0 ≤ rm.locals) (hroom : (st.map fun v => v.category).sum ≤ 8) (d : decode cc pc = .ok (.invokestatic idx, 3)) (kk : ∀ u1, P u1 → zJ g κ (hsT h) (wT κ h) Φ nL u1 lv (pc + 3) st) : zJ g κ (hsT h) (wT κ h) Φ nL u lv pc (.long a2 :: .ref h.2.2.1 :: st) := z_callSw (As := [.ref h.2.2.1, .long a2]) X yy_J7_fill_d0a16 hml st_J7_fill_d0a16 (c_fillW hh N u a2 P H) rfl ⟨rfl, rfl⟩ hR rfl hroom d (fun u1 r hz => by obtain ⟨hr, hP⟩ := hz; subst hr; exact kk u1 hP)
def w_fillF_5 (N : Nat) (P : TS → Prop) : Nat → TS → Int32 → Int32 → Int32 → Prop
  | 0, _, _, _, _ => False
  | n + 1, u, x1, x2, x3 => ((x2 < x3 → (vp_in x2 72 ∧ zlet (sF u.1 (upd u.1.2.2.1 (x2).toNatClampNeg x1), u.2) fun u3 => (w_fillF_5 N P n u3 x1 (x2 + (1 : Int32)) x3))) ∧ (¬ x2 < x3 → (P u)))
def w_fillF (N : Nat) (u : TS) (a2 : Int32) (P : TS → Prop) : Prop := (w_fillF_5 N P N u a2 (0 : Int32) (72 : Int32))
set_option maxHeartbeats 4000000 in
set_option maxRecDepth 100000 in
theorem j_fillF_5 {κ : zK} {h : zH} (hh : zDT κ h) (N : Nat) {g : zE} (X : zC g κ (hsT h) (wT κ h) cJ7_fill_53178 4 RJ7 none { frames := 0, cells := 0, slots := 0, locals := 0 }) (P : TS → Prop) : ∀ (n : Nat) (u : TS) (x1 : Int32) (x2 : Int32) (x3 : Int32), w_fillF_5 N P n u x1 x2 x3 → zJ g κ (hsT h) (wT κ h) (zv P) 4 u [(0, .ref h.2.2.2.2.1), (1, .int x1), (2, .int x2), (3, .int x3)] 5 [] := by
  intro n
  induction n with
  | zero => intro u x1 x2 x3 H; exact absurd H (by rw [w_fillF_5]; exact id)
  | succ n ih =>
    intro u x1 x2 x3 H
    rw [w_fillF_5] at H
    refine z_iload_n X dJ7_fill_53178_5 2 rfl rfl ?_
    refine z_iload_n X dJ7_fill_53178_6 3 rfl rfl ?_
    refine z_icmp_ge (tgt := 20) X dJ7_fill_53178_7 (by decide) (fun q1 => ?_) (fun q1 => ?_)
    · have H := H.2 q1
      exact z_vret X dJ7_fill_53178_20 H
    · have H := H.1 q1
      refine z_aload_n X dJ7_fill_53178_10 0 rfl rfl ?_
      refine z_iload_n X dJ7_fill_53178_11 2 rfl rfl ?_
      refine z_iload_n X dJ7_fill_53178_12 1 rfl rfl ?_
      obtain ⟨q2, H⟩ := H
      refine aw_firsts X q2 dJ7_fill_53178_13 H (fun u3 H => ?_)
      refine z_iinc (k := 2) (v := (x2 + (1 : Int32))) (lv' := [(2, .int (x2 + (1 : Int32))), (0, .ref h.2.2.2.2.1), (1, .int x1), (3, .int x3)]) X dJ7_fill_53178_14 rfl rfl (by decide) rfl ?_
      refine z_goto (tgt := 5) X dJ7_fill_53178_17 (by decide) ?_
      exact z_sub (ih u3 x1 (x2 + (1 : Int32)) x3 H) [1, 2, 0, 3] rfl
set_option maxHeartbeats 4000000 in
set_option maxRecDepth 100000 in
theorem c_fillF {l : Launch} {κ : zK} {h : zH} (hh : zDT κ h) (N : Nat) (u : TS) (a2 : Int32) (P : TS → Prop) (H : w_fillF N u a2 P) : zM l κ (hsT h) (wT κ h) yJ7_fill_53178 cJ7_fill_53178 4 none { frames := 0, cells := 0, slots := 0, locals := 0 } [.ref h.2.2.2.2.1, .int a2] u (zv P) := by
  refine z_met (own := RJ7) (by decide) rfl (Nat.le_of_ble_eq_true rfl) hh (fun g X => ?_)
  show zJ g κ (hsT h) (wT κ h) (zv P) 4 u [(0, .ref h.2.2.2.2.1), (1, .int a2)] 0 []
  unfold w_fillF at H
  refine z_iconst (v := 0) X dJ7_fill_53178_0 (by decide) ?_
  refine z_istore_n (lv' := [(2, .int (0 : Int32)), (0, .ref h.2.2.2.2.1), (1, .int a2)]) X dJ7_fill_53178_1 rfl (by decide) rfl ?_
  refine z_aload_n X dJ7_fill_53178_2 1 rfl rfl ?_
  refine z_alen (v := 72) X 4 0 rfl rfl rfl dJ7_fill_53178_3 ?_
  refine z_istore_n (lv' := [(3, .int (72 : Int32)), (2, .int (0 : Int32)), (0, .ref h.2.2.2.2.1), (1, .int a2)]) X dJ7_fill_53178_4 rfl (by decide) rfl ?_
  exact z_sub (j_fillF_5 hh N X P N u a2 (0 : Int32) (72 : Int32) H) [2, 3, 1, 0] rfl
theorem k_fillF {g : zE} {κ : zK} {h : zH} (hh : zDT κ h) {u : TS} {Φ : TS → Option Value → Prop} {cc : ByteArray} {nL : Nat} {own : String} {ret : Option FieldType} {rm : Room} {lv : List (Nat × Value)} {pc : Nat} {st : List Value} {idx N : Nat} {a2 : Int32} {P : TS → Prop} (X : zC g κ (hsT h) (wT κ h) cc nL own ret rm) (hml : Cond.methodLink own idx yJ7_fill_53178 ∈ zT) (H : w_fillF N u a2 P) (hR : 0 + 1 ≤ rm.frames ∧ 8 + (4 + 11) + 0 ≤ rm.locals) (hroom : (st.map fun v => v.category).sum ≤ 8) (d : decode cc pc = .ok (.invokestatic idx, 3)) (kk : ∀ u1, P u1 → zJ g κ (hsT h) (wT κ h) Φ nL u1 lv (pc + 3) st) : zJ g κ (hsT h) (wT κ h) Φ nL u lv pc (.int a2 :: .ref h.2.2.2.2.1 :: st) := z_callSw (As := [.ref h.2.2.2.2.1, .int a2]) X yy_J7_fill_53178 hml st_J7_fill_53178 (c_fillF hh N u a2 P H) rfl ⟨rfl, rfl⟩ hR rfl hroom d (fun u1 r hz => by obtain ⟨hr, hP⟩ := hz; subst hr; exact kk u1 hP)
def w_fillK_5 (N : Nat) (P : TS → Prop) : Nat → TS → Int32 → Int32 → Int32 → Prop
  | 0, _, _, _, _ => False
  | n + 1, u, x1, x2, x3 => ((x2 < x3 → (vp_in x2 2048 ∧ zlet (u.1, upd u.2 (x2).toNatClampNeg x1) fun u3 => (w_fillK_5 N P n u3 x1 (x2 + (1 : Int32)) x3))) ∧ (¬ x2 < x3 → (P u)))
def w_fillK (N : Nat) (u : TS) (a2 : Int32) (P : TS → Prop) : Prop := (w_fillK_5 N P N u a2 (0 : Int32) (2048 : Int32))
set_option maxHeartbeats 4000000 in
set_option maxRecDepth 100000 in
theorem j_fillK_5 {κ : zK} {h : zH} (hh : zDT κ h) (N : Nat) {g : zE} (X : zC g κ (hsT h) (wT κ h) cJ7_fill_53178 4 RJ7 none { frames := 0, cells := 0, slots := 0, locals := 0 }) (P : TS → Prop) : ∀ (n : Nat) (u : TS) (x1 : Int32) (x2 : Int32) (x3 : Int32), w_fillK_5 N P n u x1 x2 x3 → zJ g κ (hsT h) (wT κ h) (zv P) 4 u [(0, .ref h.2.2.2.2.2.2), (1, .int x1), (2, .int x2), (3, .int x3)] 5 [] := by
  intro n
  induction n with
  | zero => intro u x1 x2 x3 H; exact absurd H (by rw [w_fillK_5]; exact id)
  | succ n ih =>
    intro u x1 x2 x3 H
    rw [w_fillK_5] at H
    refine z_iload_n X dJ7_fill_53178_5 2 rfl rfl ?_
    refine z_iload_n X dJ7_fill_53178_6 3 rfl rfl ?_
    refine z_icmp_ge (tgt := 20) X dJ7_fill_53178_7 (by decide) (fun q1 => ?_) (fun q1 => ?_)
    · have H := H.2 q1
      exact z_vret X dJ7_fill_53178_20 H
    · have H := H.1 q1
      refine z_aload_n X dJ7_fill_53178_10 0 rfl rfl ?_
      refine z_iload_n X dJ7_fill_53178_11 2 rfl rfl ?_
      refine z_iload_n X dJ7_fill_53178_12 1 rfl rfl ?_
      obtain ⟨q2, H⟩ := H
      refine aw_marks X q2 dJ7_fill_53178_13 H (fun u3 H => ?_)
      refine z_iinc (k := 2) (v := (x2 + (1 : Int32))) (lv' := [(2, .int (x2 + (1 : Int32))), (0, .ref h.2.2.2.2.2.2), (1, .int x1), (3, .int x3)]) X dJ7_fill_53178_14 rfl rfl (by decide) rfl ?_
      refine z_goto (tgt := 5) X dJ7_fill_53178_17 (by decide) ?_
      exact z_sub (ih u3 x1 (x2 + (1 : Int32)) x3 H) [1, 2, 0, 3] rfl
set_option maxHeartbeats 4000000 in
set_option maxRecDepth 100000 in
theorem c_fillK {l : Launch} {κ : zK} {h : zH} (hh : zDT κ h) (N : Nat) (u : TS) (a2 : Int32) (P : TS → Prop) (H : w_fillK N u a2 P) : zM l κ (hsT h) (wT κ h) yJ7_fill_53178 cJ7_fill_53178 4 none { frames := 0, cells := 0, slots := 0, locals := 0 } [.ref h.2.2.2.2.2.2, .int a2] u (zv P) := by
  refine z_met (own := RJ7) (by decide) rfl (Nat.le_of_ble_eq_true rfl) hh (fun g X => ?_)
  show zJ g κ (hsT h) (wT κ h) (zv P) 4 u [(0, .ref h.2.2.2.2.2.2), (1, .int a2)] 0 []
  unfold w_fillK at H
  refine z_iconst (v := 0) X dJ7_fill_53178_0 (by decide) ?_
  refine z_istore_n (lv' := [(2, .int (0 : Int32)), (0, .ref h.2.2.2.2.2.2), (1, .int a2)]) X dJ7_fill_53178_1 rfl (by decide) rfl ?_
  refine z_aload_n X dJ7_fill_53178_2 1 rfl rfl ?_
  refine z_alen (v := 2048) X 6 0 rfl rfl rfl dJ7_fill_53178_3 ?_
  refine z_istore_n (lv' := [(3, .int (2048 : Int32)), (2, .int (0 : Int32)), (0, .ref h.2.2.2.2.2.2), (1, .int a2)]) X dJ7_fill_53178_4 rfl (by decide) rfl ?_
  exact z_sub (j_fillK_5 hh N X P N u a2 (0 : Int32) (2048 : Int32) H) [2, 3, 1, 0] rfl
theorem k_fillK {g : zE} {κ : zK} {h : zH} (hh : zDT κ h) {u : TS} {Φ : TS → Option Value → Prop} {cc : ByteArray} {nL : Nat} {own : String} {ret : Option FieldType} {rm : Room} {lv : List (Nat × Value)} {pc : Nat} {st : List Value} {idx N : Nat} {a2 : Int32} {P : TS → Prop} (X : zC g κ (hsT h) (wT κ h) cc nL own ret rm) (hml : Cond.methodLink own idx yJ7_fill_53178 ∈ zT) (H : w_fillK N u a2 P) (hR : 0 + 1 ≤ rm.frames ∧ 8 + (4 + 11) + 0 ≤ rm.locals) (hroom : (st.map fun v => v.category).sum ≤ 8) (d : decode cc pc = .ok (.invokestatic idx, 3)) (kk : ∀ u1, P u1 → zJ g κ (hsT h) (wT κ h) Φ nL u1 lv (pc + 3) st) : zJ g κ (hsT h) (wT κ h) Φ nL u lv pc (.int a2 :: .ref h.2.2.2.2.2.2 :: st) := z_callSw (As := [.ref h.2.2.2.2.2.2, .int a2]) X yy_J7_fill_53178 hml st_J7_fill_53178 (c_fillK hh N u a2 P H) rfl ⟨rfl, rfl⟩ hR rfl hroom d (fun u1 r hz => by obtain ⟨hr, hP⟩ := hz; subst hr; exact kk u1 hP)
def w_X3_clear (N : Nat) (u : TS) (a1 : Int32) (P : TS → Prop) : Prop := (w_fillW N u (0 : Int64) fun u2 => (zlet (sN u2.1 a1, u2.2) fun u3 => (P u3)))
set_option maxHeartbeats 4000000 in
set_option maxRecDepth 100000 in
theorem c_X3_clear {l : Launch} {κ : zK} {h : zH} (hh : zDT κ h) (N : Nat) (u : TS) (a1 : Int32) (P : TS → Prop) (H : w_X3_clear N u a1 P) : zM l κ (hsT h) (wT κ h) yX3_clear cX3_clear 2 none { frames := 1, cells := 0, slots := 0, locals := 24 } [.ref h.2.1, .int a1] u (zv P) := by
  refine z_met (own := RX3) (by decide) rfl (Nat.le_of_ble_eq_true rfl) hh (fun g X => ?_)
  show zJ g κ (hsT h) (wT κ h) (zv P) 2 u [(0, .ref h.2.1), (1, .int a1)] 0 []
  unfold w_X3_clear at H
  refine z_aload_n X dX3_clear_0 0 rfl rfl ?_
  refine gf_X3_9 X dX3_clear_1 ?_
  refine z_lconst (v := 0) X dX3_clear_4 (by decide) ?_
  refine k_fillW hh X ml_X3_15 H ⟨Nat.le_of_ble_eq_true rfl, Nat.le_of_ble_eq_true rfl⟩ (Nat.le_of_ble_eq_true rfl) dX3_clear_5 (fun u2 H => ?_)
  refine z_aload_n X dX3_clear_8 0 rfl rfl ?_
  refine z_iload_n X dX3_clear_9 1 rfl rfl ?_
  refine pf_X3_21 X dX3_clear_10 H (fun u3 H => ?_)
  exact z_vret X dX3_clear_13 H
theorem k_X3_clear {g : zE} {κ : zK} {h : zH} (hh : zDT κ h) {u : TS} {Φ : TS → Option Value → Prop} {cc : ByteArray} {nL : Nat} {own : String} {ret : Option FieldType} {rm : Room} {lv : List (Nat × Value)} {pc : Nat} {st : List Value} {idx N : Nat} {a1 : Int32} {P : TS → Prop} (X : zC g κ (hsT h) (wT κ h) cc nL own ret rm) (hml : Cond.methodLink own idx yX3_clear ∈ zT) (H : w_X3_clear N u a1 P) (hR : 1 + 1 ≤ rm.frames ∧ 8 + (2 + 11) + 24 ≤ rm.locals) (hroom : (st.map fun v => v.category).sum ≤ 8) (d : decode cc pc = .ok (.invokevirtual idx, 3)) (kk : ∀ u1, P u1 → zJ g κ (hsT h) (wT κ h) Φ nL u1 lv (pc + 3) st) : zJ g κ (hsT h) (wT κ h) Φ nL u lv pc (.int a1 :: .ref h.2.1 :: st) := z_callV (As := [.int a1]) X yy_X3_clear hml im_X3_clear se_X3_clear (c_X3_clear hh N u a1 P H) 2 1 rfl rfl rfl ⟨rfl, rfl⟩ hR rfl hroom d (fun u1 r hz => by obtain ⟨hr, hP⟩ := hz; subst hr; exact kk u1 hP)
def w_X3_lay (N : Nat) (u : TS) (a1 : Int32) (a2 : Int64) (P : TS → Prop) : Prop := ((a1 < 0 → (P u)) ∧ (¬ a1 < 0 → ((a1 < (u.1.2.1) → (vp_in a1 2048 ∧ zlet (sW u.1 (vp_updL u.1.1 (a1).toNatClampNeg a2), u.2) fun u4 => (P u4))) ∧ (¬ a1 < (u.1.2.1) → (P u)))))
set_option maxHeartbeats 4000000 in
set_option maxRecDepth 100000 in
theorem c_X3_lay {l : Launch} {κ : zK} {h : zH} (hh : zDT κ h) (N : Nat) (u : TS) (a1 : Int32) (a2 : Int64) (P : TS → Prop) (H : w_X3_lay N u a1 a2 P) : zM l κ (hsT h) (wT κ h) yX3_lay cX3_lay 4 none { frames := 0, cells := 0, slots := 0, locals := 0 } [.ref h.2.1, .int a1, .long a2] u (zv P) := by
  refine z_met (own := RX3) (by decide) rfl (Nat.le_of_ble_eq_true rfl) hh (fun g X => ?_)
  show zJ g κ (hsT h) (wT κ h) (zv P) 4 u [(0, .ref h.2.1), (1, .int a1), (2, .long a2)] 0 []
  unfold w_X3_lay at H
  refine z_iload_n X dX3_lay_0 1 rfl rfl ?_
  refine z_if_lt (tgt := 19) X dX3_lay_1 (by decide) (fun q1 => ?_) (fun q1 => ?_)
  · have H := H.1 q1
    exact z_vret X dX3_lay_19 H
  · have H := H.2 q1
    refine z_iload_n X dX3_lay_4 1 rfl rfl ?_
    refine z_aload_n X dX3_lay_5 0 rfl rfl ?_
    refine gf_X3_21 X dX3_lay_6 ?_
    refine z_icmp_ge (tgt := 19) X dX3_lay_9 (by decide) (fun q2 => ?_) (fun q2 => ?_)
    · have H := H.2 q2
      exact z_vret X dX3_lay_19 H
    · have H := H.1 q2
      refine z_aload_n X dX3_lay_12 0 rfl rfl ?_
      refine gf_X3_9 X dX3_lay_13 ?_
      refine z_iload_n X dX3_lay_16 1 rfl rfl ?_
      refine z_lload_n X dX3_lay_17 2 rfl rfl ?_
      obtain ⟨q3, H⟩ := H
      refine aw_words X q3 dX3_lay_18 H (fun u4 H => ?_)
      exact z_vret X dX3_lay_19 H
theorem k_X3_lay {g : zE} {κ : zK} {h : zH} (hh : zDT κ h) {u : TS} {Φ : TS → Option Value → Prop} {cc : ByteArray} {nL : Nat} {own : String} {ret : Option FieldType} {rm : Room} {lv : List (Nat × Value)} {pc : Nat} {st : List Value} {idx N : Nat} {a1 : Int32} {a2 : Int64} {P : TS → Prop} (X : zC g κ (hsT h) (wT κ h) cc nL own ret rm) (hml : Cond.methodLink own idx yX3_lay ∈ zT) (H : w_X3_lay N u a1 a2 P) (hR : 0 + 1 ≤ rm.frames ∧ 8 + (4 + 11) + 0 ≤ rm.locals) (hroom : (st.map fun v => v.category).sum ≤ 8) (d : decode cc pc = .ok (.invokevirtual idx, 3)) (kk : ∀ u1, P u1 → zJ g κ (hsT h) (wT κ h) Φ nL u1 lv (pc + 3) st) : zJ g κ (hsT h) (wT κ h) Φ nL u lv pc (.long a2 :: .int a1 :: .ref h.2.1 :: st) := z_callV (As := [.int a1, .long a2]) X yy_X3_lay hml im_X3_lay se_X3_lay (c_X3_lay hh N u a1 a2 P H) 2 1 rfl rfl rfl ⟨rfl, rfl⟩ hR rfl hroom d (fun u1 r hz => by obtain ⟨hr, hP⟩ := hz; subst hr; exact kk u1 hP)
def w_X3_layHeader (N : Nat) (u : TS) (a1 : Int32) (a2 : Int32) (a3 : Int32) (P : TS → Prop) : Prop := (w_X3_lay N u a1 (((a2).toInt64 * (4 : Int64)) + (a3).toInt64) fun u2 => (P u2))
set_option maxHeartbeats 4000000 in
set_option maxRecDepth 100000 in
theorem c_X3_layHeader {l : Launch} {κ : zK} {h : zH} (hh : zDT κ h) (N : Nat) (u : TS) (a1 : Int32) (a2 : Int32) (a3 : Int32) (P : TS → Prop) (H : w_X3_layHeader N u a1 a2 a3 P) : zM l κ (hsT h) (wT κ h) yX3_layHeader cX3_layHeader 4 none { frames := 1, cells := 0, slots := 0, locals := 23 } [.ref h.2.1, .int a1, .int a2, .int a3] u (zv P) := by
  refine z_met (own := RX3) (by decide) rfl (Nat.le_of_ble_eq_true rfl) hh (fun g X => ?_)
  show zJ g κ (hsT h) (wT κ h) (zv P) 4 u [(0, .ref h.2.1), (1, .int a1), (2, .int a2), (3, .int a3)] 0 []
  unfold w_X3_layHeader at H
  refine z_aload_n X dX3_layHeader_0 0 rfl rfl ?_
  refine z_iload_n X dX3_layHeader_1 1 rfl rfl ?_
  refine z_iload_n X dX3_layHeader_2 2 rfl rfl ?_
  refine z_i2l X dX3_layHeader_3 ?_
  refine z_ldc2 X kl_X3_29 dX3_layHeader_4 ?_
  refine z_lmul X dX3_layHeader_7 ?_
  refine z_iload_n X dX3_layHeader_8 3 rfl rfl ?_
  refine z_i2l X dX3_layHeader_9 ?_
  refine z_ladd X dX3_layHeader_10 ?_
  refine k_X3_lay hh X ml_X3_33 H ⟨Nat.le_of_ble_eq_true rfl, Nat.le_of_ble_eq_true rfl⟩ (Nat.le_of_ble_eq_true rfl) dX3_layHeader_11 (fun u2 H => ?_)
  exact z_vret X dX3_layHeader_14 H
theorem k_X3_layHeader {g : zE} {κ : zK} {h : zH} (hh : zDT κ h) {u : TS} {Φ : TS → Option Value → Prop} {cc : ByteArray} {nL : Nat} {own : String} {ret : Option FieldType} {rm : Room} {lv : List (Nat × Value)} {pc : Nat} {st : List Value} {idx N : Nat} {a1 : Int32} {a2 : Int32} {a3 : Int32} {P : TS → Prop} (X : zC g κ (hsT h) (wT κ h) cc nL own ret rm) (hml : Cond.methodLink own idx yX3_layHeader ∈ zT) (H : w_X3_layHeader N u a1 a2 a3 P) (hR : 1 + 1 ≤ rm.frames ∧ 8 + (4 + 11) + 23 ≤ rm.locals) (hroom : (st.map fun v => v.category).sum ≤ 8) (d : decode cc pc = .ok (.invokevirtual idx, 3)) (kk : ∀ u1, P u1 → zJ g κ (hsT h) (wT κ h) Φ nL u1 lv (pc + 3) st) : zJ g κ (hsT h) (wT κ h) Φ nL u lv pc (.int a3 :: .int a2 :: .int a1 :: .ref h.2.1 :: st) := z_callV (As := [.int a1, .int a2, .int a3]) X yy_X3_layHeader hml im_X3_layHeader se_X3_layHeader (c_X3_layHeader hh N u a1 a2 a3 P H) 2 1 rfl rfl rfl ⟨rfl, rfl⟩ hR rfl hroom d (fun u1 r hz => by obtain ⟨hr, hP⟩ := hz; subst hr; exact kk u1 hP)
def w_X3_at (N : Nat) (u : TS) (a1 : Int32) (P : TS → Int64 → Prop) : Prop := ((a1 < 0 → (P u (0 : Int64))) ∧ (¬ a1 < 0 → ((a1 < (u.1.2.1) → (vp_in a1 2048 ∧ (P u (u.1.1 (a1).toNatClampNeg)))) ∧ (¬ a1 < (u.1.2.1) → (P u (0 : Int64))))))
set_option maxHeartbeats 4000000 in
set_option maxRecDepth 100000 in
theorem c_X3_at {l : Launch} {κ : zK} {h : zH} (hh : zDT κ h) (N : Nat) (u : TS) (a1 : Int32) (P : TS → Int64 → Prop) (H : w_X3_at N u a1 P) : zM l κ (hsT h) (wT κ h) yX3_at cX3_at 2 (some .long) { frames := 0, cells := 0, slots := 0, locals := 0 } [.ref h.2.1, .int a1] u (zl P) := by
  refine z_met (own := RX3) (by decide) rfl (Nat.le_of_ble_eq_true rfl) hh (fun g X => ?_)
  show zJ g κ (hsT h) (wT κ h) (zl P) 2 u [(0, .ref h.2.1), (1, .int a1)] 0 []
  unfold w_X3_at at H
  refine z_iload_n X dX3_at_0 1 rfl rfl ?_
  refine z_if_lt (tgt := 21) X dX3_at_1 (by decide) (fun q1 => ?_) (fun q1 => ?_)
  · have H := H.1 q1
    refine z_lconst (v := 0) X dX3_at_21 (by decide) ?_
    exact z_lret X dX3_at_22 H
  · have H := H.2 q1
    refine z_iload_n X dX3_at_4 1 rfl rfl ?_
    refine z_aload_n X dX3_at_5 0 rfl rfl ?_
    refine gf_X3_21 X dX3_at_6 ?_
    refine z_icmp_ge (tgt := 21) X dX3_at_9 (by decide) (fun q2 => ?_) (fun q2 => ?_)
    · have H := H.2 q2
      refine z_lconst (v := 0) X dX3_at_21 (by decide) ?_
      exact z_lret X dX3_at_22 H
    · have H := H.1 q2
      refine z_aload_n X dX3_at_12 0 rfl rfl ?_
      refine gf_X3_9 X dX3_at_13 ?_
      refine z_iload_n X dX3_at_16 1 rfl rfl ?_
      obtain ⟨q3, H⟩ := H
      refine ar_words X q3 dX3_at_17 ?_
      refine z_goto (tgt := 22) X dX3_at_18 (by decide) ?_
      exact z_lret X dX3_at_22 H
theorem k_X3_at {g : zE} {κ : zK} {h : zH} (hh : zDT κ h) {u : TS} {Φ : TS → Option Value → Prop} {cc : ByteArray} {nL : Nat} {own : String} {ret : Option FieldType} {rm : Room} {lv : List (Nat × Value)} {pc : Nat} {st : List Value} {idx N : Nat} {a1 : Int32} {P : TS → Int64 → Prop} (X : zC g κ (hsT h) (wT κ h) cc nL own ret rm) (hml : Cond.methodLink own idx yX3_at ∈ zT) (H : w_X3_at N u a1 P) (hR : 0 + 1 ≤ rm.frames ∧ 8 + (2 + 11) + 0 ≤ rm.locals) (hroom : (st.map fun v => v.category).sum ≤ 8) (d : decode cc pc = .ok (.invokevirtual idx, 3)) (kk : ∀ u1 v, P u1 v → zJ g κ (hsT h) (wT κ h) Φ nL u1 lv (pc + 3) (.long v :: st)) : zJ g κ (hsT h) (wT κ h) Φ nL u lv pc (.int a1 :: .ref h.2.1 :: st) := z_callV (As := [.int a1]) X yy_X3_at hml im_X3_at se_X3_at (c_X3_at hh N u a1 P H) 2 1 rfl rfl rfl ⟨rfl, rfl⟩ hR rfl hroom d (fun u1 r hz => by obtain ⟨v, hr, hP⟩ := hz; subst hr; exact kk u1 v hP)
def w_X3_bodyOf (N : Nat) (u : TS) (a1 : Int32) (P : TS → Int32 → Prop) : Prop := (w_X3_at N u a1 fun u2 r1 => (P u2 ((r1 / (4 : Int64))).toInt32))
set_option maxHeartbeats 4000000 in
set_option maxRecDepth 100000 in
theorem c_X3_bodyOf {l : Launch} {κ : zK} {h : zH} (hh : zDT κ h) (N : Nat) (u : TS) (a1 : Int32) (P : TS → Int32 → Prop) (H : w_X3_bodyOf N u a1 P) : zM l κ (hsT h) (wT κ h) yX3_bodyOf cX3_bodyOf 2 (some .int) { frames := 1, cells := 0, slots := 0, locals := 21 } [.ref h.2.1, .int a1] u (zi P) := by
  refine z_met (own := RX3) (by decide) rfl (Nat.le_of_ble_eq_true rfl) hh (fun g X => ?_)
  show zJ g κ (hsT h) (wT κ h) (zi P) 2 u [(0, .ref h.2.1), (1, .int a1)] 0 []
  unfold w_X3_bodyOf at H
  refine z_aload_n X dX3_bodyOf_0 0 rfl rfl ?_
  refine z_iload_n X dX3_bodyOf_1 1 rfl rfl ?_
  refine k_X3_at hh X ml_X3_25 H ⟨Nat.le_of_ble_eq_true rfl, Nat.le_of_ble_eq_true rfl⟩ (Nat.le_of_ble_eq_true rfl) dX3_bodyOf_2 (fun u2 r1 H => ?_)
  refine z_ldc2 X kl_X3_29 dX3_bodyOf_5 ?_
  refine z_ldiv X dX3_bodyOf_8 (by decide) ?_
  refine z_l2i X dX3_bodyOf_9 ?_
  exact z_iret X dX3_bodyOf_10 H
theorem k_X3_bodyOf {g : zE} {κ : zK} {h : zH} (hh : zDT κ h) {u : TS} {Φ : TS → Option Value → Prop} {cc : ByteArray} {nL : Nat} {own : String} {ret : Option FieldType} {rm : Room} {lv : List (Nat × Value)} {pc : Nat} {st : List Value} {idx N : Nat} {a1 : Int32} {P : TS → Int32 → Prop} (X : zC g κ (hsT h) (wT κ h) cc nL own ret rm) (hml : Cond.methodLink own idx yX3_bodyOf ∈ zT) (H : w_X3_bodyOf N u a1 P) (hR : 1 + 1 ≤ rm.frames ∧ 8 + (2 + 11) + 21 ≤ rm.locals) (hroom : (st.map fun v => v.category).sum ≤ 8) (d : decode cc pc = .ok (.invokevirtual idx, 3)) (kk : ∀ u1 v, P u1 v → zJ g κ (hsT h) (wT κ h) Φ nL u1 lv (pc + 3) (.int v :: st)) : zJ g κ (hsT h) (wT κ h) Φ nL u lv pc (.int a1 :: .ref h.2.1 :: st) := z_callV (As := [.int a1]) X yy_X3_bodyOf hml im_X3_bodyOf se_X3_bodyOf (c_X3_bodyOf hh N u a1 P H) 2 1 rfl rfl rfl ⟨rfl, rfl⟩ hR rfl hroom d (fun u1 r hz => by obtain ⟨v, hr, hP⟩ := hz; subst hr; exact kk u1 v hP)
def w_J6_numberOfLeadingZeros_0f7a4_61 (N : Nat) (P : Int32 → Prop) (x0 : Int32) (x1 : Int32) : Prop := ((x0 < (4 : Int32) → (P (x1 - ((x0).toUInt32 >>> (((1 : Int32)).toUInt32 &&& Int32.toUInt32 31)).toInt32))) ∧ (¬ x0 < (4 : Int32) → (P ((x1 + (-2 : Int32)) - ((((x0).toUInt32 >>> (((2 : Int32)).toUInt32 &&& Int32.toUInt32 31)).toInt32).toUInt32 >>> (((1 : Int32)).toUInt32 &&& Int32.toUInt32 31)).toInt32))))
def w_J6_numberOfLeadingZeros_0f7a4_48 (N : Nat) (P : Int32 → Prop) (x0 : Int32) (x1 : Int32) : Prop := ((x0 < (16 : Int32) → (w_J6_numberOfLeadingZeros_0f7a4_61 N P x0 x1)) ∧ (¬ x0 < (16 : Int32) → (w_J6_numberOfLeadingZeros_0f7a4_61 N P ((x0).toUInt32 >>> (((4 : Int32)).toUInt32 &&& Int32.toUInt32 31)).toInt32 (x1 + (-4 : Int32)))))
def w_J6_numberOfLeadingZeros_0f7a4_33 (N : Nat) (P : Int32 → Prop) (x0 : Int32) (x1 : Int32) : Prop := ((x0 < (256 : Int32) → (w_J6_numberOfLeadingZeros_0f7a4_48 N P x0 x1)) ∧ (¬ x0 < (256 : Int32) → (w_J6_numberOfLeadingZeros_0f7a4_48 N P ((x0).toUInt32 >>> (((8 : Int32)).toUInt32 &&& Int32.toUInt32 31)).toInt32 (x1 + (-8 : Int32)))))
def w_J6_numberOfLeadingZeros_0f7a4 (N : Nat) (a1 : Int32) (P : Int32 → Prop) : Prop := ((0 < a1 → ((a1 < (65536 : Int32) → (w_J6_numberOfLeadingZeros_0f7a4_33 N P a1 (31 : Int32))) ∧ (¬ a1 < (65536 : Int32) → (w_J6_numberOfLeadingZeros_0f7a4_33 N P ((a1).toUInt32 >>> (((16 : Int32)).toUInt32 &&& Int32.toUInt32 31)).toInt32 ((31 : Int32) + (-16 : Int32)))))) ∧ (¬ 0 < a1 → ((a1 = 0 → (P (32 : Int32))) ∧ (¬ a1 = 0 → (P (0 : Int32))))))
set_option maxHeartbeats 4000000 in
set_option maxRecDepth 100000 in
theorem j_J6_numberOfLeadingZeros_0f7a4_61 {κ : zK} (N : Nat) {g : zE} (X : zC g κ [] zw0 cJ6_numberOfLeadingZeros_0f7a4 2 RJ6 (some .int) { frames := 0, cells := 0, slots := 0, locals := 0 }) (P : Int32 → Prop) (x0 : Int32) (x1 : Int32) (H : w_J6_numberOfLeadingZeros_0f7a4_61 N P x0 x1) : zJ g κ [] zw0 (zsi P) 2 () [(0, .int x0), (1, .int x1)] 61 [] := by
  unfold w_J6_numberOfLeadingZeros_0f7a4_61 at H
  refine z_iload_n X dJ6_numberOfLeadingZeros_0f7a4_61 0 rfl rfl ?_
  refine z_iconst (v := 4) X dJ6_numberOfLeadingZeros_0f7a4_62 (by decide) ?_
  refine z_icmp_lt (tgt := 73) X dJ6_numberOfLeadingZeros_0f7a4_63 (by decide) (fun q5 => ?_) (fun q5 => ?_)
  · have H := H.1 q5
    refine z_iload_n X dJ6_numberOfLeadingZeros_0f7a4_73 1 rfl rfl ?_
    refine z_iload_n X dJ6_numberOfLeadingZeros_0f7a4_74 0 rfl rfl ?_
    refine z_iconst (v := 1) X dJ6_numberOfLeadingZeros_0f7a4_75 (by decide) ?_
    refine z_iushr X dJ6_numberOfLeadingZeros_0f7a4_76 ?_
    refine z_isub X dJ6_numberOfLeadingZeros_0f7a4_77 ?_
    exact z_siret X dJ6_numberOfLeadingZeros_0f7a4_78 H
  · have H := H.2 q5
    refine z_iinc (k := 1) (v := (x1 + (-2 : Int32))) (lv' := [(1, .int (x1 + (-2 : Int32))), (0, .int x0)]) X dJ6_numberOfLeadingZeros_0f7a4_66 rfl rfl (by decide) rfl ?_
    refine z_iload_n X dJ6_numberOfLeadingZeros_0f7a4_69 1 rfl rfl ?_
    refine z_iconst (v := 2) X dJ6_numberOfLeadingZeros_0f7a4_70 (by decide) ?_
    refine z_iushr X dJ6_numberOfLeadingZeros_0f7a4_71 ?_
    refine z_istore_n (lv' := [(0, .int ((x0).toUInt32 >>> (((2 : Int32)).toUInt32 &&& Int32.toUInt32 31)).toInt32), (1, .int (x1 + (-2 : Int32)))]) X dJ6_numberOfLeadingZeros_0f7a4_72 rfl (by decide) rfl ?_
    refine z_iload_n X dJ6_numberOfLeadingZeros_0f7a4_73 1 rfl rfl ?_
    refine z_iload_n X dJ6_numberOfLeadingZeros_0f7a4_74 0 rfl rfl ?_
    refine z_iconst (v := 1) X dJ6_numberOfLeadingZeros_0f7a4_75 (by decide) ?_
    refine z_iushr X dJ6_numberOfLeadingZeros_0f7a4_76 ?_
    refine z_isub X dJ6_numberOfLeadingZeros_0f7a4_77 ?_
    exact z_siret X dJ6_numberOfLeadingZeros_0f7a4_78 H
set_option maxHeartbeats 4000000 in
set_option maxRecDepth 100000 in
theorem j_J6_numberOfLeadingZeros_0f7a4_48 {κ : zK} (N : Nat) {g : zE} (X : zC g κ [] zw0 cJ6_numberOfLeadingZeros_0f7a4 2 RJ6 (some .int) { frames := 0, cells := 0, slots := 0, locals := 0 }) (P : Int32 → Prop) (x0 : Int32) (x1 : Int32) (H : w_J6_numberOfLeadingZeros_0f7a4_48 N P x0 x1) : zJ g κ [] zw0 (zsi P) 2 () [(0, .int x0), (1, .int x1)] 48 [] := by
  unfold w_J6_numberOfLeadingZeros_0f7a4_48 at H
  refine z_iload_n X dJ6_numberOfLeadingZeros_0f7a4_48 0 rfl rfl ?_
  refine z_bipush (v := 16) X dJ6_numberOfLeadingZeros_0f7a4_49 (by decide) ?_
  refine z_icmp_lt (tgt := 61) X dJ6_numberOfLeadingZeros_0f7a4_51 (by decide) (fun q4 => ?_) (fun q4 => ?_)
  · have H := H.1 q4
    exact z_sub (j_J6_numberOfLeadingZeros_0f7a4_61 N X P x0 x1 H) [0, 1] rfl
  · have H := H.2 q4
    refine z_iinc (k := 1) (v := (x1 + (-4 : Int32))) (lv' := [(1, .int (x1 + (-4 : Int32))), (0, .int x0)]) X dJ6_numberOfLeadingZeros_0f7a4_54 rfl rfl (by decide) rfl ?_
    refine z_iload_n X dJ6_numberOfLeadingZeros_0f7a4_57 1 rfl rfl ?_
    refine z_iconst (v := 4) X dJ6_numberOfLeadingZeros_0f7a4_58 (by decide) ?_
    refine z_iushr X dJ6_numberOfLeadingZeros_0f7a4_59 ?_
    refine z_istore_n (lv' := [(0, .int ((x0).toUInt32 >>> (((4 : Int32)).toUInt32 &&& Int32.toUInt32 31)).toInt32), (1, .int (x1 + (-4 : Int32)))]) X dJ6_numberOfLeadingZeros_0f7a4_60 rfl (by decide) rfl ?_
    exact z_sub (j_J6_numberOfLeadingZeros_0f7a4_61 N X P ((x0).toUInt32 >>> (((4 : Int32)).toUInt32 &&& Int32.toUInt32 31)).toInt32 (x1 + (-4 : Int32)) H) [0, 1] rfl
set_option maxHeartbeats 4000000 in
set_option maxRecDepth 100000 in
theorem j_J6_numberOfLeadingZeros_0f7a4_33 {κ : zK} (N : Nat) {g : zE} (X : zC g κ [] zw0 cJ6_numberOfLeadingZeros_0f7a4 2 RJ6 (some .int) { frames := 0, cells := 0, slots := 0, locals := 0 }) (P : Int32 → Prop) (x0 : Int32) (x1 : Int32) (H : w_J6_numberOfLeadingZeros_0f7a4_33 N P x0 x1) : zJ g κ [] zw0 (zsi P) 2 () [(0, .int x0), (1, .int x1)] 33 [] := by
  unfold w_J6_numberOfLeadingZeros_0f7a4_33 at H
  refine z_iload_n X dJ6_numberOfLeadingZeros_0f7a4_33 0 rfl rfl ?_
  refine z_sipush (v := 256) X dJ6_numberOfLeadingZeros_0f7a4_34 (by decide) ?_
  refine z_icmp_lt (tgt := 48) X dJ6_numberOfLeadingZeros_0f7a4_37 (by decide) (fun q3 => ?_) (fun q3 => ?_)
  · have H := H.1 q3
    exact z_sub (j_J6_numberOfLeadingZeros_0f7a4_48 N X P x0 x1 H) [0, 1] rfl
  · have H := H.2 q3
    refine z_iinc (k := 1) (v := (x1 + (-8 : Int32))) (lv' := [(1, .int (x1 + (-8 : Int32))), (0, .int x0)]) X dJ6_numberOfLeadingZeros_0f7a4_40 rfl rfl (by decide) rfl ?_
    refine z_iload_n X dJ6_numberOfLeadingZeros_0f7a4_43 1 rfl rfl ?_
    refine z_bipush (v := 8) X dJ6_numberOfLeadingZeros_0f7a4_44 (by decide) ?_
    refine z_iushr X dJ6_numberOfLeadingZeros_0f7a4_46 ?_
    refine z_istore_n (lv' := [(0, .int ((x0).toUInt32 >>> (((8 : Int32)).toUInt32 &&& Int32.toUInt32 31)).toInt32), (1, .int (x1 + (-8 : Int32)))]) X dJ6_numberOfLeadingZeros_0f7a4_47 rfl (by decide) rfl ?_
    exact z_sub (j_J6_numberOfLeadingZeros_0f7a4_48 N X P ((x0).toUInt32 >>> (((8 : Int32)).toUInt32 &&& Int32.toUInt32 31)).toInt32 (x1 + (-8 : Int32)) H) [0, 1] rfl
set_option maxHeartbeats 4000000 in
set_option maxRecDepth 100000 in
theorem c_J6_numberOfLeadingZeros_0f7a4 {l : Launch} {κ : zK} (N : Nat) (a1 : Int32) (P : Int32 → Prop) (H : w_J6_numberOfLeadingZeros_0f7a4 N a1 P) : zM l κ [] zw0 yJ6_numberOfLeadingZeros_0f7a4 cJ6_numberOfLeadingZeros_0f7a4 2 (some .int) { frames := 0, cells := 0, slots := 0, locals := 0 } [.int a1] () (zsi P) := by
  refine z_met (own := RJ6) (by decide) rfl (Nat.le_of_ble_eq_true rfl) z_D0 (fun g X => ?_)
  show zJ g κ [] zw0 (zsi P) 2 () [(0, .int a1)] 0 []
  unfold w_J6_numberOfLeadingZeros_0f7a4 at H
  refine z_iload_n X dJ6_numberOfLeadingZeros_0f7a4_0 0 rfl rfl ?_
  refine z_if_gt (tgt := 15) X dJ6_numberOfLeadingZeros_0f7a4_1 (by decide) (fun q1 => ?_) (fun q1 => ?_)
  · have H := H.1 q1
    refine z_bipush (v := 31) X dJ6_numberOfLeadingZeros_0f7a4_15 (by decide) ?_
    refine z_istore_n (lv' := [(1, .int (31 : Int32)), (0, .int a1)]) X dJ6_numberOfLeadingZeros_0f7a4_17 rfl (by decide) rfl ?_
    refine z_iload_n X dJ6_numberOfLeadingZeros_0f7a4_18 1 rfl rfl ?_
    refine z_ldcw X kc_J6_264 dJ6_numberOfLeadingZeros_0f7a4_19 ?_
    refine z_icmp_lt (tgt := 33) X dJ6_numberOfLeadingZeros_0f7a4_22 (by decide) (fun q2 => ?_) (fun q2 => ?_)
    · have H := H.1 q2
      exact z_sub (j_J6_numberOfLeadingZeros_0f7a4_33 N X P a1 (31 : Int32) H) [1, 0] rfl
    · have H := H.2 q2
      refine z_iinc (k := 0) (v := ((31 : Int32) + (-16 : Int32))) (lv' := [(1, .int ((31 : Int32) + (-16 : Int32))), (0, .int a1)]) X dJ6_numberOfLeadingZeros_0f7a4_25 rfl rfl (by decide) rfl ?_
      refine z_iload_n X dJ6_numberOfLeadingZeros_0f7a4_28 1 rfl rfl ?_
      refine z_bipush (v := 16) X dJ6_numberOfLeadingZeros_0f7a4_29 (by decide) ?_
      refine z_iushr X dJ6_numberOfLeadingZeros_0f7a4_31 ?_
      refine z_istore_n (lv' := [(0, .int ((a1).toUInt32 >>> (((16 : Int32)).toUInt32 &&& Int32.toUInt32 31)).toInt32), (1, .int ((31 : Int32) + (-16 : Int32)))]) X dJ6_numberOfLeadingZeros_0f7a4_32 rfl (by decide) rfl ?_
      exact z_sub (j_J6_numberOfLeadingZeros_0f7a4_33 N X P ((a1).toUInt32 >>> (((16 : Int32)).toUInt32 &&& Int32.toUInt32 31)).toInt32 ((31 : Int32) + (-16 : Int32)) H) [0, 1] rfl
  · have H := H.2 q1
    refine z_iload_n X dJ6_numberOfLeadingZeros_0f7a4_4 0 rfl rfl ?_
    refine z_if_ne (tgt := 13) X dJ6_numberOfLeadingZeros_0f7a4_5 (by decide) (fun q6 => ?_) (fun q6 => ?_)
    · have H := H.2 q6
      refine z_iconst (v := 0) X dJ6_numberOfLeadingZeros_0f7a4_13 (by decide) ?_
      exact z_siret X dJ6_numberOfLeadingZeros_0f7a4_14 H
    · have H := H.1 q6
      refine z_bipush (v := 32) X dJ6_numberOfLeadingZeros_0f7a4_8 (by decide) ?_
      refine z_goto (tgt := 14) X dJ6_numberOfLeadingZeros_0f7a4_10 (by decide) ?_
      exact z_siret X dJ6_numberOfLeadingZeros_0f7a4_14 H
theorem k_J6_numberOfLeadingZeros_0f7a4 {σ : Type} {g : zE} {hs : List Nat} {ω : σ → va_W} {κ : zK} {u : σ} {Φ : σ → Option Value → Prop} {cc : ByteArray} {nL : Nat} {own : String} {ret : Option FieldType} {rm : Room} {lv : List (Nat × Value)} {pc : Nat} {st : List Value} {idx N : Nat} {a1 : Int32} {P : Int32 → Prop} (X : zC g κ hs ω cc nL own ret rm) (hml : Cond.methodLink own idx yJ6_numberOfLeadingZeros_0f7a4 ∈ zT) (H : w_J6_numberOfLeadingZeros_0f7a4 N a1 P) (hR : 0 + 1 ≤ rm.frames ∧ 8 + (2 + 11) + 0 ≤ rm.locals) (hroom : (st.map fun v => v.category).sum ≤ 8) (d : decode cc pc = .ok (.invokestatic idx, 3)) (kk : ∀ v, P v → zJ g κ hs ω Φ nL u lv (pc + 3) (.int v :: st)) : zJ g κ hs ω Φ nL u lv pc (.int a1 :: st) := z_callS (As := [.int a1]) X yy_J6_numberOfLeadingZeros_0f7a4 hml st_J6_numberOfLeadingZeros_0f7a4 (c_J6_numberOfLeadingZeros_0f7a4 N a1 P H) rfl ⟨rfl, rfl⟩ hR rfl hroom d kk
def w_X1_stepShift (N : Nat) (a1 : Int32) (P : Int32 → Prop) : Prop := (w_J6_numberOfLeadingZeros_0f7a4 N a1 fun r1 => (P ((28 : Int32) - r1)))
set_option maxHeartbeats 4000000 in
set_option maxRecDepth 100000 in
theorem c_X1_stepShift {l : Launch} {κ : zK} (N : Nat) (a1 : Int32) (P : Int32 → Prop) (H : w_X1_stepShift N a1 P) : zM l κ [] zw0 yX1_stepShift cX1_stepShift 1 (some .int) { frames := 1, cells := 0, slots := 0, locals := 21 } [.int a1] () (zsi P) := by
  refine z_met (own := RX1) (by decide) rfl (Nat.le_of_ble_eq_true rfl) z_D0 (fun g X => ?_)
  show zJ g κ [] zw0 (zsi P) 1 () [(0, .int a1)] 0 []
  unfold w_X1_stepShift at H
  refine z_bipush (v := 28) X dX1_stepShift_0 (by decide) ?_
  refine z_iload_n X dX1_stepShift_2 0 rfl rfl ?_
  refine k_J6_numberOfLeadingZeros_0f7a4 X ml_X1_21 H ⟨Nat.le_of_ble_eq_true rfl, Nat.le_of_ble_eq_true rfl⟩ (Nat.le_of_ble_eq_true rfl) dX1_stepShift_3 (fun r1 H => ?_)
  refine z_isub X dX1_stepShift_6 ?_
  exact z_siret X dX1_stepShift_7 H
theorem k_X1_stepShift {σ : Type} {g : zE} {hs : List Nat} {ω : σ → va_W} {κ : zK} {u : σ} {Φ : σ → Option Value → Prop} {cc : ByteArray} {nL : Nat} {own : String} {ret : Option FieldType} {rm : Room} {lv : List (Nat × Value)} {pc : Nat} {st : List Value} {idx N : Nat} {a1 : Int32} {P : Int32 → Prop} (X : zC g κ hs ω cc nL own ret rm) (hml : Cond.methodLink own idx yX1_stepShift ∈ zT) (H : w_X1_stepShift N a1 P) (hR : 1 + 1 ≤ rm.frames ∧ 8 + (1 + 11) + 21 ≤ rm.locals) (hroom : (st.map fun v => v.category).sum ≤ 8) (d : decode cc pc = .ok (.invokestatic idx, 3)) (kk : ∀ v, P v → zJ g κ hs ω Φ nL u lv (pc + 3) (.int v :: st)) : zJ g κ hs ω Φ nL u lv pc (.int a1 :: st) := z_callS (As := [.int a1]) X yy_X1_stepShift hml st_X1_stepShift (c_X1_stepShift N a1 P H) rfl ⟨rfl, rfl⟩ hR rfl hroom d kk
def w_X1_ofBody (N : Nat) (a1 : Int32) (P : Int32 → Prop) : Prop := ((a1 < (8 : Int32) → (P a1)) ∧ (¬ a1 < (8 : Int32) → (w_X1_stepShift N a1 fun r2 => (P ((((8 : Int32) * (r2 + (1 : Int32))) + (a1 >>> (r2 &&& 31))) - (8 : Int32))))))
set_option maxHeartbeats 4000000 in
set_option maxRecDepth 100000 in
theorem c_X1_ofBody {l : Launch} {κ : zK} (N : Nat) (a1 : Int32) (P : Int32 → Prop) (H : w_X1_ofBody N a1 P) : zM l κ [] zw0 yX1_ofBody cX1_ofBody 2 (some .int) { frames := 2, cells := 0, slots := 0, locals := 41 } [.int a1] () (zsi P) := by
  refine z_met (own := RX1) (by decide) rfl (Nat.le_of_ble_eq_true rfl) z_D0 (fun g X => ?_)
  show zJ g κ [] zw0 (zsi P) 2 () [(0, .int a1)] 0 []
  unfold w_X1_ofBody at H
  refine z_iload_n X dX1_ofBody_0 0 rfl rfl ?_
  refine z_bipush (v := 8) X dX1_ofBody_1 (by decide) ?_
  refine z_icmp_ge (tgt := 8) X dX1_ofBody_3 (by decide) (fun q1 => ?_) (fun q1 => ?_)
  · have H := H.2 q1
    refine z_iload_n X dX1_ofBody_8 0 rfl rfl ?_
    refine k_X1_stepShift X ml_X1_9 H ⟨Nat.le_of_ble_eq_true rfl, Nat.le_of_ble_eq_true rfl⟩ (Nat.le_of_ble_eq_true rfl) dX1_ofBody_9 (fun r2 H => ?_)
    refine z_istore_n (lv' := [(1, .int r2), (0, .int a1)]) X dX1_ofBody_12 rfl (by decide) rfl ?_
    refine z_bipush (v := 8) X dX1_ofBody_13 (by decide) ?_
    refine z_iload_n X dX1_ofBody_15 0 rfl rfl ?_
    refine z_iconst (v := 1) X dX1_ofBody_16 (by decide) ?_
    refine z_iadd X dX1_ofBody_17 ?_
    refine z_imul X dX1_ofBody_18 ?_
    refine z_iload_n X dX1_ofBody_19 1 rfl rfl ?_
    refine z_iload_n X dX1_ofBody_20 0 rfl rfl ?_
    refine z_ishr X dX1_ofBody_21 ?_
    refine z_iadd X dX1_ofBody_22 ?_
    refine z_bipush (v := 8) X dX1_ofBody_23 (by decide) ?_
    refine z_isub X dX1_ofBody_25 ?_
    exact z_siret X dX1_ofBody_26 H
  · have H := H.1 q1
    refine z_iload_n X dX1_ofBody_6 0 rfl rfl ?_
    exact z_siret X dX1_ofBody_7 H
theorem k_X1_ofBody {σ : Type} {g : zE} {hs : List Nat} {ω : σ → va_W} {κ : zK} {u : σ} {Φ : σ → Option Value → Prop} {cc : ByteArray} {nL : Nat} {own : String} {ret : Option FieldType} {rm : Room} {lv : List (Nat × Value)} {pc : Nat} {st : List Value} {idx N : Nat} {a1 : Int32} {P : Int32 → Prop} (X : zC g κ hs ω cc nL own ret rm) (hml : Cond.methodLink own idx yX1_ofBody ∈ zT) (H : w_X1_ofBody N a1 P) (hR : 2 + 1 ≤ rm.frames ∧ 8 + (2 + 11) + 41 ≤ rm.locals) (hroom : (st.map fun v => v.category).sum ≤ 8) (d : decode cc pc = .ok (.invokestatic idx, 3)) (kk : ∀ v, P v → zJ g κ hs ω Φ nL u lv (pc + 3) (.int v :: st)) : zJ g κ hs ω Φ nL u lv pc (.int a1 :: st) := z_callS (As := [.int a1]) X yy_X1_ofBody hml st_X1_ofBody (c_X1_ofBody N a1 P H) rfl ⟨rfl, rfl⟩ hR rfl hroom d kk
def w_X3_behind (N : Nat) (u : TS) (a1 : Int32) (P : TS → Int32 → Prop) : Prop := (w_X3_at N u a1 fun u2 r1 => (P u2 ((a1 + (1 : Int32)) + ((r1 / (4 : Int64))).toInt32)))
set_option maxHeartbeats 4000000 in
set_option maxRecDepth 100000 in
theorem c_X3_behind {l : Launch} {κ : zK} {h : zH} (hh : zDT κ h) (N : Nat) (u : TS) (a1 : Int32) (P : TS → Int32 → Prop) (H : w_X3_behind N u a1 P) : zM l κ (hsT h) (wT κ h) yX3_behind cX3_behind 2 (some .int) { frames := 1, cells := 0, slots := 0, locals := 21 } [.ref h.2.1, .int a1] u (zi P) := by
  refine z_met (own := RX3) (by decide) rfl (Nat.le_of_ble_eq_true rfl) hh (fun g X => ?_)
  show zJ g κ (hsT h) (wT κ h) (zi P) 2 u [(0, .ref h.2.1), (1, .int a1)] 0 []
  unfold w_X3_behind at H
  refine z_iload_n X dX3_behind_0 1 rfl rfl ?_
  refine z_iconst (v := 1) X dX3_behind_1 (by decide) ?_
  refine z_iadd X dX3_behind_2 ?_
  refine z_aload_n X dX3_behind_3 0 rfl rfl ?_
  refine z_iload_n X dX3_behind_4 1 rfl rfl ?_
  refine k_X3_at hh X ml_X3_25 H ⟨Nat.le_of_ble_eq_true rfl, Nat.le_of_ble_eq_true rfl⟩ (Nat.le_of_ble_eq_true rfl) dX3_behind_5 (fun u2 r1 H => ?_)
  refine z_ldc2 X kl_X3_29 dX3_behind_8 ?_
  refine z_ldiv X dX3_behind_11 (by decide) ?_
  refine z_l2i X dX3_behind_12 ?_
  refine z_iadd X dX3_behind_13 ?_
  exact z_iret X dX3_behind_14 H
theorem k_X3_behind {g : zE} {κ : zK} {h : zH} (hh : zDT κ h) {u : TS} {Φ : TS → Option Value → Prop} {cc : ByteArray} {nL : Nat} {own : String} {ret : Option FieldType} {rm : Room} {lv : List (Nat × Value)} {pc : Nat} {st : List Value} {idx N : Nat} {a1 : Int32} {P : TS → Int32 → Prop} (X : zC g κ (hsT h) (wT κ h) cc nL own ret rm) (hml : Cond.methodLink own idx yX3_behind ∈ zT) (H : w_X3_behind N u a1 P) (hR : 1 + 1 ≤ rm.frames ∧ 8 + (2 + 11) + 21 ≤ rm.locals) (hroom : (st.map fun v => v.category).sum ≤ 8) (d : decode cc pc = .ok (.invokevirtual idx, 3)) (kk : ∀ u1 v, P u1 v → zJ g κ (hsT h) (wT κ h) Φ nL u1 lv (pc + 3) (.int v :: st)) : zJ g κ (hsT h) (wT κ h) Φ nL u lv pc (.int a1 :: .ref h.2.1 :: st) := z_callV (As := [.int a1]) X yy_X3_behind hml im_X3_behind se_X3_behind (c_X3_behind hh N u a1 P H) 2 1 rfl rfl rfl ⟨rfl, rfl⟩ hR rfl hroom d (fun u1 r hz => by obtain ⟨v, hr, hP⟩ := hz; subst hr; exact kk u1 v hP)
def w_X3_isFree (N : Nat) (u : TS) (a1 : Int32) (P : TS → Int32 → Prop) : Prop := (w_X3_at N u a1 fun u2 r1 => (((r1 &&& (1 : Int64)) = (0 : Int64) → (P u2 (0 : Int32))) ∧ (¬ (r1 &&& (1 : Int64)) = (0 : Int64) → (P u2 (1 : Int32)))))
set_option maxHeartbeats 4000000 in
set_option maxRecDepth 100000 in
theorem c_X3_isFree {l : Launch} {κ : zK} {h : zH} (hh : zDT κ h) (N : Nat) (u : TS) (a1 : Int32) (P : TS → Int32 → Prop) (H : w_X3_isFree N u a1 P) : zM l κ (hsT h) (wT κ h) yX3_isFree cX3_isFree 2 (some .boolean) { frames := 1, cells := 0, slots := 0, locals := 21 } [.ref h.2.1, .int a1] u (zi P) := by
  refine z_met (own := RX3) (by decide) rfl (Nat.le_of_ble_eq_true rfl) hh (fun g X => ?_)
  show zJ g κ (hsT h) (wT κ h) (zi P) 2 u [(0, .ref h.2.1), (1, .int a1)] 0 []
  unfold w_X3_isFree at H
  refine z_aload_n X dX3_isFree_0 0 rfl rfl ?_
  refine z_iload_n X dX3_isFree_1 1 rfl rfl ?_
  refine k_X3_at hh X ml_X3_25 H ⟨Nat.le_of_ble_eq_true rfl, Nat.le_of_ble_eq_true rfl⟩ (Nat.le_of_ble_eq_true rfl) dX3_isFree_2 (fun u2 r1 H => ?_)
  refine z_lconst (v := 1) X dX3_isFree_5 (by decide) ?_
  refine z_land X dX3_isFree_6 ?_
  refine z_lconst (v := 0) X dX3_isFree_7 (by decide) ?_
  refine z_lcmp_eq (tgt := 16) X dX3_isFree_8 dX3_isFree_9 (by decide) (fun q3 => ?_) (fun q3 => ?_)
  · have H := H.1 q3
    refine z_iconst (v := 0) X dX3_isFree_16 (by decide) ?_
    exact z_zret X rfl dX3_isFree_17 H
  · have H := H.2 q3
    refine z_iconst (v := 1) X dX3_isFree_12 (by decide) ?_
    refine z_goto (tgt := 17) X dX3_isFree_13 (by decide) ?_
    exact z_zret X rfl dX3_isFree_17 H
theorem k_X3_isFree {g : zE} {κ : zK} {h : zH} (hh : zDT κ h) {u : TS} {Φ : TS → Option Value → Prop} {cc : ByteArray} {nL : Nat} {own : String} {ret : Option FieldType} {rm : Room} {lv : List (Nat × Value)} {pc : Nat} {st : List Value} {idx N : Nat} {a1 : Int32} {P : TS → Int32 → Prop} (X : zC g κ (hsT h) (wT κ h) cc nL own ret rm) (hml : Cond.methodLink own idx yX3_isFree ∈ zT) (H : w_X3_isFree N u a1 P) (hR : 1 + 1 ≤ rm.frames ∧ 8 + (2 + 11) + 21 ≤ rm.locals) (hroom : (st.map fun v => v.category).sum ≤ 8) (d : decode cc pc = .ok (.invokevirtual idx, 3)) (kk : ∀ u1 v, P u1 v → zJ g κ (hsT h) (wT κ h) Φ nL u1 lv (pc + 3) (.int v :: st)) : zJ g κ (hsT h) (wT κ h) Φ nL u lv pc (.int a1 :: .ref h.2.1 :: st) := z_callV (As := [.int a1]) X yy_X3_isFree hml im_X3_isFree se_X3_isFree (c_X3_isFree hh N u a1 P H) 2 1 rfl rfl rfl ⟨rfl, rfl⟩ hR rfl hroom d (fun u1 r hz => by obtain ⟨v, hr, hP⟩ := hz; subst hr; exact kk u1 v hP)
def w_X3_tellBehind (N : Nat) (u : TS) (a1 : Int32) (P : TS → Prop) : Prop := (w_X3_behind N u a1 fun u2 r1 => (w_X3_at N u2 r1 fun u4 r3 => (w_X3_isFree N u4 a1 fun u6 r5 => ((r5 = 0 → (w_X3_lay N u6 r1 (r3 &&& (-3 : Int64)) fun u9 => (P u9))) ∧ (¬ r5 = 0 → (w_X3_lay N u6 r1 ((r3 &&& (-3 : Int64)) + (2 : Int64)) fun u11 => (P u11)))))))
set_option maxHeartbeats 4000000 in
set_option maxRecDepth 100000 in
theorem c_X3_tellBehind {l : Launch} {κ : zK} {h : zH} (hh : zDT κ h) (N : Nat) (u : TS) (a1 : Int32) (P : TS → Prop) (H : w_X3_tellBehind N u a1 P) : zM l κ (hsT h) (wT κ h) yX3_tellBehind cX3_tellBehind 5 none { frames := 2, cells := 0, slots := 0, locals := 42 } [.ref h.2.1, .int a1] u (zv P) := by
  refine z_met (own := RX3) (by decide) rfl (Nat.le_of_ble_eq_true rfl) hh (fun g X => ?_)
  show zJ g κ (hsT h) (wT κ h) (zv P) 5 u [(0, .ref h.2.1), (1, .int a1)] 0 []
  unfold w_X3_tellBehind at H
  refine z_aload_n X dX3_tellBehind_0 0 rfl rfl ?_
  refine z_iload_n X dX3_tellBehind_1 1 rfl rfl ?_
  refine k_X3_behind hh X ml_X3_43 H ⟨Nat.le_of_ble_eq_true rfl, Nat.le_of_ble_eq_true rfl⟩ (Nat.le_of_ble_eq_true rfl) dX3_tellBehind_2 (fun u2 r1 H => ?_)
  refine z_istore_n (lv' := [(2, .int r1), (0, .ref h.2.1), (1, .int a1)]) X dX3_tellBehind_5 rfl (by decide) rfl ?_
  refine z_aload_n X dX3_tellBehind_6 1 rfl rfl ?_
  refine z_iload_n X dX3_tellBehind_7 0 rfl rfl ?_
  refine k_X3_at hh X ml_X3_25 H ⟨Nat.le_of_ble_eq_true rfl, Nat.le_of_ble_eq_true rfl⟩ (Nat.le_of_ble_eq_true rfl) dX3_tellBehind_8 (fun u4 r3 H => ?_)
  refine z_ldc2 X kl_X3_47 dX3_tellBehind_11 ?_
  refine z_land X dX3_tellBehind_14 ?_
  refine z_lstore_n (lv' := [(3, .long (r3 &&& (-3 : Int64))), (2, .int r1), (0, .ref h.2.1), (1, .int a1)]) X dX3_tellBehind_15 rfl (by decide) rfl ?_
  refine z_aload_n X dX3_tellBehind_16 2 rfl rfl ?_
  refine z_iload_n X dX3_tellBehind_17 1 rfl rfl ?_
  refine z_aload_n X dX3_tellBehind_18 2 rfl rfl ?_
  refine z_iload_n X dX3_tellBehind_19 3 rfl rfl ?_
  refine k_X3_isFree hh X ml_X3_49 H ⟨Nat.le_of_ble_eq_true rfl, Nat.le_of_ble_eq_true rfl⟩ (Nat.le_of_ble_eq_true rfl) dX3_tellBehind_20 (fun u6 r5 H => ?_)
  refine z_if_eq (tgt := 34) X dX3_tellBehind_23 (by decide) (fun q7 => ?_) (fun q7 => ?_)
  · have H := H.1 q7
    refine z_lload_n X dX3_tellBehind_34 0 rfl rfl ?_
    refine k_X3_lay hh X ml_X3_33 H ⟨Nat.le_of_ble_eq_true rfl, Nat.le_of_ble_eq_true rfl⟩ (Nat.le_of_ble_eq_true rfl) dX3_tellBehind_35 (fun u9 H => ?_)
    exact z_vret X dX3_tellBehind_38 H
  · have H := H.2 q7
    refine z_lload_n X dX3_tellBehind_26 0 rfl rfl ?_
    refine z_ldc2 X kl_X3_31 dX3_tellBehind_27 ?_
    refine z_ladd X dX3_tellBehind_30 ?_
    refine z_goto (tgt := 35) X dX3_tellBehind_31 (by decide) ?_
    refine k_X3_lay hh X ml_X3_33 H ⟨Nat.le_of_ble_eq_true rfl, Nat.le_of_ble_eq_true rfl⟩ (Nat.le_of_ble_eq_true rfl) dX3_tellBehind_35 (fun u11 H => ?_)
    exact z_vret X dX3_tellBehind_38 H
theorem k_X3_tellBehind {g : zE} {κ : zK} {h : zH} (hh : zDT κ h) {u : TS} {Φ : TS → Option Value → Prop} {cc : ByteArray} {nL : Nat} {own : String} {ret : Option FieldType} {rm : Room} {lv : List (Nat × Value)} {pc : Nat} {st : List Value} {idx N : Nat} {a1 : Int32} {P : TS → Prop} (X : zC g κ (hsT h) (wT κ h) cc nL own ret rm) (hml : Cond.methodLink own idx yX3_tellBehind ∈ zT) (H : w_X3_tellBehind N u a1 P) (hR : 2 + 1 ≤ rm.frames ∧ 8 + (5 + 11) + 42 ≤ rm.locals) (hroom : (st.map fun v => v.category).sum ≤ 8) (d : decode cc pc = .ok (.invokevirtual idx, 3)) (kk : ∀ u1, P u1 → zJ g κ (hsT h) (wT κ h) Φ nL u1 lv (pc + 3) st) : zJ g κ (hsT h) (wT κ h) Φ nL u lv pc (.int a1 :: .ref h.2.1 :: st) := z_callV (As := [.int a1]) X yy_X3_tellBehind hml im_X3_tellBehind se_X3_tellBehind (c_X3_tellBehind hh N u a1 P H) 2 1 rfl rfl rfl ⟨rfl, rfl⟩ hR rfl hroom d (fun u1 r hz => by obtain ⟨hr, hP⟩ := hz; subst hr; exact kk u1 hP)
def w_X4_bodyFor (N : Nat) (a1 : Int32) (P : Int32 → Prop) : Prop := (P (if a1 < (3 : Int32) then (3 : Int32) else a1))
set_option maxHeartbeats 4000000 in
set_option maxRecDepth 100000 in
theorem c_X4_bodyFor {l : Launch} {κ : zK} (N : Nat) (a1 : Int32) (P : Int32 → Prop) (H : w_X4_bodyFor N a1 P) : zM l κ [] zw0 yX4_bodyFor cX4_bodyFor 1 (some .int) { frames := 1, cells := 0, slots := 0, locals := 13 } [.int a1] () (zsi P) := by
  refine z_met (own := RX4) (by decide) rfl (Nat.le_of_ble_eq_true rfl) z_D0 (fun g X => ?_)
  show zJ g κ [] zw0 (zsi P) 1 () [(0, .int a1)] 0 []
  unfold w_X4_bodyFor at H
  refine z_iload_n X dX4_bodyFor_0 0 rfl rfl ?_
  refine z_iconst (v := 3) X dX4_bodyFor_1 (by decide) ?_
  refine z_mmax X ml_X4_173 ⟨Nat.le_of_ble_eq_true rfl, Nat.le_of_ble_eq_true rfl⟩ dX4_bodyFor_2 ?_
  exact z_siret X dX4_bodyFor_5 H
theorem k_X4_bodyFor {σ : Type} {g : zE} {hs : List Nat} {ω : σ → va_W} {κ : zK} {u : σ} {Φ : σ → Option Value → Prop} {cc : ByteArray} {nL : Nat} {own : String} {ret : Option FieldType} {rm : Room} {lv : List (Nat × Value)} {pc : Nat} {st : List Value} {idx N : Nat} {a1 : Int32} {P : Int32 → Prop} (X : zC g κ hs ω cc nL own ret rm) (hml : Cond.methodLink own idx yX4_bodyFor ∈ zT) (H : w_X4_bodyFor N a1 P) (hR : 1 + 1 ≤ rm.frames ∧ 8 + (1 + 11) + 13 ≤ rm.locals) (hroom : (st.map fun v => v.category).sum ≤ 8) (d : decode cc pc = .ok (.invokestatic idx, 3)) (kk : ∀ v, P v → zJ g κ hs ω Φ nL u lv (pc + 3) (.int v :: st)) : zJ g κ hs ω Φ nL u lv pc (.int a1 :: st) := z_callS (As := [.int a1]) X yy_X4_bodyFor hml st_X4_bodyFor (c_X4_bodyFor N a1 P H) rfl ⟨rfl, rfl⟩ hR rfl hroom d kk
theorem k_X4_bodyForN {σ : Type} {g : zE} {hs : List Nat} {ω : σ → va_W} {κ : zK} {u : σ} {Φ : σ → Option Value → Prop} {cc : ByteArray} {nL : Nat} {own : String} {ret : Option FieldType} {rm : Room} {lv : List (Nat × Value)} {pc : Nat} {st : List Value} {idx N : Nat} {a1 : Int32} {P : Int32 → Prop} (X : zC g κ hs ω cc nL own ret rm) {host : String} (hml : ∀ U, zN U → va_Nw (.methodLinkNest own idx yX4_bodyFor host) U) (H : w_X4_bodyFor N a1 P) (hR : 1 + 1 ≤ rm.frames ∧ 8 + (1 + 11) + 13 ≤ rm.locals) (hroom : (st.map fun v => v.category).sum ≤ 8) (d : decode cc pc = .ok (.invokestatic idx, 3)) (kk : ∀ v, P v → zJ g κ hs ω Φ nL u lv (pc + 3) (.int v :: st)) : zJ g κ hs ω Φ nL u lv pc (.int a1 :: st) := z_callSN (As := [.int a1]) X yy_X4_bodyFor hml st_X4_bodyFor (c_X4_bodyFor N a1 P H) rfl ⟨rfl, rfl⟩ hR rfl hroom d kk
def w_X1_ofWish (N : Nat) (a1 : Int32) (P : Int32 → Prop) : Prop := (w_X4_bodyFor N a1 fun r1 => ((r1 < (8 : Int32) → (w_X1_ofBody N r1 fun r8 => (P r8))) ∧ (¬ r1 < (8 : Int32) → (w_X1_stepShift N r1 fun r4 => (w_X1_ofBody N ((r1 + ((1 : Int32) <<< (r4 &&& 31))) - (1 : Int32)) fun r6 => (P r6))))))
set_option maxHeartbeats 4000000 in
set_option maxRecDepth 100000 in
theorem c_X1_ofWish {l : Launch} {κ : zK} (N : Nat) (a1 : Int32) (P : Int32 → Prop) (H : w_X1_ofWish N a1 P) : zM l κ [] zw0 yX1_ofWish cX1_ofWish 2 (some .int) { frames := 3, cells := 0, slots := 0, locals := 62 } [.int a1] () (zsi P) := by
  refine z_met (own := RX1) (by decide) rfl (Nat.le_of_ble_eq_true rfl) z_D0 (fun g X => ?_)
  show zJ g κ [] zw0 (zsi P) 2 () [(0, .int a1)] 0 []
  unfold w_X1_ofWish at H
  refine z_iload_n X dX1_ofWish_0 0 rfl rfl ?_
  refine k_X4_bodyForN X (fun _ hN => hN.2.2.2.2.2) H ⟨Nat.le_of_ble_eq_true rfl, Nat.le_of_ble_eq_true rfl⟩ (Nat.le_of_ble_eq_true rfl) dX1_ofWish_1 (fun r1 H => ?_)
  refine z_istore_n (lv' := [(1, .int r1), (0, .int a1)]) X dX1_ofWish_4 rfl (by decide) rfl ?_
  refine z_iload_n X dX1_ofWish_5 0 rfl rfl ?_
  refine z_bipush (v := 8) X dX1_ofWish_6 (by decide) ?_
  refine z_icmp_ge (tgt := 16) X dX1_ofWish_8 (by decide) (fun q3 => ?_) (fun q3 => ?_)
  · have H := H.2 q3
    refine z_iload_n X dX1_ofWish_16 0 rfl rfl ?_
    refine z_iconst (v := 1) X dX1_ofWish_17 (by decide) ?_
    refine z_iload_n X dX1_ofWish_18 0 rfl rfl ?_
    refine k_X1_stepShift X ml_X1_9 H ⟨Nat.le_of_ble_eq_true rfl, Nat.le_of_ble_eq_true rfl⟩ (Nat.le_of_ble_eq_true rfl) dX1_ofWish_19 (fun r4 H => ?_)
    refine z_ishl X dX1_ofWish_22 ?_
    refine z_iadd X dX1_ofWish_23 ?_
    refine z_iconst (v := 1) X dX1_ofWish_24 (by decide) ?_
    refine z_isub X dX1_ofWish_25 ?_
    refine k_X1_ofBody X ml_X1_18 H ⟨Nat.le_of_ble_eq_true rfl, Nat.le_of_ble_eq_true rfl⟩ (Nat.le_of_ble_eq_true rfl) dX1_ofWish_26 (fun r6 H => ?_)
    exact z_siret X dX1_ofWish_29 H
  · have H := H.1 q3
    refine z_iload_n X dX1_ofWish_11 0 rfl rfl ?_
    refine k_X1_ofBody X ml_X1_18 H ⟨Nat.le_of_ble_eq_true rfl, Nat.le_of_ble_eq_true rfl⟩ (Nat.le_of_ble_eq_true rfl) dX1_ofWish_12 (fun r8 H => ?_)
    exact z_siret X dX1_ofWish_15 H
theorem k_X1_ofWish {σ : Type} {g : zE} {hs : List Nat} {ω : σ → va_W} {κ : zK} {u : σ} {Φ : σ → Option Value → Prop} {cc : ByteArray} {nL : Nat} {own : String} {ret : Option FieldType} {rm : Room} {lv : List (Nat × Value)} {pc : Nat} {st : List Value} {idx N : Nat} {a1 : Int32} {P : Int32 → Prop} (X : zC g κ hs ω cc nL own ret rm) (hml : Cond.methodLink own idx yX1_ofWish ∈ zT) (H : w_X1_ofWish N a1 P) (hR : 3 + 1 ≤ rm.frames ∧ 8 + (2 + 11) + 62 ≤ rm.locals) (hroom : (st.map fun v => v.category).sum ≤ 8) (d : decode cc pc = .ok (.invokestatic idx, 3)) (kk : ∀ v, P v → zJ g κ hs ω Φ nL u lv (pc + 3) (.int v :: st)) : zJ g κ hs ω Φ nL u lv pc (.int a1 :: st) := z_callS (As := [.int a1]) X yy_X1_ofWish hml st_X1_ofWish (c_X1_ofWish N a1 P H) rfl ⟨rfl, rfl⟩ hR rfl hroom d kk
def w_X3_layBody (N : Nat) (u : TS) (a1 : Int32) (a2 : Int32) (P : TS → Prop) : Prop := (w_X3_at N u a1 fun u2 r1 => (w_X3_layHeader N u2 a1 a2 ((r1 &&& (3 : Int64))).toInt32 fun u4 => (P u4)))
set_option maxHeartbeats 4000000 in
set_option maxRecDepth 100000 in
theorem c_X3_layBody {l : Launch} {κ : zK} {h : zH} (hh : zDT κ h) (N : Nat) (u : TS) (a1 : Int32) (a2 : Int32) (P : TS → Prop) (H : w_X3_layBody N u a1 a2 P) : zM l κ (hsT h) (wT κ h) yX3_layBody cX3_layBody 3 none { frames := 2, cells := 0, slots := 0, locals := 46 } [.ref h.2.1, .int a1, .int a2] u (zv P) := by
  refine z_met (own := RX3) (by decide) rfl (Nat.le_of_ble_eq_true rfl) hh (fun g X => ?_)
  show zJ g κ (hsT h) (wT κ h) (zv P) 3 u [(0, .ref h.2.1), (1, .int a1), (2, .int a2)] 0 []
  unfold w_X3_layBody at H
  refine z_aload_n X dX3_layBody_0 0 rfl rfl ?_
  refine z_iload_n X dX3_layBody_1 1 rfl rfl ?_
  refine z_iload_n X dX3_layBody_2 2 rfl rfl ?_
  refine z_aload_n X dX3_layBody_3 0 rfl rfl ?_
  refine z_iload_n X dX3_layBody_4 1 rfl rfl ?_
  refine k_X3_at hh X ml_X3_25 H ⟨Nat.le_of_ble_eq_true rfl, Nat.le_of_ble_eq_true rfl⟩ (Nat.le_of_ble_eq_true rfl) dX3_layBody_5 (fun u2 r1 H => ?_)
  refine z_ldc2 X kl_X3_37 dX3_layBody_8 ?_
  refine z_land X dX3_layBody_11 ?_
  refine z_l2i X dX3_layBody_12 ?_
  refine k_X3_layHeader hh X ml_X3_39 H ⟨Nat.le_of_ble_eq_true rfl, Nat.le_of_ble_eq_true rfl⟩ (Nat.le_of_ble_eq_true rfl) dX3_layBody_13 (fun u4 H => ?_)
  exact z_vret X dX3_layBody_16 H
theorem k_X3_layBody {g : zE} {κ : zK} {h : zH} (hh : zDT κ h) {u : TS} {Φ : TS → Option Value → Prop} {cc : ByteArray} {nL : Nat} {own : String} {ret : Option FieldType} {rm : Room} {lv : List (Nat × Value)} {pc : Nat} {st : List Value} {idx N : Nat} {a1 : Int32} {a2 : Int32} {P : TS → Prop} (X : zC g κ (hsT h) (wT κ h) cc nL own ret rm) (hml : Cond.methodLink own idx yX3_layBody ∈ zT) (H : w_X3_layBody N u a1 a2 P) (hR : 2 + 1 ≤ rm.frames ∧ 8 + (3 + 11) + 46 ≤ rm.locals) (hroom : (st.map fun v => v.category).sum ≤ 8) (d : decode cc pc = .ok (.invokevirtual idx, 3)) (kk : ∀ u1, P u1 → zJ g κ (hsT h) (wT κ h) Φ nL u1 lv (pc + 3) st) : zJ g κ (hsT h) (wT κ h) Φ nL u lv pc (.int a2 :: .int a1 :: .ref h.2.1 :: st) := z_callV (As := [.int a1, .int a2]) X yy_X3_layBody hml im_X3_layBody se_X3_layBody (c_X3_layBody hh N u a1 a2 P H) 2 1 rfl rfl rfl ⟨rfl, rfl⟩ hR rfl hroom d (fun u1 r hz => by obtain ⟨hr, hP⟩ := hz; subst hr; exact kk u1 hP)
def w_X3_isAheadFree (N : Nat) (u : TS) (a1 : Int32) (P : TS → Int32 → Prop) : Prop := (w_X3_at N u a1 fun u2 r1 => (((r1 &&& (2 : Int64)) = (0 : Int64) → (P u2 (0 : Int32))) ∧ (¬ (r1 &&& (2 : Int64)) = (0 : Int64) → (P u2 (1 : Int32)))))
set_option maxHeartbeats 4000000 in
set_option maxRecDepth 100000 in
theorem c_X3_isAheadFree {l : Launch} {κ : zK} {h : zH} (hh : zDT κ h) (N : Nat) (u : TS) (a1 : Int32) (P : TS → Int32 → Prop) (H : w_X3_isAheadFree N u a1 P) : zM l κ (hsT h) (wT κ h) yX3_isAheadFree cX3_isAheadFree 2 (some .boolean) { frames := 1, cells := 0, slots := 0, locals := 21 } [.ref h.2.1, .int a1] u (zi P) := by
  refine z_met (own := RX3) (by decide) rfl (Nat.le_of_ble_eq_true rfl) hh (fun g X => ?_)
  show zJ g κ (hsT h) (wT κ h) (zi P) 2 u [(0, .ref h.2.1), (1, .int a1)] 0 []
  unfold w_X3_isAheadFree at H
  refine z_aload_n X dX3_isAheadFree_0 0 rfl rfl ?_
  refine z_iload_n X dX3_isAheadFree_1 1 rfl rfl ?_
  refine k_X3_at hh X ml_X3_25 H ⟨Nat.le_of_ble_eq_true rfl, Nat.le_of_ble_eq_true rfl⟩ (Nat.le_of_ble_eq_true rfl) dX3_isAheadFree_2 (fun u2 r1 H => ?_)
  refine z_ldc2 X kl_X3_31 dX3_isAheadFree_5 ?_
  refine z_land X dX3_isAheadFree_8 ?_
  refine z_lconst (v := 0) X dX3_isAheadFree_9 (by decide) ?_
  refine z_lcmp_eq (tgt := 18) X dX3_isAheadFree_10 dX3_isAheadFree_11 (by decide) (fun q3 => ?_) (fun q3 => ?_)
  · have H := H.1 q3
    refine z_iconst (v := 0) X dX3_isAheadFree_18 (by decide) ?_
    exact z_zret X rfl dX3_isAheadFree_19 H
  · have H := H.2 q3
    refine z_iconst (v := 1) X dX3_isAheadFree_14 (by decide) ?_
    refine z_goto (tgt := 19) X dX3_isAheadFree_15 (by decide) ?_
    exact z_zret X rfl dX3_isAheadFree_19 H
theorem k_X3_isAheadFree {g : zE} {κ : zK} {h : zH} (hh : zDT κ h) {u : TS} {Φ : TS → Option Value → Prop} {cc : ByteArray} {nL : Nat} {own : String} {ret : Option FieldType} {rm : Room} {lv : List (Nat × Value)} {pc : Nat} {st : List Value} {idx N : Nat} {a1 : Int32} {P : TS → Int32 → Prop} (X : zC g κ (hsT h) (wT κ h) cc nL own ret rm) (hml : Cond.methodLink own idx yX3_isAheadFree ∈ zT) (H : w_X3_isAheadFree N u a1 P) (hR : 1 + 1 ≤ rm.frames ∧ 8 + (2 + 11) + 21 ≤ rm.locals) (hroom : (st.map fun v => v.category).sum ≤ 8) (d : decode cc pc = .ok (.invokevirtual idx, 3)) (kk : ∀ u1 v, P u1 v → zJ g κ (hsT h) (wT κ h) Φ nL u1 lv (pc + 3) (.int v :: st)) : zJ g κ (hsT h) (wT κ h) Φ nL u lv pc (.int a1 :: .ref h.2.1 :: st) := z_callV (As := [.int a1]) X yy_X3_isAheadFree hml im_X3_isAheadFree se_X3_isAheadFree (c_X3_isAheadFree hh N u a1 P H) 2 1 rfl rfl rfl ⟨rfl, rfl⟩ hR rfl hroom d (fun u1 r hz => by obtain ⟨v, hr, hP⟩ := hz; subst hr; exact kk u1 v hP)
def w_X3_freeAhead (N : Nat) (u : TS) (a1 : Int32) (P : TS → Int32 → Prop) : Prop := (w_X3_at N u (a1 - (1 : Int32)) fun u2 r1 => (P u2 ((a1 - (1 : Int32)) - (r1).toInt32)))
set_option maxHeartbeats 4000000 in
set_option maxRecDepth 100000 in
theorem c_X3_freeAhead {l : Launch} {κ : zK} {h : zH} (hh : zDT κ h) (N : Nat) (u : TS) (a1 : Int32) (P : TS → Int32 → Prop) (H : w_X3_freeAhead N u a1 P) : zM l κ (hsT h) (wT κ h) yX3_freeAhead cX3_freeAhead 2 (some .int) { frames := 1, cells := 0, slots := 0, locals := 21 } [.ref h.2.1, .int a1] u (zi P) := by
  refine z_met (own := RX3) (by decide) rfl (Nat.le_of_ble_eq_true rfl) hh (fun g X => ?_)
  show zJ g κ (hsT h) (wT κ h) (zi P) 2 u [(0, .ref h.2.1), (1, .int a1)] 0 []
  unfold w_X3_freeAhead at H
  refine z_iload_n X dX3_freeAhead_0 1 rfl rfl ?_
  refine z_iconst (v := 1) X dX3_freeAhead_1 (by decide) ?_
  refine z_isub X dX3_freeAhead_2 ?_
  refine z_aload_n X dX3_freeAhead_3 0 rfl rfl ?_
  refine z_iload_n X dX3_freeAhead_4 1 rfl rfl ?_
  refine z_iconst (v := 1) X dX3_freeAhead_5 (by decide) ?_
  refine z_isub X dX3_freeAhead_6 ?_
  refine k_X3_at hh X ml_X3_25 H ⟨Nat.le_of_ble_eq_true rfl, Nat.le_of_ble_eq_true rfl⟩ (Nat.le_of_ble_eq_true rfl) dX3_freeAhead_7 (fun u2 r1 H => ?_)
  refine z_l2i X dX3_freeAhead_10 ?_
  refine z_isub X dX3_freeAhead_11 ?_
  exact z_iret X dX3_freeAhead_12 H
theorem k_X3_freeAhead {g : zE} {κ : zK} {h : zH} (hh : zDT κ h) {u : TS} {Φ : TS → Option Value → Prop} {cc : ByteArray} {nL : Nat} {own : String} {ret : Option FieldType} {rm : Room} {lv : List (Nat × Value)} {pc : Nat} {st : List Value} {idx N : Nat} {a1 : Int32} {P : TS → Int32 → Prop} (X : zC g κ (hsT h) (wT κ h) cc nL own ret rm) (hml : Cond.methodLink own idx yX3_freeAhead ∈ zT) (H : w_X3_freeAhead N u a1 P) (hR : 1 + 1 ≤ rm.frames ∧ 8 + (2 + 11) + 21 ≤ rm.locals) (hroom : (st.map fun v => v.category).sum ≤ 8) (d : decode cc pc = .ok (.invokevirtual idx, 3)) (kk : ∀ u1 v, P u1 v → zJ g κ (hsT h) (wT κ h) Φ nL u1 lv (pc + 3) (.int v :: st)) : zJ g κ (hsT h) (wT κ h) Φ nL u lv pc (.int a1 :: .ref h.2.1 :: st) := z_callV (As := [.int a1]) X yy_X3_freeAhead hml im_X3_freeAhead se_X3_freeAhead (c_X3_freeAhead hh N u a1 P H) 2 1 rfl rfl rfl ⟨rfl, rfl⟩ hR rfl hroom d (fun u1 r hz => by obtain ⟨v, hr, hP⟩ := hz; subst hr; exact kk u1 v hP)
def w_X3_has (N : Nat) (u : TS) (a1 : Int32) (P : TS → Int32 → Prop) : Prop := ((a1 < 0 → (P u (0 : Int32))) ∧ (¬ a1 < 0 → ((a1 < (u.1.2.1) → (P u (1 : Int32))) ∧ (¬ a1 < (u.1.2.1) → (P u (0 : Int32))))))
set_option maxHeartbeats 4000000 in
set_option maxRecDepth 100000 in
theorem c_X3_has {l : Launch} {κ : zK} {h : zH} (hh : zDT κ h) (N : Nat) (u : TS) (a1 : Int32) (P : TS → Int32 → Prop) (H : w_X3_has N u a1 P) : zM l κ (hsT h) (wT κ h) yX3_has cX3_has 2 (some .boolean) { frames := 0, cells := 0, slots := 0, locals := 0 } [.ref h.2.1, .int a1] u (zi P) := by
  refine z_met (own := RX3) (by decide) rfl (Nat.le_of_ble_eq_true rfl) hh (fun g X => ?_)
  show zJ g κ (hsT h) (wT κ h) (zi P) 2 u [(0, .ref h.2.1), (1, .int a1)] 0 []
  unfold w_X3_has at H
  refine z_iload_n X dX3_has_0 1 rfl rfl ?_
  refine z_if_lt (tgt := 16) X dX3_has_1 (by decide) (fun q1 => ?_) (fun q1 => ?_)
  · have H := H.1 q1
    refine z_iconst (v := 0) X dX3_has_16 (by decide) ?_
    exact z_zret X rfl dX3_has_17 H
  · have H := H.2 q1
    refine z_iload_n X dX3_has_4 1 rfl rfl ?_
    refine z_aload_n X dX3_has_5 0 rfl rfl ?_
    refine gf_X3_21 X dX3_has_6 ?_
    refine z_icmp_ge (tgt := 16) X dX3_has_9 (by decide) (fun q2 => ?_) (fun q2 => ?_)
    · have H := H.2 q2
      refine z_iconst (v := 0) X dX3_has_16 (by decide) ?_
      exact z_zret X rfl dX3_has_17 H
    · have H := H.1 q2
      refine z_iconst (v := 1) X dX3_has_12 (by decide) ?_
      refine z_goto (tgt := 17) X dX3_has_13 (by decide) ?_
      exact z_zret X rfl dX3_has_17 H
theorem k_X3_has {g : zE} {κ : zK} {h : zH} (hh : zDT κ h) {u : TS} {Φ : TS → Option Value → Prop} {cc : ByteArray} {nL : Nat} {own : String} {ret : Option FieldType} {rm : Room} {lv : List (Nat × Value)} {pc : Nat} {st : List Value} {idx N : Nat} {a1 : Int32} {P : TS → Int32 → Prop} (X : zC g κ (hsT h) (wT κ h) cc nL own ret rm) (hml : Cond.methodLink own idx yX3_has ∈ zT) (H : w_X3_has N u a1 P) (hR : 0 + 1 ≤ rm.frames ∧ 8 + (2 + 11) + 0 ≤ rm.locals) (hroom : (st.map fun v => v.category).sum ≤ 8) (d : decode cc pc = .ok (.invokevirtual idx, 3)) (kk : ∀ u1 v, P u1 v → zJ g κ (hsT h) (wT κ h) Φ nL u1 lv (pc + 3) (.int v :: st)) : zJ g κ (hsT h) (wT κ h) Φ nL u lv pc (.int a1 :: .ref h.2.1 :: st) := z_callV (As := [.int a1]) X yy_X3_has hml im_X3_has se_X3_has (c_X3_has hh N u a1 P H) 2 1 rfl rfl rfl ⟨rfl, rfl⟩ hR rfl hroom d (fun u1 r hz => by obtain ⟨v, hr, hP⟩ := hz; subst hr; exact kk u1 v hP)
