/-! ===== a weaker wish is granted where a stronger one is ===== -/
theorem mo_and {A B A2 B2 : Prop} (f : A → A2) (g : B → B2) : A ∧ B → A2 ∧ B2 := fun h => ⟨f h.1, g h.2⟩
theorem mo_imp {C A A2 : Prop} (f : A → A2) : (C → A) → (C → A2) := fun h c => f (h c)
theorem mo_let {α : Type} {a : α} {A A2 : α → Prop} (f : ∀ x, A x → A2 x) : zlet a A → zlet a A2 := f a
theorem mo_fillW_6 {N : Nat} {P Q : TS → Prop} (hh : ∀ (z0 : TS), P z0 → Q z0) : ∀ (n : Nat) (u : TS) (x1 : Int64) (x3 : Int32) (x4 : Int32), w_fillW_6 N P n u x1 x3 x4 → w_fillW_6 N Q n u x1 x3 x4 := by
  intro n
  induction n with
  | zero => intro u x1 x3 x4 h; exact absurd h (by rw [w_fillW_6]; exact id)
  | succ n ih =>
    intro u x1 x3 x4
    rw [w_fillW_6, w_fillW_6]
    exact (mo_and (mo_imp (mo_and id (mo_let (fun u3 => (ih _ _ _ _))))) (mo_imp (hh _)))
theorem mo_fillW {N : Nat} {u : TS} {a2 : Int64} {P Q : TS → Prop} (hh : ∀ (z0 : TS), P z0 → Q z0) : w_fillW N u a2 P → w_fillW N u a2 Q := by
  unfold w_fillW
  exact (mo_fillW_6 hh _ _ _ _ _)
theorem mo_fillF_5 {N : Nat} {P Q : TS → Prop} (hh : ∀ (z0 : TS), P z0 → Q z0) : ∀ (n : Nat) (u : TS) (x1 : Int32) (x2 : Int32) (x3 : Int32), w_fillF_5 N P n u x1 x2 x3 → w_fillF_5 N Q n u x1 x2 x3 := by
  intro n
  induction n with
  | zero => intro u x1 x2 x3 h; exact absurd h (by rw [w_fillF_5]; exact id)
  | succ n ih =>
    intro u x1 x2 x3
    rw [w_fillF_5, w_fillF_5]
    exact (mo_and (mo_imp (mo_and id (mo_let (fun u3 => (ih _ _ _ _))))) (mo_imp (hh _)))
theorem mo_fillF {N : Nat} {u : TS} {a2 : Int32} {P Q : TS → Prop} (hh : ∀ (z0 : TS), P z0 → Q z0) : w_fillF N u a2 P → w_fillF N u a2 Q := by
  unfold w_fillF
  exact (mo_fillF_5 hh _ _ _ _ _)
theorem mo_fillK_5 {N : Nat} {P Q : TS → Prop} (hh : ∀ (z0 : TS), P z0 → Q z0) : ∀ (n : Nat) (u : TS) (x1 : Int32) (x2 : Int32) (x3 : Int32), w_fillK_5 N P n u x1 x2 x3 → w_fillK_5 N Q n u x1 x2 x3 := by
  intro n
  induction n with
  | zero => intro u x1 x2 x3 h; exact absurd h (by rw [w_fillK_5]; exact id)
  | succ n ih =>
    intro u x1 x2 x3
    rw [w_fillK_5, w_fillK_5]
    exact (mo_and (mo_imp (mo_and id (mo_let (fun u3 => (ih _ _ _ _))))) (mo_imp (hh _)))
theorem mo_fillK {N : Nat} {u : TS} {a2 : Int32} {P Q : TS → Prop} (hh : ∀ (z0 : TS), P z0 → Q z0) : w_fillK N u a2 P → w_fillK N u a2 Q := by
  unfold w_fillK
  exact (mo_fillK_5 hh _ _ _ _ _)
theorem mo_X3_clear {N : Nat} {u : TS} {a1 : Int32} {P Q : TS → Prop} (hh : ∀ (z0 : TS), P z0 → Q z0) : w_X3_clear N u a1 P → w_X3_clear N u a1 Q := by
  unfold w_X3_clear
  exact (mo_fillW (fun u2 => (mo_let (fun u3 => (hh _)))))
theorem mo_X3_lay {N : Nat} {u : TS} {a1 : Int32} {a2 : Int64} {P Q : TS → Prop} (hh : ∀ (z0 : TS), P z0 → Q z0) : w_X3_lay N u a1 a2 P → w_X3_lay N u a1 a2 Q := by
  unfold w_X3_lay
  exact (mo_and (mo_imp (hh _)) (mo_imp (mo_and (mo_imp (mo_and id (mo_let (fun u4 => (hh _))))) (mo_imp (hh _)))))
theorem mo_X3_layHeader {N : Nat} {u : TS} {a1 : Int32} {a2 : Int32} {a3 : Int32} {P Q : TS → Prop} (hh : ∀ (z0 : TS), P z0 → Q z0) : w_X3_layHeader N u a1 a2 a3 P → w_X3_layHeader N u a1 a2 a3 Q := by
  unfold w_X3_layHeader
  exact (mo_X3_lay (fun u2 => (hh _)))
theorem mo_X3_at {N : Nat} {u : TS} {a1 : Int32} {P Q : TS → Int64 → Prop} (hh : ∀ (z0 : TS) (z1 : Int64), P z0 z1 → Q z0 z1) : w_X3_at N u a1 P → w_X3_at N u a1 Q := by
  unfold w_X3_at
  exact (mo_and (mo_imp (hh _ _)) (mo_imp (mo_and (mo_imp (mo_and id (hh _ _))) (mo_imp (hh _ _)))))
theorem mo_X3_bodyOf {N : Nat} {u : TS} {a1 : Int32} {P Q : TS → Int32 → Prop} (hh : ∀ (z0 : TS) (z1 : Int32), P z0 z1 → Q z0 z1) : w_X3_bodyOf N u a1 P → w_X3_bodyOf N u a1 Q := by
  unfold w_X3_bodyOf
  exact (mo_X3_at (fun u2 r1 => (hh _ _)))
theorem mo_J6_numberOfLeadingZeros_0f7a4_61 {N : Nat} {x0 : Int32} {x1 : Int32} {P Q : Int32 → Prop} (hh : ∀ (z0 : Int32), P z0 → Q z0) : w_J6_numberOfLeadingZeros_0f7a4_61 N P x0 x1 → w_J6_numberOfLeadingZeros_0f7a4_61 N Q x0 x1 := by
  unfold w_J6_numberOfLeadingZeros_0f7a4_61
  exact (mo_and (mo_imp (hh _)) (mo_imp (hh _)))
theorem mo_J6_numberOfLeadingZeros_0f7a4_48 {N : Nat} {x0 : Int32} {x1 : Int32} {P Q : Int32 → Prop} (hh : ∀ (z0 : Int32), P z0 → Q z0) : w_J6_numberOfLeadingZeros_0f7a4_48 N P x0 x1 → w_J6_numberOfLeadingZeros_0f7a4_48 N Q x0 x1 := by
  unfold w_J6_numberOfLeadingZeros_0f7a4_48
  exact (mo_and (mo_imp (mo_J6_numberOfLeadingZeros_0f7a4_61 hh)) (mo_imp (mo_J6_numberOfLeadingZeros_0f7a4_61 hh)))
theorem mo_J6_numberOfLeadingZeros_0f7a4_33 {N : Nat} {x0 : Int32} {x1 : Int32} {P Q : Int32 → Prop} (hh : ∀ (z0 : Int32), P z0 → Q z0) : w_J6_numberOfLeadingZeros_0f7a4_33 N P x0 x1 → w_J6_numberOfLeadingZeros_0f7a4_33 N Q x0 x1 := by
  unfold w_J6_numberOfLeadingZeros_0f7a4_33
  exact (mo_and (mo_imp (mo_J6_numberOfLeadingZeros_0f7a4_48 hh)) (mo_imp (mo_J6_numberOfLeadingZeros_0f7a4_48 hh)))
theorem mo_J6_numberOfLeadingZeros_0f7a4 {N : Nat} {a1 : Int32} {P Q : Int32 → Prop} (hh : ∀ (z0 : Int32), P z0 → Q z0) : w_J6_numberOfLeadingZeros_0f7a4 N a1 P → w_J6_numberOfLeadingZeros_0f7a4 N a1 Q := by
  unfold w_J6_numberOfLeadingZeros_0f7a4
  exact (mo_and (mo_imp (mo_and (mo_imp (mo_J6_numberOfLeadingZeros_0f7a4_33 hh)) (mo_imp (mo_J6_numberOfLeadingZeros_0f7a4_33 hh)))) (mo_imp (mo_and (mo_imp (hh _)) (mo_imp (hh _)))))
theorem mo_X1_stepShift {N : Nat} {a1 : Int32} {P Q : Int32 → Prop} (hh : ∀ (z0 : Int32), P z0 → Q z0) : w_X1_stepShift N a1 P → w_X1_stepShift N a1 Q := by
  unfold w_X1_stepShift
  exact (mo_J6_numberOfLeadingZeros_0f7a4 (fun r1 => (hh _)))
theorem mo_X1_ofBody {N : Nat} {a1 : Int32} {P Q : Int32 → Prop} (hh : ∀ (z0 : Int32), P z0 → Q z0) : w_X1_ofBody N a1 P → w_X1_ofBody N a1 Q := by
  unfold w_X1_ofBody
  exact (mo_and (mo_imp (hh _)) (mo_imp (mo_X1_stepShift (fun r2 => (hh _)))))
theorem mo_X3_behind {N : Nat} {u : TS} {a1 : Int32} {P Q : TS → Int32 → Prop} (hh : ∀ (z0 : TS) (z1 : Int32), P z0 z1 → Q z0 z1) : w_X3_behind N u a1 P → w_X3_behind N u a1 Q := by
  unfold w_X3_behind
  exact (mo_X3_at (fun u2 r1 => (hh _ _)))
theorem mo_X3_isFree {N : Nat} {u : TS} {a1 : Int32} {P Q : TS → Int32 → Prop} (hh : ∀ (z0 : TS) (z1 : Int32), P z0 z1 → Q z0 z1) : w_X3_isFree N u a1 P → w_X3_isFree N u a1 Q := by
  unfold w_X3_isFree
  exact (mo_X3_at (fun u2 r1 => (mo_and (mo_imp (hh _ _)) (mo_imp (hh _ _)))))
theorem mo_X3_tellBehind {N : Nat} {u : TS} {a1 : Int32} {P Q : TS → Prop} (hh : ∀ (z0 : TS), P z0 → Q z0) : w_X3_tellBehind N u a1 P → w_X3_tellBehind N u a1 Q := by
  unfold w_X3_tellBehind
  exact (mo_X3_behind (fun u2 r1 => (mo_X3_at (fun u4 r3 => (mo_X3_isFree (fun u6 r5 => (mo_and (mo_imp (mo_X3_lay (fun u9 => (hh _)))) (mo_imp (mo_X3_lay (fun u11 => (hh _)))))))))))
theorem mo_X4_bodyFor {N : Nat} {a1 : Int32} {P Q : Int32 → Prop} (hh : ∀ (z0 : Int32), P z0 → Q z0) : w_X4_bodyFor N a1 P → w_X4_bodyFor N a1 Q := by
  unfold w_X4_bodyFor
  exact (hh _)
theorem mo_X1_ofWish {N : Nat} {a1 : Int32} {P Q : Int32 → Prop} (hh : ∀ (z0 : Int32), P z0 → Q z0) : w_X1_ofWish N a1 P → w_X1_ofWish N a1 Q := by
  unfold w_X1_ofWish
  exact (mo_X4_bodyFor (fun r1 => (mo_and (mo_imp (mo_X1_ofBody (fun r8 => (hh _)))) (mo_imp (mo_X1_stepShift (fun r4 => (mo_X1_ofBody (fun r6 => (hh _)))))))))
theorem mo_X3_layBody {N : Nat} {u : TS} {a1 : Int32} {a2 : Int32} {P Q : TS → Prop} (hh : ∀ (z0 : TS), P z0 → Q z0) : w_X3_layBody N u a1 a2 P → w_X3_layBody N u a1 a2 Q := by
  unfold w_X3_layBody
  exact (mo_X3_at (fun u2 r1 => (mo_X3_layHeader (fun u4 => (hh _)))))
theorem mo_X3_isAheadFree {N : Nat} {u : TS} {a1 : Int32} {P Q : TS → Int32 → Prop} (hh : ∀ (z0 : TS) (z1 : Int32), P z0 z1 → Q z0 z1) : w_X3_isAheadFree N u a1 P → w_X3_isAheadFree N u a1 Q := by
  unfold w_X3_isAheadFree
  exact (mo_X3_at (fun u2 r1 => (mo_and (mo_imp (hh _ _)) (mo_imp (hh _ _)))))
theorem mo_X3_freeAhead {N : Nat} {u : TS} {a1 : Int32} {P Q : TS → Int32 → Prop} (hh : ∀ (z0 : TS) (z1 : Int32), P z0 z1 → Q z0 z1) : w_X3_freeAhead N u a1 P → w_X3_freeAhead N u a1 Q := by
  unfold w_X3_freeAhead
  exact (mo_X3_at (fun u2 r1 => (hh _ _)))
theorem mo_X3_has {N : Nat} {u : TS} {a1 : Int32} {P Q : TS → Int32 → Prop} (hh : ∀ (z0 : TS) (z1 : Int32), P z0 z1 → Q z0 z1) : w_X3_has N u a1 P → w_X3_has N u a1 Q := by
  unfold w_X3_has
  exact (mo_and (mo_imp (hh _ _)) (mo_imp (mo_and (mo_imp (hh _ _)) (mo_imp (hh _ _)))))
theorem mo_X2_clear {N : Nat} {u : TS} {P Q : TS → Prop} (hh : ∀ (z0 : TS), P z0 → Q z0) : w_X2_clear N u P → w_X2_clear N u Q := by
  unfold w_X2_clear
  exact (mo_fillF (fun u2 => (hh _)))
theorem mo_X2_firstOf {N : Nat} {u : TS} {a1 : Int32} {P Q : TS → Int32 → Prop} (hh : ∀ (z0 : TS) (z1 : Int32), P z0 z1 → Q z0 z1) : w_X2_firstOf N u a1 P → w_X2_firstOf N u a1 Q := by
  unfold w_X2_firstOf
  exact (mo_and (mo_imp (hh _ _)) (mo_imp (mo_and (mo_imp (mo_and id (hh _ _))) (mo_imp (hh _ _)))))
theorem mo_X2_layFirst {N : Nat} {u : TS} {a1 : Int32} {a2 : Int32} {P Q : TS → Prop} (hh : ∀ (z0 : TS), P z0 → Q z0) : w_X2_layFirst N u a1 a2 P → w_X2_layFirst N u a1 a2 Q := by
  unfold w_X2_layFirst
  exact (mo_and (mo_imp (hh _)) (mo_imp (mo_and (mo_imp (mo_and id (mo_let (fun u4 => (hh _))))) (mo_imp (hh _)))))
theorem mo_X2_come_63 {N : Nat} {u : TS} {x2 : Int32} {x3 : Int32} {P Q : TS → Prop} (hh : ∀ (z0 : TS), P z0 → Q z0) : w_X2_come_63 N P u x2 x3 → w_X2_come_63 N Q u x2 x3 := by
  unfold w_X2_come_63
  exact (mo_X2_layFirst (fun u13 => (mo_let (fun u14 => (hh _)))))
theorem mo_X2_come {N : Nat} {u : TS} {a1 : Int32} {P Q : TS → Prop} (hh : ∀ (z0 : TS), P z0 → Q z0) : w_X2_come N u a1 P → w_X2_come N u a1 Q := by
  unfold w_X2_come
  exact (mo_X3_bodyOf (fun u2 r1 => (mo_X1_ofBody (fun r3 => (mo_X2_firstOf (fun u6 r5 => (mo_X3_lay (fun u8 => (mo_X3_lay (fun u10 => (mo_and (mo_imp (mo_X2_come_63 hh)) (mo_imp (mo_X3_lay (fun u16 => (mo_X2_come_63 hh)))))))))))))))
theorem mo_X2_forgetMoves {N : Nat} {u : TS} {P Q : TS → Prop} (hh : ∀ (z0 : TS), P z0 → Q z0) : w_X2_forgetMoves N u P → w_X2_forgetMoves N u Q := by
  unfold w_X2_forgetMoves
  exact (mo_let (fun u1 => (hh _)))
theorem mo_X2_headerFor_5 {N : Nat} {P Q : TS → Int32 → Prop} (hh : ∀ (z0 : TS) (z1 : Int32), P z0 z1 → Q z0 z1) : ∀ (n : Nat) (u : TS) (x2 : Int32), w_X2_headerFor_5 N P n u x2 → w_X2_headerFor_5 N Q n u x2 := by
  intro n
  induction n with
  | zero => intro u x2 h; exact absurd h (by rw [w_X2_headerFor_5]; exact id)
  | succ n ih =>
    intro u x2
    rw [w_X2_headerFor_5, w_X2_headerFor_5]
    exact (mo_and (mo_imp (mo_X2_firstOf (fun u5 r4 => (mo_and (mo_imp (ih _ _)) (mo_imp (mo_X2_firstOf (fun u8 r7 => (hh _ _)))))))) (mo_imp (hh _ _)))
theorem mo_X2_headerFor {N : Nat} {u : TS} {a1 : Int32} {P Q : TS → Int32 → Prop} (hh : ∀ (z0 : TS) (z1 : Int32), P z0 z1 → Q z0 z1) : w_X2_headerFor N u a1 P → w_X2_headerFor N u a1 Q := by
  unfold w_X2_headerFor
  exact (mo_X1_ofWish (fun r1 => (mo_X2_headerFor_5 hh _ _ _)))
theorem mo_X2_leave_79 {N : Nat} {u : TS} {P Q : TS → Prop} (hh : ∀ (z0 : TS), P z0 → Q z0) : w_X2_leave_79 N P u → w_X2_leave_79 N Q u := by
  unfold w_X2_leave_79
  exact (mo_let (fun u13 => (hh _)))
theorem mo_X2_leave_44 {N : Nat} {u : TS} {x1 : Int32} {x3 : Int32} {x4 : Int32} {P Q : TS → Prop} (hh : ∀ (z0 : TS), P z0 → Q z0) : w_X2_leave_44 N P u x1 x3 x4 → w_X2_leave_44 N Q u x1 x3 x4 := by
  unfold w_X2_leave_44
  exact (mo_and (mo_imp (mo_X3_bodyOf (fun u8 r7 => (mo_X1_ofBody (fun r9 => (mo_X2_layFirst (fun u12 => (mo_X2_leave_79 hh)))))))) (mo_imp (mo_X3_lay (fun u15 => (mo_X2_leave_79 hh)))))
theorem mo_X2_leave {N : Nat} {u : TS} {a1 : Int32} {P Q : TS → Prop} (hh : ∀ (z0 : TS), P z0 → Q z0) : w_X2_leave N u a1 P → w_X2_leave N u a1 Q := by
  unfold w_X2_leave
  exact (mo_X3_at (fun u2 r1 => (mo_X3_at (fun u4 r3 => (mo_and (mo_imp (mo_X2_leave_44 hh)) (mo_imp (mo_X3_lay (fun u17 => (mo_X2_leave_44 hh)))))))))
theorem mo_X0_wrongOfBlock {N : Nat} {u : TS} {a1 : Int32} {a2 : Int32} {P Q : TS → Int32 → Prop} (hh : ∀ (z0 : TS) (z1 : Int32), P z0 z1 → Q z0 z1) : w_X0_wrongOfBlock N u a1 a2 P → w_X0_wrongOfBlock N u a1 a2 Q := by
  unfold w_X0_wrongOfBlock
  exact (mo_X3_at (fun u2 r1 => (mo_and (mo_imp (hh _ _)) (mo_imp (mo_and (mo_imp (hh _ _)) (mo_imp (mo_and (mo_imp (hh _ _)) (mo_imp (mo_X3_isAheadFree (fun u7 r6 => (mo_and (mo_imp (mo_X3_isFree (fun u10 r9 => (mo_and (mo_imp (hh _ _)) (mo_imp (mo_and (mo_imp (mo_X3_at (fun u14 r13 => (mo_and (mo_imp (hh _ _)) (mo_imp (hh _ _)))))) (mo_imp (hh _ _)))))))) (mo_imp (hh _ _)))))))))))))
theorem mo_X0_tell {N : Nat} {u : TS} {a1 : Int32} {a2 : Int32} {P Q : TS → Int32 → Prop} (hh : ∀ (z0 : TS) (z1 : Int32), P z0 z1 → Q z0 z1) : w_X0_tell N u a1 a2 P → w_X0_tell N u a1 a2 Q := by
  unfold w_X0_tell
  exact (mo_let (fun u1 => (hh _ _)))
theorem mo_X0_mark {N : Nat} {u : TS} {a1 : Int32} {a2 : Int32} {P Q : TS → Prop} (hh : ∀ (z0 : TS), P z0 → Q z0) : w_X0_mark N u a1 a2 P → w_X0_mark N u a1 a2 Q := by
  unfold w_X0_mark
  exact (mo_and (mo_imp (hh _)) (mo_imp (mo_and (mo_imp (mo_and id (mo_let (fun u4 => (hh _))))) (mo_imp (hh _)))))
theorem mo_X0_readBlocks_6 {N : Nat} {P Q : TS → Int32 → Prop} (hh : ∀ (z0 : TS) (z1 : Int32), P z0 z1 → Q z0 z1) : ∀ (n : Nat) (u : TS) (x1 : Int32) (x2 : Int32) (x3 : Int32), w_X0_readBlocks_6 N P n u x1 x2 x3 → w_X0_readBlocks_6 N Q n u x1 x2 x3 := by
  intro n
  induction n with
  | zero => intro u x1 x2 x3 h; exact absurd h (by rw [w_X0_readBlocks_6]; exact id)
  | succ n ih =>
    intro u x1 x2 x3
    rw [w_X0_readBlocks_6, w_X0_readBlocks_6]
    exact (mo_and (mo_imp (mo_and (mo_imp (mo_X0_wrongOfBlock (fun u4 r3 => (mo_and (mo_imp (mo_X3_isFree (fun u7 r6 => (mo_and (mo_imp (mo_X3_behind (fun u10 r9 => (ih _ _ _ _)))) (mo_imp (mo_X0_mark (fun u12 => (mo_X3_behind (fun u14 r13 => (ih _ _ _ _)))))))))) (mo_imp (mo_X0_tell (fun u16 r15 => (hh _ _)))))))) (mo_imp (hh _ _)))) (mo_imp (hh _ _)))
theorem mo_X0_readBlocks {N : Nat} {u : TS} {P Q : TS → Int32 → Prop} (hh : ∀ (z0 : TS) (z1 : Int32), P z0 z1 → Q z0 z1) : w_X0_readBlocks N u P → w_X0_readBlocks N u Q := by
  unfold w_X0_readBlocks
  exact (mo_X0_readBlocks_6 hh _ _ _ _ _)
theorem mo_X0_markOf {N : Nat} {u : TS} {a1 : Int32} {P Q : TS → Int32 → Prop} (hh : ∀ (z0 : TS) (z1 : Int32), P z0 z1 → Q z0 z1) : w_X0_markOf N u a1 P → w_X0_markOf N u a1 Q := by
  unfold w_X0_markOf
  exact (mo_and (mo_imp (hh _ _)) (mo_imp (mo_and (mo_imp (mo_and id (hh _ _))) (mo_imp (hh _ _)))))
theorem mo_X0_isLinked {N : Nat} {u : TS} {a1 : Int64} {a2 : Int32} {a3 : Int32} {P Q : TS → Int32 → Prop} (hh : ∀ (z0 : TS) (z1 : Int32), P z0 z1 → Q z0 z1) : w_X0_isLinked N u a1 a2 a3 P → w_X0_isLinked N u a1 a2 a3 Q := by
  unfold w_X0_isLinked
  exact (mo_and (mo_imp (hh _ _)) (mo_imp (mo_and (mo_imp (mo_X0_markOf (fun u4 r3 => (mo_and (mo_imp (mo_X3_bodyOf (fun u7 r6 => (mo_X1_ofBody (fun r8 => (mo_and (mo_imp (mo_X3_at (fun u12 r11 => (mo_and (mo_imp (hh _ _)) (mo_imp (hh _ _)))))) (mo_imp (hh _ _)))))))) (mo_imp (hh _ _)))))) (mo_imp (hh _ _)))))
theorem mo_X0_readList_15 {N : Nat} {P Q : TS → Int32 → Prop} (hh : ∀ (z0 : TS) (z1 : Int32), P z0 z1 → Q z0 z1) : ∀ (n : Nat) (u : TS) (x1 : Int32) (x2 : Int32) (x3 : Int64) (x5 : Int32), w_X0_readList_15 N P n u x1 x2 x3 x5 → w_X0_readList_15 N Q n u x1 x2 x3 x5 := by
  intro n
  induction n with
  | zero => intro u x1 x2 x3 x5 h; exact absurd h (by rw [w_X0_readList_15]; exact id)
  | succ n ih =>
    intro u x1 x2 x3 x5
    rw [w_X0_readList_15, w_X0_readList_15]
    exact (mo_and (mo_imp (hh _ _)) (mo_imp (mo_and (mo_imp (hh _ _)) (mo_imp (mo_X0_isLinked (fun u6 r5 => (mo_and (mo_imp (mo_and (mo_imp (mo_X0_tell (fun u16 r15 => (hh _ _)))) (mo_imp (mo_X0_tell (fun u14 r13 => (hh _ _)))))) (mo_imp (mo_X0_mark (fun u9 => (mo_X3_at (fun u11 r10 => (ih _ _ _ _ _)))))))))))))
theorem mo_X0_readList {N : Nat} {u : TS} {a1 : Int32} {P Q : TS → Int32 → Prop} (hh : ∀ (z0 : TS) (z1 : Int32), P z0 z1 → Q z0 z1) : w_X0_readList N u a1 P → w_X0_readList N u a1 Q := by
  unfold w_X0_readList
  exact (mo_X2_firstOf (fun u2 r1 => (mo_X0_readList_15 hh _ _ _ _ _ _)))
theorem mo_X0_seekLost_2 {N : Nat} {P Q : TS → Int32 → Prop} (hh : ∀ (z0 : TS) (z1 : Int32), P z0 z1 → Q z0 z1) : ∀ (n : Nat) (u : TS) (x1 : Int32), w_X0_seekLost_2 N P n u x1 → w_X0_seekLost_2 N Q n u x1 := by
  intro n
  induction n with
  | zero => intro u x1 h; exact absurd h (by rw [w_X0_seekLost_2]; exact id)
  | succ n ih =>
    intro u x1
    rw [w_X0_seekLost_2, w_X0_seekLost_2]
    exact (mo_and (mo_imp (mo_X0_markOf (fun u3 r2 => (mo_and (mo_imp (mo_X0_tell (fun u6 r5 => (hh _ _)))) (mo_imp (ih _ _)))))) (mo_imp (hh _ _)))
theorem mo_X0_seekLost {N : Nat} {u : TS} {P Q : TS → Int32 → Prop} (hh : ∀ (z0 : TS) (z1 : Int32), P z0 z1 → Q z0 z1) : w_X0_seekLost N u P → w_X0_seekLost N u Q := by
  unfold w_X0_seekLost
  exact (mo_X0_seekLost_2 hh _ _ _)
theorem mo_X0_run_42 {N : Nat} {u : TS} {x1 : Int32} {P Q : TS → Int32 → Prop} (hh : ∀ (z0 : TS) (z1 : Int32), P z0 z1 → Q z0 z1) : w_X0_run_42 N P u x1 → w_X0_run_42 N Q u x1 := by
  unfold w_X0_run_42
  exact (mo_and (mo_imp (mo_X0_seekLost (fun u9 r8 => (hh _ _)))) (mo_imp (hh _ _)))
theorem mo_X0_run_20 {N : Nat} {P Q : TS → Int32 → Prop} (hh : ∀ (z0 : TS) (z1 : Int32), P z0 z1 → Q z0 z1) : ∀ (n : Nat) (u : TS) (x1 : Int32) (x2 : Int32), w_X0_run_20 N P n u x1 x2 → w_X0_run_20 N Q n u x1 x2 := by
  intro n
  induction n with
  | zero => intro u x1 x2 h; exact absurd h (by rw [w_X0_run_20]; exact id)
  | succ n ih =>
    intro u x1 x2
    rw [w_X0_run_20, w_X0_run_20]
    exact (mo_and (mo_imp (mo_and (mo_imp (mo_X0_readList (fun u12 r11 => (ih _ _ _)))) (mo_imp (mo_X0_run_42 hh)))) (mo_imp (mo_X0_run_42 hh)))
theorem mo_X0_run {N : Nat} {u : TS} {P Q : TS → Int32 → Prop} (hh : ∀ (z0 : TS) (z1 : Int32), P z0 z1 → Q z0 z1) : w_X0_run N u P → w_X0_run N u Q := by
  unfold w_X0_run
  exact (mo_fillK (fun u2 => (mo_let (fun u3 => (mo_X0_readBlocks (fun u5 r4 => (mo_X0_run_20 hh _ _ _ _)))))))
theorem mo_X2_placeInList_43 {N : Nat} {u : TS} {x2 : Int32} {x3 : Int32} {P Q : TS → Int32 → Prop} (hh : ∀ (z0 : TS) (z1 : Int32), P z0 z1 → Q z0 z1) : w_X2_placeInList_43 N P u x2 x3 → w_X2_placeInList_43 N Q u x2 x3 := by
  unfold w_X2_placeInList_43
  exact (mo_and (mo_imp (mo_and (mo_imp (hh _ _)) (mo_imp (hh _ _)))) (mo_imp (hh _ _)))
theorem mo_X2_placeInList_9 {N : Nat} {P Q : TS → Int32 → Prop} (hh : ∀ (z0 : TS) (z1 : Int32), P z0 z1 → Q z0 z1) : ∀ (n : Nat) (u : TS) (x2 : Int32) (x3 : Int32) (x4 : Int32), w_X2_placeInList_9 N P n u x2 x3 x4 → w_X2_placeInList_9 N Q n u x2 x3 x4 := by
  intro n
  induction n with
  | zero => intro u x2 x3 x4 h; exact absurd h (by rw [w_X2_placeInList_9]; exact id)
  | succ n ih =>
    intro u x2 x3 x4
    rw [w_X2_placeInList_9, w_X2_placeInList_9]
    exact (mo_and (mo_imp (mo_and (mo_imp (mo_and (mo_imp (mo_X2_placeInList_43 hh)) (mo_imp (mo_X3_at (fun u9 r8 => (ih _ _ _ _)))))) (mo_imp (mo_X2_placeInList_43 hh)))) (mo_imp (mo_X2_placeInList_43 hh)))
theorem mo_X2_placeInList {N : Nat} {u : TS} {a1 : Int32} {a2 : Int32} {P Q : TS → Int32 → Prop} (hh : ∀ (z0 : TS) (z1 : Int32), P z0 z1 → Q z0 z1) : w_X2_placeInList N u a1 a2 P → w_X2_placeInList N u a1 a2 Q := by
  unfold w_X2_placeInList
  exact (mo_X2_firstOf (fun u2 r1 => (mo_X2_placeInList_9 hh _ _ _ _ _)))
theorem mo_X2_stepBits_4 {N : Nat} {P Q : TS → Int32 → Prop} (hh : ∀ (z0 : TS) (z1 : Int32), P z0 z1 → Q z0 z1) : ∀ (n : Nat) (u : TS) (x1 : Int32) (x2 : Int32) (x3 : Int32), w_X2_stepBits_4 N P n u x1 x2 x3 → w_X2_stepBits_4 N Q n u x1 x2 x3 := by
  intro n
  induction n with
  | zero => intro u x1 x2 x3 h; exact absurd h (by rw [w_X2_stepBits_4]; exact id)
  | succ n ih =>
    intro u x1 x2 x3
    rw [w_X2_stepBits_4, w_X2_stepBits_4]
    exact (mo_and (mo_imp (mo_X2_firstOf (fun u3 r2 => (mo_and (mo_imp (ih _ _ _ _)) (mo_imp (ih _ _ _ _)))))) (mo_imp (hh _ _)))
theorem mo_X2_stepBits {N : Nat} {u : TS} {a1 : Int32} {P Q : TS → Int32 → Prop} (hh : ∀ (z0 : TS) (z1 : Int32), P z0 z1 → Q z0 z1) : w_X2_stepBits N u a1 P → w_X2_stepBits N u a1 Q := by
  unfold w_X2_stepBits
  exact (mo_X2_stepBits_4 hh _ _ _ _ _)
theorem mo_X2_levelBits_4 {N : Nat} {P Q : TS → Int32 → Prop} (hh : ∀ (z0 : TS) (z1 : Int32), P z0 z1 → Q z0 z1) : ∀ (n : Nat) (u : TS) (x1 : Int32) (x2 : Int32), w_X2_levelBits_4 N P n u x1 x2 → w_X2_levelBits_4 N Q n u x1 x2 := by
  intro n
  induction n with
  | zero => intro u x1 x2 h; exact absurd h (by rw [w_X2_levelBits_4]; exact id)
  | succ n ih =>
    intro u x1 x2
    rw [w_X2_levelBits_4, w_X2_levelBits_4]
    exact (mo_and (mo_imp (mo_X2_stepBits (fun u3 r2 => (mo_and (mo_imp (ih _ _ _)) (mo_imp (ih _ _ _)))))) (mo_imp (hh _ _)))
theorem mo_X2_levelBits {N : Nat} {u : TS} {P Q : TS → Int32 → Prop} (hh : ∀ (z0 : TS) (z1 : Int32), P z0 z1 → Q z0 z1) : w_X2_levelBits N u P → w_X2_levelBits N u Q := by
  unfold w_X2_levelBits
  exact (mo_X2_levelBits_4 hh _ _ _ _)
theorem mo_X4_makeFree {N : Nat} {u : TS} {a1 : Int32} {a2 : Int32} {P Q : TS → Prop} (hh : ∀ (z0 : TS), P z0 → Q z0) : w_X4_makeFree N u a1 a2 P → w_X4_makeFree N u a1 a2 Q := by
  unfold w_X4_makeFree
  exact (mo_X3_layHeader (fun u2 => (mo_X3_lay (fun u4 => (mo_X2_come (fun u6 => (mo_X3_tellBehind (fun u8 => (hh _)))))))))
theorem mo_X4_begin {N : Nat} {u : TS} {a1 : Int32} {P Q : TS → Prop} (hh : ∀ (z0 : TS), P z0 → Q z0) : w_X4_begin N u a1 P → w_X4_begin N u a1 Q := by
  unfold w_X4_begin
  exact (mo_X3_clear (fun u2 => (mo_X2_clear (fun u4 => (mo_X4_makeFree (fun u6 => (mo_X2_forgetMoves (fun u8 => (mo_let (fun u9 => (mo_let (fun u10 => (mo_let (fun u11 => (hh _)))))))))))))))
theorem mo_X4_open {N : Nat} {u : TS} {a1 : Int32} {P Q : TS → Int32 → Prop} (hh : ∀ (z0 : TS) (z1 : Int32), P z0 z1 → Q z0 z1) : w_X4_open N u a1 P → w_X4_open N u a1 Q := by
  unfold w_X4_open
  exact (mo_and (mo_imp (hh _ _)) (mo_imp (mo_and (mo_imp (hh _ _)) (mo_imp (mo_X4_begin (fun u4 => (hh _ _)))))))
theorem mo_X4_isWish {N : Nat} {a1 : Int32} {P Q : Int32 → Prop} (hh : ∀ (z0 : Int32), P z0 → Q z0) : w_X4_isWish N a1 P → w_X4_isWish N a1 Q := by
  unfold w_X4_isWish
  exact (mo_and (mo_imp (hh _)) (mo_imp (mo_and (mo_imp (hh _)) (mo_imp (hh _)))))
theorem mo_X4_refuse {N : Nat} {u : TS} {P Q : TS → Int32 → Prop} (hh : ∀ (z0 : TS) (z1 : Int32), P z0 z1 → Q z0 z1) : w_X4_refuse N u P → w_X4_refuse N u Q := by
  unfold w_X4_refuse
  exact (mo_let (fun u1 => (hh _ _)))
theorem mo_X4_take {N : Nat} {u : TS} {a1 : Int32} {P Q : TS → Prop} (hh : ∀ (z0 : TS), P z0 → Q z0) : w_X4_take N u a1 P → w_X4_take N u a1 Q := by
  unfold w_X4_take
  exact (mo_X2_leave (fun u2 => (mo_X3_bodyOf (fun u4 r3 => (mo_X3_layHeader (fun u6 => (mo_X3_tellBehind (fun u8 => (hh _)))))))))
theorem mo_X4_release_56 {N : Nat} {u : TS} {x1 : Int32} {x2 : Int32} {x3 : Int32} {P Q : TS → Int32 → Prop} (hh : ∀ (z0 : TS) (z1 : Int32), P z0 z1 → Q z0 z1) : w_X4_release_56 N P u x1 x2 x3 → w_X4_release_56 N Q u x1 x2 x3 := by
  unfold w_X4_release_56
  exact (mo_X3_isAheadFree (fun u9 r8 => (mo_and (mo_imp (mo_X4_makeFree (fun u12 => (hh _ _)))) (mo_imp (mo_X3_freeAhead (fun u14 r13 => (mo_X2_leave (fun u16 => (mo_X3_bodyOf (fun u18 r17 => (mo_X4_makeFree (fun u20 => (hh _ _)))))))))))))
theorem mo_X4_release {N : Nat} {u : TS} {a1 : Int32} {P Q : TS → Int32 → Prop} (hh : ∀ (z0 : TS) (z1 : Int32), P z0 z1 → Q z0 z1) : w_X4_release N u a1 P → w_X4_release N u a1 Q := by
  unfold w_X4_release
  exact (mo_X3_bodyOf (fun u2 r1 => (mo_X3_behind (fun u4 r3 => (mo_X3_isFree (fun u6 r5 => (mo_and (mo_imp (mo_X4_release_56 hh)) (mo_imp (mo_X2_leave (fun u22 => (mo_X3_bodyOf (fun u24 r23 => (mo_X4_release_56 hh)))))))))))))
theorem mo_X4_cutTo {N : Nat} {u : TS} {a1 : Int32} {a2 : Int32} {P Q : TS → Prop} (hh : ∀ (z0 : TS), P z0 → Q z0) : w_X4_cutTo N u a1 a2 P → w_X4_cutTo N u a1 a2 Q := by
  unfold w_X4_cutTo
  exact (mo_X3_bodyOf (fun u2 r1 => (mo_and (mo_imp (hh _)) (mo_imp (mo_X3_layBody (fun u5 => (mo_X3_behind (fun u7 r6 => (mo_X3_layHeader (fun u9 => (mo_X4_release (fun u11 r10 => (hh _)))))))))))))
theorem mo_X4_alloc {N : Nat} {u : TS} {a1 : Int32} {P Q : TS → Int32 → Prop} (hh : ∀ (z0 : TS) (z1 : Int32), P z0 z1 → Q z0 z1) : w_X4_alloc N u a1 P → w_X4_alloc N u a1 Q := by
  unfold w_X4_alloc
  exact (mo_X4_isWish (fun r1 => (mo_and (mo_imp (hh _ _)) (mo_imp (mo_and (mo_imp (mo_X4_bodyFor (fun r5 => (mo_X2_headerFor (fun u8 r7 => (mo_and (mo_imp (mo_X4_refuse (fun u17 r16 => (hh _ _)))) (mo_imp (mo_X2_forgetMoves (fun u11 => (mo_X4_take (fun u13 => (mo_X4_cutTo (fun u15 => (hh _ _)))))))))))))) (mo_imp (hh _ _)))))))
theorem mo_X4_isAlignment {N : Nat} {a1 : Int32} {P Q : Int32 → Prop} (hh : ∀ (z0 : Int32), P z0 → Q z0) : w_X4_isAlignment N a1 P → w_X4_isAlignment N a1 Q := by
  unfold w_X4_isAlignment
  exact (mo_and (mo_imp (hh _)) (mo_imp (mo_and (mo_imp (hh _)) (mo_imp (mo_and (mo_imp (hh _)) (mo_imp (hh _)))))))
theorem mo_X4_mostAhead {N : Nat} {a1 : Int32} {P Q : Int32 → Prop} (hh : ∀ (z0 : Int32), P z0 → Q z0) : w_X4_mostAhead N a1 P → w_X4_mostAhead N a1 Q := by
  unfold w_X4_mostAhead
  exact (hh _)
theorem mo_X4_alignedPlace {N : Nat} {a1 : Int32} {a2 : Int32} {P Q : Int32 → Prop} (hh : ∀ (z0 : Int32), P z0 → Q z0) : w_X4_alignedPlace N a1 a2 P → w_X4_alignedPlace N a1 a2 Q := by
  unfold w_X4_alignedPlace
  exact (mo_and (mo_imp (hh _)) (mo_imp (hh _)))
theorem mo_X4_splitBefore {N : Nat} {u : TS} {a1 : Int32} {a2 : Int32} {P Q : TS → Prop} (hh : ∀ (z0 : TS), P z0 → Q z0) : w_X4_splitBefore N u a1 a2 P → w_X4_splitBefore N u a1 a2 Q := by
  unfold w_X4_splitBefore
  exact (mo_X3_bodyOf (fun u2 r1 => (mo_X3_layHeader (fun u4 => (mo_X4_makeFree (fun u6 => (hh _)))))))
theorem mo_X4_aligned_100 {N : Nat} {u : TS} {x3 : Int32} {x5 : Int32} {P Q : TS → Int32 → Prop} (hh : ∀ (z0 : TS) (z1 : Int32), P z0 z1 → Q z0 z1) : w_X4_aligned_100 N P u x3 x5 → w_X4_aligned_100 N Q u x3 x5 := by
  unfold w_X4_aligned_100
  exact (mo_X4_cutTo (fun u23 => (hh _ _)))
theorem mo_X4_aligned {N : Nat} {u : TS} {a1 : Int32} {a2 : Int32} {P Q : TS → Int32 → Prop} (hh : ∀ (z0 : TS) (z1 : Int32), P z0 z1 → Q z0 z1) : w_X4_aligned N u a1 a2 P → w_X4_aligned N u a1 a2 Q := by
  unfold w_X4_aligned
  exact (mo_X4_isWish (fun r1 => (mo_and (mo_imp (hh _ _)) (mo_imp (mo_X4_isAlignment (fun r4 => (mo_and (mo_imp (hh _ _)) (mo_imp (mo_and (mo_imp (mo_X4_bodyFor (fun r8 => (mo_X4_mostAhead (fun r10 => (mo_X2_headerFor (fun u13 r12 => (mo_and (mo_imp (mo_X4_refuse (fun u27 r26 => (hh _ _)))) (mo_imp (mo_X2_forgetMoves (fun u16 => (mo_X4_take (fun u18 => (mo_X4_alignedPlace (fun r19 => (mo_and (mo_imp (mo_X4_aligned_100 hh)) (mo_imp (mo_X4_splitBefore (fun u25 => (mo_X4_aligned_100 hh)))))))))))))))))))) (mo_imp (hh _ _)))))))))))
theorem mo_X4_isUsedPlace_33 {N : Nat} {u : TS} {x1 : Int32} {x2 : Int32} {P Q : TS → Int32 → Prop} (hh : ∀ (z0 : TS) (z1 : Int32), P z0 z1 → Q z0 z1) : w_X4_isUsedPlace_33 N P u x1 x2 → w_X4_isUsedPlace_33 N Q u x1 x2 := by
  unfold w_X4_isUsedPlace_33
  exact (mo_and (mo_imp (mo_X3_has (fun u4 r3 => (mo_and (mo_imp (hh _ _)) (mo_imp (mo_X3_isFree (fun u7 r6 => (mo_and (mo_imp (hh _ _)) (mo_imp (hh _ _)))))))))) (mo_imp (hh _ _)))
theorem mo_X4_isUsedPlace_4 {N : Nat} {P Q : TS → Int32 → Prop} (hh : ∀ (z0 : TS) (z1 : Int32), P z0 z1 → Q z0 z1) : ∀ (n : Nat) (u : TS) (x1 : Int32) (x2 : Int32) (x3 : Int32), w_X4_isUsedPlace_4 N P n u x1 x2 x3 → w_X4_isUsedPlace_4 N Q n u x1 x2 x3 := by
  intro n
  induction n with
  | zero => intro u x1 x2 x3 h; exact absurd h (by rw [w_X4_isUsedPlace_4]; exact id)
  | succ n ih =>
    intro u x1 x2 x3
    rw [w_X4_isUsedPlace_4, w_X4_isUsedPlace_4]
    exact (mo_and (mo_imp (mo_and (mo_imp (mo_X3_behind (fun u11 r10 => (ih _ _ _ _)))) (mo_imp (mo_X4_isUsedPlace_33 hh)))) (mo_imp (mo_X4_isUsedPlace_33 hh)))
theorem mo_X4_isUsedPlace {N : Nat} {u : TS} {a1 : Int32} {P Q : TS → Int32 → Prop} (hh : ∀ (z0 : TS) (z1 : Int32), P z0 z1 → Q z0 z1) : w_X4_isUsedPlace N u a1 P → w_X4_isUsedPlace N u a1 Q := by
  unfold w_X4_isUsedPlace
  exact (mo_X4_isUsedPlace_4 hh _ _ _ _ _)
theorem mo_X4_refusalOf {N : Nat} {u : TS} {a1 : Int32} {P Q : TS → Int32 → Prop} (hh : ∀ (z0 : TS) (z1 : Int32), P z0 z1 → Q z0 z1) : w_X4_refusalOf N u a1 P → w_X4_refusalOf N u a1 Q := by
  unfold w_X4_refusalOf
  exact (mo_and (mo_imp (hh _ _)) (mo_imp (mo_and (mo_imp (mo_and (mo_imp (mo_X4_isUsedPlace (fun u5 r4 => (mo_and (mo_imp (hh _ _)) (mo_imp (hh _ _)))))) (mo_imp (hh _ _)))) (mo_imp (hh _ _)))))
theorem mo_X4_free {N : Nat} {u : TS} {a1 : Int32} {P Q : TS → Int32 → Prop} (hh : ∀ (z0 : TS) (z1 : Int32), P z0 z1 → Q z0 z1) : w_X4_free N u a1 P → w_X4_free N u a1 Q := by
  unfold w_X4_free
  exact (mo_X4_refusalOf (fun u2 r1 => (mo_and (mo_imp (mo_X2_forgetMoves (fun u5 => (mo_X4_release (fun u7 r6 => (hh _ _)))))) (mo_imp (hh _ _)))))
theorem mo_X4_bodyWithBehind {N : Nat} {u : TS} {a1 : Int32} {P Q : TS → Int32 → Prop} (hh : ∀ (z0 : TS) (z1 : Int32), P z0 z1 → Q z0 z1) : w_X4_bodyWithBehind N u a1 P → w_X4_bodyWithBehind N u a1 Q := by
  unfold w_X4_bodyWithBehind
  exact (mo_X3_bodyOf (fun u2 r1 => (mo_X3_behind (fun u4 r3 => (mo_X3_isFree (fun u6 r5 => (mo_and (mo_imp (hh _ _)) (mo_imp (mo_X3_bodyOf (fun u9 r8 => (hh _ _)))))))))))
theorem mo_X4_joinBehind {N : Nat} {u : TS} {a1 : Int32} {P Q : TS → Prop} (hh : ∀ (z0 : TS), P z0 → Q z0) : w_X4_joinBehind N u a1 P → w_X4_joinBehind N u a1 Q := by
  unfold w_X4_joinBehind
  exact (mo_X3_behind (fun u2 r1 => (mo_X2_leave (fun u4 => (mo_X3_bodyOf (fun u6 r5 => (mo_X3_bodyOf (fun u8 r7 => (mo_X3_layBody (fun u10 => (mo_X3_tellBehind (fun u12 => (hh _)))))))))))))
theorem mo_X4_copyBody_18 {N : Nat} {P Q : TS → Prop} (hh : ∀ (z0 : TS), P z0 → Q z0) : ∀ (n : Nat) (u : TS) (x1 : Int32) (x2 : Int32) (x3 : Int32) (x4 : Int32), w_X4_copyBody_18 N P n u x1 x2 x3 x4 → w_X4_copyBody_18 N Q n u x1 x2 x3 x4 := by
  intro n
  induction n with
  | zero => intro u x1 x2 x3 x4 h; exact absurd h (by rw [w_X4_copyBody_18]; exact id)
  | succ n ih =>
    intro u x1 x2 x3 x4
    rw [w_X4_copyBody_18, w_X4_copyBody_18]
    exact (mo_and (mo_imp (hh _)) (mo_imp (mo_X3_at (fun u5 r4 => (mo_X3_lay (fun u7 => (ih _ _ _ _ _)))))))
theorem mo_X4_copyBody {N : Nat} {u : TS} {a1 : Int32} {a2 : Int32} {P Q : TS → Prop} (hh : ∀ (z0 : TS), P z0 → Q z0) : w_X4_copyBody N u a1 a2 P → w_X4_copyBody N u a1 a2 Q := by
  unfold w_X4_copyBody
  exact (mo_X3_bodyOf (fun u2 r1 => (mo_X4_copyBody_18 hh _ _ _ _ _ _)))
theorem mo_X4_resize {N : Nat} {u : TS} {a1 : Int32} {a2 : Int32} {P Q : TS → Int32 → Prop} (hh : ∀ (z0 : TS) (z1 : Int32), P z0 z1 → Q z0 z1) : w_X4_resize N u a1 a2 P → w_X4_resize N u a1 a2 Q := by
  unfold w_X4_resize
  exact (mo_X4_refusalOf (fun u2 r1 => (mo_and (mo_imp (mo_X4_isWish (fun r4 => (mo_and (mo_imp (hh _ _)) (mo_imp (mo_X4_bodyFor (fun r7 => (mo_X4_bodyWithBehind (fun u10 r9 => (mo_and (mo_imp (mo_X2_headerFor (fun u13 r12 => (mo_and (mo_imp (mo_X4_refuse (fun u26 r25 => (hh _ _)))) (mo_imp (mo_X2_forgetMoves (fun u16 => (mo_X4_take (fun u18 => (mo_X4_cutTo (fun u20 => (mo_X4_copyBody (fun u22 => (mo_X4_release (fun u24 r23 => (hh _ _)))))))))))))))) (mo_imp (mo_X2_forgetMoves (fun u28 => (mo_X3_bodyOf (fun u30 r29 => (mo_and (mo_imp (mo_X4_joinBehind (fun u35 => (mo_X4_cutTo (fun u37 => (hh _ _)))))) (mo_imp (mo_X4_cutTo (fun u33 => (hh _ _)))))))))))))))))))) (mo_imp (hh _ _)))))
theorem mo_X4_lastHeader_4 {N : Nat} {P Q : TS → Int32 → Prop} (hh : ∀ (z0 : TS) (z1 : Int32), P z0 z1 → Q z0 z1) : ∀ (n : Nat) (u : TS) (x1 : Int32) (x2 : Int32), w_X4_lastHeader_4 N P n u x1 x2 → w_X4_lastHeader_4 N Q n u x1 x2 := by
  intro n
  induction n with
  | zero => intro u x1 x2 h; exact absurd h (by rw [w_X4_lastHeader_4]; exact id)
  | succ n ih =>
    intro u x1 x2
    rw [w_X4_lastHeader_4, w_X4_lastHeader_4]
    exact (mo_and (mo_imp (mo_X3_behind (fun u3 r2 => (mo_and (mo_imp (mo_X3_behind (fun u6 r5 => (ih _ _ _)))) (mo_imp (hh _ _)))))) (mo_imp (hh _ _)))
theorem mo_X4_lastHeader {N : Nat} {u : TS} {P Q : TS → Int32 → Prop} (hh : ∀ (z0 : TS) (z1 : Int32), P z0 z1 → Q z0 z1) : w_X4_lastHeader N u P → w_X4_lastHeader N u Q := by
  unfold w_X4_lastHeader
  exact (mo_X4_lastHeader_4 hh _ _ _ _)
theorem mo_X4_grow_91 {N : Nat} {u : TS} {x2 : Int32} {y0 : Int32} {y1 : Int32} {y2 : Int32} {P Q : TS → Int32 → Prop} (hh : ∀ (z0 : TS) (z1 : Int32), P z0 z1 → Q z0 z1) : w_X4_grow_91 N P u x2 y0 y1 y2 → w_X4_grow_91 N Q u x2 y0 y1 y2 := by
  unfold w_X4_grow_91
  exact (mo_X3_layHeader (fun u14 => (mo_X4_release (fun u16 r15 => (hh _ _)))))
theorem mo_X4_grow {N : Nat} {u : TS} {a1 : Int32} {P Q : TS → Int32 → Prop} (hh : ∀ (z0 : TS) (z1 : Int32), P z0 z1 → Q z0 z1) : w_X4_grow N u a1 P → w_X4_grow N u a1 Q := by
  unfold w_X4_grow
  exact (mo_and (mo_imp (hh _ _)) (mo_imp (mo_and (mo_imp (hh _ _)) (mo_imp (mo_and (mo_imp (mo_and (mo_imp (hh _ _)) (mo_imp (mo_X4_lastHeader (fun u6 r5 => (mo_X3_isFree (fun u8 r7 => (mo_X2_forgetMoves (fun u10 => (mo_let (fun u11 => (mo_and (mo_imp (mo_X4_grow_91 hh)) (mo_imp (mo_X4_grow_91 hh)))))))))))))) (mo_imp (hh _ _)))))))
theorem mo_X4_size {N : Nat} {u : TS} {a1 : Int32} {P Q : TS → Int32 → Prop} (hh : ∀ (z0 : TS) (z1 : Int32), P z0 z1 → Q z0 z1) : w_X4_size N u a1 P → w_X4_size N u a1 Q := by
  unfold w_X4_size
  exact (mo_X4_refusalOf (fun u2 r1 => (mo_and (mo_imp (mo_X3_bodyOf (fun u5 r4 => (hh _ _)))) (mo_imp (hh _ _)))))
theorem mo_X4_put {N : Nat} {u : TS} {a1 : Int32} {a2 : Int32} {a3 : Int64} {P Q : TS → Int32 → Prop} (hh : ∀ (z0 : TS) (z1 : Int32), P z0 z1 → Q z0 z1) : w_X4_put N u a1 a2 a3 P → w_X4_put N u a1 a2 a3 Q := by
  unfold w_X4_put
  exact (mo_X4_refusalOf (fun u2 r1 => (mo_and (mo_imp (mo_and (mo_imp (hh _ _)) (mo_imp (mo_X3_bodyOf (fun u6 r5 => (mo_and (mo_imp (mo_X3_lay (fun u9 => (hh _ _)))) (mo_imp (hh _ _)))))))) (mo_imp (hh _ _)))))
theorem mo_X4_word {N : Nat} {u : TS} {a1 : Int32} {P Q : TS → Int64 → Prop} (hh : ∀ (z0 : TS) (z1 : Int64), P z0 z1 → Q z0 z1) : w_X4_word N u a1 P → w_X4_word N u a1 Q := by
  unfold w_X4_word
  exact (mo_X3_at (fun u2 r1 => (hh _ _)))
theorem mo_X4_spoil {N : Nat} {u : TS} {a1 : Int32} {a2 : Int64} {P Q : TS → Int32 → Prop} (hh : ∀ (z0 : TS) (z1 : Int32), P z0 z1 → Q z0 z1) : w_X4_spoil N u a1 a2 P → w_X4_spoil N u a1 a2 Q := by
  unfold w_X4_spoil
  exact (mo_X3_has (fun u2 r1 => (mo_and (mo_imp (hh _ _)) (mo_imp (mo_X3_lay (fun u5 => (mo_let (fun u6 => (hh _ _)))))))))
theorem mo_X4_check {N : Nat} {u : TS} {P Q : TS → Int32 → Prop} (hh : ∀ (z0 : TS) (z1 : Int32), P z0 z1 → Q z0 z1) : w_X4_check N u P → w_X4_check N u Q := by
  unfold w_X4_check
  exact (mo_X0_run (fun u2 r1 => (mo_and (mo_imp (mo_let (fun u4 => (hh _ _)))) (mo_imp (hh _ _)))))
theorem mo_X4_where {N : Nat} {u : TS} {P Q : TS → Int32 → Prop} (hh : ∀ (z0 : TS) (z1 : Int32), P z0 z1 → Q z0 z1) : w_X4_where N u P → w_X4_where N u Q := by
  unfold w_X4_where
  exact (hh _ _)
theorem mo_X4_classOf {N : Nat} {u : TS} {a1 : Int32} {a2 : Int32} {P Q : TS → Int32 → Prop} (hh : ∀ (z0 : TS) (z1 : Int32), P z0 z1 → Q z0 z1) : w_X4_classOf N u a1 a2 P → w_X4_classOf N u a1 a2 Q := by
  unfold w_X4_classOf
  exact (mo_and (mo_imp (hh _ _)) (mo_imp (mo_and (mo_imp (hh _ _)) (mo_imp (mo_and (mo_imp (mo_X1_ofBody (fun r4 => (hh _ _)))) (mo_imp (mo_X1_ofWish (fun r6 => (hh _ _)))))))))
theorem mo_X4_listed {N : Nat} {u : TS} {a1 : Int32} {a2 : Int32} {P Q : TS → Int32 → Prop} (hh : ∀ (z0 : TS) (z1 : Int32), P z0 z1 → Q z0 z1) : w_X4_listed N u a1 a2 P → w_X4_listed N u a1 a2 Q := by
  unfold w_X4_listed
  exact (mo_and (mo_imp (hh _ _)) (mo_imp (mo_and (mo_imp (mo_and (mo_imp (hh _ _)) (mo_imp (mo_and (mo_imp (mo_X2_placeInList (fun u6 r5 => (hh _ _)))) (mo_imp (hh _ _)))))) (mo_imp (hh _ _)))))
theorem mo_X4_bits {N : Nat} {u : TS} {a1 : Int32} {P Q : TS → Int32 → Prop} (hh : ∀ (z0 : TS) (z1 : Int32), P z0 z1 → Q z0 z1) : w_X4_bits N u a1 P → w_X4_bits N u a1 Q := by
  unfold w_X4_bits
  exact (mo_and (mo_imp (hh _ _)) (mo_imp (mo_and (mo_imp (hh _ _)) (mo_imp (mo_and (mo_imp (mo_X2_levelBits (fun u7 r6 => (hh _ _)))) (mo_imp (mo_X2_stepBits (fun u5 r4 => (hh _ _)))))))))
theorem mo_X4_headerOfBlock_42 {N : Nat} {u : TS} {x1 : Int32} {x2 : Int32} {P Q : TS → Int32 → Prop} (hh : ∀ (z0 : TS) (z1 : Int32), P z0 z1 → Q z0 z1) : w_X4_headerOfBlock_42 N P u x1 x2 → w_X4_headerOfBlock_42 N Q u x1 x2 := by
  unfold w_X4_headerOfBlock_42
  exact (mo_and (mo_imp (mo_X3_has (fun u4 r3 => (mo_and (mo_imp (hh _ _)) (mo_imp (hh _ _)))))) (mo_imp (hh _ _)))
theorem mo_X4_headerOfBlock_4 {N : Nat} {P Q : TS → Int32 → Prop} (hh : ∀ (z0 : TS) (z1 : Int32), P z0 z1 → Q z0 z1) : ∀ (n : Nat) (u : TS) (x1 : Int32) (x2 : Int32) (x3 : Int32), w_X4_headerOfBlock_4 N P n u x1 x2 x3 → w_X4_headerOfBlock_4 N Q n u x1 x2 x3 := by
  intro n
  induction n with
  | zero => intro u x1 x2 x3 h; exact absurd h (by rw [w_X4_headerOfBlock_4]; exact id)
  | succ n ih =>
    intro u x1 x2 x3
    rw [w_X4_headerOfBlock_4, w_X4_headerOfBlock_4]
    exact (mo_and (mo_imp (mo_and (mo_imp (mo_and (mo_imp (mo_X3_behind (fun u9 r8 => (ih _ _ _ _)))) (mo_imp (mo_X4_headerOfBlock_42 hh)))) (mo_imp (mo_X4_headerOfBlock_42 hh)))) (mo_imp (mo_X4_headerOfBlock_42 hh)))
theorem mo_X4_headerOfBlock {N : Nat} {u : TS} {a1 : Int32} {P Q : TS → Int32 → Prop} (hh : ∀ (z0 : TS) (z1 : Int32), P z0 z1 → Q z0 z1) : w_X4_headerOfBlock N u a1 P → w_X4_headerOfBlock N u a1 Q := by
  unfold w_X4_headerOfBlock
  exact (mo_X4_headerOfBlock_4 hh _ _ _ _ _)
theorem mo_X4_block {N : Nat} {u : TS} {a1 : Int32} {a2 : Int32} {P Q : TS → Int32 → Prop} (hh : ∀ (z0 : TS) (z1 : Int32), P z0 z1 → Q z0 z1) : w_X4_block N u a1 a2 P → w_X4_block N u a1 a2 Q := by
  unfold w_X4_block
  exact (mo_and (mo_imp (hh _ _)) (mo_imp (mo_and (mo_imp (hh _ _)) (mo_imp (mo_and (mo_imp (hh _ _)) (mo_imp (mo_and (mo_imp (mo_X4_headerOfBlock (fun u6 r5 => (mo_and (mo_imp (hh _ _)) (mo_imp (mo_and (mo_imp (hh _ _)) (mo_imp (mo_and (mo_imp (mo_X3_bodyOf (fun u11 r10 => (hh _ _)))) (mo_imp (mo_X3_isFree (fun u13 r12 => (mo_and (mo_imp (hh _ _)) (mo_imp (hh _ _)))))))))))))) (mo_imp (hh _ _)))))))))
theorem mo_X4_found {N : Nat} {u : TS} {a1 : Int32} {P Q : TS → Int32 → Prop} (hh : ∀ (z0 : TS) (z1 : Int32), P z0 z1 → Q z0 z1) : w_X4_found N u a1 P → w_X4_found N u a1 Q := by
  unfold w_X4_found
  exact (mo_X4_isWish (fun r1 => (mo_and (mo_imp (hh _ _)) (mo_imp (mo_and (mo_imp (mo_X4_bodyFor (fun r5 => (mo_X2_headerFor (fun u8 r7 => (mo_and (mo_imp (hh _ _)) (mo_imp (hh _ _)))))))) (mo_imp (hh _ _)))))))
theorem mo_X4_wordsOf_7 {N : Nat} {P Q : TS → Int32 → Prop} (hh : ∀ (z0 : TS) (z1 : Int32), P z0 z1 → Q z0 z1) : ∀ (n : Nat) (u : TS) (x1 : Int32) (x2 : Int32) (x3 : Int32) (x4 : Int32), w_X4_wordsOf_7 N P n u x1 x2 x3 x4 → w_X4_wordsOf_7 N Q n u x1 x2 x3 x4 := by
  intro n
  induction n with
  | zero => intro u x1 x2 x3 x4 h; exact absurd h (by rw [w_X4_wordsOf_7]; exact id)
  | succ n ih =>
    intro u x1 x2 x3 x4
    rw [w_X4_wordsOf_7, w_X4_wordsOf_7]
    exact (mo_and (mo_imp (mo_and (mo_imp (mo_X3_isFree (fun u4 r3 => (mo_and (mo_imp (mo_X3_bodyOf (fun u9 r8 => (mo_X3_behind (fun u11 r10 => (ih _ _ _ _ _)))))) (mo_imp (mo_X3_behind (fun u7 r6 => (ih _ _ _ _ _)))))))) (mo_imp (hh _ _)))) (mo_imp (hh _ _)))
theorem mo_X4_wordsOf {N : Nat} {u : TS} {a1 : Int32} {P Q : TS → Int32 → Prop} (hh : ∀ (z0 : TS) (z1 : Int32), P z0 z1 → Q z0 z1) : w_X4_wordsOf N u a1 P → w_X4_wordsOf N u a1 Q := by
  unfold w_X4_wordsOf
  exact (mo_X4_wordsOf_7 hh _ _ _ _ _ _)
theorem mo_X4_blocksOf_7 {N : Nat} {P Q : TS → Int32 → Prop} (hh : ∀ (z0 : TS) (z1 : Int32), P z0 z1 → Q z0 z1) : ∀ (n : Nat) (u : TS) (x1 : Int32) (x2 : Int32) (x3 : Int32) (x4 : Int32), w_X4_blocksOf_7 N P n u x1 x2 x3 x4 → w_X4_blocksOf_7 N Q n u x1 x2 x3 x4 := by
  intro n
  induction n with
  | zero => intro u x1 x2 x3 x4 h; exact absurd h (by rw [w_X4_blocksOf_7]; exact id)
  | succ n ih =>
    intro u x1 x2 x3 x4
    rw [w_X4_blocksOf_7, w_X4_blocksOf_7]
    exact (mo_and (mo_imp (mo_and (mo_imp (mo_X3_isFree (fun u4 r3 => (mo_and (mo_imp (mo_X3_behind (fun u9 r8 => (ih _ _ _ _ _)))) (mo_imp (mo_X3_behind (fun u7 r6 => (ih _ _ _ _ _)))))))) (mo_imp (hh _ _)))) (mo_imp (hh _ _)))
theorem mo_X4_blocksOf {N : Nat} {u : TS} {a1 : Int32} {P Q : TS → Int32 → Prop} (hh : ∀ (z0 : TS) (z1 : Int32), P z0 z1 → Q z0 z1) : w_X4_blocksOf N u a1 P → w_X4_blocksOf N u a1 Q := by
  unfold w_X4_blocksOf
  exact (mo_X4_blocksOf_7 hh _ _ _ _ _ _)
theorem mo_X4_mostFree_6 {N : Nat} {P Q : TS → Int32 → Prop} (hh : ∀ (z0 : TS) (z1 : Int32), P z0 z1 → Q z0 z1) : ∀ (n : Nat) (u : TS) (x1 : Int32) (x2 : Int32) (x3 : Int32), w_X4_mostFree_6 N P n u x1 x2 x3 → w_X4_mostFree_6 N Q n u x1 x2 x3 := by
  intro n
  induction n with
  | zero => intro u x1 x2 x3 h; exact absurd h (by rw [w_X4_mostFree_6]; exact id)
  | succ n ih =>
    intro u x1 x2 x3
    rw [w_X4_mostFree_6, w_X4_mostFree_6]
    exact (mo_and (mo_imp (mo_and (mo_imp (mo_X3_isFree (fun u4 r3 => (mo_and (mo_imp (mo_X3_behind (fun u7 r6 => (ih _ _ _ _)))) (mo_imp (mo_X3_bodyOf (fun u9 r8 => (mo_X3_behind (fun u11 r10 => (ih _ _ _ _)))))))))) (mo_imp (hh _ _)))) (mo_imp (hh _ _)))
theorem mo_X4_mostFree {N : Nat} {u : TS} {P Q : TS → Int32 → Prop} (hh : ∀ (z0 : TS) (z1 : Int32), P z0 z1 → Q z0 z1) : w_X4_mostFree N u P → w_X4_mostFree N u Q := by
  unfold w_X4_mostFree
  exact (mo_X4_mostFree_6 hh _ _ _ _ _)
theorem mo_X4_count {N : Nat} {u : TS} {a1 : Int32} {P Q : TS → Int32 → Prop} (hh : ∀ (z0 : TS) (z1 : Int32), P z0 z1 → Q z0 z1) : w_X4_count N u a1 P → w_X4_count N u a1 Q := by
  unfold w_X4_count
  exact (mo_and (mo_imp (hh _ _)) (mo_imp (mo_and (mo_imp (hh _ _)) (mo_imp (mo_and (mo_imp (mo_and (mo_imp (hh _ _)) (mo_imp (hh _ _)))) (mo_imp (mo_and (mo_imp (hh _ _)) (mo_imp (mo_and (mo_imp (mo_and (mo_imp (mo_X4_wordsOf (fun u9 r8 => (hh _ _)))) (mo_imp (hh _ _)))) (mo_imp (mo_and (mo_imp (mo_and (mo_imp (mo_X4_wordsOf (fun u13 r12 => (hh _ _)))) (mo_imp (hh _ _)))) (mo_imp (mo_and (mo_imp (mo_and (mo_imp (mo_X4_blocksOf (fun u17 r16 => (hh _ _)))) (mo_imp (hh _ _)))) (mo_imp (mo_and (mo_imp (mo_and (mo_imp (mo_X4_blocksOf (fun u21 r20 => (hh _ _)))) (mo_imp (hh _ _)))) (mo_imp (mo_and (mo_imp (mo_and (mo_imp (mo_X4_mostFree (fun u25 r24 => (hh _ _)))) (mo_imp (hh _ _)))) (mo_imp (hh _ _)))))))))))))))))))
theorem mo_X5_classIn_10 {N : Nat} {P Q : Int32 → Prop} (hh : ∀ (z0 : Int32), P z0 → Q z0) : ∀ (n : Nat) (x0 : Int32) (x1 : Int32), w_X5_classIn_10 N P n x0 x1 → w_X5_classIn_10 N Q n x0 x1 := by
  intro n
  induction n with
  | zero => intro x0 x1 h; exact absurd h (by rw [w_X5_classIn_10]; exact id)
  | succ n ih =>
    intro x0 x1
    rw [w_X5_classIn_10, w_X5_classIn_10]
    exact (mo_and (mo_imp (ih _ _)) (mo_imp (hh _)))
theorem mo_X5_classIn {N : Nat} {a1 : Int32} {P Q : Int32 → Prop} (hh : ∀ (z0 : Int32), P z0 → Q z0) : w_X5_classIn N a1 P → w_X5_classIn N a1 Q := by
  unfold w_X5_classIn
  exact (mo_and (mo_imp (hh _)) (mo_imp (mo_X5_classIn_10 hh _ _ _)))
theorem mo_X5_words {N : Nat} {u : MS} {a1 : Int32} {P Q : MS → Int32 → Prop} (hh : ∀ (z0 : MS) (z1 : Int32), P z0 z1 → Q z0 z1) : w_X5_words N u a1 P → w_X5_words N u a1 Q := by
  unfold w_X5_words
  exact (mo_and id (hh _ _))
theorem mo_X5_behind {N : Nat} {u : MS} {a1 : Int32} {P Q : MS → Int32 → Prop} (hh : ∀ (z0 : MS) (z1 : Int32), P z0 z1 → Q z0 z1) : w_X5_behind N u a1 P → w_X5_behind N u a1 Q := by
  unfold w_X5_behind
  exact (mo_X5_words (fun u2 r1 => (mo_and (mo_imp (hh _ _)) (mo_imp (hh _ _)))))
theorem mo_X5_tell {N : Nat} {u : MS} {a1 : Int32} {a2 : Int32} {P Q : MS → Prop} (hh : ∀ (z0 : MS), P z0 → Q z0) : w_X5_tell N u a1 a2 P → w_X5_tell N u a1 a2 Q := by
  unfold w_X5_tell
  exact (mo_and (mo_imp (mo_and (mo_imp (mo_and id (mo_and id (mo_let (fun u5 => (hh _)))))) (mo_imp (mo_and id (mo_and id (mo_let (fun u8 => (hh _)))))))) (mo_imp (hh _)))
theorem mo_X5_lend_85 {N : Nat} {u : MS} {x1 : Int32} {x5 : Int32} {P Q : MS → Prop} (hh : ∀ (z0 : MS), P z0 → Q z0) : w_X5_lend_85 N P u x1 x5 → w_X5_lend_85 N Q u x1 x5 := by
  unfold w_X5_lend_85
  exact (mo_and id (mo_let (fun u15 => (mo_let (fun u16 => (mo_X5_behind (fun u18 r17 => (mo_X5_tell (fun u20 => (hh _))))))))))
theorem mo_X5_lend {N : Nat} {u : MS} {a1 : Int32} {a2 : Int32} {a3 : Int64} {P Q : MS → Prop} (hh : ∀ (z0 : MS), P z0 → Q z0) : w_X5_lend N u a1 a2 a3 P → w_X5_lend N u a1 a2 a3 Q := by
  unfold w_X5_lend
  exact (mo_X5_classIn (fun r1 => (mo_and id (mo_let (fun u4 => (mo_and id (mo_and id (mo_let (fun u7 => (mo_and id (mo_let (fun u9 => (mo_and id (mo_let (fun u11 => (mo_and id (mo_and (mo_imp (mo_X5_lend_85 hh)) (mo_imp (mo_and id (mo_and id (mo_let (fun u23 => (mo_X5_lend_85 hh)))))))))))))))))))))))
theorem mo_X5_lay_24 {N : Nat} {P Q : MS → Prop} (hh : ∀ (z0 : MS), P z0 → Q z0) : ∀ (n : Nat) (u : MS) (x1 : Int32) (x2 : Int32), w_X5_lay_24 N P n u x1 x2 → w_X5_lay_24 N Q n u x1 x2 := by
  intro n
  induction n with
  | zero => intro u x1 x2 h; exact absurd h (by rw [w_X5_lay_24]; exact id)
  | succ n ih =>
    intro u x1 x2
    rw [w_X5_lay_24, w_X5_lay_24]
    exact (mo_and (mo_imp (mo_and id (mo_let (fun u11 => (ih _ _ _))))) (mo_imp (mo_let (fun u3 => (mo_let (fun u4 => (mo_let (fun u5 => (mo_let (fun u6 => (mo_X5_lend (fun u8 => (mo_let (fun u9 => (hh _)))))))))))))))
theorem mo_X5_lay_2 {N : Nat} {P Q : MS → Prop} (hh : ∀ (z0 : MS), P z0 → Q z0) : ∀ (n : Nat) (u : MS) (x1 : Int32) (x2 : Int32), w_X5_lay_2 N P n u x1 x2 → w_X5_lay_2 N Q n u x1 x2 := by
  intro n
  induction n with
  | zero => intro u x1 x2 h; exact absurd h (by rw [w_X5_lay_2]; exact id)
  | succ n ih =>
    intro u x1 x2
    rw [w_X5_lay_2, w_X5_lay_2]
    exact (mo_and (mo_imp (mo_and id (mo_let (fun u13 => (ih _ _ _))))) (mo_imp (mo_X5_lay_24 hh _ _ _ _)))
theorem mo_X5_lay {N : Nat} {u : MS} {a1 : Int32} {P Q : MS → Prop} (hh : ∀ (z0 : MS), P z0 → Q z0) : w_X5_lay N u a1 P → w_X5_lay N u a1 Q := by
  unfold w_X5_lay
  exact (mo_X5_lay_2 hh _ _ _ _)
theorem mo_X5_in {N : Nat} {a1 : Int64} {a2 : Int64} {a3 : Int64} {P Q : Int32 → Prop} (hh : ∀ (z0 : Int32), P z0 → Q z0) : w_X5_in N a1 a2 a3 P → w_X5_in N a1 a2 a3 Q := by
  unfold w_X5_in
  exact (mo_and (mo_imp (hh _)) (mo_imp (mo_and (mo_imp (hh _)) (mo_imp (hh _)))))
theorem mo_X5_open {N : Nat} {u : MS} {a1 : Int32} {P Q : MS → Int32 → Prop} (hh : ∀ (z0 : MS) (z1 : Int32), P z0 z1 → Q z0 z1) : w_X5_open N u a1 P → w_X5_open N u a1 Q := by
  unfold w_X5_open
  exact (mo_X5_in (fun r1 => (mo_and (mo_imp (hh _ _)) (mo_imp (mo_X5_lay (fun u5 => (hh _ _)))))))
theorem mo_X5_wishIn_19 {N : Nat} {P Q : Int32 → Prop} (hh : ∀ (z0 : Int32), P z0 → Q z0) : ∀ (n : Nat) (x0 : Int32) (x1 : Int32), w_X5_wishIn_19 N P n x0 x1 → w_X5_wishIn_19 N Q n x0 x1 := by
  intro n
  induction n with
  | zero => intro x0 x1 h; exact absurd h (by rw [w_X5_wishIn_19]; exact id)
  | succ n ih =>
    intro x0 x1
    rw [w_X5_wishIn_19, w_X5_wishIn_19]
    exact (mo_and (mo_imp (ih _ _)) (mo_imp (mo_X5_classIn (fun r3 => (hh _)))))
theorem mo_X5_wishIn {N : Nat} {a1 : Int32} {P Q : Int32 → Prop} (hh : ∀ (z0 : Int32), P z0 → Q z0) : w_X5_wishIn N a1 P → w_X5_wishIn N a1 Q := by
  unfold w_X5_wishIn
  exact (mo_and (mo_imp (mo_and (mo_imp (hh _)) (mo_imp (hh _)))) (mo_imp (mo_X5_wishIn_19 hh _ _ _)))
theorem mo_X5_classOf {N : Nat} {u : MS} {a1 : Int32} {a2 : Int32} {P Q : MS → Int32 → Prop} (hh : ∀ (z0 : MS) (z1 : Int32), P z0 z1 → Q z0 z1) : w_X5_classOf N u a1 a2 P → w_X5_classOf N u a1 a2 Q := by
  unfold w_X5_classOf
  exact (mo_X5_in (fun r1 => (mo_and (mo_imp (hh _ _)) (mo_imp (mo_and (mo_imp (mo_X5_classIn (fun r5 => (hh _ _)))) (mo_imp (mo_X5_wishIn (fun r7 => (hh _ _)))))))))
theorem mo_X5_lookFor_5 {N : Nat} {P Q : MS → Int32 → Prop} (hh : ∀ (z0 : MS) (z1 : Int32), P z0 z1 → Q z0 z1) : ∀ (n : Nat) (u : MS) (x2 : Int32), w_X5_lookFor_5 N P n u x2 → w_X5_lookFor_5 N Q n u x2 := by
  intro n
  induction n with
  | zero => intro u x2 h; exact absurd h (by rw [w_X5_lookFor_5]; exact id)
  | succ n ih =>
    intro u x2
    rw [w_X5_lookFor_5, w_X5_lookFor_5]
    exact (mo_and (mo_imp (mo_and id (mo_and (mo_imp (ih _ _)) (mo_imp (mo_and id (hh _ _)))))) (mo_imp (hh _ _)))
theorem mo_X5_lookFor {N : Nat} {u : MS} {a1 : Int32} {P Q : MS → Int32 → Prop} (hh : ∀ (z0 : MS) (z1 : Int32), P z0 z1 → Q z0 z1) : w_X5_lookFor N u a1 P → w_X5_lookFor N u a1 Q := by
  unfold w_X5_lookFor
  exact (mo_X5_wishIn (fun r1 => (mo_X5_lookFor_5 hh _ _ _)))
theorem mo_X5_leave_61 {N : Nat} {u : MS} {P Q : MS → Prop} (hh : ∀ (z0 : MS), P z0 → Q z0) : w_X5_leave_61 N P u → w_X5_leave_61 N Q u := by
  unfold w_X5_leave_61
  exact (mo_let (fun u7 => (hh _)))
theorem mo_X5_leave_47 {N : Nat} {u : MS} {x2 : Int32} {x3 : Int32} {P Q : MS → Prop} (hh : ∀ (z0 : MS), P z0 → Q z0) : w_X5_leave_47 N P u x2 x3 → w_X5_leave_47 N Q u x2 x3 := by
  unfold w_X5_leave_47
  exact (mo_and (mo_imp (mo_X5_leave_61 hh)) (mo_imp (mo_and id (mo_let (fun u9 => (mo_X5_leave_61 hh))))))
theorem mo_X5_leave {N : Nat} {u : MS} {a1 : Int32} {P Q : MS → Prop} (hh : ∀ (z0 : MS), P z0 → Q z0) : w_X5_leave N u a1 P → w_X5_leave N u a1 Q := by
  unfold w_X5_leave
  exact (mo_and id (mo_and id (mo_and (mo_imp (mo_X5_words (fun u11 r10 => (mo_X5_classIn (fun r12 => (mo_and id (mo_let (fun u15 => (mo_X5_leave_47 hh))))))))) (mo_imp (mo_and id (mo_let (fun u5 => (mo_X5_leave_47 hh))))))))
theorem mo_X5_least {N : Nat} {a1 : Int32} {P Q : Int32 → Prop} (hh : ∀ (z0 : Int32), P z0 → Q z0) : w_X5_least N a1 P → w_X5_least N a1 Q := by
  unfold w_X5_least
  exact (mo_and (mo_imp (hh _)) (mo_imp (hh _)))
theorem mo_X5_take {N : Nat} {u : MS} {a1 : Int32} {a2 : Int32} {a3 : Int32} {a4 : Int64} {P Q : MS → Prop} (hh : ∀ (z0 : MS), P z0 → Q z0) : w_X5_take N u a1 a2 a3 a4 P → w_X5_take N u a1 a2 a3 a4 Q := by
  unfold w_X5_take
  exact (mo_and (mo_imp (mo_and id (mo_let (fun u7 => (mo_X5_behind (fun u9 r8 => (mo_X5_tell (fun u11 => (hh _))))))))) (mo_imp (mo_and id (mo_let (fun u3 => (mo_X5_lend (fun u5 => (hh _))))))))
theorem mo_X5_alloc {N : Nat} {u : MS} {a1 : Int32} {P Q : MS → Int32 → Prop} (hh : ∀ (z0 : MS) (z1 : Int32), P z0 z1 → Q z0 z1) : w_X5_alloc N u a1 P → w_X5_alloc N u a1 Q := by
  unfold w_X5_alloc
  exact (mo_X5_in (fun r1 => (mo_and (mo_imp (hh _ _)) (mo_imp (mo_and (mo_imp (mo_X5_lookFor (fun u6 r5 => (mo_and (mo_imp (mo_let (fun u17 => (hh _ _)))) (mo_imp (mo_let (fun u8 => (mo_X5_leave (fun u10 => (mo_X5_words (fun u12 r11 => (mo_X5_least (fun r13 => (mo_X5_take (fun u16 => (hh _ _)))))))))))))))) (mo_imp (hh _ _)))))))
theorem mo_X5_aligned_187 {N : Nat} {u : MS} {x1 : Int32} {x4 : Int32} {x5 : Int32} {x6 : Int32} {P Q : MS → Int32 → Prop} (hh : ∀ (z0 : MS) (z1 : Int32), P z0 z1 → Q z0 z1) : w_X5_aligned_187 N P u x1 x4 x5 x6 → w_X5_aligned_187 N Q u x1 x4 x5 x6 := by
  unfold w_X5_aligned_187
  exact (mo_X5_least (fun r20 => (mo_and (mo_imp (mo_X5_take (fun u26 => (hh _ _)))) (mo_imp (mo_X5_take (fun u24 => (hh _ _)))))))
theorem mo_X5_aligned_144 {N : Nat} {u : MS} {x1 : Int32} {x4 : Int32} {x5 : Int32} {x6 : Int32} {P Q : MS → Int32 → Prop} (hh : ∀ (z0 : MS) (z1 : Int32), P z0 z1 → Q z0 z1) : w_X5_aligned_144 N P u x1 x4 x5 x6 → w_X5_aligned_144 N Q u x1 x4 x5 x6 := by
  unfold w_X5_aligned_144
  exact (mo_and (mo_imp (mo_X5_aligned_187 hh)) (mo_imp (mo_and id (mo_let (fun u28 => (mo_X5_lend (fun u30 => (mo_X5_aligned_187 hh))))))))
theorem mo_X5_aligned_39 {N : Nat} {u : MS} {x1 : Int32} {x2 : Int32} {y0 : Int32} {P Q : MS → Int32 → Prop} (hh : ∀ (z0 : MS) (z1 : Int32), P z0 z1 → Q z0 z1) : w_X5_aligned_39 N P u x1 x2 y0 → w_X5_aligned_39 N Q u x1 x2 y0 := by
  unfold w_X5_aligned_39
  exact (mo_X5_in (fun r2 => (mo_and (mo_imp (hh _ _)) (mo_imp (mo_and (mo_imp (hh _ _)) (mo_imp (mo_and (mo_imp (mo_X5_least (fun r7 => (mo_X5_lookFor (fun u10 r9 => (mo_and (mo_imp (mo_let (fun u32 => (hh _ _)))) (mo_imp (mo_let (fun u12 => (mo_X5_leave (fun u14 => (mo_X5_words (fun u16 r15 => (mo_and id (mo_and (mo_imp (mo_X5_aligned_144 hh)) (mo_imp (mo_and id (mo_X5_aligned_144 hh)))))))))))))))))) (mo_imp (hh _ _)))))))))
theorem mo_X5_aligned_34 {N : Nat} {u : MS} {x1 : Int32} {x2 : Int32} {P Q : MS → Int32 → Prop} (hh : ∀ (z0 : MS) (z1 : Int32), P z0 z1 → Q z0 z1) : w_X5_aligned_34 N P u x1 x2 → w_X5_aligned_34 N Q u x1 x2 := by
  unfold w_X5_aligned_34
  exact (mo_X5_aligned_39 hh)
theorem mo_X5_aligned {N : Nat} {u : MS} {a1 : Int32} {a2 : Int32} {P Q : MS → Int32 → Prop} (hh : ∀ (z0 : MS) (z1 : Int32), P z0 z1 → Q z0 z1) : w_X5_aligned N u a1 a2 P → w_X5_aligned N u a1 a2 Q := by
  unfold w_X5_aligned
  exact (mo_and (mo_imp (mo_X5_aligned_34 hh)) (mo_imp (mo_and (mo_imp (mo_X5_aligned_34 hh)) (mo_imp (mo_and (mo_imp (mo_X5_aligned_34 hh)) (mo_imp (mo_and (mo_imp (mo_X5_aligned_34 hh)) (mo_imp (mo_and (mo_imp (mo_X5_aligned_34 hh)) (mo_imp (mo_and (mo_imp (mo_X5_aligned_34 hh)) (mo_imp (mo_X5_aligned_39 hh)))))))))))))
theorem mo_X5_isFree {N : Nat} {u : MS} {a1 : Int32} {P Q : MS → Int32 → Prop} (hh : ∀ (z0 : MS) (z1 : Int32), P z0 z1 → Q z0 z1) : w_X5_isFree N u a1 P → w_X5_isFree N u a1 Q := by
  unfold w_X5_isFree
  exact (mo_and id (mo_and (mo_imp (hh _ _)) (mo_imp (hh _ _))))
theorem mo_X5_isBad_49 {N : Nat} {u : MS} {x1 : Int32} {x2 : Int32} {P Q : MS → Int32 → Prop} (hh : ∀ (z0 : MS) (z1 : Int32), P z0 z1 → Q z0 z1) : w_X5_isBad_49 N P u x1 x2 → w_X5_isBad_49 N Q u x1 x2 := by
  unfold w_X5_isBad_49
  exact (mo_and (mo_imp (hh _ _)) (mo_imp (mo_and (mo_imp (mo_X5_isFree (fun u6 r5 => (mo_and (mo_imp (hh _ _)) (mo_imp (hh _ _)))))) (mo_imp (hh _ _)))))
theorem mo_X5_isBad_31 {N : Nat} {P Q : MS → Int32 → Prop} (hh : ∀ (z0 : MS) (z1 : Int32), P z0 z1 → Q z0 z1) : ∀ (n : Nat) (u : MS) (x1 : Int32) (x2 : Int32), w_X5_isBad_31 N P n u x1 x2 → w_X5_isBad_31 N Q n u x1 x2 := by
  intro n
  induction n with
  | zero => intro u x1 x2 h; exact absurd h (by rw [w_X5_isBad_31]; exact id)
  | succ n ih =>
    intro u x1 x2
    rw [w_X5_isBad_31, w_X5_isBad_31]
    exact (mo_and (mo_imp (mo_and (mo_imp (mo_X5_behind (fun u10 r9 => (ih _ _ _)))) (mo_imp (mo_X5_isBad_49 hh)))) (mo_imp (mo_X5_isBad_49 hh)))
theorem mo_X5_isBad {N : Nat} {u : MS} {a1 : Int32} {P Q : MS → Int32 → Prop} (hh : ∀ (z0 : MS) (z1 : Int32), P z0 z1 → Q z0 z1) : w_X5_isBad N u a1 P → w_X5_isBad N u a1 Q := by
  unfold w_X5_isBad
  exact (mo_and (mo_imp (mo_X5_isBad_31 hh _ _ _ _)) (mo_imp (mo_X5_in (fun r11 => (mo_and (mo_imp (hh _ _)) (mo_imp (hh _ _)))))))
theorem mo_X5_release_95 {N : Nat} {u : MS} {x2 : Int32} {x3 : Int32} {P Q : MS → Int32 → Prop} (hh : ∀ (z0 : MS) (z1 : Int32), P z0 z1 → Q z0 z1) : w_X5_release_95 N P u x2 x3 → w_X5_release_95 N Q u x2 x3 := by
  unfold w_X5_release_95
  exact (mo_X5_lend (fun u9 => (hh _ _)))
theorem mo_X5_release_46 {N : Nat} {u : MS} {x1 : Int32} {x2 : Int32} {x3 : Int32} {P Q : MS → Int32 → Prop} (hh : ∀ (z0 : MS) (z1 : Int32), P z0 z1 → Q z0 z1) : w_X5_release_46 N P u x1 x2 x3 → w_X5_release_46 N Q u x1 x2 x3 := by
  unfold w_X5_release_46
  exact (mo_and id (mo_and (mo_imp (mo_and id (mo_X5_leave (fun u12 => (mo_X5_release_95 hh))))) (mo_imp (mo_X5_release_95 hh))))
theorem mo_X5_release {N : Nat} {u : MS} {a1 : Int32} {P Q : MS → Int32 → Prop} (hh : ∀ (z0 : MS) (z1 : Int32), P z0 z1 → Q z0 z1) : w_X5_release N u a1 P → w_X5_release N u a1 Q := by
  unfold w_X5_release
  exact (mo_X5_words (fun u2 r1 => (mo_X5_behind (fun u4 r3 => (mo_and (mo_imp (mo_X5_isFree (fun u14 r13 => (mo_and (mo_imp (mo_X5_release_46 hh)) (mo_imp (mo_X5_leave (fun u17 => (mo_X5_words (fun u19 r18 => (mo_X5_release_46 hh)))))))))) (mo_imp (mo_X5_release_46 hh)))))))
theorem mo_X5_free {N : Nat} {u : MS} {a1 : Int32} {P Q : MS → Int32 → Prop} (hh : ∀ (z0 : MS) (z1 : Int32), P z0 z1 → Q z0 z1) : w_X5_free N u a1 P → w_X5_free N u a1 Q := by
  unfold w_X5_free
  exact (mo_X5_isBad (fun u2 r1 => (mo_and (mo_imp (mo_and (mo_imp (mo_let (fun u5 => (mo_X5_release (fun u7 r6 => (hh _ _)))))) (mo_imp (hh _ _)))) (mo_imp (hh _ _)))))
theorem mo_X5_moved_52 {N : Nat} {P Q : MS → Int32 → Prop} (hh : ∀ (z0 : MS) (z1 : Int32), P z0 z1 → Q z0 z1) : ∀ (n : Nat) (u : MS) (x1 : Int32) (x2 : Int32) (x4 : Int32) (x5 : Int32), w_X5_moved_52 N P n u x1 x2 x4 x5 → w_X5_moved_52 N Q n u x1 x2 x4 x5 := by
  intro n
  induction n with
  | zero => intro u x1 x2 x4 x5 h; exact absurd h (by rw [w_X5_moved_52]; exact id)
  | succ n ih =>
    intro u x1 x2 x4 x5
    rw [w_X5_moved_52, w_X5_moved_52]
    exact (mo_and (mo_imp (mo_and id (mo_and id (mo_let (fun u16 => (ih _ _ _ _ _)))))) (mo_imp (mo_X5_release (fun u13 r12 => (hh _ _)))))
theorem mo_X5_moved {N : Nat} {u : MS} {a1 : Int32} {a2 : Int32} {a3 : Int32} {P Q : MS → Int32 → Prop} (hh : ∀ (z0 : MS) (z1 : Int32), P z0 z1 → Q z0 z1) : w_X5_moved N u a1 a2 a3 P → w_X5_moved N u a1 a2 a3 Q := by
  unfold w_X5_moved
  exact (mo_X5_lookFor (fun u2 r1 => (mo_and (mo_imp (mo_let (fun u17 => (hh _ _)))) (mo_imp (mo_let (fun u4 => (mo_X5_leave (fun u6 => (mo_X5_words (fun u8 r7 => (mo_X5_take (fun u10 => (mo_X5_moved_52 hh _ _ _ _ _ _)))))))))))))
theorem mo_X5_resize_157 {N : Nat} {u : MS} {x1 : Int32} {x3 : Int32} {x5 : Int64} {x9 : Int32} {P Q : MS → Int32 → Prop} (hh : ∀ (z0 : MS) (z1 : Int32), P z0 z1 → Q z0 z1) : w_X5_resize_157 N P u x1 x3 x5 x9 → w_X5_resize_157 N Q u x1 x3 x5 x9 := by
  unfold w_X5_resize_157
  exact (mo_X5_take (fun u22 => (hh _ _)))
theorem mo_X5_resize_146 {N : Nat} {u : MS} {x1 : Int32} {x3 : Int32} {x5 : Int64} {x7 : Int32} {x8 : Int32} {x9 : Int32} {P Q : MS → Int32 → Prop} (hh : ∀ (z0 : MS) (z1 : Int32), P z0 z1 → Q z0 z1) : w_X5_resize_146 N P u x1 x3 x5 x7 x8 x9 → w_X5_resize_146 N Q u x1 x3 x5 x7 x8 x9 := by
  unfold w_X5_resize_146
  exact (mo_and (mo_imp (mo_X5_resize_157 hh)) (mo_imp (mo_X5_leave (fun u24 => (mo_X5_resize_157 hh)))))
theorem mo_X5_resize_108 {N : Nat} {u : MS} {x1 : Int32} {x3 : Int32} {x4 : Int32} {x5 : Int64} {x7 : Int32} {x8 : Int32} {y0 : Int32} {P Q : MS → Int32 → Prop} (hh : ∀ (z0 : MS) (z1 : Int32), P z0 z1 → Q z0 z1) : w_X5_resize_108 N P u x1 x3 x4 x5 x7 x8 y0 → w_X5_resize_108 N Q u x1 x3 x4 x5 x7 x8 y0 := by
  unfold w_X5_resize_108
  exact (mo_and (mo_imp (mo_X5_moved (fun u27 r26 => (hh _ _)))) (mo_imp (mo_let (fun u18 => (mo_and (mo_imp (mo_X5_resize_146 hh)) (mo_imp (mo_and (mo_imp (hh _ _)) (mo_imp (mo_X5_resize_146 hh)))))))))
theorem mo_X5_resize_85 {N : Nat} {u : MS} {x1 : Int32} {x3 : Int32} {x4 : Int32} {x5 : Int64} {x7 : Int32} {y0 : Int32} {P Q : MS → Int32 → Prop} (hh : ∀ (z0 : MS) (z1 : Int32), P z0 z1 → Q z0 z1) : w_X5_resize_85 N P u x1 x3 x4 x5 x7 y0 → w_X5_resize_85 N Q u x1 x3 x4 x5 x7 y0 := by
  unfold w_X5_resize_85
  exact (mo_and (mo_imp (mo_X5_resize_108 hh)) (mo_imp (mo_X5_words (fun u29 r28 => (mo_X5_resize_108 hh)))))
theorem mo_X5_resize_84 {N : Nat} {u : MS} {x1 : Int32} {x3 : Int32} {x4 : Int32} {x5 : Int64} {x7 : Int32} {P Q : MS → Int32 → Prop} (hh : ∀ (z0 : MS) (z1 : Int32), P z0 z1 → Q z0 z1) : w_X5_resize_84 N P u x1 x3 x4 x5 x7 → w_X5_resize_84 N Q u x1 x3 x4 x5 x7 := by
  unfold w_X5_resize_84
  exact (mo_X5_resize_85 hh)
theorem mo_X5_resize {N : Nat} {u : MS} {a1 : Int32} {a2 : Int32} {P Q : MS → Int32 → Prop} (hh : ∀ (z0 : MS) (z1 : Int32), P z0 z1 → Q z0 z1) : w_X5_resize N u a1 a2 P → w_X5_resize N u a1 a2 Q := by
  unfold w_X5_resize
  exact (mo_X5_isBad (fun u2 r1 => (mo_and (mo_imp (mo_X5_in (fun r4 => (mo_and (mo_imp (hh _ _)) (mo_imp (mo_and (mo_imp (mo_X5_least (fun r8 => (mo_X5_words (fun u11 r10 => (mo_and id (mo_X5_behind (fun u14 r13 => (mo_and (mo_imp (mo_X5_isFree (fun u31 r30 => (mo_and (mo_imp (mo_X5_resize_84 hh)) (mo_imp (mo_X5_resize_85 hh)))))) (mo_imp (mo_X5_resize_84 hh))))))))))) (mo_imp (hh _ _)))))))) (mo_imp (hh _ _)))))
theorem mo_X5_grow_109 {N : Nat} {u : MS} {x3 : Int32} {y0 : Int64} {y1 : Int64} {y2 : Int32} {P Q : MS → Int32 → Prop} (hh : ∀ (z0 : MS) (z1 : Int32), P z0 z1 → Q z0 z1) : w_X5_grow_109 N P u x3 y0 y1 y2 → w_X5_grow_109 N Q u x3 y0 y1 y2 := by
  unfold w_X5_grow_109
  exact (mo_and id (mo_let (fun u15 => (mo_X5_release (fun u17 r16 => (hh _ _))))))
theorem mo_X5_grow_44 {N : Nat} {P Q : MS → Int32 → Prop} (hh : ∀ (z0 : MS) (z1 : Int32), P z0 z1 → Q z0 z1) : ∀ (n : Nat) (u : MS) (x1 : Int32) (x2 : Int32), w_X5_grow_44 N P n u x1 x2 → w_X5_grow_44 N Q n u x1 x2 := by
  intro n
  induction n with
  | zero => intro u x1 x2 h; exact absurd h (by rw [w_X5_grow_44]; exact id)
  | succ n ih =>
    intro u x1 x2
    rw [w_X5_grow_44, w_X5_grow_44]
    exact (mo_X5_behind (fun u7 r6 => (mo_and (mo_imp (mo_X5_behind (fun u19 r18 => (ih _ _ _)))) (mo_imp (mo_let (fun u9 => (mo_let (fun u10 => (mo_X5_isFree (fun u12 r11 => (mo_and (mo_imp (mo_X5_grow_109 hh)) (mo_imp (mo_X5_grow_109 hh)))))))))))))
theorem mo_X5_grow {N : Nat} {u : MS} {a1 : Int32} {P Q : MS → Int32 → Prop} (hh : ∀ (z0 : MS) (z1 : Int32), P z0 z1 → Q z0 z1) : w_X5_grow N u a1 P → w_X5_grow N u a1 Q := by
  unfold w_X5_grow
  exact (mo_X5_in (fun r1 => (mo_and (mo_imp (hh _ _)) (mo_imp (mo_and (mo_imp (mo_and (mo_imp (hh _ _)) (mo_imp (mo_X5_grow_44 hh _ _ _ _)))) (mo_imp (hh _ _)))))))
theorem mo_X5_size {N : Nat} {u : MS} {a1 : Int32} {P Q : MS → Int32 → Prop} (hh : ∀ (z0 : MS) (z1 : Int32), P z0 z1 → Q z0 z1) : w_X5_size N u a1 P → w_X5_size N u a1 Q := by
  unfold w_X5_size
  exact (mo_X5_isBad (fun u2 r1 => (mo_and (mo_imp (mo_and (mo_imp (mo_X5_words (fun u6 r5 => (hh _ _)))) (mo_imp (hh _ _)))) (mo_imp (hh _ _)))))
theorem mo_X5_put {N : Nat} {u : MS} {a1 : Int32} {a2 : Int32} {a3 : Int64} {P Q : MS → Int32 → Prop} (hh : ∀ (z0 : MS) (z1 : Int32), P z0 z1 → Q z0 z1) : w_X5_put N u a1 a2 a3 P → w_X5_put N u a1 a2 a3 Q := by
  unfold w_X5_put
  exact (mo_X5_isBad (fun u2 r1 => (mo_and (mo_imp (mo_and (mo_imp (mo_X5_words (fun u6 r5 => (mo_X5_in (fun r7 => (mo_and (mo_imp (hh _ _)) (mo_imp (mo_and id (mo_let (fun u11 => (hh _ _))))))))))) (mo_imp (hh _ _)))) (mo_imp (hh _ _)))))
theorem mo_X5_word {N : Nat} {u : MS} {a1 : Int32} {P Q : MS → Int64 → Prop} (hh : ∀ (z0 : MS) (z1 : Int64), P z0 z1 → Q z0 z1) : w_X5_word N u a1 P → w_X5_word N u a1 Q := by
  unfold w_X5_word
  exact (mo_X5_in (fun r1 => (mo_and (mo_imp (hh _ _)) (mo_imp (mo_and id (hh _ _))))))
theorem mo_X5_spoil {N : Nat} {u : MS} {a1 : Int32} {a2 : Int64} {P Q : MS → Int32 → Prop} (hh : ∀ (z0 : MS) (z1 : Int32), P z0 z1 → Q z0 z1) : w_X5_spoil N u a1 a2 P → w_X5_spoil N u a1 a2 Q := by
  unfold w_X5_spoil
  exact (mo_X5_in (fun r1 => (mo_and (mo_imp (hh _ _)) (mo_imp (mo_and id (mo_let (fun u5 => (mo_let (fun u6 => (hh _ _))))))))))
theorem mo_X5_wrongIn_96 {N : Nat} {u : MS} {x1 : Int32} {x5 : Int64} {x7 : Int32} {P Q : MS → Int32 → Prop} (hh : ∀ (z0 : MS) (z1 : Int32), P z0 z1 → Q z0 z1) : w_X5_wrongIn_96 N P u x1 x5 x7 → w_X5_wrongIn_96 N Q u x1 x5 x7 := by
  unfold w_X5_wrongIn_96
  exact (mo_and (mo_imp (hh _ _)) (mo_imp (mo_and id (mo_and (mo_imp (hh _ _)) (mo_imp (hh _ _))))))
theorem mo_X5_wrongIn_77 {N : Nat} {u : MS} {x1 : Int32} {x2 : Int32} {x5 : Int64} {x7 : Int32} {y0 : Int32} {P Q : MS → Int32 → Prop} (hh : ∀ (z0 : MS) (z1 : Int32), P z0 z1 → Q z0 z1) : w_X5_wrongIn_77 N P u x1 x2 x5 x7 y0 → w_X5_wrongIn_77 N Q u x1 x2 x5 x7 y0 := by
  unfold w_X5_wrongIn_77
  exact (mo_and (mo_imp (mo_and (mo_imp (mo_X5_wrongIn_96 hh)) (mo_imp (mo_and (mo_imp (mo_X5_wrongIn_96 hh)) (mo_imp (hh _ _)))))) (mo_imp (hh _ _)))
theorem mo_X5_wrongIn_25 {N : Nat} {u : MS} {x1 : Int32} {x2 : Int32} {x3 : Int64} {x5 : Int64} {y0 : Int32} {P Q : MS → Int32 → Prop} (hh : ∀ (z0 : MS) (z1 : Int32), P z0 z1 → Q z0 z1) : w_X5_wrongIn_25 N P u x1 x2 x3 x5 y0 → w_X5_wrongIn_25 N Q u x1 x2 x3 x5 y0 := by
  unfold w_X5_wrongIn_25
  exact (mo_and (mo_imp (hh _ _)) (mo_imp (mo_and (mo_imp (hh _ _)) (mo_imp (mo_and (mo_imp (hh _ _)) (mo_imp (mo_and (mo_imp (mo_X5_wrongIn_77 hh)) (mo_imp (mo_X5_wrongIn_77 hh)))))))))
theorem mo_X5_wrongIn {N : Nat} {u : MS} {a1 : Int32} {a2 : Int32} {P Q : MS → Int32 → Prop} (hh : ∀ (z0 : MS) (z1 : Int32), P z0 z1 → Q z0 z1) : w_X5_wrongIn N u a1 a2 P → w_X5_wrongIn N u a1 a2 Q := by
  unfold w_X5_wrongIn
  exact (mo_and id (mo_and (mo_imp (mo_X5_wrongIn_25 hh)) (mo_imp (mo_X5_wrongIn_25 hh))))
theorem mo_X5_wrong {N : Nat} {u : MS} {a1 : Int32} {a2 : Int32} {P Q : MS → Int32 → Prop} (hh : ∀ (z0 : MS) (z1 : Int32), P z0 z1 → Q z0 z1) : w_X5_wrong N u a1 a2 P → w_X5_wrong N u a1 a2 Q := by
  unfold w_X5_wrong
  exact (mo_let (fun u1 => (hh _ _)))
theorem mo_X5_checkBlocks_33 {N : Nat} {P Q : MS → Int32 → Prop} (hh : ∀ (z0 : MS) (z1 : Int32), P z0 z1 → Q z0 z1) : ∀ (n : Nat) (u : MS) (x1 : Int32) (x2 : Int32), w_X5_checkBlocks_33 N P n u x1 x2 → w_X5_checkBlocks_33 N Q n u x1 x2 := by
  intro n
  induction n with
  | zero => intro u x1 x2 h; exact absurd h (by rw [w_X5_checkBlocks_33]; exact id)
  | succ n ih =>
    intro u x1 x2
    rw [w_X5_checkBlocks_33, w_X5_checkBlocks_33]
    exact (mo_and (mo_imp (mo_X5_wrongIn (fun u4 r3 => (mo_and (mo_imp (mo_X5_wrong (fun u15 r14 => (hh _ _)))) (mo_imp (mo_and id (mo_and (mo_imp (mo_and id (mo_let (fun u12 => (mo_and id (ih _ _ _)))))) (mo_imp (mo_and id (mo_let (fun u9 => (mo_and id (ih _ _ _))))))))))))) (mo_imp (hh _ _)))
theorem mo_X5_checkBlocks_2 {N : Nat} {P Q : MS → Int32 → Prop} (hh : ∀ (z0 : MS) (z1 : Int32), P z0 z1 → Q z0 z1) : ∀ (n : Nat) (u : MS) (x1 : Int32), w_X5_checkBlocks_2 N P n u x1 → w_X5_checkBlocks_2 N Q n u x1 := by
  intro n
  induction n with
  | zero => intro u x1 h; exact absurd h (by rw [w_X5_checkBlocks_2]; exact id)
  | succ n ih =>
    intro u x1
    rw [w_X5_checkBlocks_2, w_X5_checkBlocks_2]
    exact (mo_and (mo_imp (mo_X5_checkBlocks_33 hh _ _ _ _)) (mo_imp (mo_and id (mo_let (fun u17 => (mo_and id (mo_let (fun u19 => (ih _ _)))))))))
theorem mo_X5_checkBlocks {N : Nat} {u : MS} {P Q : MS → Int32 → Prop} (hh : ∀ (z0 : MS) (z1 : Int32), P z0 z1 → Q z0 z1) : w_X5_checkBlocks N u P → w_X5_checkBlocks N u Q := by
  unfold w_X5_checkBlocks
  exact (mo_X5_checkBlocks_2 hh _ _ _)
theorem mo_X5_checkList_91 {N : Nat} {u : MS} {x4 : Int32} {P Q : MS → Int32 → Prop} (hh : ∀ (z0 : MS) (z1 : Int32), P z0 z1 → Q z0 z1) : w_X5_checkList_91 N P u x4 → w_X5_checkList_91 N Q u x4 := by
  unfold w_X5_checkList_91
  exact (mo_and (mo_imp (mo_X5_wrong (fun u10 r9 => (hh _ _)))) (mo_imp (mo_X5_wrong (fun u8 r7 => (hh _ _)))))
theorem mo_X5_checkList_11 {N : Nat} {P Q : MS → Int32 → Prop} (hh : ∀ (z0 : MS) (z1 : Int32), P z0 z1 → Q z0 z1) : ∀ (n : Nat) (u : MS) (x1 : Int32) (x2 : Int64) (x4 : Int32), w_X5_checkList_11 N P n u x1 x2 x4 → w_X5_checkList_11 N Q n u x1 x2 x4 := by
  intro n
  induction n with
  | zero => intro u x1 x2 x4 h; exact absurd h (by rw [w_X5_checkList_11]; exact id)
  | succ n ih =>
    intro u x1 x2 x4
    rw [w_X5_checkList_11, w_X5_checkList_11]
    exact (mo_and (mo_imp (hh _ _)) (mo_imp (mo_X5_in (fun r3 => (mo_and (mo_imp (mo_X5_checkList_91 hh)) (mo_imp (mo_and id (mo_and (mo_imp (mo_X5_checkList_91 hh)) (mo_imp (mo_and id (mo_and (mo_imp (mo_X5_words (fun u16 r15 => (mo_X5_classIn (fun r17 => (mo_and (mo_imp (mo_and id (mo_and (mo_imp (mo_and id (mo_let (fun u23 => (mo_and id (ih _ _ _ _)))))) (mo_imp (mo_X5_checkList_91 hh))))) (mo_imp (mo_X5_checkList_91 hh)))))))) (mo_imp (mo_X5_checkList_91 hh)))))))))))))
theorem mo_X5_checkList {N : Nat} {u : MS} {a1 : Int32} {P Q : MS → Int32 → Prop} (hh : ∀ (z0 : MS) (z1 : Int32), P z0 z1 → Q z0 z1) : w_X5_checkList N u a1 P → w_X5_checkList N u a1 Q := by
  unfold w_X5_checkList
  exact (mo_and id (mo_X5_checkList_11 hh _ _ _ _ _))
theorem mo_X5_check_82 {N : Nat} {u : MS} {x1 : Int32} {P Q : MS → Int32 → Prop} (hh : ∀ (z0 : MS) (z1 : Int32), P z0 z1 → Q z0 z1) : w_X5_check_82 N P u x1 → w_X5_check_82 N Q u x1 := by
  unfold w_X5_check_82
  exact (mo_and (mo_imp (mo_let (fun u7 => (hh _ _)))) (mo_imp (mo_and (mo_imp (mo_let (fun u9 => (hh _ _)))) (mo_imp (mo_let (fun u10 => (hh _ _)))))))
theorem mo_X5_check_36 {N : Nat} {P Q : MS → Int32 → Prop} (hh : ∀ (z0 : MS) (z1 : Int32), P z0 z1 → Q z0 z1) : ∀ (n : Nat) (u : MS) (x1 : Int32) (x2 : Int32), w_X5_check_36 N P n u x1 x2 → w_X5_check_36 N Q n u x1 x2 := by
  intro n
  induction n with
  | zero => intro u x1 x2 h; exact absurd h (by rw [w_X5_check_36]; exact id)
  | succ n ih =>
    intro u x1 x2
    rw [w_X5_check_36, w_X5_check_36]
    exact (mo_and (mo_imp (mo_X5_check_82 hh)) (mo_imp (mo_and (mo_imp (mo_and id (mo_and (mo_imp (ih _ _ _)) (mo_imp (mo_and id (mo_and (mo_imp (mo_X5_wrong (fun u17 r16 => (ih _ _ _)))) (mo_imp (ih _ _ _)))))))) (mo_imp (mo_X5_check_82 hh)))))
theorem mo_X5_check_34 {N : Nat} {u : MS} {x1 : Int32} {P Q : MS → Int32 → Prop} (hh : ∀ (z0 : MS) (z1 : Int32), P z0 z1 → Q z0 z1) : w_X5_check_34 N P u x1 → w_X5_check_34 N Q u x1 := by
  unfold w_X5_check_34
  exact (mo_X5_check_36 hh _ _ _ _)
theorem mo_X5_check_12 {N : Nat} {P Q : MS → Int32 → Prop} (hh : ∀ (z0 : MS) (z1 : Int32), P z0 z1 → Q z0 z1) : ∀ (n : Nat) (u : MS) (x1 : Int32) (x2 : Int32), w_X5_check_12 N P n u x1 x2 → w_X5_check_12 N Q n u x1 x2 := by
  intro n
  induction n with
  | zero => intro u x1 x2 h; exact absurd h (by rw [w_X5_check_12]; exact id)
  | succ n ih =>
    intro u x1 x2
    rw [w_X5_check_12, w_X5_check_12]
    exact (mo_and (mo_imp (mo_and (mo_imp (mo_X5_checkList (fun u20 r19 => (ih _ _ _)))) (mo_imp (mo_X5_check_34 hh)))) (mo_imp (mo_X5_check_34 hh)))
theorem mo_X5_check {N : Nat} {u : MS} {P Q : MS → Int32 → Prop} (hh : ∀ (z0 : MS) (z1 : Int32), P z0 z1 → Q z0 z1) : w_X5_check N u P → w_X5_check N u Q := by
  unfold w_X5_check
  exact (mo_let (fun u1 => (mo_X5_checkBlocks (fun u3 r2 => (mo_X5_check_12 hh _ _ _ _)))))
theorem mo_X5_where {N : Nat} {u : MS} {P Q : MS → Int32 → Prop} (hh : ∀ (z0 : MS) (z1 : Int32), P z0 z1 → Q z0 z1) : w_X5_where N u P → w_X5_where N u Q := by
  unfold w_X5_where
  exact (hh _ _)
theorem mo_X5_listed_39 {N : Nat} {P Q : MS → Int32 → Prop} (hh : ∀ (z0 : MS) (z1 : Int32), P z0 z1 → Q z0 z1) : ∀ (n : Nat) (u : MS) (x2 : Int32) (x3 : Int32) (x4 : Int32), w_X5_listed_39 N P n u x2 x3 x4 → w_X5_listed_39 N Q n u x2 x3 x4 := by
  intro n
  induction n with
  | zero => intro u x2 x3 x4 h; exact absurd h (by rw [w_X5_listed_39]; exact id)
  | succ n ih =>
    intro u x2 x3 x4
    rw [w_X5_listed_39, w_X5_listed_39]
    exact (mo_and (mo_imp (mo_and (mo_imp (mo_and (mo_imp (hh _ _)) (mo_imp (hh _ _)))) (mo_imp (mo_and id (ih _ _ _ _))))) (mo_imp (mo_and (mo_imp (hh _ _)) (mo_imp (hh _ _)))))
theorem mo_X5_listed {N : Nat} {u : MS} {a1 : Int32} {a2 : Int32} {P Q : MS → Int32 → Prop} (hh : ∀ (z0 : MS) (z1 : Int32), P z0 z1 → Q z0 z1) : w_X5_listed N u a1 a2 P → w_X5_listed N u a1 a2 Q := by
  unfold w_X5_listed
  exact (mo_X5_in (fun r1 => (mo_and (mo_imp (hh _ _)) (mo_imp (mo_and (mo_imp (hh _ _)) (mo_imp (mo_and (mo_imp (mo_and id (mo_X5_listed_39 hh _ _ _ _ _))) (mo_imp (hh _ _)))))))))
theorem mo_X5_bitsIn_4 {N : Nat} {P Q : MS → Int32 → Prop} (hh : ∀ (z0 : MS) (z1 : Int32), P z0 z1 → Q z0 z1) : ∀ (n : Nat) (u : MS) (x1 : Int32) (x2 : Int32) (x3 : Int32), w_X5_bitsIn_4 N P n u x1 x2 x3 → w_X5_bitsIn_4 N Q n u x1 x2 x3 := by
  intro n
  induction n with
  | zero => intro u x1 x2 x3 h; exact absurd h (by rw [w_X5_bitsIn_4]; exact id)
  | succ n ih =>
    intro u x1 x2 x3
    rw [w_X5_bitsIn_4, w_X5_bitsIn_4]
    exact (mo_and (mo_imp (mo_and id (mo_and (mo_imp (ih _ _ _ _)) (mo_imp (ih _ _ _ _))))) (mo_imp (hh _ _)))
theorem mo_X5_bitsIn {N : Nat} {u : MS} {a1 : Int32} {P Q : MS → Int32 → Prop} (hh : ∀ (z0 : MS) (z1 : Int32), P z0 z1 → Q z0 z1) : w_X5_bitsIn N u a1 P → w_X5_bitsIn N u a1 Q := by
  unfold w_X5_bitsIn
  exact (mo_X5_bitsIn_4 hh _ _ _ _ _)
theorem mo_X5_bits_31 {N : Nat} {P Q : MS → Int32 → Prop} (hh : ∀ (z0 : MS) (z1 : Int32), P z0 z1 → Q z0 z1) : ∀ (n : Nat) (u : MS) (x2 : Int32) (x3 : Int32), w_X5_bits_31 N P n u x2 x3 → w_X5_bits_31 N Q n u x2 x3 := by
  intro n
  induction n with
  | zero => intro u x2 x3 h; exact absurd h (by rw [w_X5_bits_31]; exact id)
  | succ n ih =>
    intro u x2 x3
    rw [w_X5_bits_31, w_X5_bits_31]
    exact (mo_and (mo_imp (mo_X5_bitsIn (fun u7 r6 => (mo_and (mo_imp (ih _ _ _)) (mo_imp (ih _ _ _)))))) (mo_imp (hh _ _)))
theorem mo_X5_bits {N : Nat} {u : MS} {a1 : Int32} {P Q : MS → Int32 → Prop} (hh : ∀ (z0 : MS) (z1 : Int32), P z0 z1 → Q z0 z1) : w_X5_bits N u a1 P → w_X5_bits N u a1 Q := by
  unfold w_X5_bits
  exact (mo_X5_in (fun r1 => (mo_and (mo_imp (hh _ _)) (mo_imp (mo_and (mo_imp (mo_X5_bitsIn (fun u10 r9 => (hh _ _)))) (mo_imp (mo_X5_bits_31 hh _ _ _ _)))))))
theorem mo_X5_block_56 {N : Nat} {u : MS} {x2 : Int32} {x3 : Int32} {P Q : MS → Int32 → Prop} (hh : ∀ (z0 : MS) (z1 : Int32), P z0 z1 → Q z0 z1) : w_X5_block_56 N P u x2 x3 → w_X5_block_56 N Q u x2 x3 := by
  unfold w_X5_block_56
  exact (mo_and (mo_imp (hh _ _)) (mo_imp (mo_and (mo_imp (hh _ _)) (mo_imp (mo_and (mo_imp (mo_X5_words (fun u14 r13 => (hh _ _)))) (mo_imp (mo_X5_isFree (fun u11 r10 => (mo_and (mo_imp (hh _ _)) (mo_imp (hh _ _)))))))))))
theorem mo_X5_block_34 {N : Nat} {P Q : MS → Int32 → Prop} (hh : ∀ (z0 : MS) (z1 : Int32), P z0 z1 → Q z0 z1) : ∀ (n : Nat) (u : MS) (x1 : Int32) (x2 : Int32) (x3 : Int32) (x4 : Int32), w_X5_block_34 N P n u x1 x2 x3 x4 → w_X5_block_34 N Q n u x1 x2 x3 x4 := by
  intro n
  induction n with
  | zero => intro u x1 x2 x3 x4 h; exact absurd h (by rw [w_X5_block_34]; exact id)
  | succ n ih =>
    intro u x1 x2 x3 x4
    rw [w_X5_block_34, w_X5_block_34]
    exact (mo_and (mo_imp (mo_and (mo_imp (mo_X5_behind (fun u17 r16 => (ih _ _ _ _ _)))) (mo_imp (mo_X5_block_56 hh)))) (mo_imp (mo_X5_block_56 hh)))
theorem mo_X5_block {N : Nat} {u : MS} {a1 : Int32} {a2 : Int32} {P Q : MS → Int32 → Prop} (hh : ∀ (z0 : MS) (z1 : Int32), P z0 z1 → Q z0 z1) : w_X5_block N u a1 a2 P → w_X5_block N u a1 a2 Q := by
  unfold w_X5_block
  exact (mo_X5_in (fun r1 => (mo_and (mo_imp (hh _ _)) (mo_imp (mo_and (mo_imp (hh _ _)) (mo_imp (mo_and (mo_imp (mo_X5_block_34 hh _ _ _ _ _ _)) (mo_imp (hh _ _)))))))))
theorem mo_X5_found {N : Nat} {u : MS} {a1 : Int32} {P Q : MS → Int32 → Prop} (hh : ∀ (z0 : MS) (z1 : Int32), P z0 z1 → Q z0 z1) : w_X5_found N u a1 P → w_X5_found N u a1 Q := by
  unfold w_X5_found
  exact (mo_X5_in (fun r1 => (mo_and (mo_imp (hh _ _)) (mo_imp (mo_and (mo_imp (mo_X5_lookFor (fun u6 r5 => (mo_and (mo_imp (hh _ _)) (mo_imp (hh _ _)))))) (mo_imp (hh _ _)))))))
theorem mo_X5_counted_4 {N : Nat} {P Q : MS → Int32 → Prop} (hh : ∀ (z0 : MS) (z1 : Int32), P z0 z1 → Q z0 z1) : ∀ (n : Nat) (u : MS) (x1 : Int32) (x2 : Int32) (x3 : Int32), w_X5_counted_4 N P n u x1 x2 x3 → w_X5_counted_4 N Q n u x1 x2 x3 := by
  intro n
  induction n with
  | zero => intro u x1 x2 x3 h; exact absurd h (by rw [w_X5_counted_4]; exact id)
  | succ n ih =>
    intro u x1 x2 x3
    rw [w_X5_counted_4, w_X5_counted_4]
    exact (mo_and (mo_imp (mo_X5_words (fun u3 r2 => (mo_and (mo_imp (mo_X5_isFree (fun u34 r33 => (mo_and (mo_imp (mo_X5_behind (fun u37 r36 => (ih _ _ _ _)))) (mo_imp (mo_and (mo_imp (mo_X5_behind (fun u42 r41 => (ih _ _ _ _)))) (mo_imp (mo_X5_behind (fun u40 r39 => (ih _ _ _ _)))))))))) (mo_imp (mo_X5_isFree (fun u6 r5 => (mo_and (mo_imp (mo_and (mo_imp (mo_and (mo_imp (mo_X5_behind (fun u15 r14 => (ih _ _ _ _)))) (mo_imp (mo_X5_behind (fun u13 r12 => (ih _ _ _ _)))))) (mo_imp (mo_X5_behind (fun u10 r9 => (ih _ _ _ _)))))) (mo_imp (mo_and (mo_imp (mo_and (mo_imp (mo_and (mo_imp (mo_X5_behind (fun u32 r31 => (ih _ _ _ _)))) (mo_imp (mo_X5_behind (fun u30 r29 => (ih _ _ _ _)))))) (mo_imp (mo_X5_behind (fun u27 r26 => (ih _ _ _ _)))))) (mo_imp (mo_and (mo_imp (mo_and (mo_imp (mo_X5_behind (fun u24 r23 => (ih _ _ _ _)))) (mo_imp (mo_X5_behind (fun u22 r21 => (ih _ _ _ _)))))) (mo_imp (mo_X5_behind (fun u19 r18 => (ih _ _ _ _)))))))))))))))) (mo_imp (hh _ _)))
theorem mo_X5_counted {N : Nat} {u : MS} {a1 : Int32} {P Q : MS → Int32 → Prop} (hh : ∀ (z0 : MS) (z1 : Int32), P z0 z1 → Q z0 z1) : w_X5_counted N u a1 P → w_X5_counted N u a1 Q := by
  unfold w_X5_counted
  exact (mo_X5_counted_4 hh _ _ _ _ _)
theorem mo_X5_count {N : Nat} {u : MS} {a1 : Int32} {P Q : MS → Int32 → Prop} (hh : ∀ (z0 : MS) (z1 : Int32), P z0 z1 → Q z0 z1) : w_X5_count N u a1 P → w_X5_count N u a1 Q := by
  unfold w_X5_count
  exact (mo_X5_in (fun r1 => (mo_and (mo_imp (hh _ _)) (mo_imp (mo_and (mo_imp (mo_and (mo_imp (hh _ _)) (mo_imp (mo_and (mo_imp (hh _ _)) (mo_imp (mo_and (mo_imp (mo_and (mo_imp (hh _ _)) (mo_imp (hh _ _)))) (mo_imp (hh _ _)))))))) (mo_imp (mo_and (mo_imp (mo_X5_counted (fun u7 r6 => (hh _ _)))) (mo_imp (hh _ _)))))))))
