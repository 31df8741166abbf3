/-! ===== the base: one judgement for all walks of methods that make nothing ===== -/
/-- the words on nest mates, which a contract carries -/
def zN (U : State) : Prop :=
  va_Nw (.fieldLinkNest RX0 44 RX3 "end" "I" RX4) U ∧ va_Nw (.fieldLinkNest RX4 98 RX3 "end" "I" RX4) U ∧ va_Nw (.fieldLinkNest RX4 149 RX2 "moves" "I" RX4) U ∧ va_Nw (.fieldLinkNest RX4 126 RX0 "wrongAt" "I" RX4) U ∧ va_Nw (.methodLinkNest RX4 11 yX3_init RX4) U ∧ va_Nw (.methodLinkNest RX1 15 yX4_bodyFor RX4) U
theorem zN.warm {s U : State} (hW : s.WarmedH U.vm) (h : zN s) : zN U := ⟨va_Nw.warmF hW h.1, va_Nw.warmF hW h.2.1, va_Nw.warmF hW h.2.2.1, va_Nw.warmF hW h.2.2.2.1, va_Nw.warmM hW h.2.2.2.2.1, va_Nw.warmM hW h.2.2.2.2.2⟩
theorem zN.same {s U : State} (e : s.vm = U.vm) (h : zN s) : zN U := ⟨va_Nw.same rfl e h.1, va_Nw.same rfl e h.2.1, va_Nw.same rfl e h.2.2.1, va_Nw.same rfl e h.2.2.2.1, va_Nw.same rfl e h.2.2.2.2.1, va_Nw.same rfl e h.2.2.2.2.2⟩
abbrev zE : Type := Program × Launch × Env × Room × State × MethodId × Array Value × List Frame × Method × Code
abbrev zK : Type := va_G × ClassId × ClassId × ClassId
/-- the array classes: int, long, boolean -/
def zty (k : zK) : List (ClassId × FieldType) := [(k.2.1, .int), (k.2.2.1, .long), (k.2.2.2, .boolean)]
def zlet {α : Type} (v : α) (P : α → Prop) : Prop := P v
def zi {σ : Type} (P : σ → Int32 → Prop) : σ → Option Value → Prop := fun u r => ∃ v : Int32, r = some (.int v) ∧ P u v
def zl {σ : Type} (P : σ → Int64 → Prop) : σ → Option Value → Prop := fun u r => ∃ v : Int64, r = some (.long v) ∧ P u v
def zv {σ : Type} (P : σ → Prop) : σ → Option Value → Prop := fun u r => r = none ∧ P u
def zsi (P : Int32 → Prop) : Unit → Option Value → Prop := fun _ r => ∃ v : Int32, r = some (.int v) ∧ P v
def zw0 : Unit → va_W := fun _ => []
/-- what a contract's end says -/
def zQ {σ : Type} (κ : zK) (hs : List Nat) (ω : σ → va_W) (Φ : σ → Option Value → Prop) : Array Value → State → Outcome → State → Prop :=
  fun _ st oc t => (∃ (u : σ) (r : Option Value), oc = .returned r ∧ Φ u r ∧ va_P κ.1 vwCl (ω u) t.heap) ∧ va_F (fun q => q ∈ hs) st t
def zP (κ : zK) (As : List Value) (w : va_W) : Array Value → State → Prop := va_Pc As (fun U => va_P κ.1 vwCl w U.heap ∧ va_K κ.1 vwCl (zty κ) U ∧ zN U)
/-- a contract: called with As in the world ω u, the method returns, and Φ holds of the new world and the answer -/
def zM {σ : Type} (l : Launch) (κ : zK) (hs : List Nat) (ω : σ → va_W) (y : MethodName) (bytes : ByteArray) (maxL : Nat) (ret : Option FieldType) (rm : Room) (As : List Value) (u : σ) (Φ : σ → Option Value → Prop) : Prop :=
  Met l y (.code y bytes maxL ret :: zT) rm (zP κ As (ω u)) (zQ κ hs ω Φ) 0 0 (fun q => q ∈ hs)
/-- what is fixed in a walk -/
def zC {σ : Type} (g : zE) (κ : zK) (hs : List Nat) (ω : σ → va_W) (cc : ByteArray) (nL : Nat) (own : String) (ret : Option FieldType) (rm : Room) : Prop :=
  CallFix g.1 g.2.2.2.2.2.1 g.2.2.2.2.2.2.2.2.2 cc nL g.2.2.2.2.1 g.2.2.2.2.2.2.1 zT own ∧ g.2.2.2.2.2.2.2.2.1.sig.returnType = ret ∧ g.2.2.2.2.2.2.2.2.1.locks = false ∧ va_K κ.1 vwCl (zty κ) g.2.2.2.2.1 ∧ zN g.2.2.2.2.1 ∧ g.2.2.2.1 = rm ∧ ∀ u, va_D (fun q => q ∈ hs) (ω u)
def zJ {σ : Type} (g : zE) (κ : zK) (hs : List Nat) (ω : σ → va_W) (Φ : σ → Option Value → Prop) (nL : Nat) (u : σ) (lv : List (Nat × Value)) (pc : Nat) (st : List Value) : Prop :=
  ∀ (H : Heap) (locs : List Loc) (ls : Array Slot), va_P κ.1 vwCl (ω u) H → va_S (fun q => q ∈ hs) g.2.2.2.2.1.heap H locs → lv_has ls nL lv →
    W g.1 g.2.1 g.2.2.1 g.2.2.2.1 g.2.2.2.2.1 g.2.2.2.2.2.1 g.2.2.2.2.2.2.1 g.2.2.2.2.2.2.2.1 g.2.2.2.2.2.2.2.2.1 g.2.2.2.2.2.2.2.2.2 H locs 0 0
      (MQ g.2.2.2.2.2.2.2.1 (zQ κ hs ω Φ) g.2.2.2.2.2.2.1 g.2.2.2.2.1 0 0 (fun q => q ∈ hs)) (F0 g.2.2.2.2.2.1 pc ls st)
theorem zP_blind (κ : zK) (As : List Value) (w : va_W) : FrameBlind (zP κ As w) := fun a U g mk q => ⟨q.1, q.2.1, va_K.moved (u := U) (U := U.calling g mk a) (Vm.Alike.refl U.vm) q.2.2.1, zN.same rfl q.2.2.2⟩
theorem z_met {σ : Type} {l : Launch} {κ : zK} {hs : List Nat} {ω : σ → va_W} {y : MethodName} {bytes : ByteArray} {maxL : Nat} {ret : Option FieldType} {rm : Room} {As : List Value} {u : σ} {Φ : σ → Option Value → Prop} {own : String}
    (hy : plainName y.cls = true) (ho : y.cls = own) (hlen : (lg_sl As).length ≤ maxL) (hD : ∀ u, va_D (fun q => q ∈ hs) (ω u))
    (body : ∀ g : zE, zC g κ hs ω bytes maxL own ret rm → zJ g κ hs ω Φ maxL u (lv_args 0 As) 0 []) : zM l κ hs ω y bytes maxL ret rm As u Φ := by
  refine Met.ofW (cc := bytes) (maxL := maxL) (ret := ret) hy rfl ?_
  intro p e s m args below meth c s₁ B hml hv
  obtain ⟨rfl, hP, hK, hN⟩ := hv
  have hts := atoms_spec (ws := .code y bytes maxL ret :: zT) B.pre
  have hown : s.vm.findClass own = some m.cls := by rw [← ho]; exact findClass_of_methodNamed B.named
  have hl := lv_entry As hlen
  rw [lg_entry_eq]
  exact body (p, l, e, rm, s, m, As.toArray, below, meth, c) ⟨⟨B.exec, B.bytes, hml, hown, fun w hw => hts w (List.mem_cons_of_mem _ hw)⟩, B.returns, B.notSynchronized, hK, hN, rfl, hD⟩ s.heap [] _ hP va_S.rf hl
section ZI
variable {σ : Type} {g : zE} {κ : zK} {hs : List Nat} {ω : σ → va_W} {Φ : σ → Option Value → Prop} {cc : ByteArray} {nL : Nat} {own : String} {ret : Option FieldType} {rm : Room} {u : σ} {lv : List (Nat × Value)} {pc : Nat} {st : List Value}
theorem z_sub {lv' : List (Nat × Value)} (k : zJ g κ hs ω Φ nL u lv' pc st) (ks : List Nat) (h : lv_pick lv ks = lv') : zJ g κ hs ω Φ nL u lv pc st := fun H locs ls hP hS hl => k H locs ls hP hS (lv_sub hl ks h)
theorem z_iconst (X : zC g κ hs ω cc nL own ret rm) {n : Int} {v : Int32} (d : decode cc pc = .ok (.iconst n, 1)) (hv : Int32.ofInt n = v) (k : zJ g κ hs ω Φ nL u lv (pc + 1) (.int v :: st)) : zJ g κ hs ω Φ nL u lv pc st := fun H locs ls hP hS hl => lv_iconst X.1.1 X.1.2.1 d hv (k H locs ls hP hS hl)
theorem z_bipush (X : zC g κ hs ω cc nL own ret rm) {n : Int} {v : Int32} (d : decode cc pc = .ok (.bipush n, 2)) (hv : (Int8.ofInt n).toInt32 = v) (k : zJ g κ hs ω Φ nL u lv (pc + 2) (.int v :: st)) : zJ g κ hs ω Φ nL u lv pc st := fun H locs ls hP hS hl => lv_bipush X.1.1 X.1.2.1 d hv (k H locs ls hP hS hl)
theorem z_sipush (X : zC g κ hs ω cc nL own ret rm) {n : Int} {v : Int32} (d : decode cc pc = .ok (.sipush n, 3)) (hv : (Int16.ofInt n).toInt32 = v) (k : zJ g κ hs ω Φ nL u lv (pc + 3) (.int v :: st)) : zJ g κ hs ω Φ nL u lv pc st := fun H locs ls hP hS hl => lv_sipush X.1.1 X.1.2.1 d hv (k H locs ls hP hS hl)
theorem z_lconst (X : zC g κ hs ω cc nL own ret rm) {n : Fin 2} {v : Int64} (d : decode cc pc = .ok (.lconst n, 1)) (hv : Int64.ofNat (n : Nat) = v) (k : zJ g κ hs ω Φ nL u lv (pc + 1) (.long v :: st)) : zJ g κ hs ω Φ nL u lv pc st := fun H locs ls hP hS hl => lv_lconst X.1.1 X.1.2.1 d hv (k H locs ls hP hS hl)
theorem z_iload_n (X : zC g κ hs ω cc nL own ret rm) {k : Fin 4} {i : Nat} {x : Int32} (d : decode cc pc = .ok (.iload_n k, 1)) (j : Nat) (hi : (k : Nat) = i) (hj : lv[j]? = some (i, .int x)) (kk : zJ g κ hs ω Φ nL u lv (pc + 1) (.int x :: st)) : zJ g κ hs ω Φ nL u lv pc st := fun H locs ls hP hS hl => lv_iload_n X.1.1 X.1.2.1 d hi (lv_at hl j hj) (kk H locs ls hP hS hl)
theorem z_iload (X : zC g κ hs ω cc nL own ret rm) {i : Nat} {x : Int32} (d : decode cc pc = .ok (.iload i, 2)) (j : Nat) (hj : lv[j]? = some (i, .int x)) (kk : zJ g κ hs ω Φ nL u lv (pc + 2) (.int x :: st)) : zJ g κ hs ω Φ nL u lv pc st := fun H locs ls hP hS hl => lv_iload X.1.1 X.1.2.1 d (lv_at hl j hj) (kk H locs ls hP hS hl)
theorem z_istore_n (X : zC g κ hs ω cc nL own ret rm) {k : Fin 4} {i : Nat} {x : Int32} {lv' : List (Nat × Value)} (d : decode cc pc = .ok (.istore_n k, 1)) (hi : (k : Nat) = i) (hn : i < nL) (hl1 : (i, Value.int x) :: lv.filter (fun q => !(q.1 == i) && !(q.1 + 1 == i && q.2.category == 2)) = lv') (kk : zJ g κ hs ω Φ nL u lv' (pc + 1) st) : zJ g κ hs ω Φ nL u lv pc (.int x :: st) := fun H locs ls hP hS hl => lv_istore_n X.1.1 X.1.2.1 d hi hl hn hl1 (fun ls1 hl1 => kk H locs ls1 hP hS hl1)
theorem z_istore (X : zC g κ hs ω cc nL own ret rm) {i : Nat} {x : Int32} {lv' : List (Nat × Value)} (d : decode cc pc = .ok (.istore i, 2)) (hn : i < nL) (hl1 : (i, Value.int x) :: lv.filter (fun q => !(q.1 == i) && !(q.1 + 1 == i && q.2.category == 2)) = lv') (kk : zJ g κ hs ω Φ nL u lv' (pc + 2) st) : zJ g κ hs ω Φ nL u lv pc (.int x :: st) := fun H locs ls hP hS hl => lv_istore X.1.1 X.1.2.1 d hl hn hl1 (fun ls1 hl1 => kk H locs ls1 hP hS hl1)
theorem z_lload_n (X : zC g κ hs ω cc nL own ret rm) {k : Fin 4} {i : Nat} {x : Int64} (d : decode cc pc = .ok (.lload_n k, 1)) (j : Nat) (hi : (k : Nat) = i) (hj : lv[j]? = some (i, .long x)) (kk : zJ g κ hs ω Φ nL u lv (pc + 1) (.long x :: st)) : zJ g κ hs ω Φ nL u lv pc st := fun H locs ls hP hS hl => lv_lload_n X.1.1 X.1.2.1 d hi (lv_at hl j hj) (kk H locs ls hP hS hl)
theorem z_lload (X : zC g κ hs ω cc nL own ret rm) {i : Nat} {x : Int64} (d : decode cc pc = .ok (.lload i, 2)) (j : Nat) (hj : lv[j]? = some (i, .long x)) (kk : zJ g κ hs ω Φ nL u lv (pc + 2) (.long x :: st)) : zJ g κ hs ω Φ nL u lv pc st := fun H locs ls hP hS hl => lv_lload X.1.1 X.1.2.1 d (lv_at hl j hj) (kk H locs ls hP hS hl)
theorem z_lstore_n (X : zC g κ hs ω cc nL own ret rm) {k : Fin 4} {i : Nat} {x : Int64} {lv' : List (Nat × Value)} (d : decode cc pc = .ok (.lstore_n k, 1)) (hi : (k : Nat) = i) (hn : i + 1 < nL) (hl1 : (i, Value.long x) :: lv.filter (fun q => !(q.1 == i) && (!(q.1 == i + 1) && !(q.1 + 1 == i && q.2.category == 2))) = lv') (kk : zJ g κ hs ω Φ nL u lv' (pc + 1) st) : zJ g κ hs ω Φ nL u lv pc (.long x :: st) := fun H locs ls hP hS hl => lv_lstore_n X.1.1 X.1.2.1 d hi hl hn hl1 (fun ls1 hl1 => kk H locs ls1 hP hS hl1)
theorem z_lstore (X : zC g κ hs ω cc nL own ret rm) {i : Nat} {x : Int64} {lv' : List (Nat × Value)} (d : decode cc pc = .ok (.lstore i, 2)) (hn : i + 1 < nL) (hl1 : (i, Value.long x) :: lv.filter (fun q => !(q.1 == i) && (!(q.1 == i + 1) && !(q.1 + 1 == i && q.2.category == 2))) = lv') (kk : zJ g κ hs ω Φ nL u lv' (pc + 2) st) : zJ g κ hs ω Φ nL u lv pc (.long x :: st) := fun H locs ls hP hS hl => lv_lstore X.1.1 X.1.2.1 d hl hn hl1 (fun ls1 hl1 => kk H locs ls1 hP hS hl1)
theorem z_aload_n (X : zC g κ hs ω cc nL own ret rm) {k : Fin 4} {i : Nat} {x : Nat} (d : decode cc pc = .ok (.aload_n k, 1)) (j : Nat) (hi : (k : Nat) = i) (hj : lv[j]? = some (i, .ref x)) (kk : zJ g κ hs ω Φ nL u lv (pc + 1) (.ref x :: st)) : zJ g κ hs ω Φ nL u lv pc st := fun H locs ls hP hS hl => lv_aload_n X.1.1 X.1.2.1 d hi (lv_at hl j hj) (kk H locs ls hP hS hl)
theorem z_aload (X : zC g κ hs ω cc nL own ret rm) {i : Nat} {x : Nat} (d : decode cc pc = .ok (.aload i, 2)) (j : Nat) (hj : lv[j]? = some (i, .ref x)) (kk : zJ g κ hs ω Φ nL u lv (pc + 2) (.ref x :: st)) : zJ g κ hs ω Φ nL u lv pc st := fun H locs ls hP hS hl => lv_aload X.1.1 X.1.2.1 d (lv_at hl j hj) (kk H locs ls hP hS hl)
theorem z_astore_n (X : zC g κ hs ω cc nL own ret rm) {k : Fin 4} {i : Nat} {x : Nat} {lv' : List (Nat × Value)} (d : decode cc pc = .ok (.astore_n k, 1)) (hi : (k : Nat) = i) (hn : i < nL) (hl1 : (i, Value.ref x) :: lv.filter (fun q => !(q.1 == i) && !(q.1 + 1 == i && q.2.category == 2)) = lv') (kk : zJ g κ hs ω Φ nL u lv' (pc + 1) st) : zJ g κ hs ω Φ nL u lv pc (.ref x :: st) := fun H locs ls hP hS hl => lv_astore_n X.1.1 X.1.2.1 d hi hl hn hl1 (fun ls1 hl1 => kk H locs ls1 hP hS hl1)
theorem z_astore (X : zC g κ hs ω cc nL own ret rm) {i : Nat} {x : Nat} {lv' : List (Nat × Value)} (d : decode cc pc = .ok (.astore i, 2)) (hn : i < nL) (hl1 : (i, Value.ref x) :: lv.filter (fun q => !(q.1 == i) && !(q.1 + 1 == i && q.2.category == 2)) = lv') (kk : zJ g κ hs ω Φ nL u lv' (pc + 2) st) : zJ g κ hs ω Φ nL u lv pc (.ref x :: st) := fun H locs ls hP hS hl => lv_astore X.1.1 X.1.2.1 d hl hn hl1 (fun ls1 hl1 => kk H locs ls1 hP hS hl1)
theorem z_iinc (X : zC g κ hs ω cc nL own ret rm) {i k : Nat} {n : Int} {x v : Int32} {lv' : List (Nat × Value)} (d : decode cc pc = .ok (.iinc i n, 3)) (hk : lv[k]? = some (i, .int x)) (hv : x + Int32.ofInt n = v) (hn : i < nL) (hl1 : (i, Value.int v) :: lv.filter (fun q => !(q.1 == i) && !(q.1 + 1 == i && q.2.category == 2)) = lv') (kk : zJ g κ hs ω Φ nL u lv' (pc + 3) st) : zJ g κ hs ω Φ nL u lv pc st := fun H locs ls hP hS hl => lv_iinc X.1.1 X.1.2.1 d hl hk hv hn hl1 (fun ls1 hl1 => kk H locs ls1 hP hS hl1)
theorem z_iadd (X : zC g κ hs ω cc nL own ret rm) {x y : Int32} (d : decode cc pc = .ok (.iadd, 1)) (k : zJ g κ hs ω Φ nL u lv (pc + 1) (.int (x + y) :: st)) : zJ g κ hs ω Φ nL u lv pc (.int y :: .int x :: st) := fun H locs ls hP hS hl => lv_iadd X.1.1 X.1.2.1 d (k H locs ls hP hS hl)
theorem z_isub (X : zC g κ hs ω cc nL own ret rm) {x y : Int32} (d : decode cc pc = .ok (.isub, 1)) (k : zJ g κ hs ω Φ nL u lv (pc + 1) (.int (x - y) :: st)) : zJ g κ hs ω Φ nL u lv pc (.int y :: .int x :: st) := fun H locs ls hP hS hl => lv_isub X.1.1 X.1.2.1 d (k H locs ls hP hS hl)
theorem z_imul (X : zC g κ hs ω cc nL own ret rm) {x y : Int32} (d : decode cc pc = .ok (.imul, 1)) (k : zJ g κ hs ω Φ nL u lv (pc + 1) (.int (x * y) :: st)) : zJ g κ hs ω Φ nL u lv pc (.int y :: .int x :: st) := fun H locs ls hP hS hl => lv_imul X.1.1 X.1.2.1 d (k H locs ls hP hS hl)
theorem z_iand (X : zC g κ hs ω cc nL own ret rm) {x y : Int32} (d : decode cc pc = .ok (.iand, 1)) (k : zJ g κ hs ω Φ nL u lv (pc + 1) (.int (x &&& y) :: st)) : zJ g κ hs ω Φ nL u lv pc (.int y :: .int x :: st) := fun H locs ls hP hS hl => lv_iand X.1.1 X.1.2.1 d (k H locs ls hP hS hl)
theorem z_ior (X : zC g κ hs ω cc nL own ret rm) {x y : Int32} (d : decode cc pc = .ok (.ior, 1)) (k : zJ g κ hs ω Φ nL u lv (pc + 1) (.int (x ||| y) :: st)) : zJ g κ hs ω Φ nL u lv pc (.int y :: .int x :: st) := fun H locs ls hP hS hl => lv_ior X.1.1 X.1.2.1 d (k H locs ls hP hS hl)
theorem z_ixor (X : zC g κ hs ω cc nL own ret rm) {x y : Int32} (d : decode cc pc = .ok (.ixor, 1)) (k : zJ g κ hs ω Φ nL u lv (pc + 1) (.int (x ^^^ y) :: st)) : zJ g κ hs ω Φ nL u lv pc (.int y :: .int x :: st) := fun H locs ls hP hS hl => lv_ixor X.1.1 X.1.2.1 d (k H locs ls hP hS hl)
theorem z_ladd (X : zC g κ hs ω cc nL own ret rm) {x y : Int64} (d : decode cc pc = .ok (.ladd, 1)) (k : zJ g κ hs ω Φ nL u lv (pc + 1) (.long (x + y) :: st)) : zJ g κ hs ω Φ nL u lv pc (.long y :: .long x :: st) := fun H locs ls hP hS hl => lv_ladd X.1.1 X.1.2.1 d (k H locs ls hP hS hl)
theorem z_lsub (X : zC g κ hs ω cc nL own ret rm) {x y : Int64} (d : decode cc pc = .ok (.lsub, 1)) (k : zJ g κ hs ω Φ nL u lv (pc + 1) (.long (x - y) :: st)) : zJ g κ hs ω Φ nL u lv pc (.long y :: .long x :: st) := fun H locs ls hP hS hl => lv_lsub X.1.1 X.1.2.1 d (k H locs ls hP hS hl)
theorem z_lmul (X : zC g κ hs ω cc nL own ret rm) {x y : Int64} (d : decode cc pc = .ok (.lmul, 1)) (k : zJ g κ hs ω Φ nL u lv (pc + 1) (.long (x * y) :: st)) : zJ g κ hs ω Φ nL u lv pc (.long y :: .long x :: st) := fun H locs ls hP hS hl => lv_lmul X.1.1 X.1.2.1 d (k H locs ls hP hS hl)
theorem z_land (X : zC g κ hs ω cc nL own ret rm) {x y : Int64} (d : decode cc pc = .ok (.land, 1)) (k : zJ g κ hs ω Φ nL u lv (pc + 1) (.long (x &&& y) :: st)) : zJ g κ hs ω Φ nL u lv pc (.long y :: .long x :: st) := fun H locs ls hP hS hl => lv_land X.1.1 X.1.2.1 d (k H locs ls hP hS hl)
theorem z_lor (X : zC g κ hs ω cc nL own ret rm) {x y : Int64} (d : decode cc pc = .ok (.lor, 1)) (k : zJ g κ hs ω Φ nL u lv (pc + 1) (.long (x ||| y) :: st)) : zJ g κ hs ω Φ nL u lv pc (.long y :: .long x :: st) := fun H locs ls hP hS hl => lv_lor X.1.1 X.1.2.1 d (k H locs ls hP hS hl)
theorem z_idiv (X : zC g κ hs ω cc nL own ret rm) {x y : Int32} (d : decode cc pc = .ok (.idiv, 1)) (hne : ¬ y = 0) (k : zJ g κ hs ω Φ nL u lv (pc + 1) (.int (x / y) :: st)) : zJ g κ hs ω Φ nL u lv pc (.int y :: .int x :: st) := fun H locs ls hP hS hl => lv_idiv X.1.1 X.1.2.1 d hne (k H locs ls hP hS hl)
theorem z_irem (X : zC g κ hs ω cc nL own ret rm) {x y : Int32} (d : decode cc pc = .ok (.irem, 1)) (hne : ¬ y = 0) (k : zJ g κ hs ω Φ nL u lv (pc + 1) (.int (x - x / y * y) :: st)) : zJ g κ hs ω Φ nL u lv pc (.int y :: .int x :: st) := fun H locs ls hP hS hl => lv_irem X.1.1 X.1.2.1 d hne (k H locs ls hP hS hl)
theorem z_ldiv (X : zC g κ hs ω cc nL own ret rm) {x y : Int64} (d : decode cc pc = .ok (.ldiv, 1)) (hne : ¬ y = 0) (k : zJ g κ hs ω Φ nL u lv (pc + 1) (.long (x / y) :: st)) : zJ g κ hs ω Φ nL u lv pc (.long y :: .long x :: st) := fun H locs ls hP hS hl => lv_ldiv X.1.1 X.1.2.1 d hne (k H locs ls hP hS hl)
theorem z_ishl (X : zC g κ hs ω cc nL own ret rm) {x y : Int32} (d : decode cc pc = .ok (.ishl, 1)) (k : zJ g κ hs ω Φ nL u lv (pc + 1) (.int (x <<< (y &&& 31)) :: st)) : zJ g κ hs ω Φ nL u lv pc (.int y :: .int x :: st) := fun H locs ls hP hS hl => lv_ishl X.1.1 X.1.2.1 d (k H locs ls hP hS hl)
theorem z_ishr (X : zC g κ hs ω cc nL own ret rm) {x y : Int32} (d : decode cc pc = .ok (.ishr, 1)) (k : zJ g κ hs ω Φ nL u lv (pc + 1) (.int (x >>> (y &&& 31)) :: st)) : zJ g κ hs ω Φ nL u lv pc (.int y :: .int x :: st) := fun H locs ls hP hS hl => lv_ishr X.1.1 X.1.2.1 d (k H locs ls hP hS hl)
theorem z_iushr (X : zC g κ hs ω cc nL own ret rm) {x y : Int32} (d : decode cc pc = .ok (.iushr, 1)) (k : zJ g κ hs ω Φ nL u lv (pc + 1) (.int (x.toUInt32 >>> (y.toUInt32 &&& Int32.toUInt32 31)).toInt32 :: st)) : zJ g κ hs ω Φ nL u lv pc (.int y :: .int x :: st) := fun H locs ls hP hS hl => lv_iushr X.1.1 X.1.2.1 d rfl (k H locs ls hP hS hl)
theorem z_lshl (X : zC g κ hs ω cc nL own ret rm) {x : Int64} {y : Int32} (d : decode cc pc = .ok (.lshl, 1)) (k : zJ g κ hs ω Φ nL u lv (pc + 1) (.long (x <<< (y.toInt64 &&& 63)) :: st)) : zJ g κ hs ω Φ nL u lv pc (.int y :: .long x :: st) := fun H locs ls hP hS hl => lv_lshl X.1.1 X.1.2.1 d rfl (k H locs ls hP hS hl)
theorem z_lshr (X : zC g κ hs ω cc nL own ret rm) {x : Int64} {y : Int32} (d : decode cc pc = .ok (.lshr, 1)) (k : zJ g κ hs ω Φ nL u lv (pc + 1) (.long (x >>> (y.toInt64 &&& 63)) :: st)) : zJ g κ hs ω Φ nL u lv pc (.int y :: .long x :: st) := fun H locs ls hP hS hl => lv_lshr X.1.1 X.1.2.1 d rfl (k H locs ls hP hS hl)
theorem z_i2l (X : zC g κ hs ω cc nL own ret rm) {x : Int32} (d : decode cc pc = .ok (.i2l, 1)) (k : zJ g κ hs ω Φ nL u lv (pc + 1) (.long x.toInt64 :: st)) : zJ g κ hs ω Φ nL u lv pc (.int x :: st) := fun H locs ls hP hS hl => lv_i2l X.1.1 X.1.2.1 d rfl (k H locs ls hP hS hl)
theorem z_l2i (X : zC g κ hs ω cc nL own ret rm) {x : Int64} (d : decode cc pc = .ok (.l2i, 1)) (k : zJ g κ hs ω Φ nL u lv (pc + 1) (.int x.toInt32 :: st)) : zJ g κ hs ω Φ nL u lv pc (.long x :: st) := fun H locs ls hP hS hl => lv_l2i X.1.1 X.1.2.1 d rfl (k H locs ls hP hS hl)
theorem z_dup (X : zC g κ hs ω cc nL own ret rm) {va : Value} (d : decode cc pc = .ok (.dup, 1)) (hva : va.category = 1) (k : zJ g κ hs ω Φ nL u lv (pc + 1) (va :: va :: st)) : zJ g κ hs ω Φ nL u lv pc (va :: st) := fun H locs ls hP hS hl => lv_dup X.1.1 X.1.2.1 d hva (k H locs ls hP hS hl)
theorem z_pop (X : zC g κ hs ω cc nL own ret rm) {va : Value} (d : decode cc pc = .ok (.pop, 1)) (hva : va.category = 1) (k : zJ g κ hs ω Φ nL u lv (pc + 1) st) : zJ g κ hs ω Φ nL u lv pc (va :: st) := fun H locs ls hP hS hl => lv_pop X.1.1 X.1.2.1 d hva (k H locs ls hP hS hl)
theorem z_ldc2 (X : zC g κ hs ω cc nL own ret rm) {idx : Nat} {v : Int64} (hc : Cond.constantLong own idx v ∈ zT) (d : decode cc pc = .ok (.ldc2_w idx, 3)) (k : zJ g κ hs ω Φ nL u lv (pc + 3) (.long v :: st)) : zJ g κ hs ω Φ nL u lv pc st := fun H locs ls hP hS hl => lv_ldc2 X.1.1 X.1.2.1 X.1.2.2.2.1 (X.1.2.2.2.2 _ hc) d (k H locs ls hP hS hl)
theorem z_ldcw (X : zC g κ hs ω cc nL own ret rm) {idx : Nat} {v : Int32} (hc : Cond.constant own idx v ∈ zT) (d : decode cc pc = .ok (.ldc_w idx, 3)) (k : zJ g κ hs ω Φ nL u lv (pc + 3) (.int v :: st)) : zJ g κ hs ω Φ nL u lv pc st := fun H locs ls hP hS hl => lv_ldcw X.1.1 X.1.2.1 X.1.2.2.2.1 (X.1.2.2.2.2 _ hc) d (k H locs ls hP hS hl)
theorem z_goto (X : zC g κ hs ω cc nL own ret rm) {off : Int} {tgt : Nat} (d : decode cc pc = .ok (.goto off, 3)) (ht : (pc : Int) + off = (tgt : Int)) (k : zJ g κ hs ω Φ nL u lv tgt st) : zJ g κ hs ω Φ nL u lv pc st := fun H locs ls hP hS hl => lv_goto X.1.1 X.1.2.1 d ht (k H locs ls hP hS hl)
theorem z_icmp_eq (X : zC g κ hs ω cc nL own ret rm) {x y : Int32} {off : Int} {tgt : Nat} (d : decode cc pc = .ok (.if_icmp .eq off, 3)) (ht : (pc : Int) + off = (tgt : Int)) (kt : x = y → zJ g κ hs ω Φ nL u lv tgt st) (kf : ¬ x = y → zJ g κ hs ω Φ nL u lv (pc + 3) st) : zJ g κ hs ω Φ nL u lv pc (.int y :: .int x :: st) := fun H locs ls hP hS hl => lv_icmp_eq X.1.1 X.1.2.1 d ht (fun q => kt q H locs ls hP hS hl) (fun q => kf q H locs ls hP hS hl)
theorem z_icmp_ne (X : zC g κ hs ω cc nL own ret rm) {x y : Int32} {off : Int} {tgt : Nat} (d : decode cc pc = .ok (.if_icmp .ne off, 3)) (ht : (pc : Int) + off = (tgt : Int)) (kt : ¬ x = y → zJ g κ hs ω Φ nL u lv tgt st) (kf : x = y → zJ g κ hs ω Φ nL u lv (pc + 3) st) : zJ g κ hs ω Φ nL u lv pc (.int y :: .int x :: st) := fun H locs ls hP hS hl => lv_icmp_ne X.1.1 X.1.2.1 d ht (fun q => kt q H locs ls hP hS hl) (fun q => kf q H locs ls hP hS hl)
theorem z_icmp_lt (X : zC g κ hs ω cc nL own ret rm) {x y : Int32} {off : Int} {tgt : Nat} (d : decode cc pc = .ok (.if_icmp .lt off, 3)) (ht : (pc : Int) + off = (tgt : Int)) (kt : x < y → zJ g κ hs ω Φ nL u lv tgt st) (kf : ¬ x < y → zJ g κ hs ω Φ nL u lv (pc + 3) st) : zJ g κ hs ω Φ nL u lv pc (.int y :: .int x :: st) := fun H locs ls hP hS hl => lv_icmp_lt X.1.1 X.1.2.1 d ht (fun q => kt q H locs ls hP hS hl) (fun q => kf q H locs ls hP hS hl)
theorem z_icmp_ge (X : zC g κ hs ω cc nL own ret rm) {x y : Int32} {off : Int} {tgt : Nat} (d : decode cc pc = .ok (.if_icmp .ge off, 3)) (ht : (pc : Int) + off = (tgt : Int)) (kt : ¬ x < y → zJ g κ hs ω Φ nL u lv tgt st) (kf : x < y → zJ g κ hs ω Φ nL u lv (pc + 3) st) : zJ g κ hs ω Φ nL u lv pc (.int y :: .int x :: st) := fun H locs ls hP hS hl => lv_icmp_ge X.1.1 X.1.2.1 d ht (fun q => kt (Int32.not_lt.mpr q) H locs ls hP hS hl) (fun q => kf (Int32.not_le.mp q) H locs ls hP hS hl)
theorem z_icmp_gt (X : zC g κ hs ω cc nL own ret rm) {x y : Int32} {off : Int} {tgt : Nat} (d : decode cc pc = .ok (.if_icmp .gt off, 3)) (ht : (pc : Int) + off = (tgt : Int)) (kt : y < x → zJ g κ hs ω Φ nL u lv tgt st) (kf : ¬ y < x → zJ g κ hs ω Φ nL u lv (pc + 3) st) : zJ g κ hs ω Φ nL u lv pc (.int y :: .int x :: st) := fun H locs ls hP hS hl => lv_icmp_gt X.1.1 X.1.2.1 d ht (fun q => kt q H locs ls hP hS hl) (fun q => kf q H locs ls hP hS hl)
theorem z_icmp_le (X : zC g κ hs ω cc nL own ret rm) {x y : Int32} {off : Int} {tgt : Nat} (d : decode cc pc = .ok (.if_icmp .le off, 3)) (ht : (pc : Int) + off = (tgt : Int)) (kt : ¬ y < x → zJ g κ hs ω Φ nL u lv tgt st) (kf : y < x → zJ g κ hs ω Φ nL u lv (pc + 3) st) : zJ g κ hs ω Φ nL u lv pc (.int y :: .int x :: st) := fun H locs ls hP hS hl => lv_icmp_le X.1.1 X.1.2.1 d ht (fun q => kt (Int32.not_lt.mpr q) H locs ls hP hS hl) (fun q => kf (Int32.not_le.mp q) H locs ls hP hS hl)
theorem z_if_eq (X : zC g κ hs ω cc nL own ret rm) {x : Int32} {off : Int} {tgt : Nat} (d : decode cc pc = .ok (.ifCond .eq off, 3)) (ht : (pc : Int) + off = (tgt : Int)) (kt : x = 0 → zJ g κ hs ω Φ nL u lv tgt st) (kf : ¬ x = 0 → zJ g κ hs ω Φ nL u lv (pc + 3) st) : zJ g κ hs ω Φ nL u lv pc (.int x :: st) := fun H locs ls hP hS hl => lv_if_eq X.1.1 X.1.2.1 d ht (fun q => kt q H locs ls hP hS hl) (fun q => kf q H locs ls hP hS hl)
theorem z_if_ne (X : zC g κ hs ω cc nL own ret rm) {x : Int32} {off : Int} {tgt : Nat} (d : decode cc pc = .ok (.ifCond .ne off, 3)) (ht : (pc : Int) + off = (tgt : Int)) (kt : ¬ x = 0 → zJ g κ hs ω Φ nL u lv tgt st) (kf : x = 0 → zJ g κ hs ω Φ nL u lv (pc + 3) st) : zJ g κ hs ω Φ nL u lv pc (.int x :: st) := fun H locs ls hP hS hl => lv_if_ne X.1.1 X.1.2.1 d ht (fun q => kt q H locs ls hP hS hl) (fun q => kf q H locs ls hP hS hl)
theorem z_if_lt (X : zC g κ hs ω cc nL own ret rm) {x : Int32} {off : Int} {tgt : Nat} (d : decode cc pc = .ok (.ifCond .lt off, 3)) (ht : (pc : Int) + off = (tgt : Int)) (kt : x < 0 → zJ g κ hs ω Φ nL u lv tgt st) (kf : ¬ x < 0 → zJ g κ hs ω Φ nL u lv (pc + 3) st) : zJ g κ hs ω Φ nL u lv pc (.int x :: st) := fun H locs ls hP hS hl => lv_if_lt X.1.1 X.1.2.1 d ht (fun q => kt q H locs ls hP hS hl) (fun q => kf q H locs ls hP hS hl)
theorem z_if_ge (X : zC g κ hs ω cc nL own ret rm) {x : Int32} {off : Int} {tgt : Nat} (d : decode cc pc = .ok (.ifCond .ge off, 3)) (ht : (pc : Int) + off = (tgt : Int)) (kt : ¬ x < 0 → zJ g κ hs ω Φ nL u lv tgt st) (kf : x < 0 → zJ g κ hs ω Φ nL u lv (pc + 3) st) : zJ g κ hs ω Φ nL u lv pc (.int x :: st) := fun H locs ls hP hS hl => lv_if_ge X.1.1 X.1.2.1 d ht (fun q => kt (Int32.not_lt.mpr q) H locs ls hP hS hl) (fun q => kf (Int32.not_le.mp q) H locs ls hP hS hl)
theorem z_if_gt (X : zC g κ hs ω cc nL own ret rm) {x : Int32} {off : Int} {tgt : Nat} (d : decode cc pc = .ok (.ifCond .gt off, 3)) (ht : (pc : Int) + off = (tgt : Int)) (kt : 0 < x → zJ g κ hs ω Φ nL u lv tgt st) (kf : ¬ 0 < x → zJ g κ hs ω Φ nL u lv (pc + 3) st) : zJ g κ hs ω Φ nL u lv pc (.int x :: st) := fun H locs ls hP hS hl => lv_if_gt X.1.1 X.1.2.1 d ht (fun q => kt q H locs ls hP hS hl) (fun q => kf q H locs ls hP hS hl)
theorem z_if_le (X : zC g κ hs ω cc nL own ret rm) {x : Int32} {off : Int} {tgt : Nat} (d : decode cc pc = .ok (.ifCond .le off, 3)) (ht : (pc : Int) + off = (tgt : Int)) (kt : ¬ 0 < x → zJ g κ hs ω Φ nL u lv tgt st) (kf : 0 < x → zJ g κ hs ω Φ nL u lv (pc + 3) st) : zJ g κ hs ω Φ nL u lv pc (.int x :: st) := fun H locs ls hP hS hl => lv_if_le X.1.1 X.1.2.1 d ht (fun q => kt (Int32.not_lt.mpr q) H locs ls hP hS hl) (fun q => kf (Int32.not_le.mp q) H locs ls hP hS hl)
theorem lg_lt {x y : Int64} : lg_cmp x y < 0 ↔ x < y := by
  unfold lg_cmp; by_cases h1 : y < x
  · simp only [if_pos h1]; exact ⟨fun h => absurd h (by decide), fun h => absurd (Int64.lt_trans h h1) Int64.lt_irrefl⟩
  · by_cases h2 : x = y
    · simp only [if_neg h1, if_pos h2]; exact ⟨fun h => absurd h (by decide), fun h => absurd h (by rw [h2]; exact Int64.lt_irrefl)⟩
    · simp only [if_neg h1, if_neg h2]; exact ⟨fun _ => Int64.lt_of_le_of_ne (Int64.not_lt.mp h1) h2, fun _ => by decide⟩
theorem lg_eq {x y : Int64} : lg_cmp x y = 0 ↔ x = y := by
  unfold lg_cmp; by_cases h1 : y < x
  · simp only [if_pos h1]; exact ⟨fun h => absurd h (by decide), fun h => absurd h1 (by rw [h]; exact Int64.lt_irrefl)⟩
  · by_cases h2 : x = y
    · simp only [if_neg h1, if_pos h2]; exact ⟨fun _ => h2, fun _ => trivial⟩
    · simp only [if_neg h1, if_neg h2]; exact ⟨fun h => absurd h (by decide), fun h => absurd h h2⟩
theorem lg_gt {x y : Int64} : 0 < lg_cmp x y ↔ y < x := by
  unfold lg_cmp; by_cases h1 : y < x
  · simp only [if_pos h1]; exact ⟨fun _ => h1, fun _ => by decide⟩
  · by_cases h2 : x = y
    · simp only [if_neg h1, if_pos h2]; exact ⟨fun h => absurd h (by decide), fun h => absurd h h1⟩
    · simp only [if_neg h1, if_neg h2]; exact ⟨fun h => absurd h (by decide), fun h => absurd h h1⟩
theorem z_lcmp_eq (X : zC g κ hs ω cc nL own ret rm) {x y : Int64} {off : Int} {tgt : Nat} (d0 : decode cc pc = .ok (.lcmp, 1)) (d : decode cc (pc + 1) = .ok (.ifCond .eq off, 3)) (ht : ((pc + 1 : Nat) : Int) + off = (tgt : Int)) (kt : x = y → zJ g κ hs ω Φ nL u lv tgt st) (kf : ¬ x = y → zJ g κ hs ω Φ nL u lv (pc + 1 + 3) st) : zJ g κ hs ω Φ nL u lv pc (.long y :: .long x :: st) := fun H locs ls hP hS hl => W.lcmp X.1.1 X.1.2.1 d0 (lv_if_eq X.1.1 X.1.2.1 d ht (fun q => kt (lg_eq.mp q) H locs ls hP hS hl) (fun q => kf (fun z => q (lg_eq.mpr z)) H locs ls hP hS hl))
theorem z_lcmp_ne (X : zC g κ hs ω cc nL own ret rm) {x y : Int64} {off : Int} {tgt : Nat} (d0 : decode cc pc = .ok (.lcmp, 1)) (d : decode cc (pc + 1) = .ok (.ifCond .ne off, 3)) (ht : ((pc + 1 : Nat) : Int) + off = (tgt : Int)) (kt : ¬ x = y → zJ g κ hs ω Φ nL u lv tgt st) (kf : x = y → zJ g κ hs ω Φ nL u lv (pc + 1 + 3) st) : zJ g κ hs ω Φ nL u lv pc (.long y :: .long x :: st) := fun H locs ls hP hS hl => W.lcmp X.1.1 X.1.2.1 d0 (lv_if_ne X.1.1 X.1.2.1 d ht (fun q => kt (fun z => q (lg_eq.mpr z)) H locs ls hP hS hl) (fun q => kf (lg_eq.mp q) H locs ls hP hS hl))
theorem z_lcmp_lt (X : zC g κ hs ω cc nL own ret rm) {x y : Int64} {off : Int} {tgt : Nat} (d0 : decode cc pc = .ok (.lcmp, 1)) (d : decode cc (pc + 1) = .ok (.ifCond .lt off, 3)) (ht : ((pc + 1 : Nat) : Int) + off = (tgt : Int)) (kt : x < y → zJ g κ hs ω Φ nL u lv tgt st) (kf : ¬ x < y → zJ g κ hs ω Φ nL u lv (pc + 1 + 3) st) : zJ g κ hs ω Φ nL u lv pc (.long y :: .long x :: st) := fun H locs ls hP hS hl => W.lcmp X.1.1 X.1.2.1 d0 (lv_if_lt X.1.1 X.1.2.1 d ht (fun q => kt (lg_lt.mp q) H locs ls hP hS hl) (fun q => kf (fun z => q (lg_lt.mpr z)) H locs ls hP hS hl))
theorem z_lcmp_ge (X : zC g κ hs ω cc nL own ret rm) {x y : Int64} {off : Int} {tgt : Nat} (d0 : decode cc pc = .ok (.lcmp, 1)) (d : decode cc (pc + 1) = .ok (.ifCond .ge off, 3)) (ht : ((pc + 1 : Nat) : Int) + off = (tgt : Int)) (kt : ¬ x < y → zJ g κ hs ω Φ nL u lv tgt st) (kf : x < y → zJ g κ hs ω Φ nL u lv (pc + 1 + 3) st) : zJ g κ hs ω Φ nL u lv pc (.long y :: .long x :: st) := fun H locs ls hP hS hl => W.lcmp X.1.1 X.1.2.1 d0 (lv_if_ge X.1.1 X.1.2.1 d ht (fun q => kt (fun z => Int32.not_lt.mpr q (lg_lt.mpr z)) H locs ls hP hS hl) (fun q => kf (lg_lt.mp (Int32.not_le.mp q)) H locs ls hP hS hl))
theorem z_lcmp_gt (X : zC g κ hs ω cc nL own ret rm) {x y : Int64} {off : Int} {tgt : Nat} (d0 : decode cc pc = .ok (.lcmp, 1)) (d : decode cc (pc + 1) = .ok (.ifCond .gt off, 3)) (ht : ((pc + 1 : Nat) : Int) + off = (tgt : Int)) (kt : y < x → zJ g κ hs ω Φ nL u lv tgt st) (kf : ¬ y < x → zJ g κ hs ω Φ nL u lv (pc + 1 + 3) st) : zJ g κ hs ω Φ nL u lv pc (.long y :: .long x :: st) := fun H locs ls hP hS hl => W.lcmp X.1.1 X.1.2.1 d0 (lv_if_gt X.1.1 X.1.2.1 d ht (fun q => kt (lg_gt.mp q) H locs ls hP hS hl) (fun q => kf (fun z => q (lg_gt.mpr z)) H locs ls hP hS hl))
theorem z_lcmp_le (X : zC g κ hs ω cc nL own ret rm) {x y : Int64} {off : Int} {tgt : Nat} (d0 : decode cc pc = .ok (.lcmp, 1)) (d : decode cc (pc + 1) = .ok (.ifCond .le off, 3)) (ht : ((pc + 1 : Nat) : Int) + off = (tgt : Int)) (kt : ¬ y < x → zJ g κ hs ω Φ nL u lv tgt st) (kf : y < x → zJ g κ hs ω Φ nL u lv (pc + 1 + 3) st) : zJ g κ hs ω Φ nL u lv pc (.long y :: .long x :: st) := fun H locs ls hP hS hl => W.lcmp X.1.1 X.1.2.1 d0 (lv_if_le X.1.1 X.1.2.1 d ht (fun q => kt (fun z => Int32.not_lt.mpr q (lg_gt.mpr z)) H locs ls hP hS hl) (fun q => kf (lg_gt.mp (Int32.not_le.mp q)) H locs ls hP hS hl))
theorem z_tableOut (X : zC g κ hs ω cc nL own ret rm) {dflt lo hi : Int} {offs : Array Int} {len : Nat} {x : Int32} {tgt : Nat} (d : decode cc pc = .ok (.tableswitch dflt lo hi offs, len)) (h : x.toInt < lo ∨ hi < x.toInt) (ht : (pc : Int) + dflt = (tgt : Int)) (k : zJ g κ hs ω Φ nL u lv tgt st) : zJ g κ hs ω Φ nL u lv pc (.int x :: st) := fun H locs ls hP hS hl => lv_tableOut X.1.1 X.1.2.1 d h ht (k H locs ls hP hS hl)
theorem z_tableIn (X : zC g κ hs ω cc nL own ret rm) {dflt lo hi : Int} {offs : Array Int} {len : Nat} {x z : Int32} {off : Int} {tgt : Nat} (d : decode cc pc = .ok (.tableswitch dflt lo hi offs, len)) (hxz : x = z) (h1 : ¬ z.toInt < lo) (h2 : ¬ hi < z.toInt) (ho : offs[(z.toInt - lo).toNat]? = some off) (ht : (pc : Int) + off = (tgt : Int)) (k : zJ g κ hs ω Φ nL u lv tgt st) : zJ g κ hs ω Φ nL u lv pc (.int x :: st) := fun H locs ls hP hS hl => by subst hxz; exact lv_tableIn X.1.1 X.1.2.1 d h1 h2 ho ht (k H locs ls hP hS hl)
theorem z_lookup (X : zC g κ hs ω cc nL own ret rm) {dflt : Int} {ps : Array (Int × Int)} {len : Nat} {x : Int32} {off : Int} {tgt : Nat} (d : decode cc pc = .ok (.lookupswitch dflt ps, len)) (hp : (ps.toList.zip (ps.toList.drop 1)).all (fun (a, next) => a.1 < next.1) = true) (ho : Op.lookupswitch.offset ps.toList dflt x.toInt = off) (ht : (pc : Int) + off = (tgt : Int)) (k : zJ g κ hs ω Φ nL u lv tgt st) : zJ g κ hs ω Φ nL u lv pc (.int x :: st) := fun H locs ls hP hS hl => lv_lookup X.1.1 X.1.2.1 d hp ho ht (k H locs ls hP hS hl)
theorem z_iret {P : σ → Int32 → Prop} {v : Int32} (X : zC g κ hs ω cc nL own (some .int) rm) (d : decode cc pc = .ok (.ireturn, 1)) (H : P u v) : zJ g κ hs ω (zi P) nL u lv pc [.int v] := fun Hp locs ls hP hS hl => W.iret X.1.1 X.1.2.1 X.2.1 (fun t ht hW => ⟨⟨u, _, rfl, ⟨_, rfl, H⟩, by rw [ht]; exact hP⟩, hS.F ht⟩) hS.2.2 d X.2.2.1
theorem z_zret {P : σ → Int32 → Prop} {v : Int32} (X : zC g κ hs ω cc nL own (some .boolean) rm) (hn : narrow .boolean (.int v) = .int v) (d : decode cc pc = .ok (.ireturn, 1)) (H : P u v) : zJ g κ hs ω (zi P) nL u lv pc [.int v] := fun Hp locs ls hP hS hl => W.zret X.1.1 X.1.2.1 X.2.1 hn (fun t ht hW => ⟨⟨u, _, rfl, ⟨_, rfl, H⟩, by rw [ht]; exact hP⟩, hS.F ht⟩) hS.2.2 d X.2.2.1
theorem z_lret {P : σ → Int64 → Prop} {v : Int64} (X : zC g κ hs ω cc nL own (some .long) rm) (d : decode cc pc = .ok (.lreturn, 1)) (H : P u v) : zJ g κ hs ω (zl P) nL u lv pc [.long v] := fun Hp locs ls hP hS hl => W.lret X.1.1 X.1.2.1 X.2.1 (fun t ht hW => ⟨⟨u, _, rfl, ⟨_, rfl, H⟩, by rw [ht]; exact hP⟩, hS.F ht⟩) hS.2.2 d X.2.2.1
theorem z_vret {P : σ → Prop} (X : zC g κ hs ω cc nL own none rm) (d : decode cc pc = .ok (.return_, 1)) (H : P u) : zJ g κ hs ω (zv P) nL u lv pc [] := fun Hp locs ls hP hS hl => W.vret X.1.1 X.1.2.1 X.2.1 (fun t ht hW => ⟨⟨u, _, rfl, ⟨rfl, H⟩, by rw [ht]; exact hP⟩, hS.F ht⟩) hS.2.2 d X.2.2.1
end ZI
theorem z_siret {g : zE} {κ : zK} {cc : ByteArray} {nL : Nat} {own : String} {rm : Room} {lv : List (Nat × Value)} {pc : Nat} {P : Int32 → Prop} {v : Int32} (X : zC g κ [] zw0 cc nL own (some .int) rm) (d : decode cc pc = .ok (.ireturn, 1)) (H : P v) : zJ g κ [] zw0 (zsi P) nL () lv pc [.int v] := fun Hp locs ls hP hS hl => W.iret X.1.1 X.1.2.1 X.2.1 (fun t ht hW => ⟨⟨(), _, rfl, ⟨_, rfl, H⟩, by rw [ht]; exact hP⟩, hS.F ht⟩) hS.2.2 d X.2.2.1
theorem z_szret {g : zE} {κ : zK} {cc : ByteArray} {nL : Nat} {own : String} {rm : Room} {lv : List (Nat × Value)} {pc : Nat} {P : Int32 → Prop} {v : Int32} (X : zC g κ [] zw0 cc nL own (some .boolean) rm) (hn : narrow .boolean (.int v) = .int v) (d : decode cc pc = .ok (.ireturn, 1)) (H : P v) : zJ g κ [] zw0 (zsi P) nL () lv pc [.int v] := fun Hp locs ls hP hS hl => W.zret X.1.1 X.1.2.1 X.2.1 hn (fun t ht hW => ⟨⟨(), _, rfl, ⟨_, rfl, H⟩, by rw [ht]; exact hP⟩, hS.F ht⟩) hS.2.2 d X.2.2.1
theorem z_D0 : ∀ u : Unit, va_D (fun q => q ∈ ([] : List Nat)) (zw0 u) := fun _ => ⟨fun i j p q h => by simp [zw0] at h, fun k q h => by simp [zw0] at h⟩
/-- what is fixed of a method that is called -/
def zY (y : MethodName) (bytes : ByteArray) (maxL : Nat) (ret : Option FieldType) (n : Nat) : Prop := Cond.code y bytes maxL ret ∈ zT ∧ Cond.initialized y.cls ∈ zT ∧ (y.cls ≠ "java/lang/invoke/MethodHandle" ∧ y.cls ≠ "java/lang/invoke/VarHandle" ∧ (parseMethodDescriptor y.desc).map (fun d => d.parameters.length) = some n)
section ZR
variable {σ : Type} {g : zE} {κ : zK} {hs : List Nat} {ω : σ → va_W} {Φ : σ → Option Value → Prop} {cc : ByteArray} {nL : Nat} {own : String} {ret : Option FieldType} {rm : Room} {u : σ} {lv : List (Nat × Value)} {pc : Nat} {st0 : List Value}
theorem z_callV {y : MethodName} {bytes : ByteArray} {maxL : Nat} {ret1 : Option FieldType} {rm1 : Room} {b : Nat} {As rest : List Value} {Φ1 : σ → Option Value → Prop} {idx n : Nat} {C : String} {T : u_T} {N : Nat} {fs : List Value} (X : zC g κ hs ω cc nL own ret rm) (Y : zY y bytes maxL ret1 n) (hml : Cond.methodLink own idx y ∈ zT) (him : Cond.instanceMethod y ∈ zT) (hse : Cond.selects C y y ∈ zT)
    (M : zM g.2.1 κ hs ω y bytes maxL ret1 rm1 (.ref b :: As) u Φ1) (ci q0 : Nat) (hc : vwCl[ci]? = some (C, T, N)) (he : (ω u)[q0]? = some (b, .inr (ci, fs))) (hn : As.length = n)
    (hz : rm1.cells = 0 ∧ rm1.slots = 0) (hR : rm1.frames + 1 ≤ rm.frames ∧ 8 + (maxL + 11) + rm1.locals ≤ rm.locals) (hst : st0 = As.reverse ++ .ref b :: rest) (hroom : (rest.map fun v => v.category).sum ≤ 8) (d : decode cc pc = .ok (.invokevirtual idx, 3))
    (kk : ∀ (u' : σ) (r : Option Value), Φ1 u' r → zJ g κ hs ω Φ nL u' lv (pc + 3) (r.toList ++ rest)) : zJ g κ hs ω Φ nL u lv pc st0 := by
  intro H locs ls hP hS hl
  obtain ⟨p, l, e, R, s, m, args, below, meth, c⟩ := g
  obtain ⟨S, hret, hlk, hK, hN, hRr, hD⟩ := X
  have hRr : R = rm := hRr
  subst hRr
  subst hst
  have hts : ∀ w ∈ zT, w.before args s = true := S.2.2.2.2
  have cw : CallW R s args own C idx y bytes maxL ret1 (.code y bytes maxL ret1 :: zT) rm1 0 0 n := ⟨callB_of n hts (zT_code Y.1) rfl hz.1 hz.2 (hts _ Y.2.1) (hts _ hml) Y.2.2 hR, hts _ him, hts _ hse⟩
  have hp : PreV s H C b (zP κ (.ref b :: As) (ω u)) As := ⟨zP_blind _ _ _, va_recv hK hP hc he, fun U hU hW => ⟨rfl, by rw [hU]; exact hP, va_K.moved hW.alike hK, hN.warm hW⟩⟩
  intro T0 hT X0
  obtain ⟨v, st₀, t, T', L, h0, X', hL, e1, e2, ⟨⟨u', r, hv, hΦ, hP'⟩, hsz, hk⟩, stp⟩ := va_runV (g := F0 m pc ls (As.reverse ++ .ref b :: rest)) S M cw hp rfl hn hl.1 rfl (lv_room hroom) d ⟨Nat.zero_le _, Nat.zero_le _⟩ T0 hT X0
  cases hv
  rw [h0] at hsz hk
  obtain ⟨t2, a1, b1⟩ := kk u' _ hΦ T'.heap (locs ++ L) ls (by rw [e1]; exact hP') ⟨Nat.le_trans hS.1 (by rw [e1]; exact hsz), fun q h1 h2 => by rw [e1, hk q (Nat.lt_of_lt_of_le h1 hS.1) h2]; exact hS.2.1 q h1 h2, fun q hq => (List.mem_append.mp hq).elim (hS.2.2 q) (hL q)⟩ hl T' rfl X'
  exact ⟨t2, stp t2 a1, b1⟩
theorem z_callS {y : MethodName} {bytes : ByteArray} {maxL : Nat} {ret1 : Option FieldType} {rm1 : Room} {As rest : List Value} {P : Int32 → Prop} {idx n : Nat} (X : zC g κ hs ω cc nL own ret rm) (Y : zY y bytes maxL ret1 n) (hml : Cond.methodLink own idx y ∈ zT) (hstt : Cond.static y ∈ zT)
    (M : zM g.2.1 κ [] zw0 y bytes maxL ret1 rm1 As () (zsi P)) (hn : As.length = n)
    (hz : rm1.cells = 0 ∧ rm1.slots = 0) (hR : rm1.frames + 1 ≤ rm.frames ∧ 8 + (maxL + 11) + rm1.locals ≤ rm.locals) (hst : st0 = As.reverse ++ rest) (hroom : (rest.map fun v => v.category).sum ≤ 8) (d : decode cc pc = .ok (.invokestatic idx, 3))
    (kk : ∀ (r : Int32), P r → zJ g κ hs ω Φ nL u lv (pc + 3) (.int r :: rest)) : zJ g κ hs ω Φ nL u lv pc st0 := by
  intro H locs ls hP hS hl
  obtain ⟨p, l, e, R, s, m, args, below, meth, c⟩ := g
  obtain ⟨S, hret, hlk, hK, hN, hRr, hD⟩ := X
  have hRr : R = rm := hRr
  subst hRr
  subst hst
  have hts : ∀ w ∈ zT, w.before args s = true := S.2.2.2.2
  have cw : CallB R s args own idx y bytes maxL ret1 (.code y bytes maxL ret1 :: zT) rm1 0 0 n ∧ (Cond.static y).before args s = true := ⟨callB_of n hts (zT_code Y.1) rfl hz.1 hz.2 (hts _ Y.2.1) (hts _ hml) Y.2.2 hR, hts _ hstt⟩
  have hp : PreS s H (zP κ As (zw0 ())) As := ⟨zP_blind _ _ _, fun U hU hW => ⟨rfl, fun k q h => by simp [zw0] at h, va_K.moved hW.alike hK, hN.warm hW⟩⟩
  intro T0 hT X0
  obtain ⟨v, st₀, t, T', L, h0, X', hL, e1, e2, ⟨⟨u', r, hv, ⟨r1, hr1, hΦ⟩, hP'⟩, hsz, hk⟩, stp⟩ := va_runS (g := F0 m pc ls (As.reverse ++ rest)) S M cw hp rfl hn hl.1 rfl (lv_room hroom) d ⟨Nat.zero_le _, Nat.zero_le _⟩ T0 hT X0
  cases hv
  cases hr1
  rw [h0] at hsz hk
  have hkeep : ∀ q, q < H.size → T'.heap[q]? = H[q]? := fun q h1 => by rw [e1, hk q h1 (fun z => by cases z)]
  obtain ⟨t2, a1, b1⟩ := kk r1 hΦ T'.heap (locs ++ L) ls (hP.kept (fun k q hq => hkeep _ (hP k q hq).lt)) ⟨Nat.le_trans hS.1 (by rw [e1]; exact hsz), fun q h1 h2 => by rw [hkeep q (Nat.lt_of_lt_of_le h1 hS.1)]; exact hS.2.1 q h1 h2, fun q hq => (List.mem_append.mp hq).elim (hS.2.2 q) (fun z => absurd (hL q z) (by simp))⟩ hl T' rfl X'
  exact ⟨t2, stp t2 a1, b1⟩
theorem z_callSN {y : MethodName} {bytes : ByteArray} {maxL : Nat} {ret1 : Option FieldType} {rm1 : Room} {As rest : List Value} {P : Int32 → Prop} {idx n : Nat} {host : String} (X : zC g κ hs ω cc nL own ret rm) (Y : zY y bytes maxL ret1 n) (hml : ∀ U, zN U → va_Nw (.methodLinkNest own idx y host) U) (hstt : Cond.static y ∈ zT)
    (M : zM g.2.1 κ [] zw0 y bytes maxL ret1 rm1 As () (zsi P)) (hn : As.length = n)
    (hz : rm1.cells = 0 ∧ rm1.slots = 0) (hR : rm1.frames + 1 ≤ rm.frames ∧ 8 + (maxL + 11) + rm1.locals ≤ rm.locals) (hst : st0 = As.reverse ++ rest) (hroom : (rest.map fun v => v.category).sum ≤ 8) (d : decode cc pc = .ok (.invokestatic idx, 3))
    (kk : ∀ (r : Int32), P r → zJ g κ hs ω Φ nL u lv (pc + 3) (.int r :: rest)) : zJ g κ hs ω Φ nL u lv pc st0 := by
  intro H locs ls hP hS hl
  obtain ⟨p, l, e, R, s, m, args, below, meth, c⟩ := g
  obtain ⟨S, hret, hlk, hK, hN, hRr, hD⟩ := X
  have hRr : R = rm := hRr
  subst hRr
  subst hst
  have hts : ∀ w ∈ zT, w.before args s = true := S.2.2.2.2
  have cw : va_CN R s args own idx y host bytes maxL ret1 (.code y bytes maxL ret1 :: zT) rm1 0 0 n ∧ (Cond.static y).before args s = true ∧ True := ⟨va_cnB n hts (zT_code Y.1) rfl hz.1 hz.2 (hml s hN) (hts _ Y.2.1) Y.2.2 hR, hts _ hstt, trivial⟩
  have hp : PreS s H (zP κ As (zw0 ())) As := ⟨zP_blind _ _ _, fun U hU hW => ⟨rfl, fun k q h => by simp [zw0] at h, va_K.moved hW.alike hK, hN.warm hW⟩⟩
  intro T0 hT X0
  obtain ⟨v, st₀, t, T', L, h0, X', hL, e1, e2, ⟨⟨u', r, hv, ⟨r1, hr1, hΦ⟩, hP'⟩, hsz, hk⟩, stp⟩ := va_runSN (g := F0 m pc ls (As.reverse ++ rest)) S M cw hp rfl hn hl.1 rfl (lv_room hroom) d ⟨Nat.zero_le _, Nat.zero_le _⟩ T0 hT X0
  cases hv
  cases hr1
  rw [h0] at hsz hk
  have hkeep : ∀ q, q < H.size → T'.heap[q]? = H[q]? := fun q h1 => by rw [e1, hk q h1 (fun z => by cases z)]
  obtain ⟨t2, a1, b1⟩ := kk r1 hΦ T'.heap (locs ++ L) ls (hP.kept (fun k q hq => hkeep _ (hP k q hq).lt)) ⟨Nat.le_trans hS.1 (by rw [e1]; exact hsz), fun q h1 h2 => by rw [hkeep q (Nat.lt_of_lt_of_le h1 hS.1)]; exact hS.2.1 q h1 h2, fun q hq => (List.mem_append.mp hq).elim (hS.2.2 q) (fun z => absurd (hL q z) (by simp))⟩ hl T' rfl X'
  exact ⟨t2, stp t2 a1, b1⟩
theorem z_mmax {idx : Nat} {x y : Int32} {st : List Value} (X : zC g κ hs ω cc nL own ret rm) (hml : Cond.methodLink own idx Lib.Math.max.name ∈ zT) (hR : 1 ≤ rm.frames ∧ (st.map fun v => v.category).sum + 13 ≤ rm.locals) (d : decode cc pc = .ok (.invokestatic idx, 3)) (kk : zJ g κ hs ω Φ nL u lv (pc + 3) (.int (if x < y then y else x) :: st)) : zJ g κ hs ω Φ nL u lv pc (.int y :: .int x :: st) := by
  intro H locs ls hP hS hl
  obtain ⟨p, l, e, R, s, m, args, below, meth, c⟩ := g
  obtain ⟨S, hret, hlk, hK, hN, hRr, hD⟩ := X
  have hRr : R = rm := hRr
  subst hRr
  exact va_mmax S.1 S.2.1 (S.2.2.1.trans hl.1.symm) S.2.2.2.1 (S.2.2.2.2 _ hml) (S.2.2.2.2 _ st_J9_max) (S.2.2.2.2 _ in_J9) (S.2.2.2.2 _ cd_J9_max) hR.1 hR.2 (Nat.zero_le _) (Nat.zero_le _) d (kk H locs ls hP hS hl)
theorem z_mmin {idx : Nat} {x y : Int32} {st : List Value} (X : zC g κ hs ω cc nL own ret rm) (hml : Cond.methodLink own idx Lib.Math.min.name ∈ zT) (hR : 1 ≤ rm.frames ∧ (st.map fun v => v.category).sum + 13 ≤ rm.locals) (d : decode cc pc = .ok (.invokestatic idx, 3)) (kk : zJ g κ hs ω Φ nL u lv (pc + 3) (.int (if y < x then y else x) :: st)) : zJ g κ hs ω Φ nL u lv pc (.int y :: .int x :: st) := by
  intro H locs ls hP hS hl
  obtain ⟨p, l, e, R, s, m, args, below, meth, c⟩ := g
  obtain ⟨S, hret, hlk, hK, hN, hRr, hD⟩ := X
  have hRr : R = rm := hRr
  subst hRr
  exact va_mmin S.1 S.2.1 (S.2.2.1.trans hl.1.symm) S.2.2.2.1 (S.2.2.2.2 _ hml) (S.2.2.2.2 _ st_J9_min) (S.2.2.2.2 _ in_J9) (S.2.2.2.2 _ cd_J9_min) hR.1 hR.2 (Nat.zero_le _) (Nat.zero_le _) d (kk H locs ls hP hS hl)
end ZR
