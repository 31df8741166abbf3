/-! ===== the law's loop, and the claim's walk ===== -/
theorem law_ge {L i : Nat} (hL : L ≤ 100000) (hi : i ≤ L) (h : ¬ nI L - (5 : Int32) < nI i) : i + 5 ≤ L := by
  by_cases e : 5 ≤ L
  · rw [show nI L - (5 : Int32) = nI (L - 5) from pk_sub (b := 5) e] at h
    have k : ¬ L - 5 < i := fun q => h ((nI_ltI (by omega) (by omega)).mpr q)
    omega
  · exfalso
    apply h
    rw [Int32.lt_iff_toInt_lt, nI_toInt (by omega)]
    have k : (nI L - (5 : Int32)).toInt < 0 := by
      rcases (show L = 0 ∨ L = 1 ∨ L = 2 ∨ L = 3 ∨ L = 4 by omega) with q | q | q | q | q <;> (subst q; decide)
    omega
set_option maxHeartbeats 4000000 in
theorem law_ok {N : Nat} (hN : 3000 ≤ N) (xs : Nat → Int32) (L : Nat) (hL : L ≤ 2560) : ∀ (n i : Nat) (u : TS) (v : MS), Inv u v → L < 5 * n + i → i ≤ L → w_law N xs L n u v (nI i) := by
  intro n
  induction n with
  | zero => intro i u v _ h1 h2; omega
  | succ n ih =>
    intro i u v hI h1 h2
    rw [w_law]
    refine ⟨fun _ => trivial, fun hz => ?_⟩
    have h5 := law_ge (by omega) h2 hz
    have v0 : vp_in (nI i) L := vp_in_nI (by omega) (by omega)
    have v1 : vp_in (nI i + (1 : Int32)) L := by rw [show nI i + (1 : Int32) = nI (i + 1) from nI_add i 1]; exact vp_in_nI (by omega) (by omega)
    have v2 : vp_in (nI i + (2 : Int32)) L := by rw [show nI i + (2 : Int32) = nI (i + 2) from nI_add i 2]; exact vp_in_nI (by omega) (by omega)
    have v3 : vp_in (nI i + (3 : Int32)) L := by rw [show nI i + (3 : Int32) = nI (i + 3) from nI_add i 3]; exact vp_in_nI (by omega) (by omega)
    have v4 : vp_in (nI i + (4 : Int32)) L := by rw [show nI i + (4 : Int32) = nI (i + 4) from nI_add i 4]; exact vp_in_nI (by omega) (by omega)
    have nx : ∀ (u : TS) (v : MS), Inv u v → w_law N xs L n u v (nI i + (5 : Int32)) := fun u v h => by
      rw [show nI i + (5 : Int32) = nI (i + 5) from nI_add i 5]
      exact ih (i + 5) u v h (by omega) h5
    exact ⟨v0, ⟨fun c1 => ⟨v1, (by
        have h1 := rel_open hN hI (xs (((nI i) + (1 : Int32))).toNatClampNeg)
        exact mo_X4_open (fun u6 r5 q2 => by exact ⟨v1, (mo_X5_open (fun v9 r8 w3 => by exact (nx _ _ w3.2)) q2)⟩) h1)⟩,
      fun c1 => ⟨fun c4 => ⟨v1, (by
        have h1 := rel_alloc hN hI (xs (((nI i) + (1 : Int32))).toNatClampNeg)
        exact mo_X4_alloc (fun u13 r12 q5 => by exact ⟨v1, (mo_X5_alloc (fun v16 r15 w6 => by exact (nx _ _ w6.2)) q5)⟩) h1)⟩,
      fun c4 => ⟨fun c7 => ⟨v1, ⟨v2, (by
        have h1 := rel_aligned hN hI (xs (((nI i) + (1 : Int32))).toNatClampNeg) (xs (((nI i) + (2 : Int32))).toNatClampNeg)
        exact mo_X4_aligned (fun u21 r20 q8 => by exact ⟨v1, ⟨v2, (mo_X5_aligned (fun v25 r24 w9 => by exact (nx _ _ w9.2)) q8)⟩⟩) h1)⟩⟩,
      fun c7 => ⟨fun c10 => ⟨v1, (by
        have h1 := rel_free hN hI (xs (((nI i) + (1 : Int32))).toNatClampNeg)
        exact mo_X4_free (fun u29 r28 q11 => by exact ⟨v1, (mo_X5_free (fun v32 r31 w12 => by exact (nx _ _ w12.2)) q11)⟩) h1)⟩,
      fun c10 => ⟨fun c13 => ⟨v1, ⟨v2, (by
        have h1 := rel_resize hN hI (xs (((nI i) + (1 : Int32))).toNatClampNeg) (xs (((nI i) + (2 : Int32))).toNatClampNeg)
        exact mo_X4_resize (fun u37 r36 q14 => by exact ⟨v1, ⟨v2, (mo_X5_resize (fun v41 r40 w15 => by exact (nx _ _ w15.2)) q14)⟩⟩) h1)⟩⟩,
      fun c13 => ⟨fun c16 => ⟨v1, (by
        have h1 := rel_grow hN hI (xs (((nI i) + (1 : Int32))).toNatClampNeg)
        exact mo_X4_grow (fun u45 r44 q17 => by exact ⟨v1, (mo_X5_grow (fun v48 r47 w18 => by exact (nx _ _ w18.2)) q17)⟩) h1)⟩,
      fun c16 => ⟨fun c19 => ⟨v1, (by
        have h1 := rel_size hN hI (xs (((nI i) + (1 : Int32))).toNatClampNeg)
        exact mo_X4_size (fun u52 r51 q20 => by exact ⟨v1, (mo_X5_size (fun v55 r54 w21 => by exact (nx _ _ w21.2)) q20)⟩) h1)⟩,
      fun c19 => ⟨fun c22 => ⟨v1, ⟨v2, ⟨v3, ⟨v4, (by
        have h1 := rel_put hN hI (xs (((nI i) + (1 : Int32))).toNatClampNeg) (xs (((nI i) + (2 : Int32))).toNatClampNeg) ((((xs (((nI i) + (3 : Int32))).toNatClampNeg)).toInt64 <<< (((32 : Int32)).toInt64 &&& 63)) ||| (((xs (((nI i) + (4 : Int32))).toNatClampNeg)).toInt64 &&& (4294967295 : Int64)))
        exact mo_X4_put (fun u62 r61 q23 => by exact ⟨v1, ⟨v2, ⟨v3, ⟨v4, (mo_X5_put (fun v68 r67 w24 => by exact (nx _ _ w24.2)) q23)⟩⟩⟩⟩) h1)⟩⟩⟩⟩,
      fun c22 => ⟨fun c25 => ⟨v1, (by
        have h1 := rel_word (N := N) hI (xs (((nI i) + (1 : Int32))).toNatClampNeg)
        exact mo_X4_word (fun u72 r71 q26 => by exact ⟨v1, (mo_X5_word (fun v75 r74 w27 => by exact (nx _ _ w27.2)) q26)⟩) h1)⟩,
      fun c25 => ⟨fun c28 => ⟨v1, ⟨v2, ⟨v3, (by
        have h1 := rel_spoil (N := N) hI (xs (((nI i) + (1 : Int32))).toNatClampNeg) ((((xs (((nI i) + (2 : Int32))).toNatClampNeg)).toInt64 <<< (((32 : Int32)).toInt64 &&& 63)) ||| (((xs (((nI i) + (3 : Int32))).toNatClampNeg)).toInt64 &&& (4294967295 : Int64)))
        exact mo_X4_spoil (fun u81 r80 q29 => by exact ⟨v1, ⟨v2, ⟨v3, (mo_X5_spoil (fun v86 r85 w30 => by exact (nx _ _ w30.2)) q29)⟩⟩⟩) h1)⟩⟩⟩,
      fun c28 => ⟨fun c31 => (by
        have h1 := rel_check hN hI 
        exact mo_X4_check (fun u89 r88 q32 => by exact (mo_X5_check (fun v91 r90 w33 => by exact ⟨fun _ => (nx _ _ w33.2), fun z => absurd w33.1 z⟩) q32)) h1),
      fun c31 => ⟨fun c34 => (by
        have h1 := rel_where (N := N) hI 
        exact mo_X4_where (fun u95 r94 q35 => by exact (mo_X5_where (fun v97 r96 w36 => by exact (nx _ _ w36.2)) q35)) h1),
      fun c34 => ⟨fun c37 => ⟨v1, ⟨v2, ⟨fun c38 => (by
        have h1 := rel_classOf hN hI (xs (((nI i) + (1 : Int32))).toNatClampNeg) (0 : Int32)
        exact mo_X4_classOf (fun u103 r102 q39 => by exact ⟨v1, ⟨v2, ⟨fun _ => (mo_X5_classOf (fun v108 r107 w40 => by exact (nx _ _ w40.2)) q39), fun z => absurd c38 z⟩⟩⟩) h1),
      fun c38 => (by
        have h1 := rel_classOf hN hI (xs (((nI i) + (1 : Int32))).toNatClampNeg) (1 : Int32)
        exact mo_X4_classOf (fun u112 r111 q41 => by exact ⟨v1, ⟨v2, ⟨fun z => absurd z c38, fun _ => (mo_X5_classOf (fun v119 r118 w42 => by exact (nx _ _ w42.2)) q41)⟩⟩⟩) h1)⟩⟩⟩,
      fun c37 => ⟨fun c43 => ⟨v1, ⟨v2, (by
        have h1 := rel_listed hN hI (xs (((nI i) + (1 : Int32))).toNatClampNeg) (xs (((nI i) + (2 : Int32))).toNatClampNeg)
        exact mo_X4_listed (fun u124 r123 q44 => by exact ⟨v1, ⟨v2, (mo_X5_listed (fun v128 r127 w45 => by exact (nx _ _ w45.2)) q44)⟩⟩) h1)⟩⟩,
      fun c43 => ⟨fun c46 => ⟨v1, (by
        have h1 := rel_bits hN hI (xs (((nI i) + (1 : Int32))).toNatClampNeg)
        exact mo_X4_bits (fun u132 r131 q47 => by exact ⟨v1, (mo_X5_bits (fun v135 r134 w48 => by exact (nx _ _ w48.2)) q47)⟩) h1)⟩,
      fun c46 => ⟨fun c49 => ⟨v1, ⟨v2, (by
        have h1 := rel_block hN hI (xs (((nI i) + (1 : Int32))).toNatClampNeg) (xs (((nI i) + (2 : Int32))).toNatClampNeg)
        exact mo_X4_block (fun u140 r139 q50 => by exact ⟨v1, ⟨v2, (mo_X5_block (fun v144 r143 w51 => by exact (nx _ _ w51.2)) q50)⟩⟩) h1)⟩⟩,
      fun c49 => ⟨fun c52 => ⟨v1, (by
        have h1 := rel_found hN hI (xs (((nI i) + (1 : Int32))).toNatClampNeg)
        exact mo_X4_found (fun u148 r147 q53 => by exact ⟨v1, (mo_X5_found (fun v151 r150 w54 => by exact (nx _ _ w54.2)) q53)⟩) h1)⟩,
      fun c52 => ⟨fun c55 => ⟨v1, (by
        have h1 := rel_count hN hI (xs (((nI i) + (1 : Int32))).toNatClampNeg)
        exact mo_X4_count (fun u155 r154 q56 => by exact ⟨v1, (mo_X5_count (fun v158 r157 w57 => by exact (nx _ _ w57.2)) q56)⟩) h1)⟩,
      fun c55 => (nx _ _ hI)⟩⟩⟩⟩⟩⟩⟩⟩⟩⟩⟩⟩⟩⟩⟩⟩⟩⟩⟩
set_option maxHeartbeats 4000000 in
theorem whole_start {p : Program} {e : Env} {s : State} {m : MethodId} {below : List Frame} {meth : Method} {c : Code} (l : Launch) {b L : Nat} {xs : Nat → Int32} (hL : L ≤ 2560) (C0 : lw_At p s m meth c b L xs) : W p l e room_1 s m #[Value.ref b] below meth c s.heap [] 0 0 (lw_Z below #[Value.ref b] s) (entryFrame m ([Value.ref b] : List Value).toArray 4) := by
  refine whole_of l C0 3000 513 (fun u => Rc u.1 (frW 64) 64 (frF 64) (0, 0, 0, -1)) (fun v => Rc v.1 (frW 64) 64 (frF 64) (0, 0, 0, -1)) ?_ ?_ ?_
  · exact tt_begin (Nat.le_refl _) (by decide) (by decide) (fun u1 r1 => r1)
  · exact mm_lay (Nat.le_refl _) (by decide) (by decide) (fun v1 r1 => r1)
  · exact fun u v hu hv => law_ok (Nat.le_refl _) xs L hL 513 0 u v (Inv.mk hu hv ⟨_, WF.fresh (by decide) (by decide)⟩ rfl) (by omega) (by omega)
