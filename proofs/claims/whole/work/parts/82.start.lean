/-! THE CLAIM OUT OF ONE WALK OF THE LAW'S BODY. Your part is whole_start (and what it stands on); all else here is the same for every law, but numbers. -/
def R_law : String := "ShareBenchLaw"
def lw_P (b : Addr) (xs : List Int32) (args : Array Value) (s : State) : Prop := args = #[.ref b] ∧ s.IntsAt b xs ∧ xs.length ≤ 2048 ∧ (Jvm.Cond.and given_1 narrow_1).before args s = true
def lw_Q (_ : Array Value) (s : State) (o : Outcome) (t : State) : Prop := o = .returned (some (.int 1)) ∧ Framed s o t [] 600000 7302250
def lw_Z (below : List Frame) (a : Array Value) (s : State) : State → Prop := fun t => ∃ o, t.status = .running ∧ Ended t below o ∧ lw_Q a s o t
/-- the law's own end, with 1 on the stack, nothing written that was there before, its room as the claim has it -/
theorem lw_ret {p : Program} {l : Launch} {e : Env} {s : State} {m : MethodId} {below : List Frame} {meth : Method} {c : Code} {b : Nat} (hx : p.tables.exec = Jvm.exec) (hb : c.code = code) (hr : meth.sig.returnType = ret) (hlocks : meth.locks = false) {pc : Nat} {H : Heap} {ls : Array Slot} (hdg : decode code pc = .ok (.ireturn, 1)) : W p l e room_1 s m #[Value.ref b] below meth c H [] 600000 7302250 (lw_Z below #[Value.ref b] s) (F0 m pc ls [.int 1]) := by
  intro T hT X
  obtain ⟨fs, hret, hrun, hended, hW, hframe⟩ := X.leave (v := some (.int 1)) (hlocks := hlocks) (fun h => by rw [hr] at h; cases h)
  have hmeth' : T.vm.method? m = some meth := X.method'
  refine ⟨T.setFrames fs, ?_, .returned (some (.int 1)), hrun, hended, rfl, ⟨_, rfl⟩, hW, hframe⟩
  jvm_step X.here [X.here.top, hx, hb, hdg, hmeth', hr, ret, narrow_b1]
  (try refine ⟨rfl, ?_⟩); (try refine ⟨rfl, ?_⟩)
  first | (intro acts; rw [hret _ acts rfl rfl rfl]) | rw [hret _ _ rfl rfl rfl]
  exact Steps.refl _
/-- what holds at the law's entry: the machine, the code, the tables' words (any of lw_tbl by 'hts w (by decide +kernel)'), the script of L ints xs at the cell b, what the Statement gives of the start (any of its parts by flat_of_before) -/
def lw_At (p : Program) (s : State) (m : MethodId) (meth : Method) (c : Code) (b L : Nat) (xs : Nat → Int32) : Prop :=
  p.tables.exec = Jvm.exec ∧ c.code = code ∧ meth.sig.returnType = ret ∧ c.maxLocals = 4 ∧ s.vm.findClass R_law = some m.cls ∧ (∀ w ∈ lw_tbl, w.before #[Value.ref b] s = true) ∧ va_X b L xs s s.heap ∧ b < s.heap.size ∧ meth.locks = false ∧ (Jvm.Cond.and given_1 narrow_1).before #[Value.ref b] s = true
theorem dL_0 : decode code 0 = .ok (.new 7, 3) := by decide +kernel
theorem dL_3 : decode code 3 = .ok (.dup, 1) := by decide +kernel
theorem dL_4 : decode code 4 = .ok (.invokespecial 9, 3) := by decide +kernel
theorem dL_7 : decode code 7 = .ok (.astore_n 1, 1) := by decide +kernel
theorem dL_8 : decode code 8 = .ok (.new 10, 3) := by decide +kernel
theorem dL_11 : decode code 11 = .ok (.dup, 1) := by decide +kernel
theorem dL_12 : decode code 12 = .ok (.invokespecial 12, 3) := by decide +kernel
theorem dL_15 : decode code 15 = .ok (.astore_n 2, 1) := by decide +kernel
theorem wL_i : x_fN [.classLink R_law 7 RX4, .instantiable RX4 4, .initialized RX4, .code yX4_init cX4_init 1 none, .methodLink R_law 9 yX4_init, .instanceMethod yX4_init, .classLink R_law 10 RX5, .instantiable RX5 36, .initialized RX5, .code yX5_init cX5_init 1 none, .methodLink R_law 12 yX5_init, .instanceMethod yX5_init, .instantiable RX0 11, .instantiable RX1 8, .instantiable RX2 7, .instantiable RX3 10, .arrayClass .int, .arrayClass .long, .arrayClass .boolean] = true := by decide +kernel
theorem hid_X4 : ∀ hp', (fun h => ∃ ma' : Nat → Int32, (∀ x y, x + y ≤ 1 → ma' (21 * x + y) = nI (mk0 x y)) ∧ h = sbO :: (nkH (fun _ => 0) (fun _ => 0) (fun _ => 0) (fun _ => 0) 0 0 0 0 ++ (ntH ma' (nI 1) 0 0 0 0 0 ++ (rmH (fun _ _ => 0) (fun _ => 0) (fun _ => 0) (fun _ => 0) (fun _ => 0) (fun _ => 0) 1 0 0 0 ++ lnH (fun _ _ => 0) (fun _ _ => 0) (fun _ => 0) (fun _ => 0) (fun _ => 0) 1 1 1 0 0 0)))) hp' → ∀ i ∈ x_hid hp', i = 0 ∨ i ∈ ([1, 2, 3, 4, 5, 6, 7, 8, 9, 10, 11, 12, 13, 14, 15, 16, 17, 18, 19, 20] : List Nat) := by
  intro hp' h i hi
  obtain ⟨ma', -, rfl⟩ := h
  have hi : i ∈ ([0, 1, 6, 8, 15, 1, 2, 3, 4, 5, 2, 3, 4, 5, 6, 7, 7, 8, 9, 10, 11, 12, 13, 14, 9, 10, 11, 12, 13, 14, 15, 16, 17, 18, 19, 20, 16, 17, 18, 19, 20] : List Nat) := hi
  simp only [List.mem_cons, List.not_mem_nil, or_false] at hi ⊢
  omega
theorem hid_X5 : ∀ hp', (MW (fun _ => 0) 0 1 mk0 none 1 W0 0 mo0 1 W0) hp' → ∀ i ∈ x_hid hp', i = 40 ∨ i ∈ ([41, 42, 43, 44, 45, 46, 47, 48, 49, 50, 51, 52, 53, 54, 55, 56] : List Nat) := by
  intro hp' h i hi
  obtain ⟨th, nk, nt, rm, ln, lg, b1, b2, b3, b4, b5, qma, wa, ta, ha, b6, b7, p1, sa, wh, up, lo, rfl, -⟩ := h
  have hi : i ∈ ([40, 41, 42, 43, 44, 45, 46, 47, 48, 49, 50, 51, 52, 53, 54, 55, 56, 41, 42, 43, 44, 45, 46, 47, 48, 49, 50, 51, 52, 53, 54, 55, 56] : List Nat) := hi
  simp only [List.mem_cons, List.not_mem_nil, or_false] at hi ⊢
  omega
theorem LX_0 {ma' : Nat → Int32} {hp' : xH} (hma : ∀ x y, x + y ≤ 1 → ma' (21 * x + y) = nI (mk0 x y)) (hM : MW (fun _ => 0) 0 1 mk0 none 1 W0 0 mo0 1 W0 hp') : LX ((sbO :: (nkH (fun _ => 0) (fun _ => 0) (fun _ => 0) (fun _ => 0) 0 0 0 0 ++ (ntH ma' (nI 1) 0 0 0 0 0 ++ (rmH (fun _ _ => 0) (fun _ => 0) (fun _ => 0) (fun _ => 0) (fun _ => 0) (fun _ => 0) 1 0 0 0 ++ lnH (fun _ _ => 0) (fun _ _ => 0) (fun _ => 0) (fun _ => 0) (fun _ => 0) 1 1 1 0 0 0)))) ++ hp') := by
  refine ⟨fun _ => 0, 0, 1, mk0, none, 1, W0, 0, mo0, 1, W0, nkH (fun _ => 0) (fun _ => 0) (fun _ => 0) (fun _ => 0) 0 0 0 0, ntH ma' (nI 1) 0 0 0 0 0, rmH (fun _ _ => 0) (fun _ => 0) (fun _ => 0) (fun _ => 0) (fun _ => 0) (fun _ => 0) 1 0 0 0, lnH (fun _ _ => 0) (fun _ _ => 0) (fun _ => 0) (fun _ => 0) (fun _ => 0) 1 1 1 0 0 0, hp', rfl, ?_, ?_, ?_, ?_, hM, trivial⟩
  · refine ⟨_, _, _, _, _, _, _, _, rfl, ⟨by omega, fun k hk => absurd hk (Nat.not_lt_zero k), rfl, fun j hj => ?_⟩, rfl, rfl, Or.inl rfl⟩
    obtain rfl : j = 0 := by omega
    rfl
  · exact ⟨_, _, _, _, _, _, _, rfl, ⟨by omega, by omega, mk0_ok (by omega), rfl, hma⟩, rfl⟩
  · exact ⟨_, _, _, _, _, _, _, _, _, _, rfl, ⟨by omega, by omega, by omega, rfl, rfl, fun i j _ _ => ⟨by show 0 ≤ 1000; omega, rfl⟩, fun r _ => ⟨by show (-100000 : Int) ≤ 0; omega, by show (0 : Int) ≤ 100000; omega, rfl⟩⟩, Or.inl rfl⟩
  · exact ⟨_, _, _, _, _, _, _, _, _, _, _, rfl, ⟨by omega, by omega, by omega, by omega, rfl, rfl, fun p j _ _ => ⟨by show 0 ≤ 30; omega, rfl⟩, fun p _ => rfl⟩, Or.inl rfl⟩
set_option maxRecDepth 20000 in
theorem whole_start {p : Program} {e : Env} {s : State} {m : MethodId} {below : List Frame} {meth : Method} {c : Code} (l : Launch) {b L : Nat} {xs : Nat → Int32} (hL : L ≤ 2048) (C0 : lw_At p s m meth c b L xs) : W p l e room_1 s m #[Value.ref b] below meth c s.heap [] 0 0 (lw_Z below #[Value.ref b] s) (entryFrame m ([Value.ref b] : List Value).toArray 4) := by
  obtain ⟨hx, hb, hr, hml, hown, hts, hX, hbl, hlocks, hgv⟩ := id C0
  have hA : ∀ q : Nat, s.heap.size ≤ q → (fun q : Nat => s.heap.size ≤ q) q := fun _ h => h
  have hbA : ¬ (fun q : Nat => s.heap.size ≤ q) b := Nat.not_le.mpr hbl
  have htg : ∀ w ∈ lw_g, w.before #[Value.ref b] s = true := fun w hw => hts w (List.mem_filter.mp hw).1
  obtain ⟨c0, i0, k0⟩ := u_known (C := RX0) (T := TX0) (N := 11) htg (x_cf (ci := 0) rfl).1 (htg _ (x_fN_of wL_i _ (List.mem_of_getElem? (i := 12) rfl)))
  obtain ⟨c1, i1, k1⟩ := u_known (C := RX1) (T := TX1) (N := 8) htg (x_cf (ci := 1) rfl).1 (htg _ (x_fN_of wL_i _ (List.mem_of_getElem? (i := 13) rfl)))
  obtain ⟨c2, i2, k2⟩ := u_known (C := RX2) (T := TX2) (N := 7) htg (x_cf (ci := 2) rfl).1 (htg _ (x_fN_of wL_i _ (List.mem_of_getElem? (i := 14) rfl)))
  obtain ⟨c3, i3, k3⟩ := u_known (C := RX3) (T := TX3) (N := 10) htg (x_cf (ci := 3) rfl).1 (htg _ (x_fN_of wL_i _ (List.mem_of_getElem? (i := 15) rfl)))
  obtain ⟨c4, i4, k4⟩ := u_known (C := RX4) (T := TX4) (N := 4) htg (x_cf (ci := 4) rfl).1 (htg _ (x_fN_of wL_i _ (List.mem_of_getElem? (i := 1) rfl)))
  obtain ⟨c5, i5, k5⟩ := u_known (C := RX5) (T := TX5) (N := 36) htg (x_cf (ci := 5) rfl).1 (htg _ (x_fN_of wL_i _ (List.mem_of_getElem? (i := 7) rfl)))
  have hov := hts (.arrayOver (.array .int)) (by decide +kernel)
  obtain ⟨a0, y0, z0, f01, f02, f03⟩ := Cond.arrayClass_spec (htg _ (x_fN_of wL_i _ (List.mem_of_getElem? (i := 16) rfl)))
  obtain ⟨a1, y1, z1, f11, f12, f13⟩ := Cond.arrayClass_spec (htg _ (x_fN_of wL_i _ (List.mem_of_getElem? (i := 17) rfl)))
  obtain ⟨a2, y2, z2, f21, f22, f23⟩ := Cond.arrayClass_spec (htg _ (x_fN_of wL_i _ (List.mem_of_getElem? (i := 18) rfl)))
  obtain ⟨z3, a3, y3, -, f32, f33, f31⟩ := Cond.arrayOver_specA hov
  obtain ⟨dC, dI, hKc⟩ : ∃ (dC : Nat → ClassId) (dI : Nat → Nat → Nat), ∀ (k : Nat) (q : vw_C), x_cls[k]? = some q → u_Kn s q.1 q.2.1 q.2.2 (dC k) (dI k) := by
    refine ⟨fun k => ([c0, c1, c2, c3, c4, c5] : List ClassId).getD k c0, fun k => ([i0, i1, i2, i3, i4, i5] : List (Nat → Nat)).getD k i0, ?_⟩
    intro k q hq
    match k, hq with
    | 0, hq => cases hq; exact k0
    | 1, hq => cases hq; exact k1
    | 2, hq => cases hq; exact k2
    | 3, hq => cases hq; exact k3
    | 4, hq => cases hq; exact k4
    | 5, hq => cases hq; exact k5
    | k + 6, hq => cases hq
  obtain ⟨tc, hKt⟩ : ∃ tc : Nat → Nat, ∀ (k : Nat) (q : ClassId × FieldType), (x_t tc)[k]? = some q → ArrOfT s q.1 q.2 ∧ va_RA s q.1 q.2 := by
    refine ⟨fun k => ([a0, a1, a2, a3] : List Nat).getD k a0, ?_⟩
    intro k q hq
    match k, hq with
    | 0, hq => cases hq; exact ⟨fun N z => ⟨(fun k h => by cases h), y0, f02, z0, f03⟩, f01⟩
    | 1, hq => cases hq; exact ⟨fun N z => ⟨(fun k h => by cases h), y1, f12, z1, f13⟩, f11⟩
    | 2, hq => cases hq; exact ⟨fun N z => ⟨(fun k h => by cases h), y2, f22, z2, f23⟩, f21⟩
    | 3, hq => cases hq; exact ⟨fun N z => ⟨(fun k h => by cases h), y3, f32, z3, f33⟩, f31⟩
    | k + 4, hq => cases hq
  have hK : va_K (dC, dI) x_cls (x_t tc) s := ⟨hKc, hKt⟩
  have hao : va_AOA .int s := va_AOA.of hov
  have hC : CC p s m #[Value.ref b] meth c (dC, dI) tc (fun q : Nat => s.heap.size ≤ q) 4 R_law code := ⟨hx, hb, hml, hown, htg, hK, hA, hlocks⟩
  have G0 : GG p l e room_1 s m #[Value.ref b] below meth c (lw_Z below #[Value.ref b] s) (dC, dI) tc (fun q : Nat => s.heap.size ≤ q) 4 (OKf [99] (fun _ _ => b)) 0 0 0 [(0, .inr (99, 0))] [] [] := by
    refine o_newO (g := 0) (ci := 4) (fs := vX4_0) (fx := fX4_0) hC rfl rfl (x_fN_of wL_i _ (List.mem_of_getElem? (i := 0) rfl)) (x_fN_of wL_i _ (List.mem_of_getElem? (i := 1) rfl)) (x_fN_of wL_i _ (List.mem_of_getElem? (i := 2) rfl)) (fun _ => rfl) (by decide) ⟨Nat.le_of_ble_eq_true rfl, Nat.le_of_ble_eq_true rfl⟩ dL_0 ?_
    refine o_dup hC dL_3 rfl ?_
    refine o_callN (g := 0) (ci := 4) (G := [1, 2, 3, 4, 5, 6, 7, 8, 9, 10, 11, 12, 13, 14, 15, 16, 17, 18, 19, 20]) (hp := []) hC hao (n_X4 l) hid_X4 (by decide) rfl (x_fN_of wL_i _ (List.mem_of_getElem? (i := 3) rfl)) rfl (x_fN_of wL_i _ (List.mem_of_getElem? (i := 2) rfl)) (x_fN_of wL_i _ (List.mem_of_getElem? (i := 4) rfl)) (x_fN_of wL_i _ (List.mem_of_getElem? (i := 5) rfl)) rfl (by decide +kernel) ⟨Nat.le_of_ble_eq_true rfl, Nat.le_of_ble_eq_true rfl⟩ (Nat.le_of_ble_eq_true rfl) ⟨Nat.le_of_ble_eq_true rfl, Nat.le_of_ble_eq_true rfl⟩ dL_4 (fun hp' hPp => ?_)
    obtain ⟨ma', hma, rfl⟩ := hPp
    show GG p l e _ s m _ below meth c _ (dC, dI) tc _ _ _ _ _ _ _ _ (sbO :: (nkH (fun _ => 0) (fun _ => 0) (fun _ => 0) (fun _ => 0) 0 0 0 0 ++ (ntH ma' (nI 1) 0 0 0 0 0 ++ (rmH (fun _ _ => 0) (fun _ => 0) (fun _ => 0) (fun _ => 0) (fun _ => 0) (fun _ => 0) 1 0 0 0 ++ lnH (fun _ _ => 0) (fun _ _ => 0) (fun _ => 0) (fun _ => 0) (fun _ => 0) 1 1 1 0 0 0))))
    refine o_astore_n (i := 1) hC dL_7 rfl (by decide) ?_
    show GG p l e _ s m _ below meth c _ (dC, dI) tc _ _ _ _ _ _ [(0, .inr (99, 0)), (1, .inr (0, 0))] _ _
    refine o_newO (g := 40) (ci := 5) (fs := vX5_0) (fx := fX5_0) hC rfl rfl (x_fN_of wL_i _ (List.mem_of_getElem? (i := 6) rfl)) (x_fN_of wL_i _ (List.mem_of_getElem? (i := 7) rfl)) (x_fN_of wL_i _ (List.mem_of_getElem? (i := 8) rfl)) (fun _ => rfl) (by decide) ⟨Nat.le_of_ble_eq_true rfl, Nat.le_of_ble_eq_true rfl⟩ dL_8 ?_
    refine o_dup hC dL_11 rfl ?_
    refine o_callN (g := 40) (ci := 5) (G := [41, 42, 43, 44, 45, 46, 47, 48, 49, 50, 51, 52, 53, 54, 55, 56]) (hp := sbO :: (nkH (fun _ => 0) (fun _ => 0) (fun _ => 0) (fun _ => 0) 0 0 0 0 ++ (ntH ma' (nI 1) 0 0 0 0 0 ++ (rmH (fun _ _ => 0) (fun _ => 0) (fun _ => 0) (fun _ => 0) (fun _ => 0) (fun _ => 0) 1 0 0 0 ++ lnH (fun _ _ => 0) (fun _ _ => 0) (fun _ => 0) (fun _ => 0) (fun _ => 0) 1 1 1 0 0 0)))) hC hao (n_X5 l) hid_X5 (by decide) rfl (x_fN_of wL_i _ (List.mem_of_getElem? (i := 9) rfl)) rfl (x_fN_of wL_i _ (List.mem_of_getElem? (i := 8) rfl)) (x_fN_of wL_i _ (List.mem_of_getElem? (i := 10) rfl)) (x_fN_of wL_i _ (List.mem_of_getElem? (i := 11) rfl)) rfl (by decide +kernel) ⟨Nat.le_of_ble_eq_true rfl, Nat.le_of_ble_eq_true rfl⟩ (Nat.le_of_ble_eq_true rfl) ⟨Nat.le_of_ble_eq_true rfl, Nat.le_of_ble_eq_true rfl⟩ dL_12 (fun hp' hPp => ?_)
    have hLX := LX_0 hma hPp
    generalize (sbO :: (nkH (fun _ => 0) (fun _ => 0) (fun _ => 0) (fun _ => 0) 0 0 0 0 ++ (ntH ma' (nI 1) 0 0 0 0 0 ++ (rmH (fun _ _ => 0) (fun _ => 0) (fun _ => 0) (fun _ => 0) (fun _ => 0) (fun _ => 0) 1 0 0 0 ++ lnH (fun _ _ => 0) (fun _ _ => 0) (fun _ => 0) (fun _ => 0) (fun _ => 0) 1 1 1 0 0 0)))) ++ hp' = hp0 at hLX ⊢
    refine o_astore_n (i := 2) hC dL_15 rfl (by decide) ?_
    show GG p l e _ s m _ below meth c _ (dC, dI) tc _ _ _ _ _ _ [(0, .inr (99, 0)), (1, .inr (0, 0)), (2, .inr (40, 0))] _ _
    have hKR : YR L xs l mtL kLaw rt1 (fun pc lv st hp => GG p l e room_1 s m #[Value.ref b] below meth c (lw_Z below #[Value.ref b] s) (dC, dI) tc (fun q : Nat => s.heap.size ≤ q) 4 (OKf [99] (fun _ _ => b)) 53 1740 pc lv st hp) := by
      intro cuts n t lv st hp hrun
      have h2 := y_sound (z := zLaw) (cuts := cuts) (Q := lw_Z below #[Value.ref b] s) (below := below) (e := e) (R := room_1) (OK := OKf [99] (fun _ _ => b)) (nc := 53) (ns := 1740) hX hbl hbA (fun ad ho => congrFun (ho 99 List.mem_cons_self) 0) hC okLaw ⟨Nat.le_of_ble_eq_true rfl, Nat.le_of_ble_eq_true rfl⟩ ⟨Nat.le_of_ble_eq_true rfl, Nat.le_of_ble_eq_true rfl⟩ (fun pc a r lv hp hd hz h3 h1 h2 h0 ha hret => by
        rcases (by omega : a = 0 ∨ a = 1 ∨ a = 2 ∨ a = 3) with rfl | rfl | rfl | rfl
        · cases hz
        · cases hz
        · cases hz
        · cases hret
          intro ad H locs ls ho hP hD hS hl
          refine va_forget hS.2.2 ?_
          refine W.widen (k := 600000) (n := 7302250) (Nat.le_of_ble_eq_true rfl) (Nat.le_of_ble_eq_true rfl) ?_
          exact lw_ret hx hb hr hlocks hd) (fun _ _ _ _ h => h) n (x_to t kLaw) (x_to_suf t kLaw) lv st hp hrun
      cases hq : x_to t kLaw with
      | nil =>
        rw [hq] at hrun
        cases n with
        | zero => exact hrun.elim
        | succ n => exact hrun.elim
      | cons en r' =>
        rw [hq] at h2
        have h3 := x_to_pc t kLaw en r' hq
        show GG p l e room_1 s m #[Value.ref b] below meth c (lw_Z below #[Value.ref b] s) (dC, dI) tc (fun q : Nat => s.heap.size ≤ q) 4 (OKf [99] (fun _ _ => b)) 53 1740 t lv st hp
        rw [← h3]
        exact h2
    have h18 := law_loop hKR hL 600 0 (by omega) (by omega) hp0 hLX
    exact hKR [(18, [0, 1, 2, 3])] 5 16 [(0, .inr (99, 0)), (1, .inr (0, 0)), (2, .inr (40, 0))] [] hp0 h18
  have hl := lv_entry ([.ref b]) (n := 4) (Nat.le_of_ble_eq_true rfl)
  rw [lg_entry_eq]
  generalize (lg_sl ([.ref b]) ++ List.replicate (4 - (lg_sl ([.ref b])).length) Slot.unset).toArray = ls at hl ⊢
  have hl : lv_has ls 4 [(0, .ref b)] := hl
  exact G0 (fun _ _ => b) s.heap [] ls (fun _ _ => rfl) (fun k q h => by simp [x_w] at h) ⟨fun i j p q h => (by simp [x_w] at h), fun k q h => (by simp [x_w] at h)⟩ va_S.rf hl
set_option maxHeartbeats 4000000 in
theorem lw_walk (l : Launch) (b : Addr) (xs : List Int32) : MetFree l x (headSpec (Jvm.Cond.code x code maxLocals ret :: tables_1) room_1) (lw_P b xs) (fun _ _ _ _ _ => True) lw_Q := by
  refine MetFree.of_bodyS (code := code) (maxLocals := maxLocals) (ret := ret) (by decide) ?_ ?_
  · intro args s m h hn
    obtain ⟨meth, c, h1, h2, h3, h4, h5, h6, -, -⟩ := Cond.code_spec hn (atoms_spec (ws := Jvm.Cond.code x code maxLocals ret :: tables_1) h _ List.mem_cons_self)
    exact ⟨meth, c, h1, h2, h3, h4, h5, h6⟩
  · intro p e s m args below meth c s₁ B hml0 hP _
    obtain ⟨rfl, hx, hbd, hgv⟩ := hP
    obtain ⟨scr, harrAt, hlist, hof, hsmall⟩ := hx
    obtain ⟨hcb, hkn, -, -⟩ := State.arrayAt?_spec harrAt
    have hown : s.vm.findClass R_law = some m.cls := findClass_of_methodNamed B.named
    have hts0 : ∀ c ∈ (Jvm.Cond.code x code maxLocals ret :: tables_1), c.before #[Value.ref b] s = true := atoms_spec (ws := Jvm.Cond.code x code maxLocals ret :: tables_1) B.pre
    have hts : ∀ w ∈ lw_tbl, w.before #[Value.ref b] s = true := k2_hts_sels lw_privs (fun w hw => hts0 w (List.mem_cons_of_mem _ hw)) lw_privs_ok
    have hml : c.maxLocals = 4 := B.maxLocals_eq (hts0 _ List.mem_cons_self)
    have X₀ : Stand p l e room_1 s m #[Value.ref b] below meth c s₁ [] 0 0 := Stand.of_body B
    have hh0 : s₁.heap = s.heap := by rw [B.state]; rfl
    have hsz : scr.slots.size = xs.length := by rw [← Array.length_toList, hlist, List.length_map]
    have hval : ∀ j : Nat, j < xs.length → scr.slots[j]? = some (.int (xs.getD j 0)) := fun j hj => by
      rw [← Array.getElem?_toList, hlist]
      simp [hj]
    have hbl : b < s.heap.size := (Array.getElem?_eq_some_iff.mp hcb).1
    have hX : va_X b xs.length (fun j => xs.getD j 0) s s.heap := ⟨scr, hcb, hof, hkn, hsz, hval⟩
    have K : W p l e room_1 s m #[Value.ref b] below meth c s₁.heap [] 0 0 (lw_Z below #[Value.ref b] s) (entryFrame m ([Value.ref b] : List Value).toArray 4) := by
      rw [hh0]
      exact whole_start l hbd ⟨B.exec, B.bytes, B.returns, hml, hown, hts, hX, hbl, B.notSynchronized, hgv⟩
    obtain ⟨t, a1, o, b1, b2, b3⟩ := K s₁ rfl X₀
    exact ⟨t, o, a1, b1, b2, b3⟩
theorem lw_pre_spec {args : Array Value} {s : State} (h : (Jvm.Cond.and given_1 narrow_1).before args s = true) (hr : rest_1_c.before args s = true) : ∃ (b : Addr) (xs : List Int32), lw_P b xs args s := by
  have hs := flat_of_before _ h
  have hq := flat_of_before _ hr
  have hc : (Cond.count 1).before args s = true := hs _ (by decide +kernel)
  have harr : (Cond.arrayOf (.arg 0) .int).before args s = true := hs _ (by decide +kernel)
  have hle : (Cond.le (.length (.arg 0)) (.int 2048)).before args s = true := hs _ (by decide +kernel)
  have hlen : (Cond.isInt (.length (.arg 0))).before args s = true := hq _ (by decide +kernel)
  have hall : (Cond.all (.arg 0) (.isInt (.elem (.arg 0) (.index 0)))).before args s = true := hq _ (by decide +kernel)
  obtain ⟨b, xs, hb, hx⟩ := State.ints_of_pre rfl harr hlen hall
  have hsm : xs.length < 2 ^ 31 := hx.choose_spec.2.2.2
  have hev : (Term.length (.arg 0)).eval args s none [] s = some (.int xs.length.toInt32) := hx.length_eval hb
  have hv := Cond.le_ints hev (show (Term.int 2048).eval args s none [] s = some (.int 2048) from rfl)
  have hd : xs.length.toInt32 ≤ 2048 := by
    simpa [Cond.before, Cond.holds, hv] using hle
  have hN : xs.length ≤ 2048 := (Int32.ofNat_le_ofNat hsm (by decide)).mp (show Int32.ofNat xs.length ≤ Int32.ofNat 2048 from hd)
  exact ⟨b, xs, Cond.one_arg hc (show args[0]? = some (.ref b) from hb), hx, hN, h⟩
theorem lw_comes (l : Launch) : Comes l x (Jvm.Cond.code x code maxLocals ret :: tables_1) room_1 (fun tb e args s => Calls_1 tb e args s ∧ rest_1 tb e args s ∧ Pre_1 tb e args s)
    (fun _ _ args s o t => lw_Q args s o t) := by
  intro p e ha hc hk s m args below hf hfit hheap happ hpre
  obtain ⟨b, xs, hP⟩ := lw_pre_spec hpre.2.2 hpre.2.1
  obtain ⟨k, o, h1, h2, h3, hQ⟩ := lw_walk l b xs p e ha hc hk s m args below hf ((Spec.applies_iff_loose hf).mp happ).1 hP trivial
  exact ⟨k, o, h1, h2, h3, hQ⟩
theorem lw_frame {s t : State} {o : Outcome} {args : Array Value} (h : Framed s o t [] 600000 7302250) :
    Framed s o t (fieldLocs frame_1_writes args s ++ arrayLocs frame_1_arrays args s ++ staticLocs frame_1_statics s) 600000 7302250 := h
theorem lw_limb (L : Cond) (hL : ∀ (args : Array Value) (s t : State), L.after args s (.returned (some (.int 1))) t = true) :
    ArmFor flags0 classFile x code maxLocals ret World_1 tables_1 room_1 Calls_1 rest_1 Pre_1
      (fun tb e a s o t => postC L tb e a s o t ∧ Framed s o t (fieldLocs frame_1_writes a s ++ arrayLocs frame_1_arrays a s ++ staticLocs frame_1_statics s) 600000 7302250) := by
  intro l _ _ _ p e ha hc hk s m args below hf hfit hheap happ hpre
  obtain ⟨k, o, h1, h2, h3, rfl, hF⟩ := lw_comes l p e ha hc hk s m args below hf hfit hheap happ hpre
  exact ⟨k, _, h1, h2, h3, hL args s _, lw_frame hF⟩
theorem i_vc : Claimed_1_1 ∧ Claimed_1_2 := ⟨lw_limb limb_1_1 (fun args s t => by simp [limb_1_1, Cond.after, Cond.holds, Cond.value]), lw_limb limb_1_2 (fun args s t => Cond.after_iff.mpr (by
  first | (rw [show limb_1_2 = Cond.eq .result (.int 1) from rfl, Cond.eq_ints (x := 1) (y := 1) rfl rfl]; simp; done) | (simp [limb_1_2, Cond.value, Term.eval]; done)))⟩

