/-! ===== constructors ===== -/
def zX1_init : xM := (yX1_init, cX1_init, 1, none, 1, 20)
abbrev fX1_0 : List xV := [.inl .null, .inl .null, .inl .null, .inl .null, vI 0, vI 0, vI 0, vI 0]
abbrev vX1_0 : List Value := [.null, .null, .null, .null, .int 0, .int 0, .int 0, .int 0]
def zX3_init : xM := (yX3_init, cX3_init, 1, none, 1, 20)
abbrev fX3_0 : List xV := [.inl .null, .inl .null, .inl .null, .inl .null, .inl .null, .inl .null, vI 0, vI 0, vI 0, vI 0]
abbrev vX3_0 : List Value := [.null, .null, .null, .null, .null, .null, .int 0, .int 0, .int 0, .int 0]
def zX0_init : xM := (yX0_init, cX0_init, 1, none, 1, 20)
abbrev fX0_0 : List xV := [.inl .null, .inl .null, .inl .null, .inl .null, .inl .null, vI 0, vI 0, vL 0, vI 0, vL 0, vL 0]
abbrev vX0_0 : List Value := [.null, .null, .null, .null, .null, .int 0, .int 0, .long 0, .int 0, .long 0, .long 0]
def zX2_init : xM := (yX2_init, cX2_init, 1, none, 1, 22)
abbrev fX2_0 : List xV := [.inl .null, vI 0, vI 0, vI 0, vI 0, vI 0, vI 0]
abbrev vX2_0 : List Value := [.null, .int 0, .int 0, .int 0, .int 0, .int 0, .int 0]
def zX5_init : xM := (yX5_init, cX5_init, 1, none, 2, 43)
abbrev fX5_0 : List xV := [vI 0, .inl .null, vI 0, .inl .null, .inl .null, .inl .null, vI 0, vI 0, .inl .null, vI 0, .inl .null, vI 0, vI 0, vI 0, vI 0, vI 0, vI 0, vI 0, vI 0, vI 0, vI 0, .inl .null, vI 0, .inl .null, .inl .null, .inl .null, vI 0, .inl .null, .inl .null, vI 0, .inl .null, .inl .null, .inl .null, .inl .null, vL 0, vL 0]
abbrev vX5_0 : List Value := [.int 0, .null, .int 0, .null, .null, .null, .int 0, .int 0, .null, .int 0, .null, .int 0, .int 0, .int 0, .int 0, .int 0, .int 0, .int 0, .int 0, .int 0, .int 0, .null, .int 0, .null, .null, .null, .int 0, .null, .null, .int 0, .null, .null, .null, .null, .long 0, .long 0]
def zX4_init : xM := (yX4_init, cX4_init, 1, none, 2, 42)
abbrev fX4_0 : List xV := [.inl .null, .inl .null, .inl .null, .inl .null]
abbrev vX4_0 : List Value := [.null, .null, .null, .null]
section XC17
variable {p : Program} {l : Launch} {e : Env} {R : Room} {s : State} {m : MethodId} {args : Array Value} {below : List Frame} {meth : Method} {c : Code} {Q : State → Prop} {D : va_G} {tc : Nat → Nat} {A : Nat → Prop} {nL : Nat} {OK : (Nat → Nat → Nat) → Prop} {own : String} {cc : ByteArray} {nc ns pc : Nat} {lv : xL} {st : List xV} {hp : xH}
theorem o_c17 (hC : CC p s m args meth c D tc A nL own cc) {z : xM} {b d idx : Nat} (hd : decode cc pc = .ok (.invokevirtual idx, 3)) (hI : x_q17 (fun _ => z) own R.frames R.locals nL none pc (.invokevirtual idx) 3 0 b d .null [] = true) (hcs : nc ≤ R.cells ∧ ns ≤ R.slots) (h : x_o17 l (fun _ => z) [] (fun _ _ => False) (fun _ lv st hp => GG p l e R s m args below meth c Q D tc A nL OK nc ns (pc + 3) lv st hp) 0 b d .null [] [] lv st hp) : GG p l e R s m args below meth c Q D tc A nL OK nc ns pc lv st hp :=
  ss_17 (a := 0) (b := b) (d := d) (val := .null) (ts := []) (mth := fun _ => z) (code := []) (ret := fun _ _ => False) (rest := []) (go := fun _ lv st hp => GG p l e R s m args below meth c Q D tc A nL OK nc ns (pc + 3) lv st hp) (rt := none) hC hd hI (fun _ _ _ h => h) ⟨Nat.le_refl _, Nat.le_refl _⟩ hcs h
end XC17
theorem dX1i_0 : decode cX1_init 0 = .ok (.aload_n 0, 1) := by decide +kernel
theorem dX1i_1 : decode cX1_init 1 = .ok (.invokespecial 3, 3) := by decide +kernel
theorem dX1i_4 : decode cX1_init 4 = .ok (.aload_n 0, 1) := by decide +kernel
theorem dX1i_5 : decode cX1_init 5 = .ok (.bipush 25, 2) := by decide +kernel
theorem dX1i_7 : decode cX1_init 7 = .ok (.newarray .int, 2) := by decide +kernel
theorem dX1i_9 : decode cX1_init 9 = .ok (.putfield 11, 3) := by decide +kernel
theorem dX1i_12 : decode cX1_init 12 = .ok (.aload_n 0, 1) := by decide +kernel
theorem dX1i_13 : decode cX1_init 13 = .ok (.bipush 26, 2) := by decide +kernel
theorem dX1i_15 : decode cX1_init 15 = .ok (.newarray .int, 2) := by decide +kernel
theorem dX1i_17 : decode cX1_init 17 = .ok (.putfield 15, 3) := by decide +kernel
theorem dX1i_20 : decode cX1_init 20 = .ok (.aload_n 0, 1) := by decide +kernel
theorem dX1i_21 : decode cX1_init 21 = .ok (.bipush 26, 2) := by decide +kernel
theorem dX1i_23 : decode cX1_init 23 = .ok (.newarray .int, 2) := by decide +kernel
theorem dX1i_25 : decode cX1_init 25 = .ok (.putfield 18, 3) := by decide +kernel
theorem dX1i_28 : decode cX1_init 28 = .ok (.aload_n 0, 1) := by decide +kernel
theorem dX1i_29 : decode cX1_init 29 = .ok (.bipush 24, 2) := by decide +kernel
theorem dX1i_31 : decode cX1_init 31 = .ok (.newarray .int, 2) := by decide +kernel
theorem dX1i_33 : decode cX1_init 33 = .ok (.putfield 21, 3) := by decide +kernel
theorem dX1i_36 : decode cX1_init 36 = .ok (.return_, 1) := by decide +kernel
theorem wX1_i : x_fN [.methodLink RX1 3 Lib.objectInit, .instanceMethod Lib.objectInit, .code Lib.objectInit ⟨#[0xb1]⟩ 1 none, .arrayClass .int, .fieldLink RX1 11 (TX1 0).1 (TX1 0).2.1 (TX1 0).2.2.1, .fieldLink RX1 15 (TX1 1).1 (TX1 1).2.1 (TX1 1).2.2.1, .fieldLink RX1 18 (TX1 2).1 (TX1 2).2.1 (TX1 2).2.2.1, .fieldLink RX1 21 (TX1 3).1 (TX1 3).2.1 (TX1 3).2.2.1] = true := by decide +kernel
set_option maxRecDepth 20000 in
theorem n_X1 (l : Launch) : EvN l zX1_init 4 101 1 [(1, .inr (1, fX1_0))] (fun h => h = nkH (fun _ => 0) (fun _ => 0) (fun _ => 0) (fun _ => 0) 0 0 0 0) := by
  refine evN_of (by decide +kernel) (Nat.le_of_ble_eq_true rfl) rfl ?_
  intro p e s m args below meth c D tc A ad0 hC hrt hnm hao
  refine o_aload_n (i := 0) hC dX1i_0 rfl rfl ?_
  refine o_objInit hC (x_fN_of wX1_i _ (List.mem_of_getElem? (i := 0) rfl)) (x_fN_of wX1_i _ (List.mem_of_getElem? (i := 1) rfl)) (x_fN_of wX1_i _ (List.mem_of_getElem? (i := 2) rfl)) (Nat.le_of_ble_eq_true rfl) (Nat.le_of_ble_eq_true rfl) dX1i_1 ?_
  refine o_aload_n (i := 0) hC dX1i_4 rfl rfl ?_
  refine o_bipush (v := 25) hC dX1i_5 (by decide) ?_
  refine o_newI (g := 2) (N := 25) hC rfl (x_fN_of wX1_i _ (List.mem_of_getElem? (i := 3) rfl)) (by decide) (by decide) (by decide) ⟨Nat.le_of_ble_eq_true rfl, Nat.le_of_ble_eq_true rfl⟩ dX1i_7 ?_
  show GG p l e _ s m args below meth c _ D tc A _ _ _ _ _ _ _ [(1, .inr (1, [.inl .null, .inl .null, .inl .null, .inl .null, vI 0, vI 0, vI 0, vI 0])), iA 2 25 (fun _ => 0)]
  refine o_putF (ci := 1) (j := 0) (g := 1) hC hnm rfl rfl (by decide) rfl (x_fN_of wX1_i _ (List.mem_of_getElem? (i := 4) rfl)) rfl (by decide) (fun _ => ⟨rfl, rfl⟩) dX1i_9 ?_
  show GG p l e _ s m args below meth c _ D tc A _ _ _ _ _ _ _ [(1, .inr (1, [.inr (2, 0), .inl .null, .inl .null, .inl .null, vI 0, vI 0, vI 0, vI 0])), iA 2 25 (fun _ => 0)]
  refine o_aload_n (i := 0) hC dX1i_12 rfl rfl ?_
  refine o_bipush (v := 26) hC dX1i_13 (by decide) ?_
  refine o_newI (g := 3) (N := 26) hC rfl (x_fN_of wX1_i _ (List.mem_of_getElem? (i := 3) rfl)) (by decide) (by decide) (by decide) ⟨Nat.le_of_ble_eq_true rfl, Nat.le_of_ble_eq_true rfl⟩ dX1i_15 ?_
  show GG p l e _ s m args below meth c _ D tc A _ _ _ _ _ _ _ [(1, .inr (1, [.inr (2, 0), .inl .null, .inl .null, .inl .null, vI 0, vI 0, vI 0, vI 0])), iA 2 25 (fun _ => 0), iA 3 26 (fun _ => 0)]
  refine o_putF (ci := 1) (j := 1) (g := 1) hC hnm rfl rfl (by decide) rfl (x_fN_of wX1_i _ (List.mem_of_getElem? (i := 5) rfl)) rfl (by decide) (fun _ => ⟨rfl, rfl⟩) dX1i_17 ?_
  show GG p l e _ s m args below meth c _ D tc A _ _ _ _ _ _ _ [(1, .inr (1, [.inr (2, 0), .inr (3, 0), .inl .null, .inl .null, vI 0, vI 0, vI 0, vI 0])), iA 2 25 (fun _ => 0), iA 3 26 (fun _ => 0)]
  refine o_aload_n (i := 0) hC dX1i_20 rfl rfl ?_
  refine o_bipush (v := 26) hC dX1i_21 (by decide) ?_
  refine o_newI (g := 4) (N := 26) hC rfl (x_fN_of wX1_i _ (List.mem_of_getElem? (i := 3) rfl)) (by decide) (by decide) (by decide) ⟨Nat.le_of_ble_eq_true rfl, Nat.le_of_ble_eq_true rfl⟩ dX1i_23 ?_
  show GG p l e _ s m args below meth c _ D tc A _ _ _ _ _ _ _ [(1, .inr (1, [.inr (2, 0), .inr (3, 0), .inl .null, .inl .null, vI 0, vI 0, vI 0, vI 0])), iA 2 25 (fun _ => 0), iA 3 26 (fun _ => 0), iA 4 26 (fun _ => 0)]
  refine o_putF (ci := 1) (j := 2) (g := 1) hC hnm rfl rfl (by decide) rfl (x_fN_of wX1_i _ (List.mem_of_getElem? (i := 6) rfl)) rfl (by decide) (fun _ => ⟨rfl, rfl⟩) dX1i_25 ?_
  show GG p l e _ s m args below meth c _ D tc A _ _ _ _ _ _ _ [(1, .inr (1, [.inr (2, 0), .inr (3, 0), .inr (4, 0), .inl .null, vI 0, vI 0, vI 0, vI 0])), iA 2 25 (fun _ => 0), iA 3 26 (fun _ => 0), iA 4 26 (fun _ => 0)]
  refine o_aload_n (i := 0) hC dX1i_28 rfl rfl ?_
  refine o_bipush (v := 24) hC dX1i_29 (by decide) ?_
  refine o_newI (g := 5) (N := 24) hC rfl (x_fN_of wX1_i _ (List.mem_of_getElem? (i := 3) rfl)) (by decide) (by decide) (by decide) ⟨Nat.le_of_ble_eq_true rfl, Nat.le_of_ble_eq_true rfl⟩ dX1i_31 ?_
  show GG p l e _ s m args below meth c _ D tc A _ _ _ _ _ _ _ [(1, .inr (1, [.inr (2, 0), .inr (3, 0), .inr (4, 0), .inl .null, vI 0, vI 0, vI 0, vI 0])), iA 2 25 (fun _ => 0), iA 3 26 (fun _ => 0), iA 4 26 (fun _ => 0), iA 5 24 (fun _ => 0)]
  refine o_putF (ci := 1) (j := 3) (g := 1) hC hnm rfl rfl (by decide) rfl (x_fN_of wX1_i _ (List.mem_of_getElem? (i := 7) rfl)) rfl (by decide) (fun _ => ⟨rfl, rfl⟩) dX1i_33 ?_
  show GG p l e _ s m args below meth c _ D tc A _ _ _ _ _ _ _ [(1, .inr (1, [.inr (2, 0), .inr (3, 0), .inr (4, 0), .inr (5, 0), vI 0, vI 0, vI 0, vI 0])), iA 2 25 (fun _ => 0), iA 3 26 (fun _ => 0), iA 4 26 (fun _ => 0), iA 5 24 (fun _ => 0)]
  exact o_retN hC hrt dX1i_36 rfl ⟨rfl, rfl⟩
theorem dX3i_0 : decode cX3_init 0 = .ok (.aload_n 0, 1) := by decide +kernel
theorem dX3i_1 : decode cX3_init 1 = .ok (.invokespecial 3, 3) := by decide +kernel
theorem dX3i_4 : decode cX3_init 4 = .ok (.aload_n 0, 1) := by decide +kernel
theorem dX3i_5 : decode cX3_init 5 = .ok (.iconst 5, 1) := by decide +kernel
theorem dX3i_6 : decode cX3_init 6 = .ok (.iconst 5, 1) := by decide +kernel
theorem dX3i_7 : decode cX3_init 7 = .ok (.multianewarray 9 2, 4) := by decide +kernel
theorem dX3i_11 : decode cX3_init 11 = .ok (.putfield 11, 3) := by decide +kernel
theorem dX3i_14 : decode cX3_init 14 = .ok (.aload_n 0, 1) := by decide +kernel
theorem dX3i_15 : decode cX3_init 15 = .ok (.iconst 5, 1) := by decide +kernel
theorem dX3i_16 : decode cX3_init 16 = .ok (.newarray .int, 2) := by decide +kernel
theorem dX3i_18 : decode cX3_init 18 = .ok (.putfield 16, 3) := by decide +kernel
theorem dX3i_21 : decode cX3_init 21 = .ok (.aload_n 0, 1) := by decide +kernel
theorem dX3i_22 : decode cX3_init 22 = .ok (.iconst 5, 1) := by decide +kernel
theorem dX3i_23 : decode cX3_init 23 = .ok (.newarray .int, 2) := by decide +kernel
theorem dX3i_25 : decode cX3_init 25 = .ok (.putfield 20, 3) := by decide +kernel
theorem dX3i_28 : decode cX3_init 28 = .ok (.aload_n 0, 1) := by decide +kernel
theorem dX3i_29 : decode cX3_init 29 = .ok (.iconst 5, 1) := by decide +kernel
theorem dX3i_30 : decode cX3_init 30 = .ok (.newarray .int, 2) := by decide +kernel
theorem dX3i_32 : decode cX3_init 32 = .ok (.putfield 23, 3) := by decide +kernel
theorem dX3i_35 : decode cX3_init 35 = .ok (.aload_n 0, 1) := by decide +kernel
theorem dX3i_36 : decode cX3_init 36 = .ok (.iconst 5, 1) := by decide +kernel
theorem dX3i_37 : decode cX3_init 37 = .ok (.newarray .long, 2) := by decide +kernel
theorem dX3i_39 : decode cX3_init 39 = .ok (.putfield 26, 3) := by decide +kernel
theorem dX3i_42 : decode cX3_init 42 = .ok (.aload_n 0, 1) := by decide +kernel
theorem dX3i_43 : decode cX3_init 43 = .ok (.iconst 5, 1) := by decide +kernel
theorem dX3i_44 : decode cX3_init 44 = .ok (.newarray .int, 2) := by decide +kernel
theorem dX3i_46 : decode cX3_init 46 = .ok (.putfield 30, 3) := by decide +kernel
theorem dX3i_49 : decode cX3_init 49 = .ok (.aload_n 0, 1) := by decide +kernel
theorem dX3i_50 : decode cX3_init 50 = .ok (.iconst 1, 1) := by decide +kernel
theorem dX3i_51 : decode cX3_init 51 = .ok (.putfield 33, 3) := by decide +kernel
theorem dX3i_54 : decode cX3_init 54 = .ok (.return_, 1) := by decide +kernel
theorem wX3_i : x_fN [.methodLink RX3 3 Lib.objectInit, .instanceMethod Lib.objectInit, .code Lib.objectInit ⟨#[0xb1]⟩ 1 none, .classLink RX3 9 ("[" ++ (FieldType.array .int).toString), .arrayClass .int, .fieldLink RX3 11 (TX3 0).1 (TX3 0).2.1 (TX3 0).2.2.1, .fieldLink RX3 16 (TX3 1).1 (TX3 1).2.1 (TX3 1).2.2.1, .fieldLink RX3 20 (TX3 2).1 (TX3 2).2.1 (TX3 2).2.2.1, .fieldLink RX3 23 (TX3 3).1 (TX3 3).2.1 (TX3 3).2.2.1, .arrayClass .long, .fieldLink RX3 26 (TX3 4).1 (TX3 4).2.1 (TX3 4).2.2.1, .fieldLink RX3 30 (TX3 5).1 (TX3 5).2.1 (TX3 5).2.2.1, .fieldLink RX3 33 (TX3 6).1 (TX3 6).2.1 (TX3 6).2.2.1] = true := by decide +kernel
set_option maxRecDepth 20000 in
theorem n_X3 (l : Launch) : EvN l zX3_init 11 55 8 [(8, .inr (3, fX3_0))] (fun h => h = rmH (fun _ _ => 0) (fun _ => 0) (fun _ => 0) (fun _ => 0) (fun _ => 0) (fun _ => 0) 1 0 0 0) := by
  refine evN_of (by decide +kernel) (Nat.le_of_ble_eq_true rfl) rfl ?_
  intro p e s m args below meth c D tc A ad0 hC hrt hnm hao
  refine o_aload_n (i := 0) hC dX3i_0 rfl rfl ?_
  refine o_objInit hC (x_fN_of wX3_i _ (List.mem_of_getElem? (i := 0) rfl)) (x_fN_of wX3_i _ (List.mem_of_getElem? (i := 1) rfl)) (x_fN_of wX3_i _ (List.mem_of_getElem? (i := 2) rfl)) (Nat.le_of_ble_eq_true rfl) (Nat.le_of_ble_eq_true rfl) dX3i_1 ?_
  refine o_aload_n (i := 0) hC dX3i_4 rfl rfl ?_
  refine o_iconst (v := 5) hC dX3i_5 (by decide) ?_
  refine o_iconst (v := 5) hC dX3i_6 (by decide) ?_
  refine o_multi (g := 9) (N := 5) (K := 5) hC rfl (x_fN_of wX3_i _ (List.mem_of_getElem? (i := 3) rfl)) hao (x_fN_of wX3_i _ (List.mem_of_getElem? (i := 4) rfl)) (by decide) (by decide) (by decide) (by decide) (by decide) ⟨Nat.le_of_ble_eq_true rfl, Nat.le_of_ble_eq_true rfl⟩ dX3i_7 ?_
  show GG p l e _ s m args below meth c _ D tc A _ _ _ _ _ _ _ [(8, .inr (3, [.inl .null, .inl .null, .inl .null, .inl .null, .inl .null, .inl .null, vI 0, vI 0, vI 0, vI 0])), gA 9 5 5 (fun _ _ => 0)]
  refine o_putF (ci := 3) (j := 0) (g := 8) hC hnm rfl rfl (by decide) rfl (x_fN_of wX3_i _ (List.mem_of_getElem? (i := 5) rfl)) rfl (by decide) (fun _ => ⟨rfl, rfl⟩) dX3i_11 ?_
  show GG p l e _ s m args below meth c _ D tc A _ _ _ _ _ _ _ [(8, .inr (3, [.inr (9, 0), .inl .null, .inl .null, .inl .null, .inl .null, .inl .null, vI 0, vI 0, vI 0, vI 0])), gA 9 5 5 (fun _ _ => 0)]
  refine o_aload_n (i := 0) hC dX3i_14 rfl rfl ?_
  refine o_iconst (v := 5) hC dX3i_15 (by decide) ?_
  refine o_newI (g := 10) (N := 5) hC rfl (x_fN_of wX3_i _ (List.mem_of_getElem? (i := 4) rfl)) (by decide) (by decide) (by decide) ⟨Nat.le_of_ble_eq_true rfl, Nat.le_of_ble_eq_true rfl⟩ dX3i_16 ?_
  show GG p l e _ s m args below meth c _ D tc A _ _ _ _ _ _ _ [(8, .inr (3, [.inr (9, 0), .inl .null, .inl .null, .inl .null, .inl .null, .inl .null, vI 0, vI 0, vI 0, vI 0])), gA 9 5 5 (fun _ _ => 0), iA 10 5 (fun _ => 0)]
  refine o_putF (ci := 3) (j := 1) (g := 8) hC hnm rfl rfl (by decide) rfl (x_fN_of wX3_i _ (List.mem_of_getElem? (i := 6) rfl)) rfl (by decide) (fun _ => ⟨rfl, rfl⟩) dX3i_18 ?_
  show GG p l e _ s m args below meth c _ D tc A _ _ _ _ _ _ _ [(8, .inr (3, [.inr (9, 0), .inr (10, 0), .inl .null, .inl .null, .inl .null, .inl .null, vI 0, vI 0, vI 0, vI 0])), gA 9 5 5 (fun _ _ => 0), iA 10 5 (fun _ => 0)]
  refine o_aload_n (i := 0) hC dX3i_21 rfl rfl ?_
  refine o_iconst (v := 5) hC dX3i_22 (by decide) ?_
  refine o_newI (g := 11) (N := 5) hC rfl (x_fN_of wX3_i _ (List.mem_of_getElem? (i := 4) rfl)) (by decide) (by decide) (by decide) ⟨Nat.le_of_ble_eq_true rfl, Nat.le_of_ble_eq_true rfl⟩ dX3i_23 ?_
  show GG p l e _ s m args below meth c _ D tc A _ _ _ _ _ _ _ [(8, .inr (3, [.inr (9, 0), .inr (10, 0), .inl .null, .inl .null, .inl .null, .inl .null, vI 0, vI 0, vI 0, vI 0])), gA 9 5 5 (fun _ _ => 0), iA 10 5 (fun _ => 0), iA 11 5 (fun _ => 0)]
  refine o_putF (ci := 3) (j := 2) (g := 8) hC hnm rfl rfl (by decide) rfl (x_fN_of wX3_i _ (List.mem_of_getElem? (i := 7) rfl)) rfl (by decide) (fun _ => ⟨rfl, rfl⟩) dX3i_25 ?_
  show GG p l e _ s m args below meth c _ D tc A _ _ _ _ _ _ _ [(8, .inr (3, [.inr (9, 0), .inr (10, 0), .inr (11, 0), .inl .null, .inl .null, .inl .null, vI 0, vI 0, vI 0, vI 0])), gA 9 5 5 (fun _ _ => 0), iA 10 5 (fun _ => 0), iA 11 5 (fun _ => 0)]
  refine o_aload_n (i := 0) hC dX3i_28 rfl rfl ?_
  refine o_iconst (v := 5) hC dX3i_29 (by decide) ?_
  refine o_newI (g := 12) (N := 5) hC rfl (x_fN_of wX3_i _ (List.mem_of_getElem? (i := 4) rfl)) (by decide) (by decide) (by decide) ⟨Nat.le_of_ble_eq_true rfl, Nat.le_of_ble_eq_true rfl⟩ dX3i_30 ?_
  show GG p l e _ s m args below meth c _ D tc A _ _ _ _ _ _ _ [(8, .inr (3, [.inr (9, 0), .inr (10, 0), .inr (11, 0), .inl .null, .inl .null, .inl .null, vI 0, vI 0, vI 0, vI 0])), gA 9 5 5 (fun _ _ => 0), iA 10 5 (fun _ => 0), iA 11 5 (fun _ => 0), iA 12 5 (fun _ => 0)]
  refine o_putF (ci := 3) (j := 3) (g := 8) hC hnm rfl rfl (by decide) rfl (x_fN_of wX3_i _ (List.mem_of_getElem? (i := 8) rfl)) rfl (by decide) (fun _ => ⟨rfl, rfl⟩) dX3i_32 ?_
  show GG p l e _ s m args below meth c _ D tc A _ _ _ _ _ _ _ [(8, .inr (3, [.inr (9, 0), .inr (10, 0), .inr (11, 0), .inr (12, 0), .inl .null, .inl .null, vI 0, vI 0, vI 0, vI 0])), gA 9 5 5 (fun _ _ => 0), iA 10 5 (fun _ => 0), iA 11 5 (fun _ => 0), iA 12 5 (fun _ => 0)]
  refine o_aload_n (i := 0) hC dX3i_35 rfl rfl ?_
  refine o_iconst (v := 5) hC dX3i_36 (by decide) ?_
  refine o_newL (g := 13) (N := 5) hC rfl (x_fN_of wX3_i _ (List.mem_of_getElem? (i := 9) rfl)) (by decide) (by decide) (by decide) ⟨Nat.le_of_ble_eq_true rfl, Nat.le_of_ble_eq_true rfl⟩ dX3i_37 ?_
  show GG p l e _ s m args below meth c _ D tc A _ _ _ _ _ _ _ [(8, .inr (3, [.inr (9, 0), .inr (10, 0), .inr (11, 0), .inr (12, 0), .inl .null, .inl .null, vI 0, vI 0, vI 0, vI 0])), gA 9 5 5 (fun _ _ => 0), iA 10 5 (fun _ => 0), iA 11 5 (fun _ => 0), iA 12 5 (fun _ => 0), lA 13 5 (fun _ => 0)]
  refine o_putF (ci := 3) (j := 4) (g := 8) hC hnm rfl rfl (by decide) rfl (x_fN_of wX3_i _ (List.mem_of_getElem? (i := 10) rfl)) rfl (by decide) (fun _ => ⟨rfl, rfl⟩) dX3i_39 ?_
  show GG p l e _ s m args below meth c _ D tc A _ _ _ _ _ _ _ [(8, .inr (3, [.inr (9, 0), .inr (10, 0), .inr (11, 0), .inr (12, 0), .inr (13, 0), .inl .null, vI 0, vI 0, vI 0, vI 0])), gA 9 5 5 (fun _ _ => 0), iA 10 5 (fun _ => 0), iA 11 5 (fun _ => 0), iA 12 5 (fun _ => 0), lA 13 5 (fun _ => 0)]
  refine o_aload_n (i := 0) hC dX3i_42 rfl rfl ?_
  refine o_iconst (v := 5) hC dX3i_43 (by decide) ?_
  refine o_newI (g := 14) (N := 5) hC rfl (x_fN_of wX3_i _ (List.mem_of_getElem? (i := 4) rfl)) (by decide) (by decide) (by decide) ⟨Nat.le_of_ble_eq_true rfl, Nat.le_of_ble_eq_true rfl⟩ dX3i_44 ?_
  show GG p l e _ s m args below meth c _ D tc A _ _ _ _ _ _ _ [(8, .inr (3, [.inr (9, 0), .inr (10, 0), .inr (11, 0), .inr (12, 0), .inr (13, 0), .inl .null, vI 0, vI 0, vI 0, vI 0])), gA 9 5 5 (fun _ _ => 0), iA 10 5 (fun _ => 0), iA 11 5 (fun _ => 0), iA 12 5 (fun _ => 0), lA 13 5 (fun _ => 0), iA 14 5 (fun _ => 0)]
  refine o_putF (ci := 3) (j := 5) (g := 8) hC hnm rfl rfl (by decide) rfl (x_fN_of wX3_i _ (List.mem_of_getElem? (i := 11) rfl)) rfl (by decide) (fun _ => ⟨rfl, rfl⟩) dX3i_46 ?_
  show GG p l e _ s m args below meth c _ D tc A _ _ _ _ _ _ _ [(8, .inr (3, [.inr (9, 0), .inr (10, 0), .inr (11, 0), .inr (12, 0), .inr (13, 0), .inr (14, 0), vI 0, vI 0, vI 0, vI 0])), gA 9 5 5 (fun _ _ => 0), iA 10 5 (fun _ => 0), iA 11 5 (fun _ => 0), iA 12 5 (fun _ => 0), lA 13 5 (fun _ => 0), iA 14 5 (fun _ => 0)]
  refine o_aload_n (i := 0) hC dX3i_49 rfl rfl ?_
  refine o_iconst (v := 1) hC dX3i_50 (by decide) ?_
  refine o_put (ci := 3) (j := 6) (g := 8) hC rfl (by decide) rfl (x_fN_of wX3_i _ (List.mem_of_getElem? (i := 12) rfl)) rfl (by decide) (fun _ => ⟨rfl, rfl⟩) dX3i_51 ?_
  show GG p l e _ s m args below meth c _ D tc A _ _ _ _ _ _ _ [(8, .inr (3, [.inr (9, 0), .inr (10, 0), .inr (11, 0), .inr (12, 0), .inr (13, 0), .inr (14, 0), vI 1, vI 0, vI 0, vI 0])), gA 9 5 5 (fun _ _ => 0), iA 10 5 (fun _ => 0), iA 11 5 (fun _ => 0), iA 12 5 (fun _ => 0), lA 13 5 (fun _ => 0), iA 14 5 (fun _ => 0)]
  exact o_retN hC hrt dX3i_54 rfl ⟨rfl, rfl⟩
theorem dX0i_0 : decode cX0_init 0 = .ok (.aload_n 0, 1) := by decide +kernel
theorem dX0i_1 : decode cX0_init 1 = .ok (.invokespecial 3, 3) := by decide +kernel
theorem dX0i_4 : decode cX0_init 4 = .ok (.aload_n 0, 1) := by decide +kernel
theorem dX0i_5 : decode cX0_init 5 = .ok (.iconst 5, 1) := by decide +kernel
theorem dX0i_6 : decode cX0_init 6 = .ok (.bipush 30, 2) := by decide +kernel
theorem dX0i_8 : decode cX0_init 8 = .ok (.multianewarray 11 2, 4) := by decide +kernel
theorem dX0i_12 : decode cX0_init 12 = .ok (.putfield 13, 3) := by decide +kernel
theorem dX0i_15 : decode cX0_init 15 = .ok (.aload_n 0, 1) := by decide +kernel
theorem dX0i_16 : decode cX0_init 16 = .ok (.iconst 5, 1) := by decide +kernel
theorem dX0i_17 : decode cX0_init 17 = .ok (.bipush 31, 2) := by decide +kernel
theorem dX0i_19 : decode cX0_init 19 = .ok (.multianewarray 11 2, 4) := by decide +kernel
theorem dX0i_23 : decode cX0_init 23 = .ok (.putfield 16, 3) := by decide +kernel
theorem dX0i_26 : decode cX0_init 26 = .ok (.aload_n 0, 1) := by decide +kernel
theorem dX0i_27 : decode cX0_init 27 = .ok (.bipush 6, 2) := by decide +kernel
theorem dX0i_29 : decode cX0_init 29 = .ok (.newarray .long, 2) := by decide +kernel
theorem dX0i_31 : decode cX0_init 31 = .ok (.putfield 19, 3) := by decide +kernel
theorem dX0i_34 : decode cX0_init 34 = .ok (.aload_n 0, 1) := by decide +kernel
theorem dX0i_35 : decode cX0_init 35 = .ok (.iconst 5, 1) := by decide +kernel
theorem dX0i_36 : decode cX0_init 36 = .ok (.newarray .int, 2) := by decide +kernel
theorem dX0i_38 : decode cX0_init 38 = .ok (.putfield 23, 3) := by decide +kernel
theorem dX0i_41 : decode cX0_init 41 = .ok (.aload_n 0, 1) := by decide +kernel
theorem dX0i_42 : decode cX0_init 42 = .ok (.iconst 5, 1) := by decide +kernel
theorem dX0i_43 : decode cX0_init 43 = .ok (.newarray .boolean, 2) := by decide +kernel
theorem dX0i_45 : decode cX0_init 45 = .ok (.putfield 27, 3) := by decide +kernel
theorem dX0i_48 : decode cX0_init 48 = .ok (.aload_n 0, 1) := by decide +kernel
theorem dX0i_49 : decode cX0_init 49 = .ok (.iconst 1, 1) := by decide +kernel
theorem dX0i_50 : decode cX0_init 50 = .ok (.putfield 31, 3) := by decide +kernel
theorem dX0i_53 : decode cX0_init 53 = .ok (.aload_n 0, 1) := by decide +kernel
theorem dX0i_54 : decode cX0_init 54 = .ok (.iconst 1, 1) := by decide +kernel
theorem dX0i_55 : decode cX0_init 55 = .ok (.putfield 35, 3) := by decide +kernel
theorem dX0i_58 : decode cX0_init 58 = .ok (.aload_n 0, 1) := by decide +kernel
theorem dX0i_59 : decode cX0_init 59 = .ok (.lconst 1, 1) := by decide +kernel
theorem dX0i_60 : decode cX0_init 60 = .ok (.putfield 38, 3) := by decide +kernel
theorem dX0i_63 : decode cX0_init 63 = .ok (.return_, 1) := by decide +kernel
theorem wX0_i : x_fN [.methodLink RX0 3 Lib.objectInit, .instanceMethod Lib.objectInit, .code Lib.objectInit ⟨#[0xb1]⟩ 1 none, .classLink RX0 11 ("[" ++ (FieldType.array .int).toString), .arrayClass .int, .fieldLink RX0 13 (TX0 0).1 (TX0 0).2.1 (TX0 0).2.2.1, .fieldLink RX0 16 (TX0 1).1 (TX0 1).2.1 (TX0 1).2.2.1, .arrayClass .long, .fieldLink RX0 19 (TX0 2).1 (TX0 2).2.1 (TX0 2).2.2.1, .fieldLink RX0 23 (TX0 3).1 (TX0 3).2.1 (TX0 3).2.2.1, .arrayClass .boolean, .fieldLink RX0 27 (TX0 4).1 (TX0 4).2.1 (TX0 4).2.2.1, .fieldLink RX0 31 (TX0 5).1 (TX0 5).2.1 (TX0 5).2.2.1, .fieldLink RX0 35 (TX0 6).1 (TX0 6).2.1 (TX0 6).2.2.1, .fieldLink RX0 38 (TX0 7).1 (TX0 7).2.1 (TX0 7).2.2.1] = true := by decide +kernel
set_option maxRecDepth 20000 in
theorem n_X0 (l : Launch) : EvN l zX0_init 15 331 15 [(15, .inr (0, fX0_0))] (fun h => h = lnH (fun _ _ => 0) (fun _ _ => 0) (fun _ => 0) (fun _ => 0) (fun _ => 0) 1 1 1 0 0 0) := by
  refine evN_of (by decide +kernel) (Nat.le_of_ble_eq_true rfl) rfl ?_
  intro p e s m args below meth c D tc A ad0 hC hrt hnm hao
  refine o_aload_n (i := 0) hC dX0i_0 rfl rfl ?_
  refine o_objInit hC (x_fN_of wX0_i _ (List.mem_of_getElem? (i := 0) rfl)) (x_fN_of wX0_i _ (List.mem_of_getElem? (i := 1) rfl)) (x_fN_of wX0_i _ (List.mem_of_getElem? (i := 2) rfl)) (Nat.le_of_ble_eq_true rfl) (Nat.le_of_ble_eq_true rfl) dX0i_1 ?_
  refine o_aload_n (i := 0) hC dX0i_4 rfl rfl ?_
  refine o_iconst (v := 5) hC dX0i_5 (by decide) ?_
  refine o_bipush (v := 30) hC dX0i_6 (by decide) ?_
  refine o_multi (g := 16) (N := 5) (K := 30) hC rfl (x_fN_of wX0_i _ (List.mem_of_getElem? (i := 3) rfl)) hao (x_fN_of wX0_i _ (List.mem_of_getElem? (i := 4) rfl)) (by decide) (by decide) (by decide) (by decide) (by decide) ⟨Nat.le_of_ble_eq_true rfl, Nat.le_of_ble_eq_true rfl⟩ dX0i_8 ?_
  show GG p l e _ s m args below meth c _ D tc A _ _ _ _ _ _ _ [(15, .inr (0, [.inl .null, .inl .null, .inl .null, .inl .null, .inl .null, vI 0, vI 0, vL 0, vI 0, vL 0, vL 0])), gA 16 5 30 (fun _ _ => 0)]
  refine o_putF (ci := 0) (j := 0) (g := 15) hC hnm rfl rfl (by decide) rfl (x_fN_of wX0_i _ (List.mem_of_getElem? (i := 5) rfl)) rfl (by decide) (fun _ => ⟨rfl, rfl⟩) dX0i_12 ?_
  show GG p l e _ s m args below meth c _ D tc A _ _ _ _ _ _ _ [(15, .inr (0, [.inr (16, 0), .inl .null, .inl .null, .inl .null, .inl .null, vI 0, vI 0, vL 0, vI 0, vL 0, vL 0])), gA 16 5 30 (fun _ _ => 0)]
  refine o_aload_n (i := 0) hC dX0i_15 rfl rfl ?_
  refine o_iconst (v := 5) hC dX0i_16 (by decide) ?_
  refine o_bipush (v := 31) hC dX0i_17 (by decide) ?_
  refine o_multi (g := 17) (N := 5) (K := 31) hC rfl (x_fN_of wX0_i _ (List.mem_of_getElem? (i := 3) rfl)) hao (x_fN_of wX0_i _ (List.mem_of_getElem? (i := 4) rfl)) (by decide) (by decide) (by decide) (by decide) (by decide) ⟨Nat.le_of_ble_eq_true rfl, Nat.le_of_ble_eq_true rfl⟩ dX0i_19 ?_
  show GG p l e _ s m args below meth c _ D tc A _ _ _ _ _ _ _ [(15, .inr (0, [.inr (16, 0), .inl .null, .inl .null, .inl .null, .inl .null, vI 0, vI 0, vL 0, vI 0, vL 0, vL 0])), gA 16 5 30 (fun _ _ => 0), gA 17 5 31 (fun _ _ => 0)]
  refine o_putF (ci := 0) (j := 1) (g := 15) hC hnm rfl rfl (by decide) rfl (x_fN_of wX0_i _ (List.mem_of_getElem? (i := 6) rfl)) rfl (by decide) (fun _ => ⟨rfl, rfl⟩) dX0i_23 ?_
  show GG p l e _ s m args below meth c _ D tc A _ _ _ _ _ _ _ [(15, .inr (0, [.inr (16, 0), .inr (17, 0), .inl .null, .inl .null, .inl .null, vI 0, vI 0, vL 0, vI 0, vL 0, vL 0])), gA 16 5 30 (fun _ _ => 0), gA 17 5 31 (fun _ _ => 0)]
  refine o_aload_n (i := 0) hC dX0i_26 rfl rfl ?_
  refine o_bipush (v := 6) hC dX0i_27 (by decide) ?_
  refine o_newL (g := 18) (N := 6) hC rfl (x_fN_of wX0_i _ (List.mem_of_getElem? (i := 7) rfl)) (by decide) (by decide) (by decide) ⟨Nat.le_of_ble_eq_true rfl, Nat.le_of_ble_eq_true rfl⟩ dX0i_29 ?_
  show GG p l e _ s m args below meth c _ D tc A _ _ _ _ _ _ _ [(15, .inr (0, [.inr (16, 0), .inr (17, 0), .inl .null, .inl .null, .inl .null, vI 0, vI 0, vL 0, vI 0, vL 0, vL 0])), gA 16 5 30 (fun _ _ => 0), gA 17 5 31 (fun _ _ => 0), lA 18 6 (fun _ => 0)]
  refine o_putF (ci := 0) (j := 2) (g := 15) hC hnm rfl rfl (by decide) rfl (x_fN_of wX0_i _ (List.mem_of_getElem? (i := 8) rfl)) rfl (by decide) (fun _ => ⟨rfl, rfl⟩) dX0i_31 ?_
  show GG p l e _ s m args below meth c _ D tc A _ _ _ _ _ _ _ [(15, .inr (0, [.inr (16, 0), .inr (17, 0), .inr (18, 0), .inl .null, .inl .null, vI 0, vI 0, vL 0, vI 0, vL 0, vL 0])), gA 16 5 30 (fun _ _ => 0), gA 17 5 31 (fun _ _ => 0), lA 18 6 (fun _ => 0)]
  refine o_aload_n (i := 0) hC dX0i_34 rfl rfl ?_
  refine o_iconst (v := 5) hC dX0i_35 (by decide) ?_
  refine o_newI (g := 19) (N := 5) hC rfl (x_fN_of wX0_i _ (List.mem_of_getElem? (i := 4) rfl)) (by decide) (by decide) (by decide) ⟨Nat.le_of_ble_eq_true rfl, Nat.le_of_ble_eq_true rfl⟩ dX0i_36 ?_
  show GG p l e _ s m args below meth c _ D tc A _ _ _ _ _ _ _ [(15, .inr (0, [.inr (16, 0), .inr (17, 0), .inr (18, 0), .inl .null, .inl .null, vI 0, vI 0, vL 0, vI 0, vL 0, vL 0])), gA 16 5 30 (fun _ _ => 0), gA 17 5 31 (fun _ _ => 0), lA 18 6 (fun _ => 0), iA 19 5 (fun _ => 0)]
  refine o_putF (ci := 0) (j := 3) (g := 15) hC hnm rfl rfl (by decide) rfl (x_fN_of wX0_i _ (List.mem_of_getElem? (i := 9) rfl)) rfl (by decide) (fun _ => ⟨rfl, rfl⟩) dX0i_38 ?_
  show GG p l e _ s m args below meth c _ D tc A _ _ _ _ _ _ _ [(15, .inr (0, [.inr (16, 0), .inr (17, 0), .inr (18, 0), .inr (19, 0), .inl .null, vI 0, vI 0, vL 0, vI 0, vL 0, vL 0])), gA 16 5 30 (fun _ _ => 0), gA 17 5 31 (fun _ _ => 0), lA 18 6 (fun _ => 0), iA 19 5 (fun _ => 0)]
  refine o_aload_n (i := 0) hC dX0i_41 rfl rfl ?_
  refine o_iconst (v := 5) hC dX0i_42 (by decide) ?_
  refine o_newZ (g := 20) (N := 5) hC rfl (x_fN_of wX0_i _ (List.mem_of_getElem? (i := 10) rfl)) (by decide) (by decide) (by decide) ⟨Nat.le_of_ble_eq_true rfl, Nat.le_of_ble_eq_true rfl⟩ dX0i_43 ?_
  show GG p l e _ s m args below meth c _ D tc A _ _ _ _ _ _ _ [(15, .inr (0, [.inr (16, 0), .inr (17, 0), .inr (18, 0), .inr (19, 0), .inl .null, vI 0, vI 0, vL 0, vI 0, vL 0, vL 0])), gA 16 5 30 (fun _ _ => 0), gA 17 5 31 (fun _ _ => 0), lA 18 6 (fun _ => 0), iA 19 5 (fun _ => 0), bA 20 5 (fun _ => 0)]
  refine o_putF (ci := 0) (j := 4) (g := 15) hC hnm rfl rfl (by decide) rfl (x_fN_of wX0_i _ (List.mem_of_getElem? (i := 11) rfl)) rfl (by decide) (fun _ => ⟨rfl, rfl⟩) dX0i_45 ?_
  show GG p l e _ s m args below meth c _ D tc A _ _ _ _ _ _ _ [(15, .inr (0, [.inr (16, 0), .inr (17, 0), .inr (18, 0), .inr (19, 0), .inr (20, 0), vI 0, vI 0, vL 0, vI 0, vL 0, vL 0])), gA 16 5 30 (fun _ _ => 0), gA 17 5 31 (fun _ _ => 0), lA 18 6 (fun _ => 0), iA 19 5 (fun _ => 0), bA 20 5 (fun _ => 0)]
  refine o_aload_n (i := 0) hC dX0i_48 rfl rfl ?_
  refine o_iconst (v := 1) hC dX0i_49 (by decide) ?_
  refine o_put (ci := 0) (j := 5) (g := 15) hC rfl (by decide) rfl (x_fN_of wX0_i _ (List.mem_of_getElem? (i := 12) rfl)) rfl (by decide) (fun _ => ⟨rfl, rfl⟩) dX0i_50 ?_
  show GG p l e _ s m args below meth c _ D tc A _ _ _ _ _ _ _ [(15, .inr (0, [.inr (16, 0), .inr (17, 0), .inr (18, 0), .inr (19, 0), .inr (20, 0), vI 1, vI 0, vL 0, vI 0, vL 0, vL 0])), gA 16 5 30 (fun _ _ => 0), gA 17 5 31 (fun _ _ => 0), lA 18 6 (fun _ => 0), iA 19 5 (fun _ => 0), bA 20 5 (fun _ => 0)]
  refine o_aload_n (i := 0) hC dX0i_53 rfl rfl ?_
  refine o_iconst (v := 1) hC dX0i_54 (by decide) ?_
  refine o_put (ci := 0) (j := 6) (g := 15) hC rfl (by decide) rfl (x_fN_of wX0_i _ (List.mem_of_getElem? (i := 13) rfl)) rfl (by decide) (fun _ => ⟨rfl, rfl⟩) dX0i_55 ?_
  show GG p l e _ s m args below meth c _ D tc A _ _ _ _ _ _ _ [(15, .inr (0, [.inr (16, 0), .inr (17, 0), .inr (18, 0), .inr (19, 0), .inr (20, 0), vI 1, vI 1, vL 0, vI 0, vL 0, vL 0])), gA 16 5 30 (fun _ _ => 0), gA 17 5 31 (fun _ _ => 0), lA 18 6 (fun _ => 0), iA 19 5 (fun _ => 0), bA 20 5 (fun _ => 0)]
  refine o_aload_n (i := 0) hC dX0i_58 rfl rfl ?_
  refine o_lconst (v := 1) hC dX0i_59 (by decide) ?_
  refine o_put (ci := 0) (j := 7) (g := 15) hC rfl (by decide) rfl (x_fN_of wX0_i _ (List.mem_of_getElem? (i := 14) rfl)) rfl (by decide) (fun _ => ⟨rfl, rfl⟩) dX0i_60 ?_
  show GG p l e _ s m args below meth c _ D tc A _ _ _ _ _ _ _ [(15, .inr (0, [.inr (16, 0), .inr (17, 0), .inr (18, 0), .inr (19, 0), .inr (20, 0), vI 1, vI 1, vL 1, vI 0, vL 0, vL 0])), gA 16 5 30 (fun _ _ => 0), gA 17 5 31 (fun _ _ => 0), lA 18 6 (fun _ => 0), iA 19 5 (fun _ => 0), bA 20 5 (fun _ => 0)]
  exact o_retN hC hrt dX0i_63 rfl ⟨rfl, rfl⟩
theorem dX2i_0 : decode cX2_init 0 = .ok (.aload_n 0, 1) := by decide +kernel
theorem dX2i_1 : decode cX2_init 1 = .ok (.invokespecial 5, 3) := by decide +kernel
theorem dX2i_4 : decode cX2_init 4 = .ok (.aload_n 0, 1) := by decide +kernel
theorem dX2i_5 : decode cX2_init 5 = .ok (.sipush 441, 3) := by decide +kernel
theorem dX2i_8 : decode cX2_init 8 = .ok (.newarray .int, 2) := by decide +kernel
theorem dX2i_10 : decode cX2_init 10 = .ok (.putfield 11, 3) := by decide +kernel
theorem dX2i_13 : decode cX2_init 13 = .ok (.aload_n 0, 1) := by decide +kernel
theorem dX2i_14 : decode cX2_init 14 = .ok (.iconst 1, 1) := by decide +kernel
theorem dX2i_15 : decode cX2_init 15 = .ok (.putfield 15, 3) := by decide +kernel
theorem dX2i_18 : decode cX2_init 18 = .ok (.aload_n 0, 1) := by decide +kernel
theorem dX2i_19 : decode cX2_init 19 = .ok (.invokevirtual 19, 3) := by decide +kernel
theorem dX2i_22 : decode cX2_init 22 = .ok (.return_, 1) := by decide +kernel
theorem wX2_i : x_fN [.methodLink RX2 5 Lib.objectInit, .instanceMethod Lib.objectInit, .code Lib.objectInit ⟨#[0xb1]⟩ 1 none, .arrayClass .int, .fieldLink RX2 11 (TX2 0).1 (TX2 0).2.1 (TX2 0).2.2.1, .fieldLink RX2 15 (TX2 1).1 (TX2 1).2.1 (TX2 1).2.2.1] = true := by decide +kernel
theorem qX2_i : x_q17 (fun _ => zX2_markAsAtFirst) RX2 1 22 1 none 19 (.invokevirtual 19) 3 0 0 2 .null [] = true := by decide +kernel
set_option maxRecDepth 20000 in
theorem n_X2 (l : Launch) : EvN l zX2_init 1 441 6 [(6, .inr (2, fX2_0))] (fun h => ∃ ma' : Nat → Int32, (∀ x y, x + y ≤ 1 → ma' (21 * x + y) = nI (mk0 x y)) ∧ h = ntH ma' (nI 1) 0 0 0 0 0) := by
  refine evN_of (by decide +kernel) (Nat.le_of_ble_eq_true rfl) rfl ?_
  intro p e s m args below meth c D tc A ad0 hC hrt hnm hao
  refine o_aload_n (i := 0) hC dX2i_0 rfl rfl ?_
  refine o_objInit hC (x_fN_of wX2_i _ (List.mem_of_getElem? (i := 0) rfl)) (x_fN_of wX2_i _ (List.mem_of_getElem? (i := 1) rfl)) (x_fN_of wX2_i _ (List.mem_of_getElem? (i := 2) rfl)) (Nat.le_of_ble_eq_true rfl) (Nat.le_of_ble_eq_true rfl) dX2i_1 ?_
  refine o_aload_n (i := 0) hC dX2i_4 rfl rfl ?_
  refine o_sipush (v := 441) hC dX2i_5 (by decide) ?_
  refine o_newI (g := 7) (N := 441) hC rfl (x_fN_of wX2_i _ (List.mem_of_getElem? (i := 3) rfl)) (by decide) (by decide) (by decide) ⟨Nat.le_of_ble_eq_true rfl, Nat.le_of_ble_eq_true rfl⟩ dX2i_8 ?_
  show GG p l e _ s m args below meth c _ D tc A _ _ _ _ _ _ _ [(6, .inr (2, [.inl .null, vI 0, vI 0, vI 0, vI 0, vI 0, vI 0])), iA 7 441 (fun _ => 0)]
  refine o_putF (ci := 2) (j := 0) (g := 6) hC hnm rfl rfl (by decide) rfl (x_fN_of wX2_i _ (List.mem_of_getElem? (i := 4) rfl)) rfl (by decide) (fun _ => ⟨rfl, rfl⟩) dX2i_10 ?_
  show GG p l e _ s m args below meth c _ D tc A _ _ _ _ _ _ _ [(6, .inr (2, [.inr (7, 0), vI 0, vI 0, vI 0, vI 0, vI 0, vI 0])), iA 7 441 (fun _ => 0)]
  refine o_aload_n (i := 0) hC dX2i_13 rfl rfl ?_
  refine o_iconst (v := 1) hC dX2i_14 (by decide) ?_
  refine o_put (ci := 2) (j := 1) (g := 6) hC rfl (by decide) rfl (x_fN_of wX2_i _ (List.mem_of_getElem? (i := 5) rfl)) rfl (by decide) (fun _ => ⟨rfl, rfl⟩) dX2i_15 ?_
  show GG p l e _ s m args below meth c _ D tc A _ _ _ _ _ _ _ [(6, .inr (2, [.inr (7, 0), vI 1, vI 0, vI 0, vI 0, vI 0, vI 0])), iA 7 441 (fun _ => 0)]
  refine o_aload_n (i := 0) hC dX2i_18 rfl rfl ?_
  -- CALL ('X2', 'markAsAtFirst')
  refine o_c17 (z := zX2_markAsAtFirst) (b := 0) (d := 2) hC dX2i_19 qX2_i ⟨Nat.le_of_ble_eq_true rfl, Nat.le_of_ble_eq_true rfl⟩ ?_
  refine ⟨[6, 7], _, c_markAs l 1 (Nat.le_refl 1) (by decide) (fun _ => 0) 0 0 0 0 0, fun r hc' hP _ => ?_⟩
  obtain ⟨rfl, ma', hma, rfl⟩ := hP
  exact o_retN hC hrt dX2i_22 ⟨ma', hma, rfl⟩ ⟨rfl, rfl⟩
/-- the reference's world -/
abbrev mwA (th : Int32) (nk nt rm : Nat → Int32) (ln : Int32) (lg : Nat → Int64) (be fi se ro pl ma wa ta ha tr bl : Nat → Int32) (pr : Nat → Int64) (sa wh : Nat → Int32) (up lo : Nat → Int64) : xH := [mdO th nk nt rm ln lg, iA 41 24 be, iA 42 4 fi, iA 43 4 se, iA 44 24 ro, iA 45 24 pl, iA 46 441 ma, iA 47 25 wa, iA 48 5 ta, iA 49 5 ha, iA 50 5 tr, iA 51 5 bl, lA 52 5 pr, iA 53 150 sa, iA 54 5 wh, lA 55 5 up, lA 56 5 lo]
def MW (bs : Nat → Nat) (nb N : Nat) (mk : Nat → Nat → Nat) (w : Option wEnd) (n : Nat) (W : Nat → Nat → Nat) (rent : Nat) (mo : Nat → Int) (L : Nat) (S : Nat → Nat → Nat) (h : xH) : Prop := ∃ (th : Int32) (nk nt rm : Nat → Int32) (ln : Int32) (lg : Nat → Int64) (be fi se ro pl ma wa ta ha tr bl : Nat → Int32) (pr : Nat → Int64) (sa wh : Nat → Int32) (up lo : Nat → Int64), h = mwA th nk nt rm ln lg be fi se ro pl ma wa ta ha tr bl pr sa wh up lo ∧ MB bs nb nk be ∧ MTB N mk nt ma ∧ MTW w nt ∧ MRB n W rent mo rm wa ta ∧ MLB n L S rm ln sa
theorem MW_0 {th : Int32} {nk nt rm : Nat → Int32} {ln : Int32} {lg : Nat → Int64} {be fi se ro pl ma wa ta ha tr bl : Nat → Int32} {pr : Nat → Int64} {sa wh : Nat → Int32} {up lo : Nat → Int64} (h1 : nk 0 = 0) (h2 : nt 0 = 1) (h3 : nt 4 = 0) (h4 : rm 0 = 1) (h5 : rm 1 = 0) (h6 : ln = 1) (hma : ∀ x y, x + y ≤ 1 → ma (21 * y + x) = nI (mk0 x y)) (hwa : ∀ j, j < 25 → wa j = 0) (hta : ∀ j, j < 5 → ta j = 0) (hsa : ∀ j, j < 150 → sa j = 0) : MW (fun _ => 0) 0 1 mk0 none 1 W0 0 mo0 1 W0 (mwA th nk nt rm ln lg be fi se ro pl ma wa ta ha tr bl pr sa wh up lo) := by
  refine ⟨th, nk, nt, rm, ln, lg, be, fi, se, ro, pl, ma, wa, ta, ha, tr, bl, pr, sa, wh, up, lo, rfl, ?_, ⟨by omega, by omega, mk0_ok (by omega), h2, hma⟩, h3, ⟨by omega, by omega, by omega, h4, h5, fun i j hi hj => ⟨by show 0 ≤ 1000; omega, ?_⟩, MRT_0 (by omega) hta⟩, ⟨by omega, by omega, by omega, by omega, h4, h6, fun p j hp hj => ⟨by show 0 ≤ 30; omega, ?_⟩⟩⟩
  · refine ⟨by omega, fun k hk => absurd hk (Nat.not_lt_zero k), h1, fun k hk => absurd hk (Nat.not_lt_zero k)⟩
  · rw [hwa _ (by omega)]
    rfl
  · rw [hsa _ (by omega)]
    rfl
theorem dX5i_0 : decode cX5_init 0 = .ok (.aload_n 0, 1) := by decide +kernel
theorem dX5i_1 : decode cX5_init 1 = .ok (.invokespecial 1, 3) := by decide +kernel
theorem dX5i_4 : decode cX5_init 4 = .ok (.aload_n 0, 1) := by decide +kernel
theorem dX5i_5 : decode cX5_init 5 = .ok (.bipush 24, 2) := by decide +kernel
theorem dX5i_7 : decode cX5_init 7 = .ok (.newarray .int, 2) := by decide +kernel
theorem dX5i_9 : decode cX5_init 9 = .ok (.putfield 7, 3) := by decide +kernel
theorem dX5i_12 : decode cX5_init 12 = .ok (.aload_n 0, 1) := by decide +kernel
theorem dX5i_13 : decode cX5_init 13 = .ok (.iconst 4, 1) := by decide +kernel
theorem dX5i_14 : decode cX5_init 14 = .ok (.newarray .int, 2) := by decide +kernel
theorem dX5i_16 : decode cX5_init 16 = .ok (.putfield 13, 3) := by decide +kernel
theorem dX5i_19 : decode cX5_init 19 = .ok (.aload_n 0, 1) := by decide +kernel
theorem dX5i_20 : decode cX5_init 20 = .ok (.iconst 4, 1) := by decide +kernel
theorem dX5i_21 : decode cX5_init 21 = .ok (.newarray .int, 2) := by decide +kernel
theorem dX5i_23 : decode cX5_init 23 = .ok (.putfield 16, 3) := by decide +kernel
theorem dX5i_26 : decode cX5_init 26 = .ok (.aload_n 0, 1) := by decide +kernel
theorem dX5i_27 : decode cX5_init 27 = .ok (.bipush 24, 2) := by decide +kernel
theorem dX5i_29 : decode cX5_init 29 = .ok (.newarray .int, 2) := by decide +kernel
theorem dX5i_31 : decode cX5_init 31 = .ok (.putfield 19, 3) := by decide +kernel
theorem dX5i_34 : decode cX5_init 34 = .ok (.aload_n 0, 1) := by decide +kernel
theorem dX5i_35 : decode cX5_init 35 = .ok (.bipush 24, 2) := by decide +kernel
theorem dX5i_37 : decode cX5_init 37 = .ok (.newarray .int, 2) := by decide +kernel
theorem dX5i_39 : decode cX5_init 39 = .ok (.putfield 22, 3) := by decide +kernel
theorem dX5i_42 : decode cX5_init 42 = .ok (.aload_n 0, 1) := by decide +kernel
theorem dX5i_43 : decode cX5_init 43 = .ok (.iconst 1, 1) := by decide +kernel
theorem dX5i_44 : decode cX5_init 44 = .ok (.putfield 25, 3) := by decide +kernel
theorem dX5i_47 : decode cX5_init 47 = .ok (.aload_n 0, 1) := by decide +kernel
theorem dX5i_48 : decode cX5_init 48 = .ok (.sipush 441, 3) := by decide +kernel
theorem dX5i_51 : decode cX5_init 51 = .ok (.newarray .int, 2) := by decide +kernel
theorem dX5i_53 : decode cX5_init 53 = .ok (.putfield 29, 3) := by decide +kernel
theorem dX5i_56 : decode cX5_init 56 = .ok (.aload_n 0, 1) := by decide +kernel
theorem dX5i_57 : decode cX5_init 57 = .ok (.bipush 25, 2) := by decide +kernel
theorem dX5i_59 : decode cX5_init 59 = .ok (.newarray .int, 2) := by decide +kernel
theorem dX5i_61 : decode cX5_init 61 = .ok (.putfield 32, 3) := by decide +kernel
theorem dX5i_64 : decode cX5_init 64 = .ok (.aload_n 0, 1) := by decide +kernel
theorem dX5i_65 : decode cX5_init 65 = .ok (.iconst 5, 1) := by decide +kernel
theorem dX5i_66 : decode cX5_init 66 = .ok (.newarray .int, 2) := by decide +kernel
theorem dX5i_68 : decode cX5_init 68 = .ok (.putfield 35, 3) := by decide +kernel
theorem dX5i_71 : decode cX5_init 71 = .ok (.aload_n 0, 1) := by decide +kernel
theorem dX5i_72 : decode cX5_init 72 = .ok (.iconst 5, 1) := by decide +kernel
theorem dX5i_73 : decode cX5_init 73 = .ok (.newarray .int, 2) := by decide +kernel
theorem dX5i_75 : decode cX5_init 75 = .ok (.putfield 38, 3) := by decide +kernel
theorem dX5i_78 : decode cX5_init 78 = .ok (.aload_n 0, 1) := by decide +kernel
theorem dX5i_79 : decode cX5_init 79 = .ok (.iconst 5, 1) := by decide +kernel
theorem dX5i_80 : decode cX5_init 80 = .ok (.newarray .int, 2) := by decide +kernel
theorem dX5i_82 : decode cX5_init 82 = .ok (.putfield 41, 3) := by decide +kernel
theorem dX5i_85 : decode cX5_init 85 = .ok (.aload_n 0, 1) := by decide +kernel
theorem dX5i_86 : decode cX5_init 86 = .ok (.iconst 5, 1) := by decide +kernel
theorem dX5i_87 : decode cX5_init 87 = .ok (.newarray .int, 2) := by decide +kernel
theorem dX5i_89 : decode cX5_init 89 = .ok (.putfield 44, 3) := by decide +kernel
theorem dX5i_92 : decode cX5_init 92 = .ok (.aload_n 0, 1) := by decide +kernel
theorem dX5i_93 : decode cX5_init 93 = .ok (.iconst 5, 1) := by decide +kernel
theorem dX5i_94 : decode cX5_init 94 = .ok (.newarray .long, 2) := by decide +kernel
theorem dX5i_96 : decode cX5_init 96 = .ok (.putfield 47, 3) := by decide +kernel
theorem dX5i_99 : decode cX5_init 99 = .ok (.aload_n 0, 1) := by decide +kernel
theorem dX5i_100 : decode cX5_init 100 = .ok (.iconst 1, 1) := by decide +kernel
theorem dX5i_101 : decode cX5_init 101 = .ok (.putfield 51, 3) := by decide +kernel
theorem dX5i_104 : decode cX5_init 104 = .ok (.aload_n 0, 1) := by decide +kernel
theorem dX5i_105 : decode cX5_init 105 = .ok (.sipush 150, 3) := by decide +kernel
theorem dX5i_108 : decode cX5_init 108 = .ok (.newarray .int, 2) := by decide +kernel
theorem dX5i_110 : decode cX5_init 110 = .ok (.putfield 54, 3) := by decide +kernel
theorem dX5i_113 : decode cX5_init 113 = .ok (.aload_n 0, 1) := by decide +kernel
theorem dX5i_114 : decode cX5_init 114 = .ok (.iconst 5, 1) := by decide +kernel
theorem dX5i_115 : decode cX5_init 115 = .ok (.newarray .int, 2) := by decide +kernel
theorem dX5i_117 : decode cX5_init 117 = .ok (.putfield 57, 3) := by decide +kernel
theorem dX5i_120 : decode cX5_init 120 = .ok (.aload_n 0, 1) := by decide +kernel
theorem dX5i_121 : decode cX5_init 121 = .ok (.iconst 5, 1) := by decide +kernel
theorem dX5i_122 : decode cX5_init 122 = .ok (.newarray .long, 2) := by decide +kernel
theorem dX5i_124 : decode cX5_init 124 = .ok (.putfield 60, 3) := by decide +kernel
theorem dX5i_127 : decode cX5_init 127 = .ok (.aload_n 0, 1) := by decide +kernel
theorem dX5i_128 : decode cX5_init 128 = .ok (.iconst 5, 1) := by decide +kernel
theorem dX5i_129 : decode cX5_init 129 = .ok (.newarray .long, 2) := by decide +kernel
theorem dX5i_131 : decode cX5_init 131 = .ok (.putfield 63, 3) := by decide +kernel
theorem dX5i_134 : decode cX5_init 134 = .ok (.aload_n 0, 1) := by decide +kernel
theorem dX5i_135 : decode cX5_init 135 = .ok (.iconst 1, 1) := by decide +kernel
theorem dX5i_136 : decode cX5_init 136 = .ok (.invokevirtual 66, 3) := by decide +kernel
theorem dX5i_139 : decode cX5_init 139 = .ok (.aload_n 0, 1) := by decide +kernel
theorem dX5i_140 : decode cX5_init 140 = .ok (.iconst 1, 1) := by decide +kernel
theorem dX5i_141 : decode cX5_init 141 = .ok (.invokevirtual 70, 3) := by decide +kernel
theorem dX5i_144 : decode cX5_init 144 = .ok (.pop, 1) := by decide +kernel
theorem dX5i_145 : decode cX5_init 145 = .ok (.return_, 1) := by decide +kernel
theorem wX5_i : x_fN [.methodLink RX5 1 Lib.objectInit, .instanceMethod Lib.objectInit, .code Lib.objectInit ⟨#[0xb1]⟩ 1 none, .arrayClass .int, .fieldLink RX5 7 (TX5 1).1 (TX5 1).2.1 (TX5 1).2.2.1, .fieldLink RX5 13 (TX5 3).1 (TX5 3).2.1 (TX5 3).2.2.1, .fieldLink RX5 16 (TX5 4).1 (TX5 4).2.1 (TX5 4).2.2.1, .fieldLink RX5 19 (TX5 5).1 (TX5 5).2.1 (TX5 5).2.2.1, .fieldLink RX5 22 (TX5 8).1 (TX5 8).2.1 (TX5 8).2.2.1, .fieldLink RX5 25 (TX5 9).1 (TX5 9).2.1 (TX5 9).2.2.1, .fieldLink RX5 29 (TX5 10).1 (TX5 10).2.1 (TX5 10).2.2.1, .fieldLink RX5 32 (TX5 21).1 (TX5 21).2.1 (TX5 21).2.2.1, .fieldLink RX5 35 (TX5 23).1 (TX5 23).2.1 (TX5 23).2.2.1, .fieldLink RX5 38 (TX5 24).1 (TX5 24).2.1 (TX5 24).2.2.1, .fieldLink RX5 41 (TX5 25).1 (TX5 25).2.1 (TX5 25).2.2.1, .fieldLink RX5 44 (TX5 27).1 (TX5 27).2.1 (TX5 27).2.2.1, .arrayClass .long, .fieldLink RX5 47 (TX5 28).1 (TX5 28).2.1 (TX5 28).2.2.1, .fieldLink RX5 51 (TX5 29).1 (TX5 29).2.1 (TX5 29).2.2.1, .fieldLink RX5 54 (TX5 30).1 (TX5 30).2.1 (TX5 30).2.2.1, .fieldLink RX5 57 (TX5 31).1 (TX5 31).2.1 (TX5 31).2.2.1, .fieldLink RX5 60 (TX5 32).1 (TX5 32).2.1 (TX5 32).2.2.1, .fieldLink RX5 63 (TX5 33).1 (TX5 33).2.1 (TX5 33).2.2.1] = true := by decide +kernel
theorem qX5_p : x_q17 (fun _ => zX5_puts) RX5 2 43 1 none 136 (.invokevirtual 66) 3 0 1 5 .null [] = true := by decide +kernel
theorem qX5_q : x_q17 (fun _ => zX5_people) RX5 2 43 1 none 141 (.invokevirtual 70) 3 0 1 5 .null [] = true := by decide +kernel
set_option maxRecDepth 20000 in
theorem n_X5 (l : Launch) : EvN l zX5_init 16 736 40 [(40, .inr (5, fX5_0))] (MW (fun _ => 0) 0 1 mk0 none 1 W0 0 mo0 1 W0) := by
  refine evN_of (by decide +kernel) (Nat.le_of_ble_eq_true rfl) rfl ?_
  intro p e s m args below meth c D tc A ad0 hC hrt hnm hao
  refine o_aload_n (i := 0) hC dX5i_0 rfl rfl ?_
  refine o_objInit hC (x_fN_of wX5_i _ (List.mem_of_getElem? (i := 0) rfl)) (x_fN_of wX5_i _ (List.mem_of_getElem? (i := 1) rfl)) (x_fN_of wX5_i _ (List.mem_of_getElem? (i := 2) rfl)) (Nat.le_of_ble_eq_true rfl) (Nat.le_of_ble_eq_true rfl) dX5i_1 ?_
  refine o_aload_n (i := 0) hC dX5i_4 rfl rfl ?_
  refine o_bipush (v := 24) hC dX5i_5 (by decide) ?_
  refine o_newI (g := 41) (N := 24) hC rfl (x_fN_of wX5_i _ (List.mem_of_getElem? (i := 3) rfl)) (by decide) (by decide) (by decide) ⟨Nat.le_of_ble_eq_true rfl, Nat.le_of_ble_eq_true rfl⟩ dX5i_7 ?_
  show GG p l e _ s m args below meth c _ D tc A _ _ _ _ _ _ _ [(40, .inr (5, [vI 0, .inl .null, vI 0, .inl .null, .inl .null, .inl .null, vI 0, vI 0, .inl .null, vI 0, .inl .null, vI 0, vI 0, vI 0, vI 0, vI 0, vI 0, vI 0, vI 0, vI 0, vI 0, .inl .null, vI 0, .inl .null, .inl .null, .inl .null, vI 0, .inl .null, .inl .null, vI 0, .inl .null, .inl .null, .inl .null, .inl .null, vL 0, vL 0])), iA 41 24 (fun _ => 0)]
  refine o_putF (ci := 5) (j := 1) (g := 40) hC hnm rfl rfl (by decide) rfl (x_fN_of wX5_i _ (List.mem_of_getElem? (i := 4) rfl)) rfl (by decide) (fun _ => ⟨rfl, rfl⟩) dX5i_9 ?_
  show GG p l e _ s m args below meth c _ D tc A _ _ _ _ _ _ _ [(40, .inr (5, [vI 0, .inr (41, 0), vI 0, .inl .null, .inl .null, .inl .null, vI 0, vI 0, .inl .null, vI 0, .inl .null, vI 0, vI 0, vI 0, vI 0, vI 0, vI 0, vI 0, vI 0, vI 0, vI 0, .inl .null, vI 0, .inl .null, .inl .null, .inl .null, vI 0, .inl .null, .inl .null, vI 0, .inl .null, .inl .null, .inl .null, .inl .null, vL 0, vL 0])), iA 41 24 (fun _ => 0)]
  refine o_aload_n (i := 0) hC dX5i_12 rfl rfl ?_
  refine o_iconst (v := 4) hC dX5i_13 (by decide) ?_
  refine o_newI (g := 42) (N := 4) hC rfl (x_fN_of wX5_i _ (List.mem_of_getElem? (i := 3) rfl)) (by decide) (by decide) (by decide) ⟨Nat.le_of_ble_eq_true rfl, Nat.le_of_ble_eq_true rfl⟩ dX5i_14 ?_
  show GG p l e _ s m args below meth c _ D tc A _ _ _ _ _ _ _ [(40, .inr (5, [vI 0, .inr (41, 0), vI 0, .inl .null, .inl .null, .inl .null, vI 0, vI 0, .inl .null, vI 0, .inl .null, vI 0, vI 0, vI 0, vI 0, vI 0, vI 0, vI 0, vI 0, vI 0, vI 0, .inl .null, vI 0, .inl .null, .inl .null, .inl .null, vI 0, .inl .null, .inl .null, vI 0, .inl .null, .inl .null, .inl .null, .inl .null, vL 0, vL 0])), iA 41 24 (fun _ => 0), iA 42 4 (fun _ => 0)]
  refine o_putF (ci := 5) (j := 3) (g := 40) hC hnm rfl rfl (by decide) rfl (x_fN_of wX5_i _ (List.mem_of_getElem? (i := 5) rfl)) rfl (by decide) (fun _ => ⟨rfl, rfl⟩) dX5i_16 ?_
  show GG p l e _ s m args below meth c _ D tc A _ _ _ _ _ _ _ [(40, .inr (5, [vI 0, .inr (41, 0), vI 0, .inr (42, 0), .inl .null, .inl .null, vI 0, vI 0, .inl .null, vI 0, .inl .null, vI 0, vI 0, vI 0, vI 0, vI 0, vI 0, vI 0, vI 0, vI 0, vI 0, .inl .null, vI 0, .inl .null, .inl .null, .inl .null, vI 0, .inl .null, .inl .null, vI 0, .inl .null, .inl .null, .inl .null, .inl .null, vL 0, vL 0])), iA 41 24 (fun _ => 0), iA 42 4 (fun _ => 0)]
  refine o_aload_n (i := 0) hC dX5i_19 rfl rfl ?_
  refine o_iconst (v := 4) hC dX5i_20 (by decide) ?_
  refine o_newI (g := 43) (N := 4) hC rfl (x_fN_of wX5_i _ (List.mem_of_getElem? (i := 3) rfl)) (by decide) (by decide) (by decide) ⟨Nat.le_of_ble_eq_true rfl, Nat.le_of_ble_eq_true rfl⟩ dX5i_21 ?_
  show GG p l e _ s m args below meth c _ D tc A _ _ _ _ _ _ _ [(40, .inr (5, [vI 0, .inr (41, 0), vI 0, .inr (42, 0), .inl .null, .inl .null, vI 0, vI 0, .inl .null, vI 0, .inl .null, vI 0, vI 0, vI 0, vI 0, vI 0, vI 0, vI 0, vI 0, vI 0, vI 0, .inl .null, vI 0, .inl .null, .inl .null, .inl .null, vI 0, .inl .null, .inl .null, vI 0, .inl .null, .inl .null, .inl .null, .inl .null, vL 0, vL 0])), iA 41 24 (fun _ => 0), iA 42 4 (fun _ => 0), iA 43 4 (fun _ => 0)]
  refine o_putF (ci := 5) (j := 4) (g := 40) hC hnm rfl rfl (by decide) rfl (x_fN_of wX5_i _ (List.mem_of_getElem? (i := 6) rfl)) rfl (by decide) (fun _ => ⟨rfl, rfl⟩) dX5i_23 ?_
  show GG p l e _ s m args below meth c _ D tc A _ _ _ _ _ _ _ [(40, .inr (5, [vI 0, .inr (41, 0), vI 0, .inr (42, 0), .inr (43, 0), .inl .null, vI 0, vI 0, .inl .null, vI 0, .inl .null, vI 0, vI 0, vI 0, vI 0, vI 0, vI 0, vI 0, vI 0, vI 0, vI 0, .inl .null, vI 0, .inl .null, .inl .null, .inl .null, vI 0, .inl .null, .inl .null, vI 0, .inl .null, .inl .null, .inl .null, .inl .null, vL 0, vL 0])), iA 41 24 (fun _ => 0), iA 42 4 (fun _ => 0), iA 43 4 (fun _ => 0)]
  refine o_aload_n (i := 0) hC dX5i_26 rfl rfl ?_
  refine o_bipush (v := 24) hC dX5i_27 (by decide) ?_
  refine o_newI (g := 44) (N := 24) hC rfl (x_fN_of wX5_i _ (List.mem_of_getElem? (i := 3) rfl)) (by decide) (by decide) (by decide) ⟨Nat.le_of_ble_eq_true rfl, Nat.le_of_ble_eq_true rfl⟩ dX5i_29 ?_
  show GG p l e _ s m args below meth c _ D tc A _ _ _ _ _ _ _ [(40, .inr (5, [vI 0, .inr (41, 0), vI 0, .inr (42, 0), .inr (43, 0), .inl .null, vI 0, vI 0, .inl .null, vI 0, .inl .null, vI 0, vI 0, vI 0, vI 0, vI 0, vI 0, vI 0, vI 0, vI 0, vI 0, .inl .null, vI 0, .inl .null, .inl .null, .inl .null, vI 0, .inl .null, .inl .null, vI 0, .inl .null, .inl .null, .inl .null, .inl .null, vL 0, vL 0])), iA 41 24 (fun _ => 0), iA 42 4 (fun _ => 0), iA 43 4 (fun _ => 0), iA 44 24 (fun _ => 0)]
  refine o_putF (ci := 5) (j := 5) (g := 40) hC hnm rfl rfl (by decide) rfl (x_fN_of wX5_i _ (List.mem_of_getElem? (i := 7) rfl)) rfl (by decide) (fun _ => ⟨rfl, rfl⟩) dX5i_31 ?_
  show GG p l e _ s m args below meth c _ D tc A _ _ _ _ _ _ _ [(40, .inr (5, [vI 0, .inr (41, 0), vI 0, .inr (42, 0), .inr (43, 0), .inr (44, 0), vI 0, vI 0, .inl .null, vI 0, .inl .null, vI 0, vI 0, vI 0, vI 0, vI 0, vI 0, vI 0, vI 0, vI 0, vI 0, .inl .null, vI 0, .inl .null, .inl .null, .inl .null, vI 0, .inl .null, .inl .null, vI 0, .inl .null, .inl .null, .inl .null, .inl .null, vL 0, vL 0])), iA 41 24 (fun _ => 0), iA 42 4 (fun _ => 0), iA 43 4 (fun _ => 0), iA 44 24 (fun _ => 0)]
  refine o_aload_n (i := 0) hC dX5i_34 rfl rfl ?_
  refine o_bipush (v := 24) hC dX5i_35 (by decide) ?_
  refine o_newI (g := 45) (N := 24) hC rfl (x_fN_of wX5_i _ (List.mem_of_getElem? (i := 3) rfl)) (by decide) (by decide) (by decide) ⟨Nat.le_of_ble_eq_true rfl, Nat.le_of_ble_eq_true rfl⟩ dX5i_37 ?_
  show GG p l e _ s m args below meth c _ D tc A _ _ _ _ _ _ _ [(40, .inr (5, [vI 0, .inr (41, 0), vI 0, .inr (42, 0), .inr (43, 0), .inr (44, 0), vI 0, vI 0, .inl .null, vI 0, .inl .null, vI 0, vI 0, vI 0, vI 0, vI 0, vI 0, vI 0, vI 0, vI 0, vI 0, .inl .null, vI 0, .inl .null, .inl .null, .inl .null, vI 0, .inl .null, .inl .null, vI 0, .inl .null, .inl .null, .inl .null, .inl .null, vL 0, vL 0])), iA 41 24 (fun _ => 0), iA 42 4 (fun _ => 0), iA 43 4 (fun _ => 0), iA 44 24 (fun _ => 0), iA 45 24 (fun _ => 0)]
  refine o_putF (ci := 5) (j := 8) (g := 40) hC hnm rfl rfl (by decide) rfl (x_fN_of wX5_i _ (List.mem_of_getElem? (i := 8) rfl)) rfl (by decide) (fun _ => ⟨rfl, rfl⟩) dX5i_39 ?_
  show GG p l e _ s m args below meth c _ D tc A _ _ _ _ _ _ _ [(40, .inr (5, [vI 0, .inr (41, 0), vI 0, .inr (42, 0), .inr (43, 0), .inr (44, 0), vI 0, vI 0, .inr (45, 0), vI 0, .inl .null, vI 0, vI 0, vI 0, vI 0, vI 0, vI 0, vI 0, vI 0, vI 0, vI 0, .inl .null, vI 0, .inl .null, .inl .null, .inl .null, vI 0, .inl .null, .inl .null, vI 0, .inl .null, .inl .null, .inl .null, .inl .null, vL 0, vL 0])), iA 41 24 (fun _ => 0), iA 42 4 (fun _ => 0), iA 43 4 (fun _ => 0), iA 44 24 (fun _ => 0), iA 45 24 (fun _ => 0)]
  refine o_aload_n (i := 0) hC dX5i_42 rfl rfl ?_
  refine o_iconst (v := 1) hC dX5i_43 (by decide) ?_
  refine o_put (ci := 5) (j := 9) (g := 40) hC rfl (by decide) rfl (x_fN_of wX5_i _ (List.mem_of_getElem? (i := 9) rfl)) rfl (by decide) (fun _ => ⟨rfl, rfl⟩) dX5i_44 ?_
  show GG p l e _ s m args below meth c _ D tc A _ _ _ _ _ _ _ [(40, .inr (5, [vI 0, .inr (41, 0), vI 0, .inr (42, 0), .inr (43, 0), .inr (44, 0), vI 0, vI 0, .inr (45, 0), vI 1, .inl .null, vI 0, vI 0, vI 0, vI 0, vI 0, vI 0, vI 0, vI 0, vI 0, vI 0, .inl .null, vI 0, .inl .null, .inl .null, .inl .null, vI 0, .inl .null, .inl .null, vI 0, .inl .null, .inl .null, .inl .null, .inl .null, vL 0, vL 0])), iA 41 24 (fun _ => 0), iA 42 4 (fun _ => 0), iA 43 4 (fun _ => 0), iA 44 24 (fun _ => 0), iA 45 24 (fun _ => 0)]
  refine o_aload_n (i := 0) hC dX5i_47 rfl rfl ?_
  refine o_sipush (v := 441) hC dX5i_48 (by decide) ?_
  refine o_newI (g := 46) (N := 441) hC rfl (x_fN_of wX5_i _ (List.mem_of_getElem? (i := 3) rfl)) (by decide) (by decide) (by decide) ⟨Nat.le_of_ble_eq_true rfl, Nat.le_of_ble_eq_true rfl⟩ dX5i_51 ?_
  show GG p l e _ s m args below meth c _ D tc A _ _ _ _ _ _ _ [(40, .inr (5, [vI 0, .inr (41, 0), vI 0, .inr (42, 0), .inr (43, 0), .inr (44, 0), vI 0, vI 0, .inr (45, 0), vI 1, .inl .null, vI 0, vI 0, vI 0, vI 0, vI 0, vI 0, vI 0, vI 0, vI 0, vI 0, .inl .null, vI 0, .inl .null, .inl .null, .inl .null, vI 0, .inl .null, .inl .null, vI 0, .inl .null, .inl .null, .inl .null, .inl .null, vL 0, vL 0])), iA 41 24 (fun _ => 0), iA 42 4 (fun _ => 0), iA 43 4 (fun _ => 0), iA 44 24 (fun _ => 0), iA 45 24 (fun _ => 0), iA 46 441 (fun _ => 0)]
  refine o_putF (ci := 5) (j := 10) (g := 40) hC hnm rfl rfl (by decide) rfl (x_fN_of wX5_i _ (List.mem_of_getElem? (i := 10) rfl)) rfl (by decide) (fun _ => ⟨rfl, rfl⟩) dX5i_53 ?_
  show GG p l e _ s m args below meth c _ D tc A _ _ _ _ _ _ _ [(40, .inr (5, [vI 0, .inr (41, 0), vI 0, .inr (42, 0), .inr (43, 0), .inr (44, 0), vI 0, vI 0, .inr (45, 0), vI 1, .inr (46, 0), vI 0, vI 0, vI 0, vI 0, vI 0, vI 0, vI 0, vI 0, vI 0, vI 0, .inl .null, vI 0, .inl .null, .inl .null, .inl .null, vI 0, .inl .null, .inl .null, vI 0, .inl .null, .inl .null, .inl .null, .inl .null, vL 0, vL 0])), iA 41 24 (fun _ => 0), iA 42 4 (fun _ => 0), iA 43 4 (fun _ => 0), iA 44 24 (fun _ => 0), iA 45 24 (fun _ => 0), iA 46 441 (fun _ => 0)]
  refine o_aload_n (i := 0) hC dX5i_56 rfl rfl ?_
  refine o_bipush (v := 25) hC dX5i_57 (by decide) ?_
  refine o_newI (g := 47) (N := 25) hC rfl (x_fN_of wX5_i _ (List.mem_of_getElem? (i := 3) rfl)) (by decide) (by decide) (by decide) ⟨Nat.le_of_ble_eq_true rfl, Nat.le_of_ble_eq_true rfl⟩ dX5i_59 ?_
  show GG p l e _ s m args below meth c _ D tc A _ _ _ _ _ _ _ [(40, .inr (5, [vI 0, .inr (41, 0), vI 0, .inr (42, 0), .inr (43, 0), .inr (44, 0), vI 0, vI 0, .inr (45, 0), vI 1, .inr (46, 0), vI 0, vI 0, vI 0, vI 0, vI 0, vI 0, vI 0, vI 0, vI 0, vI 0, .inl .null, vI 0, .inl .null, .inl .null, .inl .null, vI 0, .inl .null, .inl .null, vI 0, .inl .null, .inl .null, .inl .null, .inl .null, vL 0, vL 0])), iA 41 24 (fun _ => 0), iA 42 4 (fun _ => 0), iA 43 4 (fun _ => 0), iA 44 24 (fun _ => 0), iA 45 24 (fun _ => 0), iA 46 441 (fun _ => 0), iA 47 25 (fun _ => 0)]
  refine o_putF (ci := 5) (j := 21) (g := 40) hC hnm rfl rfl (by decide) rfl (x_fN_of wX5_i _ (List.mem_of_getElem? (i := 11) rfl)) rfl (by decide) (fun _ => ⟨rfl, rfl⟩) dX5i_61 ?_
  show GG p l e _ s m args below meth c _ D tc A _ _ _ _ _ _ _ [(40, .inr (5, [vI 0, .inr (41, 0), vI 0, .inr (42, 0), .inr (43, 0), .inr (44, 0), vI 0, vI 0, .inr (45, 0), vI 1, .inr (46, 0), vI 0, vI 0, vI 0, vI 0, vI 0, vI 0, vI 0, vI 0, vI 0, vI 0, .inr (47, 0), vI 0, .inl .null, .inl .null, .inl .null, vI 0, .inl .null, .inl .null, vI 0, .inl .null, .inl .null, .inl .null, .inl .null, vL 0, vL 0])), iA 41 24 (fun _ => 0), iA 42 4 (fun _ => 0), iA 43 4 (fun _ => 0), iA 44 24 (fun _ => 0), iA 45 24 (fun _ => 0), iA 46 441 (fun _ => 0), iA 47 25 (fun _ => 0)]
  refine o_aload_n (i := 0) hC dX5i_64 rfl rfl ?_
  refine o_iconst (v := 5) hC dX5i_65 (by decide) ?_
  refine o_newI (g := 48) (N := 5) hC rfl (x_fN_of wX5_i _ (List.mem_of_getElem? (i := 3) rfl)) (by decide) (by decide) (by decide) ⟨Nat.le_of_ble_eq_true rfl, Nat.le_of_ble_eq_true rfl⟩ dX5i_66 ?_
  show GG p l e _ s m args below meth c _ D tc A _ _ _ _ _ _ _ [(40, .inr (5, [vI 0, .inr (41, 0), vI 0, .inr (42, 0), .inr (43, 0), .inr (44, 0), vI 0, vI 0, .inr (45, 0), vI 1, .inr (46, 0), vI 0, vI 0, vI 0, vI 0, vI 0, vI 0, vI 0, vI 0, vI 0, vI 0, .inr (47, 0), vI 0, .inl .null, .inl .null, .inl .null, vI 0, .inl .null, .inl .null, vI 0, .inl .null, .inl .null, .inl .null, .inl .null, vL 0, vL 0])), iA 41 24 (fun _ => 0), iA 42 4 (fun _ => 0), iA 43 4 (fun _ => 0), iA 44 24 (fun _ => 0), iA 45 24 (fun _ => 0), iA 46 441 (fun _ => 0), iA 47 25 (fun _ => 0), iA 48 5 (fun _ => 0)]
  refine o_putF (ci := 5) (j := 23) (g := 40) hC hnm rfl rfl (by decide) rfl (x_fN_of wX5_i _ (List.mem_of_getElem? (i := 12) rfl)) rfl (by decide) (fun _ => ⟨rfl, rfl⟩) dX5i_68 ?_
  show GG p l e _ s m args below meth c _ D tc A _ _ _ _ _ _ _ [(40, .inr (5, [vI 0, .inr (41, 0), vI 0, .inr (42, 0), .inr (43, 0), .inr (44, 0), vI 0, vI 0, .inr (45, 0), vI 1, .inr (46, 0), vI 0, vI 0, vI 0, vI 0, vI 0, vI 0, vI 0, vI 0, vI 0, vI 0, .inr (47, 0), vI 0, .inr (48, 0), .inl .null, .inl .null, vI 0, .inl .null, .inl .null, vI 0, .inl .null, .inl .null, .inl .null, .inl .null, vL 0, vL 0])), iA 41 24 (fun _ => 0), iA 42 4 (fun _ => 0), iA 43 4 (fun _ => 0), iA 44 24 (fun _ => 0), iA 45 24 (fun _ => 0), iA 46 441 (fun _ => 0), iA 47 25 (fun _ => 0), iA 48 5 (fun _ => 0)]
  refine o_aload_n (i := 0) hC dX5i_71 rfl rfl ?_
  refine o_iconst (v := 5) hC dX5i_72 (by decide) ?_
  refine o_newI (g := 49) (N := 5) hC rfl (x_fN_of wX5_i _ (List.mem_of_getElem? (i := 3) rfl)) (by decide) (by decide) (by decide) ⟨Nat.le_of_ble_eq_true rfl, Nat.le_of_ble_eq_true rfl⟩ dX5i_73 ?_
  show GG p l e _ s m args below meth c _ D tc A _ _ _ _ _ _ _ [(40, .inr (5, [vI 0, .inr (41, 0), vI 0, .inr (42, 0), .inr (43, 0), .inr (44, 0), vI 0, vI 0, .inr (45, 0), vI 1, .inr (46, 0), vI 0, vI 0, vI 0, vI 0, vI 0, vI 0, vI 0, vI 0, vI 0, vI 0, .inr (47, 0), vI 0, .inr (48, 0), .inl .null, .inl .null, vI 0, .inl .null, .inl .null, vI 0, .inl .null, .inl .null, .inl .null, .inl .null, vL 0, vL 0])), iA 41 24 (fun _ => 0), iA 42 4 (fun _ => 0), iA 43 4 (fun _ => 0), iA 44 24 (fun _ => 0), iA 45 24 (fun _ => 0), iA 46 441 (fun _ => 0), iA 47 25 (fun _ => 0), iA 48 5 (fun _ => 0), iA 49 5 (fun _ => 0)]
  refine o_putF (ci := 5) (j := 24) (g := 40) hC hnm rfl rfl (by decide) rfl (x_fN_of wX5_i _ (List.mem_of_getElem? (i := 13) rfl)) rfl (by decide) (fun _ => ⟨rfl, rfl⟩) dX5i_75 ?_
  show GG p l e _ s m args below meth c _ D tc A _ _ _ _ _ _ _ [(40, .inr (5, [vI 0, .inr (41, 0), vI 0, .inr (42, 0), .inr (43, 0), .inr (44, 0), vI 0, vI 0, .inr (45, 0), vI 1, .inr (46, 0), vI 0, vI 0, vI 0, vI 0, vI 0, vI 0, vI 0, vI 0, vI 0, vI 0, .inr (47, 0), vI 0, .inr (48, 0), .inr (49, 0), .inl .null, vI 0, .inl .null, .inl .null, vI 0, .inl .null, .inl .null, .inl .null, .inl .null, vL 0, vL 0])), iA 41 24 (fun _ => 0), iA 42 4 (fun _ => 0), iA 43 4 (fun _ => 0), iA 44 24 (fun _ => 0), iA 45 24 (fun _ => 0), iA 46 441 (fun _ => 0), iA 47 25 (fun _ => 0), iA 48 5 (fun _ => 0), iA 49 5 (fun _ => 0)]
  refine o_aload_n (i := 0) hC dX5i_78 rfl rfl ?_
  refine o_iconst (v := 5) hC dX5i_79 (by decide) ?_
  refine o_newI (g := 50) (N := 5) hC rfl (x_fN_of wX5_i _ (List.mem_of_getElem? (i := 3) rfl)) (by decide) (by decide) (by decide) ⟨Nat.le_of_ble_eq_true rfl, Nat.le_of_ble_eq_true rfl⟩ dX5i_80 ?_
  show GG p l e _ s m args below meth c _ D tc A _ _ _ _ _ _ _ [(40, .inr (5, [vI 0, .inr (41, 0), vI 0, .inr (42, 0), .inr (43, 0), .inr (44, 0), vI 0, vI 0, .inr (45, 0), vI 1, .inr (46, 0), vI 0, vI 0, vI 0, vI 0, vI 0, vI 0, vI 0, vI 0, vI 0, vI 0, .inr (47, 0), vI 0, .inr (48, 0), .inr (49, 0), .inl .null, vI 0, .inl .null, .inl .null, vI 0, .inl .null, .inl .null, .inl .null, .inl .null, vL 0, vL 0])), iA 41 24 (fun _ => 0), iA 42 4 (fun _ => 0), iA 43 4 (fun _ => 0), iA 44 24 (fun _ => 0), iA 45 24 (fun _ => 0), iA 46 441 (fun _ => 0), iA 47 25 (fun _ => 0), iA 48 5 (fun _ => 0), iA 49 5 (fun _ => 0), iA 50 5 (fun _ => 0)]
  refine o_putF (ci := 5) (j := 25) (g := 40) hC hnm rfl rfl (by decide) rfl (x_fN_of wX5_i _ (List.mem_of_getElem? (i := 14) rfl)) rfl (by decide) (fun _ => ⟨rfl, rfl⟩) dX5i_82 ?_
  show GG p l e _ s m args below meth c _ D tc A _ _ _ _ _ _ _ [(40, .inr (5, [vI 0, .inr (41, 0), vI 0, .inr (42, 0), .inr (43, 0), .inr (44, 0), vI 0, vI 0, .inr (45, 0), vI 1, .inr (46, 0), vI 0, vI 0, vI 0, vI 0, vI 0, vI 0, vI 0, vI 0, vI 0, vI 0, .inr (47, 0), vI 0, .inr (48, 0), .inr (49, 0), .inr (50, 0), vI 0, .inl .null, .inl .null, vI 0, .inl .null, .inl .null, .inl .null, .inl .null, vL 0, vL 0])), iA 41 24 (fun _ => 0), iA 42 4 (fun _ => 0), iA 43 4 (fun _ => 0), iA 44 24 (fun _ => 0), iA 45 24 (fun _ => 0), iA 46 441 (fun _ => 0), iA 47 25 (fun _ => 0), iA 48 5 (fun _ => 0), iA 49 5 (fun _ => 0), iA 50 5 (fun _ => 0)]
  refine o_aload_n (i := 0) hC dX5i_85 rfl rfl ?_
  refine o_iconst (v := 5) hC dX5i_86 (by decide) ?_
  refine o_newI (g := 51) (N := 5) hC rfl (x_fN_of wX5_i _ (List.mem_of_getElem? (i := 3) rfl)) (by decide) (by decide) (by decide) ⟨Nat.le_of_ble_eq_true rfl, Nat.le_of_ble_eq_true rfl⟩ dX5i_87 ?_
  show GG p l e _ s m args below meth c _ D tc A _ _ _ _ _ _ _ [(40, .inr (5, [vI 0, .inr (41, 0), vI 0, .inr (42, 0), .inr (43, 0), .inr (44, 0), vI 0, vI 0, .inr (45, 0), vI 1, .inr (46, 0), vI 0, vI 0, vI 0, vI 0, vI 0, vI 0, vI 0, vI 0, vI 0, vI 0, .inr (47, 0), vI 0, .inr (48, 0), .inr (49, 0), .inr (50, 0), vI 0, .inl .null, .inl .null, vI 0, .inl .null, .inl .null, .inl .null, .inl .null, vL 0, vL 0])), iA 41 24 (fun _ => 0), iA 42 4 (fun _ => 0), iA 43 4 (fun _ => 0), iA 44 24 (fun _ => 0), iA 45 24 (fun _ => 0), iA 46 441 (fun _ => 0), iA 47 25 (fun _ => 0), iA 48 5 (fun _ => 0), iA 49 5 (fun _ => 0), iA 50 5 (fun _ => 0), iA 51 5 (fun _ => 0)]
  refine o_putF (ci := 5) (j := 27) (g := 40) hC hnm rfl rfl (by decide) rfl (x_fN_of wX5_i _ (List.mem_of_getElem? (i := 15) rfl)) rfl (by decide) (fun _ => ⟨rfl, rfl⟩) dX5i_89 ?_
  show GG p l e _ s m args below meth c _ D tc A _ _ _ _ _ _ _ [(40, .inr (5, [vI 0, .inr (41, 0), vI 0, .inr (42, 0), .inr (43, 0), .inr (44, 0), vI 0, vI 0, .inr (45, 0), vI 1, .inr (46, 0), vI 0, vI 0, vI 0, vI 0, vI 0, vI 0, vI 0, vI 0, vI 0, vI 0, .inr (47, 0), vI 0, .inr (48, 0), .inr (49, 0), .inr (50, 0), vI 0, .inr (51, 0), .inl .null, vI 0, .inl .null, .inl .null, .inl .null, .inl .null, vL 0, vL 0])), iA 41 24 (fun _ => 0), iA 42 4 (fun _ => 0), iA 43 4 (fun _ => 0), iA 44 24 (fun _ => 0), iA 45 24 (fun _ => 0), iA 46 441 (fun _ => 0), iA 47 25 (fun _ => 0), iA 48 5 (fun _ => 0), iA 49 5 (fun _ => 0), iA 50 5 (fun _ => 0), iA 51 5 (fun _ => 0)]
  refine o_aload_n (i := 0) hC dX5i_92 rfl rfl ?_
  refine o_iconst (v := 5) hC dX5i_93 (by decide) ?_
  refine o_newL (g := 52) (N := 5) hC rfl (x_fN_of wX5_i _ (List.mem_of_getElem? (i := 16) rfl)) (by decide) (by decide) (by decide) ⟨Nat.le_of_ble_eq_true rfl, Nat.le_of_ble_eq_true rfl⟩ dX5i_94 ?_
  show GG p l e _ s m args below meth c _ D tc A _ _ _ _ _ _ _ [(40, .inr (5, [vI 0, .inr (41, 0), vI 0, .inr (42, 0), .inr (43, 0), .inr (44, 0), vI 0, vI 0, .inr (45, 0), vI 1, .inr (46, 0), vI 0, vI 0, vI 0, vI 0, vI 0, vI 0, vI 0, vI 0, vI 0, vI 0, .inr (47, 0), vI 0, .inr (48, 0), .inr (49, 0), .inr (50, 0), vI 0, .inr (51, 0), .inl .null, vI 0, .inl .null, .inl .null, .inl .null, .inl .null, vL 0, vL 0])), iA 41 24 (fun _ => 0), iA 42 4 (fun _ => 0), iA 43 4 (fun _ => 0), iA 44 24 (fun _ => 0), iA 45 24 (fun _ => 0), iA 46 441 (fun _ => 0), iA 47 25 (fun _ => 0), iA 48 5 (fun _ => 0), iA 49 5 (fun _ => 0), iA 50 5 (fun _ => 0), iA 51 5 (fun _ => 0), lA 52 5 (fun _ => 0)]
  refine o_putF (ci := 5) (j := 28) (g := 40) hC hnm rfl rfl (by decide) rfl (x_fN_of wX5_i _ (List.mem_of_getElem? (i := 17) rfl)) rfl (by decide) (fun _ => ⟨rfl, rfl⟩) dX5i_96 ?_
  show GG p l e _ s m args below meth c _ D tc A _ _ _ _ _ _ _ [(40, .inr (5, [vI 0, .inr (41, 0), vI 0, .inr (42, 0), .inr (43, 0), .inr (44, 0), vI 0, vI 0, .inr (45, 0), vI 1, .inr (46, 0), vI 0, vI 0, vI 0, vI 0, vI 0, vI 0, vI 0, vI 0, vI 0, vI 0, .inr (47, 0), vI 0, .inr (48, 0), .inr (49, 0), .inr (50, 0), vI 0, .inr (51, 0), .inr (52, 0), vI 0, .inl .null, .inl .null, .inl .null, .inl .null, vL 0, vL 0])), iA 41 24 (fun _ => 0), iA 42 4 (fun _ => 0), iA 43 4 (fun _ => 0), iA 44 24 (fun _ => 0), iA 45 24 (fun _ => 0), iA 46 441 (fun _ => 0), iA 47 25 (fun _ => 0), iA 48 5 (fun _ => 0), iA 49 5 (fun _ => 0), iA 50 5 (fun _ => 0), iA 51 5 (fun _ => 0), lA 52 5 (fun _ => 0)]
  refine o_aload_n (i := 0) hC dX5i_99 rfl rfl ?_
  refine o_iconst (v := 1) hC dX5i_100 (by decide) ?_
  refine o_put (ci := 5) (j := 29) (g := 40) hC rfl (by decide) rfl (x_fN_of wX5_i _ (List.mem_of_getElem? (i := 18) rfl)) rfl (by decide) (fun _ => ⟨rfl, rfl⟩) dX5i_101 ?_
  show GG p l e _ s m args below meth c _ D tc A _ _ _ _ _ _ _ [(40, .inr (5, [vI 0, .inr (41, 0), vI 0, .inr (42, 0), .inr (43, 0), .inr (44, 0), vI 0, vI 0, .inr (45, 0), vI 1, .inr (46, 0), vI 0, vI 0, vI 0, vI 0, vI 0, vI 0, vI 0, vI 0, vI 0, vI 0, .inr (47, 0), vI 0, .inr (48, 0), .inr (49, 0), .inr (50, 0), vI 0, .inr (51, 0), .inr (52, 0), vI 1, .inl .null, .inl .null, .inl .null, .inl .null, vL 0, vL 0])), iA 41 24 (fun _ => 0), iA 42 4 (fun _ => 0), iA 43 4 (fun _ => 0), iA 44 24 (fun _ => 0), iA 45 24 (fun _ => 0), iA 46 441 (fun _ => 0), iA 47 25 (fun _ => 0), iA 48 5 (fun _ => 0), iA 49 5 (fun _ => 0), iA 50 5 (fun _ => 0), iA 51 5 (fun _ => 0), lA 52 5 (fun _ => 0)]
  refine o_aload_n (i := 0) hC dX5i_104 rfl rfl ?_
  refine o_sipush (v := 150) hC dX5i_105 (by decide) ?_
  refine o_newI (g := 53) (N := 150) hC rfl (x_fN_of wX5_i _ (List.mem_of_getElem? (i := 3) rfl)) (by decide) (by decide) (by decide) ⟨Nat.le_of_ble_eq_true rfl, Nat.le_of_ble_eq_true rfl⟩ dX5i_108 ?_
  show GG p l e _ s m args below meth c _ D tc A _ _ _ _ _ _ _ [(40, .inr (5, [vI 0, .inr (41, 0), vI 0, .inr (42, 0), .inr (43, 0), .inr (44, 0), vI 0, vI 0, .inr (45, 0), vI 1, .inr (46, 0), vI 0, vI 0, vI 0, vI 0, vI 0, vI 0, vI 0, vI 0, vI 0, vI 0, .inr (47, 0), vI 0, .inr (48, 0), .inr (49, 0), .inr (50, 0), vI 0, .inr (51, 0), .inr (52, 0), vI 1, .inl .null, .inl .null, .inl .null, .inl .null, vL 0, vL 0])), iA 41 24 (fun _ => 0), iA 42 4 (fun _ => 0), iA 43 4 (fun _ => 0), iA 44 24 (fun _ => 0), iA 45 24 (fun _ => 0), iA 46 441 (fun _ => 0), iA 47 25 (fun _ => 0), iA 48 5 (fun _ => 0), iA 49 5 (fun _ => 0), iA 50 5 (fun _ => 0), iA 51 5 (fun _ => 0), lA 52 5 (fun _ => 0), iA 53 150 (fun _ => 0)]
  refine o_putF (ci := 5) (j := 30) (g := 40) hC hnm rfl rfl (by decide) rfl (x_fN_of wX5_i _ (List.mem_of_getElem? (i := 19) rfl)) rfl (by decide) (fun _ => ⟨rfl, rfl⟩) dX5i_110 ?_
  show GG p l e _ s m args below meth c _ D tc A _ _ _ _ _ _ _ [(40, .inr (5, [vI 0, .inr (41, 0), vI 0, .inr (42, 0), .inr (43, 0), .inr (44, 0), vI 0, vI 0, .inr (45, 0), vI 1, .inr (46, 0), vI 0, vI 0, vI 0, vI 0, vI 0, vI 0, vI 0, vI 0, vI 0, vI 0, .inr (47, 0), vI 0, .inr (48, 0), .inr (49, 0), .inr (50, 0), vI 0, .inr (51, 0), .inr (52, 0), vI 1, .inr (53, 0), .inl .null, .inl .null, .inl .null, vL 0, vL 0])), iA 41 24 (fun _ => 0), iA 42 4 (fun _ => 0), iA 43 4 (fun _ => 0), iA 44 24 (fun _ => 0), iA 45 24 (fun _ => 0), iA 46 441 (fun _ => 0), iA 47 25 (fun _ => 0), iA 48 5 (fun _ => 0), iA 49 5 (fun _ => 0), iA 50 5 (fun _ => 0), iA 51 5 (fun _ => 0), lA 52 5 (fun _ => 0), iA 53 150 (fun _ => 0)]
  refine o_aload_n (i := 0) hC dX5i_113 rfl rfl ?_
  refine o_iconst (v := 5) hC dX5i_114 (by decide) ?_
  refine o_newI (g := 54) (N := 5) hC rfl (x_fN_of wX5_i _ (List.mem_of_getElem? (i := 3) rfl)) (by decide) (by decide) (by decide) ⟨Nat.le_of_ble_eq_true rfl, Nat.le_of_ble_eq_true rfl⟩ dX5i_115 ?_
  show GG p l e _ s m args below meth c _ D tc A _ _ _ _ _ _ _ [(40, .inr (5, [vI 0, .inr (41, 0), vI 0, .inr (42, 0), .inr (43, 0), .inr (44, 0), vI 0, vI 0, .inr (45, 0), vI 1, .inr (46, 0), vI 0, vI 0, vI 0, vI 0, vI 0, vI 0, vI 0, vI 0, vI 0, vI 0, .inr (47, 0), vI 0, .inr (48, 0), .inr (49, 0), .inr (50, 0), vI 0, .inr (51, 0), .inr (52, 0), vI 1, .inr (53, 0), .inl .null, .inl .null, .inl .null, vL 0, vL 0])), iA 41 24 (fun _ => 0), iA 42 4 (fun _ => 0), iA 43 4 (fun _ => 0), iA 44 24 (fun _ => 0), iA 45 24 (fun _ => 0), iA 46 441 (fun _ => 0), iA 47 25 (fun _ => 0), iA 48 5 (fun _ => 0), iA 49 5 (fun _ => 0), iA 50 5 (fun _ => 0), iA 51 5 (fun _ => 0), lA 52 5 (fun _ => 0), iA 53 150 (fun _ => 0), iA 54 5 (fun _ => 0)]
  refine o_putF (ci := 5) (j := 31) (g := 40) hC hnm rfl rfl (by decide) rfl (x_fN_of wX5_i _ (List.mem_of_getElem? (i := 20) rfl)) rfl (by decide) (fun _ => ⟨rfl, rfl⟩) dX5i_117 ?_
  show GG p l e _ s m args below meth c _ D tc A _ _ _ _ _ _ _ [(40, .inr (5, [vI 0, .inr (41, 0), vI 0, .inr (42, 0), .inr (43, 0), .inr (44, 0), vI 0, vI 0, .inr (45, 0), vI 1, .inr (46, 0), vI 0, vI 0, vI 0, vI 0, vI 0, vI 0, vI 0, vI 0, vI 0, vI 0, .inr (47, 0), vI 0, .inr (48, 0), .inr (49, 0), .inr (50, 0), vI 0, .inr (51, 0), .inr (52, 0), vI 1, .inr (53, 0), .inr (54, 0), .inl .null, .inl .null, vL 0, vL 0])), iA 41 24 (fun _ => 0), iA 42 4 (fun _ => 0), iA 43 4 (fun _ => 0), iA 44 24 (fun _ => 0), iA 45 24 (fun _ => 0), iA 46 441 (fun _ => 0), iA 47 25 (fun _ => 0), iA 48 5 (fun _ => 0), iA 49 5 (fun _ => 0), iA 50 5 (fun _ => 0), iA 51 5 (fun _ => 0), lA 52 5 (fun _ => 0), iA 53 150 (fun _ => 0), iA 54 5 (fun _ => 0)]
  refine o_aload_n (i := 0) hC dX5i_120 rfl rfl ?_
  refine o_iconst (v := 5) hC dX5i_121 (by decide) ?_
  refine o_newL (g := 55) (N := 5) hC rfl (x_fN_of wX5_i _ (List.mem_of_getElem? (i := 16) rfl)) (by decide) (by decide) (by decide) ⟨Nat.le_of_ble_eq_true rfl, Nat.le_of_ble_eq_true rfl⟩ dX5i_122 ?_
  show GG p l e _ s m args below meth c _ D tc A _ _ _ _ _ _ _ [(40, .inr (5, [vI 0, .inr (41, 0), vI 0, .inr (42, 0), .inr (43, 0), .inr (44, 0), vI 0, vI 0, .inr (45, 0), vI 1, .inr (46, 0), vI 0, vI 0, vI 0, vI 0, vI 0, vI 0, vI 0, vI 0, vI 0, vI 0, .inr (47, 0), vI 0, .inr (48, 0), .inr (49, 0), .inr (50, 0), vI 0, .inr (51, 0), .inr (52, 0), vI 1, .inr (53, 0), .inr (54, 0), .inl .null, .inl .null, vL 0, vL 0])), iA 41 24 (fun _ => 0), iA 42 4 (fun _ => 0), iA 43 4 (fun _ => 0), iA 44 24 (fun _ => 0), iA 45 24 (fun _ => 0), iA 46 441 (fun _ => 0), iA 47 25 (fun _ => 0), iA 48 5 (fun _ => 0), iA 49 5 (fun _ => 0), iA 50 5 (fun _ => 0), iA 51 5 (fun _ => 0), lA 52 5 (fun _ => 0), iA 53 150 (fun _ => 0), iA 54 5 (fun _ => 0), lA 55 5 (fun _ => 0)]
  refine o_putF (ci := 5) (j := 32) (g := 40) hC hnm rfl rfl (by decide) rfl (x_fN_of wX5_i _ (List.mem_of_getElem? (i := 21) rfl)) rfl (by decide) (fun _ => ⟨rfl, rfl⟩) dX5i_124 ?_
  show GG p l e _ s m args below meth c _ D tc A _ _ _ _ _ _ _ [(40, .inr (5, [vI 0, .inr (41, 0), vI 0, .inr (42, 0), .inr (43, 0), .inr (44, 0), vI 0, vI 0, .inr (45, 0), vI 1, .inr (46, 0), vI 0, vI 0, vI 0, vI 0, vI 0, vI 0, vI 0, vI 0, vI 0, vI 0, .inr (47, 0), vI 0, .inr (48, 0), .inr (49, 0), .inr (50, 0), vI 0, .inr (51, 0), .inr (52, 0), vI 1, .inr (53, 0), .inr (54, 0), .inr (55, 0), .inl .null, vL 0, vL 0])), iA 41 24 (fun _ => 0), iA 42 4 (fun _ => 0), iA 43 4 (fun _ => 0), iA 44 24 (fun _ => 0), iA 45 24 (fun _ => 0), iA 46 441 (fun _ => 0), iA 47 25 (fun _ => 0), iA 48 5 (fun _ => 0), iA 49 5 (fun _ => 0), iA 50 5 (fun _ => 0), iA 51 5 (fun _ => 0), lA 52 5 (fun _ => 0), iA 53 150 (fun _ => 0), iA 54 5 (fun _ => 0), lA 55 5 (fun _ => 0)]
  refine o_aload_n (i := 0) hC dX5i_127 rfl rfl ?_
  refine o_iconst (v := 5) hC dX5i_128 (by decide) ?_
  refine o_newL (g := 56) (N := 5) hC rfl (x_fN_of wX5_i _ (List.mem_of_getElem? (i := 16) rfl)) (by decide) (by decide) (by decide) ⟨Nat.le_of_ble_eq_true rfl, Nat.le_of_ble_eq_true rfl⟩ dX5i_129 ?_
  show GG p l e _ s m args below meth c _ D tc A _ _ _ _ _ _ _ [(40, .inr (5, [vI 0, .inr (41, 0), vI 0, .inr (42, 0), .inr (43, 0), .inr (44, 0), vI 0, vI 0, .inr (45, 0), vI 1, .inr (46, 0), vI 0, vI 0, vI 0, vI 0, vI 0, vI 0, vI 0, vI 0, vI 0, vI 0, .inr (47, 0), vI 0, .inr (48, 0), .inr (49, 0), .inr (50, 0), vI 0, .inr (51, 0), .inr (52, 0), vI 1, .inr (53, 0), .inr (54, 0), .inr (55, 0), .inl .null, vL 0, vL 0])), iA 41 24 (fun _ => 0), iA 42 4 (fun _ => 0), iA 43 4 (fun _ => 0), iA 44 24 (fun _ => 0), iA 45 24 (fun _ => 0), iA 46 441 (fun _ => 0), iA 47 25 (fun _ => 0), iA 48 5 (fun _ => 0), iA 49 5 (fun _ => 0), iA 50 5 (fun _ => 0), iA 51 5 (fun _ => 0), lA 52 5 (fun _ => 0), iA 53 150 (fun _ => 0), iA 54 5 (fun _ => 0), lA 55 5 (fun _ => 0), lA 56 5 (fun _ => 0)]
  refine o_putF (ci := 5) (j := 33) (g := 40) hC hnm rfl rfl (by decide) rfl (x_fN_of wX5_i _ (List.mem_of_getElem? (i := 22) rfl)) rfl (by decide) (fun _ => ⟨rfl, rfl⟩) dX5i_131 ?_
  show GG p l e _ s m args below meth c _ D tc A _ _ _ _ _ _ _ [(40, .inr (5, [vI 0, .inr (41, 0), vI 0, .inr (42, 0), .inr (43, 0), .inr (44, 0), vI 0, vI 0, .inr (45, 0), vI 1, .inr (46, 0), vI 0, vI 0, vI 0, vI 0, vI 0, vI 0, vI 0, vI 0, vI 0, vI 0, .inr (47, 0), vI 0, .inr (48, 0), .inr (49, 0), .inr (50, 0), vI 0, .inr (51, 0), .inr (52, 0), vI 1, .inr (53, 0), .inr (54, 0), .inr (55, 0), .inr (56, 0), vL 0, vL 0])), iA 41 24 (fun _ => 0), iA 42 4 (fun _ => 0), iA 43 4 (fun _ => 0), iA 44 24 (fun _ => 0), iA 45 24 (fun _ => 0), iA 46 441 (fun _ => 0), iA 47 25 (fun _ => 0), iA 48 5 (fun _ => 0), iA 49 5 (fun _ => 0), iA 50 5 (fun _ => 0), iA 51 5 (fun _ => 0), lA 52 5 (fun _ => 0), iA 53 150 (fun _ => 0), iA 54 5 (fun _ => 0), lA 55 5 (fun _ => 0), lA 56 5 (fun _ => 0)]
  refine o_aload_n (i := 0) hC dX5i_134 rfl rfl ?_
  refine o_iconst (v := 1) hC dX5i_135 (by decide) ?_
  -- CALL ('X5', 'puts')
  refine o_c17 (z := zX5_puts) (b := 1) (d := 5) hC dX5i_136 qX5_p ⟨Nat.le_of_ble_eq_true rfl, Nat.le_of_ble_eq_true rfl⟩ ?_
  refine ⟨[40, 46], _, m_puts l 1 (Nat.le_refl 1) (by decide) 0 (fun _ => 0) (upd (fun _ => 0) 0 1) (fun _ => 0) 1 (fun _ => 0) (fun _ => 0) _ rfl, fun r hc' hP _ => ?_⟩
  obtain ⟨rfl, ma', hma, rfl⟩ := hP
  refine o_aload_n (i := 0) hC dX5i_139 rfl rfl ?_
  refine o_iconst (v := 1) hC dX5i_140 (by decide) ?_
  -- CALL ('X5', 'people')
  refine o_c17 (z := zX5_people) (b := 1) (d := 5) hC dX5i_141 qX5_q ⟨Nat.le_of_ble_eq_true rfl, Nat.le_of_ble_eq_true rfl⟩ ?_
  refine ⟨[40, 47, 48, 53], _, m_people l 0 (fun _ => 0) (upd (upd (upd (fun _ => 0) 0 1) 0 (nI 1)) 4 0) (fun _ => 0) 1 (fun _ => 0) (fun _ => 0) (fun _ => 0) (fun _ => 0) 1, fun r hc' hP _ => ?_⟩
  rcases hP with ⟨q1, -⟩ | ⟨-, rfl, wa', ta', sa', hwa, hta, hsa, rfl⟩
  · exact absurd q1 (by decide)
  refine o_pop hC dX5i_144 rfl ?_
  exact o_retN hC hrt dX5i_145 (MW_0 (nk := fun _ => 0) (nt := upd (upd (upd (fun _ => 0) 0 1) 0 (nI 1)) 4 0) (rm := upd (upd (fun _ => 0) 0 1) 1 0) (lg := fun _ => 0) rfl rfl rfl rfl rfl rfl hma hwa hta hsa) ⟨rfl, rfl⟩
theorem dX4i_0 : decode cX4_init 0 = .ok (.aload_n 0, 1) := by decide +kernel
theorem dX4i_1 : decode cX4_init 1 = .ok (.invokespecial 1, 3) := by decide +kernel
theorem dX4i_4 : decode cX4_init 4 = .ok (.aload_n 0, 1) := by decide +kernel
theorem dX4i_5 : decode cX4_init 5 = .ok (.new 7, 3) := by decide +kernel
theorem dX4i_8 : decode cX4_init 8 = .ok (.dup, 1) := by decide +kernel
theorem dX4i_9 : decode cX4_init 9 = .ok (.invokespecial 9, 3) := by decide +kernel
theorem dX4i_12 : decode cX4_init 12 = .ok (.putfield 10, 3) := by decide +kernel
theorem dX4i_15 : decode cX4_init 15 = .ok (.aload_n 0, 1) := by decide +kernel
theorem dX4i_16 : decode cX4_init 16 = .ok (.new 16, 3) := by decide +kernel
theorem dX4i_19 : decode cX4_init 19 = .ok (.dup, 1) := by decide +kernel
theorem dX4i_20 : decode cX4_init 20 = .ok (.invokespecial 18, 3) := by decide +kernel
theorem dX4i_23 : decode cX4_init 23 = .ok (.putfield 19, 3) := by decide +kernel
theorem dX4i_26 : decode cX4_init 26 = .ok (.aload_n 0, 1) := by decide +kernel
theorem dX4i_27 : decode cX4_init 27 = .ok (.new 23, 3) := by decide +kernel
theorem dX4i_30 : decode cX4_init 30 = .ok (.dup, 1) := by decide +kernel
theorem dX4i_31 : decode cX4_init 31 = .ok (.invokespecial 25, 3) := by decide +kernel
theorem dX4i_34 : decode cX4_init 34 = .ok (.putfield 26, 3) := by decide +kernel
theorem dX4i_37 : decode cX4_init 37 = .ok (.aload_n 0, 1) := by decide +kernel
theorem dX4i_38 : decode cX4_init 38 = .ok (.new 30, 3) := by decide +kernel
theorem dX4i_41 : decode cX4_init 41 = .ok (.dup, 1) := by decide +kernel
theorem dX4i_42 : decode cX4_init 42 = .ok (.invokespecial 32, 3) := by decide +kernel
theorem dX4i_45 : decode cX4_init 45 = .ok (.putfield 33, 3) := by decide +kernel
theorem dX4i_48 : decode cX4_init 48 = .ok (.return_, 1) := by decide +kernel
theorem wX4_i : x_fN [.methodLink RX4 1 Lib.objectInit, .instanceMethod Lib.objectInit, .code Lib.objectInit ⟨#[0xb1]⟩ 1 none, .classLink RX4 7 RX1, .instantiable RX1 8, .initialized RX1, .code yX1_init cX1_init 1 none, .methodLink RX4 9 yX1_init, .instanceMethod yX1_init, .fieldLink RX4 10 (TX4 0).1 (TX4 0).2.1 (TX4 0).2.2.1, .classLink RX4 16 RX2, .instantiable RX2 7, .initialized RX2, .code yX2_init cX2_init 1 none, .methodLink RX4 18 yX2_init, .instanceMethod yX2_init, .fieldLink RX4 19 (TX4 1).1 (TX4 1).2.1 (TX4 1).2.2.1, .classLink RX4 23 RX3, .instantiable RX3 10, .initialized RX3, .code yX3_init cX3_init 1 none, .methodLink RX4 25 yX3_init, .instanceMethod yX3_init, .fieldLink RX4 26 (TX4 2).1 (TX4 2).2.1 (TX4 2).2.2.1, .classLink RX4 30 RX0, .instantiable RX0 11, .initialized RX0, .code yX0_init cX0_init 1 none, .methodLink RX4 32 yX0_init, .instanceMethod yX0_init, .fieldLink RX4 33 (TX4 3).1 (TX4 3).2.1 (TX4 3).2.2.1] = true := by decide +kernel
theorem hid_X1 : ∀ hp', (fun h => h = nkH (fun _ => 0) (fun _ => 0) (fun _ => 0) (fun _ => 0) 0 0 0 0) hp' → ∀ i ∈ x_hid hp', i = 1 ∨ i ∈ ([2, 3, 4, 5] : List Nat) := by
  intro hp' h i hi
  have h := h; subst h
  have hi : i ∈ ([1, 2, 3, 4, 5, 2, 3, 4, 5] : List Nat) := hi
  simp only [List.mem_cons, List.not_mem_nil, or_false] at hi ⊢
  omega
theorem hid_X2 : ∀ hp', (fun h => ∃ ma' : Nat → Int32, (∀ x y, x + y ≤ 1 → ma' (21 * x + y) = nI (mk0 x y)) ∧ h = ntH ma' (nI 1) 0 0 0 0 0) hp' → ∀ i ∈ x_hid hp', i = 6 ∨ i ∈ ([7] : List Nat) := by
  intro hp' h i hi
  obtain ⟨ma', -, rfl⟩ := h
  have hi : i ∈ ([6, 7, 7] : List Nat) := hi
  simp only [List.mem_cons, List.not_mem_nil, or_false] at hi ⊢
  omega
theorem hid_X3 : ∀ hp', (fun h => h = rmH (fun _ _ => 0) (fun _ => 0) (fun _ => 0) (fun _ => 0) (fun _ => 0) (fun _ => 0) 1 0 0 0) hp' → ∀ i ∈ x_hid hp', i = 8 ∨ i ∈ ([9, 10, 11, 12, 13, 14] : List Nat) := by
  intro hp' h i hi
  have h := h; subst h
  have hi : i ∈ ([8, 9, 10, 11, 12, 13, 14, 9, 10, 11, 12, 13, 14] : List Nat) := hi
  simp only [List.mem_cons, List.not_mem_nil, or_false] at hi ⊢
  omega
theorem hid_X0 : ∀ hp', (fun h => h = lnH (fun _ _ => 0) (fun _ _ => 0) (fun _ => 0) (fun _ => 0) (fun _ => 0) 1 1 1 0 0 0) hp' → ∀ i ∈ x_hid hp', i = 15 ∨ i ∈ ([16, 17, 18, 19, 20] : List Nat) := by
  intro hp' h i hi
  have h := h; subst h
  have hi : i ∈ ([15, 16, 17, 18, 19, 20, 16, 17, 18, 19, 20] : List Nat) := hi
  simp only [List.mem_cons, List.not_mem_nil, or_false] at hi ⊢
  omega
set_option maxRecDepth 20000 in
theorem n_X4 (l : Launch) : EvN l zX4_init 35 964 0 [(0, .inr (4, fX4_0))] (fun h => ∃ ma' : Nat → Int32, (∀ x y, x + y ≤ 1 → ma' (21 * x + y) = nI (mk0 x y)) ∧ h = sbO :: (nkH (fun _ => 0) (fun _ => 0) (fun _ => 0) (fun _ => 0) 0 0 0 0 ++ (ntH ma' (nI 1) 0 0 0 0 0 ++ (rmH (fun _ _ => 0) (fun _ => 0) (fun _ => 0) (fun _ => 0) (fun _ => 0) (fun _ => 0) 1 0 0 0 ++ lnH (fun _ _ => 0) (fun _ _ => 0) (fun _ => 0) (fun _ => 0) (fun _ => 0) 1 1 1 0 0 0)))) := by
  refine evN_of (by decide +kernel) (Nat.le_of_ble_eq_true rfl) rfl ?_
  intro p e s m args below meth c D tc A ad0 hC hrt hnm hao
  refine o_aload_n (i := 0) hC dX4i_0 rfl rfl ?_
  refine o_objInit hC (x_fN_of wX4_i _ (List.mem_of_getElem? (i := 0) rfl)) (x_fN_of wX4_i _ (List.mem_of_getElem? (i := 1) rfl)) (x_fN_of wX4_i _ (List.mem_of_getElem? (i := 2) rfl)) (Nat.le_of_ble_eq_true rfl) (Nat.le_of_ble_eq_true rfl) dX4i_1 ?_
  refine o_aload_n (i := 0) hC dX4i_4 rfl rfl ?_
  refine o_newO (g := 1) (ci := 1) (fs := vX1_0) (fx := fX1_0) hC rfl rfl (x_fN_of wX4_i _ (List.mem_of_getElem? (i := 3) rfl)) (x_fN_of wX4_i _ (List.mem_of_getElem? (i := 4) rfl)) (x_fN_of wX4_i _ (List.mem_of_getElem? (i := 5) rfl)) (fun _ => rfl) (by decide) ⟨Nat.le_of_ble_eq_true rfl, Nat.le_of_ble_eq_true rfl⟩ dX4i_5 ?_
  refine o_dup hC dX4i_8 rfl ?_
  refine o_callN (g := 1) (ci := 1) (G := [2, 3, 4, 5]) (hp := [(0, .inr (4, [.inl .null, .inl .null, .inl .null, .inl .null]))]) hC hao (n_X1 l) hid_X1 (by decide) rfl (x_fN_of wX4_i _ (List.mem_of_getElem? (i := 6) rfl)) rfl (x_fN_of wX4_i _ (List.mem_of_getElem? (i := 5) rfl)) (x_fN_of wX4_i _ (List.mem_of_getElem? (i := 7) rfl)) (x_fN_of wX4_i _ (List.mem_of_getElem? (i := 8) rfl)) rfl (by decide +kernel) ⟨Nat.le_of_ble_eq_true rfl, Nat.le_of_ble_eq_true rfl⟩ (Nat.le_of_ble_eq_true rfl) ⟨Nat.le_of_ble_eq_true rfl, Nat.le_of_ble_eq_true rfl⟩ dX4i_9 (fun hp' hPp => ?_)
  have hPp := hPp; subst hPp
  show GG p l e _ s m args below meth c _ D tc A _ _ _ _ _ _ _ ((0, .inr (4, [.inl .null, .inl .null, .inl .null, .inl .null])) :: (nkH (fun _ => 0) (fun _ => 0) (fun _ => 0) (fun _ => 0) 0 0 0 0))
  refine o_putF (ci := 4) (j := 0) (g := 0) hC hnm rfl rfl (by decide) rfl (x_fN_of wX4_i _ (List.mem_of_getElem? (i := 9) rfl)) rfl (by decide) (fun _ => ⟨rfl, rfl⟩) dX4i_12 ?_
  show GG p l e _ s m args below meth c _ D tc A _ _ _ _ _ _ _ ((0, .inr (4, [.inr (1, 0), .inl .null, .inl .null, .inl .null])) :: (nkH (fun _ => 0) (fun _ => 0) (fun _ => 0) (fun _ => 0) 0 0 0 0))
  refine o_aload_n (i := 0) hC dX4i_15 rfl rfl ?_
  refine o_newO (g := 6) (ci := 2) (fs := vX2_0) (fx := fX2_0) hC rfl rfl (x_fN_of wX4_i _ (List.mem_of_getElem? (i := 10) rfl)) (x_fN_of wX4_i _ (List.mem_of_getElem? (i := 11) rfl)) (x_fN_of wX4_i _ (List.mem_of_getElem? (i := 12) rfl)) (fun _ => rfl) (by decide) ⟨Nat.le_of_ble_eq_true rfl, Nat.le_of_ble_eq_true rfl⟩ dX4i_16 ?_
  refine o_dup hC dX4i_19 rfl ?_
  refine o_callN (g := 6) (ci := 2) (G := [7]) (hp := (0, .inr (4, [.inr (1, 0), .inl .null, .inl .null, .inl .null])) :: (nkH (fun _ => 0) (fun _ => 0) (fun _ => 0) (fun _ => 0) 0 0 0 0)) hC hao (n_X2 l) hid_X2 (by decide) rfl (x_fN_of wX4_i _ (List.mem_of_getElem? (i := 13) rfl)) rfl (x_fN_of wX4_i _ (List.mem_of_getElem? (i := 12) rfl)) (x_fN_of wX4_i _ (List.mem_of_getElem? (i := 14) rfl)) (x_fN_of wX4_i _ (List.mem_of_getElem? (i := 15) rfl)) rfl (by decide +kernel) ⟨Nat.le_of_ble_eq_true rfl, Nat.le_of_ble_eq_true rfl⟩ (Nat.le_of_ble_eq_true rfl) ⟨Nat.le_of_ble_eq_true rfl, Nat.le_of_ble_eq_true rfl⟩ dX4i_20 (fun hp' hPp => ?_)
  obtain ⟨ma', hma, rfl⟩ := hPp
  show GG p l e _ s m args below meth c _ D tc A _ _ _ _ _ _ _ ((0, .inr (4, [.inr (1, 0), .inl .null, .inl .null, .inl .null])) :: (nkH (fun _ => 0) (fun _ => 0) (fun _ => 0) (fun _ => 0) 0 0 0 0 ++ (ntH ma' (nI 1) 0 0 0 0 0)))
  refine o_putF (ci := 4) (j := 1) (g := 0) hC hnm rfl rfl (by decide) rfl (x_fN_of wX4_i _ (List.mem_of_getElem? (i := 16) rfl)) rfl (by decide) (fun _ => ⟨rfl, rfl⟩) dX4i_23 ?_
  show GG p l e _ s m args below meth c _ D tc A _ _ _ _ _ _ _ ((0, .inr (4, [.inr (1, 0), .inr (6, 0), .inl .null, .inl .null])) :: (nkH (fun _ => 0) (fun _ => 0) (fun _ => 0) (fun _ => 0) 0 0 0 0 ++ (ntH ma' (nI 1) 0 0 0 0 0)))
  refine o_aload_n (i := 0) hC dX4i_26 rfl rfl ?_
  refine o_newO (g := 8) (ci := 3) (fs := vX3_0) (fx := fX3_0) hC rfl rfl (x_fN_of wX4_i _ (List.mem_of_getElem? (i := 17) rfl)) (x_fN_of wX4_i _ (List.mem_of_getElem? (i := 18) rfl)) (x_fN_of wX4_i _ (List.mem_of_getElem? (i := 19) rfl)) (fun _ => rfl) (by decide) ⟨Nat.le_of_ble_eq_true rfl, Nat.le_of_ble_eq_true rfl⟩ dX4i_27 ?_
  refine o_dup hC dX4i_30 rfl ?_
  refine o_callN (g := 8) (ci := 3) (G := [9, 10, 11, 12, 13, 14]) (hp := (0, .inr (4, [.inr (1, 0), .inr (6, 0), .inl .null, .inl .null])) :: (nkH (fun _ => 0) (fun _ => 0) (fun _ => 0) (fun _ => 0) 0 0 0 0 ++ (ntH ma' (nI 1) 0 0 0 0 0))) hC hao (n_X3 l) hid_X3 (by decide) rfl (x_fN_of wX4_i _ (List.mem_of_getElem? (i := 20) rfl)) rfl (x_fN_of wX4_i _ (List.mem_of_getElem? (i := 19) rfl)) (x_fN_of wX4_i _ (List.mem_of_getElem? (i := 21) rfl)) (x_fN_of wX4_i _ (List.mem_of_getElem? (i := 22) rfl)) rfl (by decide +kernel) ⟨Nat.le_of_ble_eq_true rfl, Nat.le_of_ble_eq_true rfl⟩ (Nat.le_of_ble_eq_true rfl) ⟨Nat.le_of_ble_eq_true rfl, Nat.le_of_ble_eq_true rfl⟩ dX4i_31 (fun hp' hPp => ?_)
  have hPp := hPp; subst hPp
  show GG p l e _ s m args below meth c _ D tc A _ _ _ _ _ _ _ ((0, .inr (4, [.inr (1, 0), .inr (6, 0), .inl .null, .inl .null])) :: (nkH (fun _ => 0) (fun _ => 0) (fun _ => 0) (fun _ => 0) 0 0 0 0 ++ (ntH ma' (nI 1) 0 0 0 0 0 ++ (rmH (fun _ _ => 0) (fun _ => 0) (fun _ => 0) (fun _ => 0) (fun _ => 0) (fun _ => 0) 1 0 0 0))))
  refine o_putF (ci := 4) (j := 2) (g := 0) hC hnm rfl rfl (by decide) rfl (x_fN_of wX4_i _ (List.mem_of_getElem? (i := 23) rfl)) rfl (by decide) (fun _ => ⟨rfl, rfl⟩) dX4i_34 ?_
  show GG p l e _ s m args below meth c _ D tc A _ _ _ _ _ _ _ ((0, .inr (4, [.inr (1, 0), .inr (6, 0), .inr (8, 0), .inl .null])) :: (nkH (fun _ => 0) (fun _ => 0) (fun _ => 0) (fun _ => 0) 0 0 0 0 ++ (ntH ma' (nI 1) 0 0 0 0 0 ++ (rmH (fun _ _ => 0) (fun _ => 0) (fun _ => 0) (fun _ => 0) (fun _ => 0) (fun _ => 0) 1 0 0 0))))
  refine o_aload_n (i := 0) hC dX4i_37 rfl rfl ?_
  refine o_newO (g := 15) (ci := 0) (fs := vX0_0) (fx := fX0_0) hC rfl rfl (x_fN_of wX4_i _ (List.mem_of_getElem? (i := 24) rfl)) (x_fN_of wX4_i _ (List.mem_of_getElem? (i := 25) rfl)) (x_fN_of wX4_i _ (List.mem_of_getElem? (i := 26) rfl)) (fun _ => rfl) (by decide) ⟨Nat.le_of_ble_eq_true rfl, Nat.le_of_ble_eq_true rfl⟩ dX4i_38 ?_
  refine o_dup hC dX4i_41 rfl ?_
  refine o_callN (g := 15) (ci := 0) (G := [16, 17, 18, 19, 20]) (hp := (0, .inr (4, [.inr (1, 0), .inr (6, 0), .inr (8, 0), .inl .null])) :: (nkH (fun _ => 0) (fun _ => 0) (fun _ => 0) (fun _ => 0) 0 0 0 0 ++ (ntH ma' (nI 1) 0 0 0 0 0 ++ (rmH (fun _ _ => 0) (fun _ => 0) (fun _ => 0) (fun _ => 0) (fun _ => 0) (fun _ => 0) 1 0 0 0)))) hC hao (n_X0 l) hid_X0 (by decide) rfl (x_fN_of wX4_i _ (List.mem_of_getElem? (i := 27) rfl)) rfl (x_fN_of wX4_i _ (List.mem_of_getElem? (i := 26) rfl)) (x_fN_of wX4_i _ (List.mem_of_getElem? (i := 28) rfl)) (x_fN_of wX4_i _ (List.mem_of_getElem? (i := 29) rfl)) rfl (by decide +kernel) ⟨Nat.le_of_ble_eq_true rfl, Nat.le_of_ble_eq_true rfl⟩ (Nat.le_of_ble_eq_true rfl) ⟨Nat.le_of_ble_eq_true rfl, Nat.le_of_ble_eq_true rfl⟩ dX4i_42 (fun hp' hPp => ?_)
  have hPp := hPp; subst hPp
  show GG p l e _ s m args below meth c _ D tc A _ _ _ _ _ _ _ ((0, .inr (4, [.inr (1, 0), .inr (6, 0), .inr (8, 0), .inl .null])) :: (nkH (fun _ => 0) (fun _ => 0) (fun _ => 0) (fun _ => 0) 0 0 0 0 ++ (ntH ma' (nI 1) 0 0 0 0 0 ++ (rmH (fun _ _ => 0) (fun _ => 0) (fun _ => 0) (fun _ => 0) (fun _ => 0) (fun _ => 0) 1 0 0 0 ++ (lnH (fun _ _ => 0) (fun _ _ => 0) (fun _ => 0) (fun _ => 0) (fun _ => 0) 1 1 1 0 0 0)))))
  refine o_putF (ci := 4) (j := 3) (g := 0) hC hnm rfl rfl (by decide) rfl (x_fN_of wX4_i _ (List.mem_of_getElem? (i := 30) rfl)) rfl (by decide) (fun _ => ⟨rfl, rfl⟩) dX4i_45 ?_
  show GG p l e _ s m args below meth c _ D tc A _ _ _ _ _ _ _ ((0, .inr (4, [.inr (1, 0), .inr (6, 0), .inr (8, 0), .inr (15, 0)])) :: (nkH (fun _ => 0) (fun _ => 0) (fun _ => 0) (fun _ => 0) 0 0 0 0 ++ (ntH ma' (nI 1) 0 0 0 0 0 ++ (rmH (fun _ _ => 0) (fun _ => 0) (fun _ => 0) (fun _ => 0) (fun _ => 0) (fun _ => 0) 1 0 0 0 ++ (lnH (fun _ _ => 0) (fun _ _ => 0) (fun _ => 0) (fun _ => 0) (fun _ => 0) 1 1 1 0 0 0)))))
  exact o_retN hC hrt dX4i_48 ⟨ma', hma, rfl⟩ ⟨rfl, rfl⟩
