def x_la : Nat → List xV → xL
  | _, [] => []
  | i, v :: vs => (i, v) :: x_la (match Nat.beq (x_cat v) 2 with | true => i + 2 | false => i + 1) vs
theorem x_la_eq (ad : Nat → Nat → Nat) : ∀ (vs : List xV) (i : Nat), x_lm ad (x_la i vs) = lv_args i (vs.map (x_v ad))
  | [], _ => rfl
  | v :: vs, i => by
    show (i, x_v ad v) :: x_lm ad (x_la _ vs) = (i, x_v ad v) :: lv_args _ _
    rw [x_la_eq ad vs, x_cat_v]
    congr 2
    cases hb : Nat.beq (x_cat v) 2 with
    | true => rw [if_pos (Nat.eq_of_beq_eq_true hb)]
    | false => rw [if_neg (fun h => by rw [h] at hb; cases hb)]
def x_words : List xV → Nat
  | [] => 0
  | v :: vs => x_cat v + x_words vs
theorem x_words_le (ad : Nat → Nat → Nat) : ∀ vs : List xV, (lg_sl (vs.map (x_v ad))).length ≤ x_words vs
  | [] => Nat.le_refl _
  | v :: vs => by
    have ih := x_words_le ad vs
    have hc := x_cat_v ad v
    unfold x_words
    show (List.flatMap _ (x_v ad v :: vs.map (x_v ad))).length ≤ _
    rw [List.flatMap_cons, List.length_append]
    have : (if (x_v ad v).category = 2 then [Slot.val (x_v ad v), Slot.second] else [Slot.val (x_v ad v)]).length ≤ x_cat v := by
      rw [← hc]
      rcases lv_cat (x_v ad v) with h | h <;> simp [h]
    exact Nat.add_le_add this ih
/-- the end that a contract wants -/
abbrev x_E (below : List Frame) (D : va_G) (tc : Nat → Nat) (ad : Nat → Nat → Nat) (A : Nat → Prop) (hc : xH) (P : Option xV → xH → Prop) (args : Array Value) (s : State) : State → Prop := MQ below (x_Q D tc ad A hc P) args s 0 0 A
/-- a contract out of a walk from the entry -/
theorem ev_of {l : Launch} {z : xM} {as : List xV} {hc : xH} {P : Option xV → xH → Prop} (hy : plainName z.1.cls = true) (hw : x_words as ≤ z.2.2.1)
    (body : ∀ (p : Program) (e : Env) (s : State) (m : MethodId) (args : Array Value) (below : List Frame) (meth : Method) (c : Code) (D : va_G) (tc : Nat → Nat) (A : Nat → Prop) (ad0 : Nat → Nat → Nat),
      CC p s m args meth c D tc A z.2.2.1 z.1.cls z.2.1 → meth.sig.returnType = z.2.2.2.1 →
      GG p l e (x_rm z) s m args below meth c (x_E below D tc ad0 A hc P args s) D tc A z.2.2.1 (fun ad => ad = ad0) 0 0 0 (x_la 0 as) [] hc) : Ev l z as hc P := by
  intro D tc ad sz
  refine Met.ofW (cc := z.2.1) (maxL := z.2.2.1) (ret := z.2.2.2.1) hy rfl ?_
  intro p e s m args below meth c s₁ B hml hv
  obtain ⟨rfl, hsz, hP, hK, hD0⟩ := hv
  have hts := atoms_spec (ws := x_ws z) B.pre
  have hown : s.vm.findClass z.1.cls = some m.cls := findClass_of_methodNamed B.named
  subst hsz
  have hD := hD0.self (sz := s.heap.size)
  generalize hAe : va_A (x_w tc ad hc) s.heap.size = A at hD ⊢
  have hA : ∀ q : Nat, s.heap.size ≤ q → A q := fun q h => by rw [← hAe]; exact Or.inr h
  have hl := lv_entry (as.map (x_v ad)) (n := z.2.2.1) (Nat.le_trans (x_words_le ad as) hw)
  rw [lg_entry_eq]
  rw [← x_la_eq ad as 0] at hl
  exact body p e s m _ below meth c D tc A ad ⟨B.exec, B.bytes, hml, hown, fun w hw => hts w (List.mem_cons_of_mem _ hw), hK, hA, B.notSynchronized⟩ B.returns ad s.heap [] _ rfl hP hD va_S.rf hl

section XRET
variable {p : Program} {l : Launch} {e : Env} {s : State} {m : MethodId} {args : Array Value} {below : List Frame} {meth : Method} {c : Code} {D : va_G} {tc : Nat → Nat} {A : Nat → Prop} {nL : Nat} {own : String} {cc : ByteArray} {pc : Nat} {lv : xL} {R : Room} {ad0 : Nat → Nat → Nat} {hc : xH} {P : Option xV → xH → Prop} {st : List xV} {hp : xH}

theorem o_iret (hC : CC p s m args meth c D tc A nL own cc) (hrt : meth.sig.returnType = some .int) {v : Int32} (hd : decode cc pc = .ok (.ireturn, 1)) (h : P (some (.inl (.int v))) hp) (hs : x_shp hp = x_shp hc) : GG p l e R s m args below meth c (x_E below D tc ad0 A hc P args s) D tc A nL (fun ad => ad = ad0) 0 0 pc lv ((some (.inl (.int v)) : Option xV).toList) hp := by
  intro ad H locs ls ho hP hD hS hl
  subst ho
  exact W.iret (v := v) hC.1 hC.2.1 hrt (fun t ht hW => ⟨⟨_, _, h, hs, rfl, by rw [ht]; exact hP, va_K.moved hW.alike hC.2.2.2.2.2.1, hD⟩, hS.F ht⟩) hS.2.2 hd hC.2.2.2.2.2.2.2
theorem o_zret (hC : CC p s m args meth c D tc A nL own cc) (hrt : meth.sig.returnType = some .boolean) {v : Int32} (hn : narrow .boolean (.int v) = .int v) (hd : decode cc pc = .ok (.ireturn, 1)) (h : P (some (.inl (.int v))) hp) (hs : x_shp hp = x_shp hc) : GG p l e R s m args below meth c (x_E below D tc ad0 A hc P args s) D tc A nL (fun ad => ad = ad0) 0 0 pc lv ((some (.inl (.int v)) : Option xV).toList) hp := by
  intro ad H locs ls ho hP hD hS hl
  subst ho
  exact W.zret (v := v) (ty := .boolean) hC.1 hC.2.1 hrt hn (fun t ht hW => ⟨⟨_, _, h, hs, rfl, by rw [ht]; exact hP, va_K.moved hW.alike hC.2.2.2.2.2.1, hD⟩, hS.F ht⟩) hS.2.2 hd hC.2.2.2.2.2.2.2
theorem o_lret (hC : CC p s m args meth c D tc A nL own cc) (hrt : meth.sig.returnType = some .long) {v : Int64} (hd : decode cc pc = .ok (.lreturn, 1)) (h : P (some (.inl (.long v))) hp) (hs : x_shp hp = x_shp hc) : GG p l e R s m args below meth c (x_E below D tc ad0 A hc P args s) D tc A nL (fun ad => ad = ad0) 0 0 pc lv ((some (.inl (.long v)) : Option xV).toList) hp := by
  intro ad H locs ls ho hP hD hS hl
  subst ho
  exact W.lret (v := v) hC.1 hC.2.1 hrt (fun t ht hW => ⟨⟨_, _, h, hs, rfl, by rw [ht]; exact hP, va_K.moved hW.alike hC.2.2.2.2.2.1, hD⟩, hS.F ht⟩) hS.2.2 hd hC.2.2.2.2.2.2.2
theorem o_vret (hC : CC p s m args meth c D tc A nL own cc) (hrt : meth.sig.returnType = none)  (hd : decode cc pc = .ok (.return_, 1)) (h : P (none) hp) (hs : x_shp hp = x_shp hc) : GG p l e R s m args below meth c (x_E below D tc ad0 A hc P args s) D tc A nL (fun ad => ad = ad0) 0 0 pc lv ((none : Option xV).toList) hp := by
  intro ad H locs ls ho hP hD hS hl
  subst ho
  exact W.vret hC.1 hC.2.1 hrt (fun t ht hW => ⟨⟨_, _, h, hs, rfl, by rw [ht]; exact hP, va_K.moved hW.alike hC.2.2.2.2.2.1, hD⟩, hS.F ht⟩) hS.2.2 hd hC.2.2.2.2.2.2.2
end XRET
section XENT
variable {p : Program} {l : Launch} {e : Env} {R : Room} {s : State} {m : MethodId} {args : Array Value} {below : List Frame} {meth : Method} {c : Code} {Q : State → Prop} {D : va_G} {tc : Nat → Nat} {A : Nat → Prop} {nL : Nat} {OK : (Nat → Nat → Nat) → Prop} {own : String} {cc : ByteArray} {nc ns pc : Nat} {lv : xL} {st : List xV} {hp : xH}

theorem o_alen (hC : CC p s m args meth c D tc A nL own cc) {g t n z : Nat} {f : xA} {v : Int32} (hg : x_get hp g = some (.inl (t, n, z, f))) (ht : t < 4) (hv : Int32.ofNat n = v) (hd : decode cc pc = .ok (.arraylength, 1)) (k : GG p l e R s m args below meth c Q D tc A nL OK nc ns (pc + 1) lv (.inl (.int v) :: st) hp) : GG p l e R s m args below meth c Q D tc A nL OK nc ns pc lv (.inr (g, 0) :: st) hp := by
  intro ad H locs ls ho hP hD hS hl
  have hty : ∃ ty, (x_t tc)[t]? = some (tc t, ty) := by
    rcases (by omega : t = 0 ∨ t = 1 ∨ t = 2 ∨ t = 3) with rfl | rfl | rfl | rfl <;> exact ⟨_, rfl⟩
  obtain ⟨ty, hty⟩ := hty
  have hq : ∃ (q0 : Nat) (x : vp_A), (x_w tc ad hp)[q0]? = some (ad g 0, .inl (tc t, x)) ∧ x.1 = n := by
    rcases f with f | f | f
    · obtain ⟨q0, h1, -⟩ := x_one (tc := tc) (ad := ad) hg rfl
      exact ⟨q0, _, h1, rfl⟩
    · obtain ⟨q0, h1, -⟩ := x_one (tc := tc) (ad := ad) hg rfl
      exact ⟨q0, _, h1, rfl⟩
    · obtain ⟨q0, h1⟩ := x_outer (tc := tc) (ad := ad) hg
      exact ⟨q0, _, h1, rfl⟩
  obtain ⟨q0, x, h1, hx⟩ := hq
  exact va_alen hC.1 hC.2.1 hC.2.2.2.2.2.1 hP q0 t h1 hty (by rw [hx]; exact hv) hd (k ad H locs ls ho hP hD hS hl)
end XENT
/-! Arrays.fill -/
abbrev zJ_fill : xM := (yJ7_fill_53178, cJ7_fill_53178, 4, none, 0, 0)
def x_fill (n : Nat) (v : Int32) (f : Nat → Int32) : Nat → Int32 := fun j => if j < n then v else f j
def x_fillI (i : Nat) (v : Int32) (f : Nat → Int32) : Nat → Int32 := fun j => if j < i then v else f j
theorem x_fillI_succ {i : Nat} {v : Int32} {f : Nat → Int32} (h : i < 2 ^ 31) : upd (x_fillI i v f) (nI i).toNatClampNeg v = x_fillI (i + 1) v f := by
  rw [nI_clamp h]
  funext j
  unfold upd x_fillI
  by_cases h1 : j = i
  · simp [h1]
  · by_cases h2 : j < i
    · simp [h1, h2, Nat.lt_succ_of_lt h2]
    · simp [h1, h2, show ¬ j < i + 1 by omega]

theorem d_fill_0 : decode cJ7_fill_53178 0 = .ok (.iconst 0, 1) := by decide +kernel
theorem d_fill_1 : decode cJ7_fill_53178 1 = .ok (.istore_n 2, 1) := by decide +kernel
theorem d_fill_2 : decode cJ7_fill_53178 2 = .ok (.aload_n 0, 1) := by decide +kernel
theorem d_fill_3 : decode cJ7_fill_53178 3 = .ok (.arraylength, 1) := by decide +kernel
theorem d_fill_4 : decode cJ7_fill_53178 4 = .ok (.istore_n 3, 1) := by decide +kernel
theorem d_fill_5 : decode cJ7_fill_53178 5 = .ok (.iload_n 2, 1) := by decide +kernel
theorem d_fill_6 : decode cJ7_fill_53178 6 = .ok (.iload_n 3, 1) := by decide +kernel
theorem d_fill_7 : decode cJ7_fill_53178 7 = .ok (.if_icmp .ge 13, 3) := by decide +kernel
theorem d_fill_10 : decode cJ7_fill_53178 10 = .ok (.aload_n 0, 1) := by decide +kernel
theorem d_fill_11 : decode cJ7_fill_53178 11 = .ok (.iload_n 2, 1) := by decide +kernel
theorem d_fill_12 : decode cJ7_fill_53178 12 = .ok (.iload_n 1, 1) := by decide +kernel
theorem d_fill_13 : decode cJ7_fill_53178 13 = .ok (.iastore, 1) := by decide +kernel
theorem d_fill_14 : decode cJ7_fill_53178 14 = .ok (.iinc 2 1, 3) := by decide +kernel
theorem d_fill_17 : decode cJ7_fill_53178 17 = .ok (.goto (-12), 3) := by decide +kernel
theorem d_fill_20 : decode cJ7_fill_53178 20 = .ok (.return_, 1) := by decide +kernel
theorem c_fill (l : Launch) (n : Nat) (hn : n < 2 ^ 31) (f : Nat → Int32) (v : Int32) : Ev l zJ_fill [.inr (0, 0), .inl (.int v)] [(0, .inl (0, n, 0, .inl f))] (fun r h => r = none ∧ h = [(0, .inl (0, n, 0, .inl (x_fill n v f)))]) := by
  refine ev_of (by decide +kernel) (Nat.le_of_ble_eq_true rfl) ?_
  intro p e s m args below meth c D tc A ad0 hC hrt
  refine o_iconst (v := 0) hC d_fill_0 rfl ?_
  refine o_istore_n (i := 2) hC d_fill_1 rfl (by decide) ?_
  refine o_aload_n (i := 0) hC d_fill_2 rfl rfl ?_
  refine o_alen (v := nI n) hC rfl (by decide) rfl d_fill_3 ?_
  refine o_istore_n (i := 3) hC d_fill_4 rfl (by decide) ?_
  have loop : ∀ (k i : Nat), i + k = n → GG p l e (x_rm zJ_fill) s m args below meth c (x_E below D tc ad0 A [(0, .inl (0, n, 0, .inl f))] (fun r h => r = none ∧ h = [(0, .inl (0, n, 0, .inl (x_fill n v f)))]) args s) D tc A 4 (fun ad => ad = ad0) 0 0 5 [(0, .inr (0, 0)), (1, .inl (.int v)), (2, .inl (.int (nI i))), (3, .inl (.int (nI n)))] [] [(0, .inl (0, n, 0, .inl (x_fillI i v f)))] := by
    intro k
    induction k with
    | zero =>
      intro i hi
      have hi : i = n := hi
      subst hi
      refine o_iload_n (i := 2) hC d_fill_5 rfl rfl ?_
      refine o_iload_n (i := 3) hC d_fill_6 rfl rfl ?_
      refine o_icmp_ge (tgt := 20) hC d_fill_7 (by decide) (fun _ => ?_) (fun h => absurd (Int32.le_refl _) h)
      exact o_vret hC hrt d_fill_20 ⟨rfl, rfl⟩ rfl
    | succ k ih =>
      intro i hi
      refine o_iload_n (i := 2) hC d_fill_5 rfl rfl ?_
      refine o_iload_n (i := 3) hC d_fill_6 rfl rfl ?_
      refine o_icmp_ge (tgt := 20) hC d_fill_7 (by decide) (fun h => absurd h (nI_ge (by omega) hn)) (fun _ => ?_)
      refine o_aload_n (i := 0) hC d_fill_10 rfl rfl ?_
      refine o_iload_n (i := 2) hC d_fill_11 rfl rfl ?_
      refine o_iload_n (i := 1) hC d_fill_12 rfl rfl ?_
      refine o_iast hC rfl (vp_in_nI (by omega) hn) d_fill_13 ?_
      rw [x_fillI_succ (by omega)]
      refine o_iinc (i := 2) (x := nI i) (y := 1) hC d_fill_14 rfl (by decide) rfl ?_
      refine o_goto (tgt := 5) hC d_fill_17 (by decide) ?_
      have h := ih (i + 1) (by omega)
      rw [← nI_1] at h
      exact h
  have e0 : x_fillI 0 v f = f := by
    funext j
    simp [x_fillI]
  have h := loop n 0 (Nat.zero_add n)
  rw [e0] at h
  exact h

section XFIL
variable {p : Program} {l : Launch} {e : Env} {R : Room} {s : State} {m : MethodId} {args : Array Value} {below : List Frame} {meth : Method} {c : Code} {Q : State → Prop} {D : va_G} {tc : Nat → Nat} {A : Nat → Prop} {nL : Nat} {OK : (Nat → Nat → Nat) → Prop} {own : String} {cc : ByteArray} {nc ns pc : Nat} {lv : xL} {st : List xV} {hp : xH}

theorem x_fillk (hC : CC p s m args meth c D tc A nL own cc) {ad : Nat → Nat → Nat} {H : Heap} {locs : List Loc} {ls : Array Slot} {q0 a n idx : Nat} {f : Nat → Int32} {v : Int32} (h1 : (x_w tc ad hp)[q0]? = some (a, .inl (tc 0, n, .inl f))) (hn : n < 2 ^ 31)
    (w1 : ∀ w ∈ va_wsS own idx yJ7_fill_53178 (x_ws zJ_fill), w ∈ lw_g) (hR : 1 ≤ R.frames ∧ 8 + (4 + 11) ≤ R.locals) (hcat : (st.map x_cat).sum ≤ 8) (hc : nc ≤ R.cells ∧ ns ≤ R.slots) (hd : decode cc pc = .ok (.invokestatic idx, 3)) (ho : OK ad) (hP : va_P D x_cls (x_w tc ad hp) H) (hD : va_D A (x_w tc ad hp)) (hS : va_S A s.heap H locs) (hl : lv_has ls nL (x_lm ad lv))
    (kk : ∀ (H1 : Heap) (locs1 : List Loc), va_P D x_cls ((x_w tc ad hp).set q0 (a, .inl (tc 0, n, .inl (x_fill n v f)))) H1 → va_D A ((x_w tc ad hp).set q0 (a, .inl (tc 0, n, .inl (x_fill n v f)))) → va_S A s.heap H1 locs1 → W p l e R s m args below meth c H1 locs1 nc ns Q (F0 m (pc + 3) ls (st.map (x_v ad)))) : W p l e R s m args below meth c H locs nc ns Q (F0 m pc ls (.int v :: .ref a :: st.map (x_v ad))) := by
  have hts := hC.2.2.2.2.1
  have ecat : ((st.map (x_v ad)).map fun v => v.category).sum = (st.map x_cat).sum := by
    rw [List.map_map]
    congr 1
    exact List.map_congr_left (fun v _ => x_cat_v ad v)
  have hM := (c_fill l n hn f v) D tc (fun _ _ => a) H.size
  have hsub : [q0].filterMap (fun i => (x_w tc ad hp)[i]?) = [(a, .inl (tc 0, n, .inl f))] := by simp [h1]
  have hsubm : [q0].map (fun i => (x_w tc ad hp)[i]?) = ([(a, .inl (tc 0, n, .inl f))] : va_W).map some := by simp [h1]
  have hPs := hP.sub [q0] hsub
  have hDs := hD.sub [q0] (by simp [va_nd]) hsubm
  have hfree := va_free hD hS hC.2.2.2.2.2.2.1 [q0] hsubm
  have hrun := va_runS (As := [.ref a, .int v]) (n := 2) (Ts := lw_g) (own := own) (g := F0 m pc ls (.int v :: .ref a :: st.map (x_v ad))) (locs := locs) (cells := nc) (slots := ns) (nL := nL) (H := H) (R := R) (below := below) (meth := meth) (e := e) (rest := st.map (x_v ad)) ⟨hC.1, hC.2.1, hC.2.2.1, hC.2.2.2.1, hts⟩ hM (va_cwS 2 hts (x_goodIn w1) rfl rfl rfl (by decide +kernel) hR) ⟨x_blind, fun U hU hW => ⟨rfl, by rw [hU], by rw [hU]; exact hPs, va_K.moved hW.alike hC.2.2.2.2.2.1, hDs.weaken (fun _ _ _ _ => trivial)⟩⟩ rfl rfl hl.1 rfl (lv_room (by rw [ecat]; exact hcat)) hd hc
  intro T hT X
  obtain ⟨v', st₀, t, T', L, h0, X', hL, e1, e2, ⟨⟨r9, hp9, ⟨rfl, rfl⟩, -, hv, hp1, hK1, hD1⟩, hz, hk⟩, stp⟩ := hrun T hT X
  cases hv
  rw [h0] at hz hk
  rw [← e1] at hp1 hz hk
  have hS' : va_S A s.heap T'.heap (locs ++ L) := ⟨Nat.le_trans hS.1 hz, fun q h1 h2 => by rw [hk q (Nat.lt_of_lt_of_le h1 hS.1) (fun z => h2 (hfree q z))]; exact hS.2.1 q h1 h2, fun q hq => by
      rcases List.mem_append.mp hq with h | h
      · exact hS.2.2 q h
      · exact hfree _ (hL q h)⟩
  have hP' : va_P D x_cls ((x_w tc ad hp).set q0 (a, .inl (tc 0, n, .inl (x_fill n v f)))) T'.heap := by
    intro k q hq
    by_cases hkq : k = q0
    · subst hkq
      rw [List.getElem?_set_self ((List.getElem?_eq_some_iff.mp h1).1)] at hq
      cases hq
      exact hp1 0 _ rfl
    · rw [List.getElem?_set_ne (Ne.symm hkq)] at hq
      refine (hP k q hq).kept (hk q.1 (hP k q hq).lt ?_)
      rintro (⟨k', e', hke⟩ | hle)
      · have hk0 : k' = 0 := by
          have := (List.getElem?_eq_some_iff.mp hke).1
          have h2 : k' < 1 := this
          omega
        subst hk0
        have hq1 : a = q.1 := congrArg Prod.fst (Option.some.inj hke)
        exact hkq (hD.1 k q0 q _ hq h1 hq1.symm)
      · have := (hP k q hq).lt
        omega
  obtain ⟨t2, a1, b1⟩ := kk T'.heap (locs ++ L) hP' (hD.set h1) hS' T' rfl X'
  exact ⟨t2, stp t2 a1, b1⟩
theorem o_fill (hC : CC p s m args meth c D tc A nL own cc) {g n z idx : Nat} {f : Nat → Int32} {v : Int32} (hg : x_get hp g = some (.inl (0, n, z, .inl f))) (hn : n < 2 ^ 31)
    (w1 : ∀ w ∈ va_wsS own idx yJ7_fill_53178 (x_ws zJ_fill), w ∈ lw_g) (hR : 1 ≤ R.frames ∧ 8 + (4 + 11) ≤ R.locals) (hcat : (st.map x_cat).sum ≤ 8) (hc : nc ≤ R.cells ∧ ns ≤ R.slots) (hd : decode cc pc = .ok (.invokestatic idx, 3)) (k : GG p l e R s m args below meth c Q D tc A nL OK nc ns (pc + 3) lv st (x_set hp g (.inl (0, n, z, .inl (x_fill n v f))))) : GG p l e R s m args below meth c Q D tc A nL OK nc ns pc lv (.inl (.int v) :: .inr (g, 0) :: st) hp := by
  intro ad H locs ls ho hP hD hS hl
  obtain ⟨q0, h1, h2⟩ := x_one (tc := tc) (ad := ad) hg rfl
  exact x_fillk hC h1 hn w1 hR hcat hc hd ho hP hD hS hl (fun H1 locs1 hP1 hD1 hS1 => by
    rw [h2 (.inl (0, n, z, .inl (x_fill n v f))) _ rfl] at hP1 hD1
    exact k ad H1 locs1 ls ho hP1 hD1 hS1 hl)
theorem o_fillR (hC : CC p s m args meth c D tc A nL own cc) {g t n z j idx : Nat} {M : Nat → Nat → Int32} {v : Int32} (hg : x_get hp g = some (.inl (t, n, z, .inr (.inr M)))) (hj : j < n) (hn : z < 2 ^ 31)
    (w1 : ∀ w ∈ va_wsS own idx yJ7_fill_53178 (x_ws zJ_fill), w ∈ lw_g) (hR : 1 ≤ R.frames ∧ 8 + (4 + 11) ≤ R.locals) (hcat : (st.map x_cat).sum ≤ 8) (hc : nc ≤ R.cells ∧ ns ≤ R.slots) (hd : decode cc pc = .ok (.invokestatic idx, 3)) (k : GG p l e R s m args below meth c Q D tc A nL OK nc ns (pc + 3) lv st (x_set hp g (.inl (t, n, z, .inr (.inr (x_row M j (x_fill z v (M j)))))))) : GG p l e R s m args below meth c Q D tc A nL OK nc ns pc lv (.inl (.int v) :: .inr (g, j + 1) :: st) hp := by
  intro ad H locs ls ho hP hD hS hl
  obtain ⟨q0, h1, h2⟩ := x_grid (tc := tc) (ad := ad) hg hj
  exact x_fillk hC h1 hn w1 hR hcat hc hd ho hP hD hS hl (fun H1 locs1 hP1 hD1 hS1 => by
    rw [h2] at hP1 hD1
    exact k ad H1 locs1 ls ho hP1 hD1 hS1 hl)
end XFIL
