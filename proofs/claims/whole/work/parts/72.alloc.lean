/-! ===== new cells ===== -/
/-- the names that a cell speaks of -/
def x_rid : List xV → List Nat
  | [] => []
  | .inl _ :: t => x_rid t
  | .inr r :: t => r.1 :: x_rid t
def x_ids (q : Nat × xC) : List Nat := q.1 :: (match q.2 with
  | .inl _ => []
  | .inr (_, fs) => x_rid fs)
def x_hid : xH → List Nat
  | [] => []
  | q :: t => x_ids q ++ x_hid t
def x_lid : xL → List Nat
  | [] => []
  | q :: t => x_rid [q.2] ++ x_lid t
theorem x_v_congr {ad ad' : Nat → Nat → Nat} : ∀ {fs : List xV}, (∀ i ∈ x_rid fs, ad i = ad' i) → fs.map (x_v ad) = fs.map (x_v ad')
  | [], _ => rfl
  | .inl v :: t, h => by
    show v :: t.map (x_v ad) = v :: t.map (x_v ad')
    rw [x_v_congr (fs := t) h]
  | .inr r :: t, h => by
    show Value.ref (ad r.1 r.2) :: t.map (x_v ad) = Value.ref (ad' r.1 r.2) :: t.map (x_v ad')
    rw [x_v_congr (fs := t) (fun i hi => h i (List.mem_cons_of_mem _ hi)), h r.1 List.mem_cons_self]
theorem x_c_congr {tc : Nat → Nat} {ad ad' : Nat → Nat → Nat} {q : Nat × xC} (h : ∀ i ∈ x_ids q, ad i = ad' i) : x_c tc ad q = x_c tc ad' q := by
  obtain ⟨g, c⟩ := q
  have h0 : ad g = ad' g := h g List.mem_cons_self
  rcases c with ⟨t, n, k, f | f | f⟩ | ⟨ci, fs⟩
  · show [(ad g 0, _)] = [(ad' g 0, _)]
    rw [h0]
  · show [(ad g 0, _)] = [(ad' g 0, _)]
    rw [h0]
  · unfold x_c
    simp only [h0]
  · show [(ad g 0, Sum.inr (ci, fs.map (x_v ad)))] = [(ad' g 0, Sum.inr (ci, fs.map (x_v ad')))]
    rw [h0, x_v_congr (fs := fs) (fun i hi => h i (List.mem_cons_of_mem _ hi))]
theorem x_w_congr {tc : Nat → Nat} {ad ad' : Nat → Nat → Nat} : ∀ {hp : xH}, (∀ i ∈ x_hid hp, ad i = ad' i) → x_w tc ad hp = x_w tc ad' hp
  | [], _ => rfl
  | q :: t, h => by
    rw [x_w_cons, x_w_cons, x_c_congr (fun i hi => h i (List.mem_append_left _ hi)), x_w_congr (hp := t) (fun i hi => h i (List.mem_append_right _ hi))]
theorem x_lm_congr {ad ad' : Nat → Nat → Nat} : ∀ {lv : xL}, (∀ i ∈ x_lid lv, ad i = ad' i) → x_lm ad lv = x_lm ad' lv
  | [], _ => rfl
  | q :: t, h => by
    show (q.1, x_v ad q.2) :: x_lm ad t = (q.1, x_v ad' q.2) :: x_lm ad' t
    have h1 := x_v_congr (fs := [q.2]) (fun i hi => h i (List.mem_append_left _ hi))
    have h1 : x_v ad q.2 = x_v ad' q.2 := by simpa using h1
    rw [x_lm_congr (lv := t) (fun i hi => h i (List.mem_append_right _ hi)), h1]
/-- addresses with new ones for some names -/
def x_ex (ad : Nat → Nat → Nat) (g : Nat) (f : Nat → Nat) : Nat → Nat → Nat := fun i => if i = g then f else ad i
theorem x_ex_ne {ad : Nat → Nat → Nat} {g : Nat} {f : Nat → Nat} {i : Nat} (h : i ≠ g) : x_ex ad g f i = ad i := if_neg h
theorem x_ex_eq {ad : Nat → Nat → Nat} {g : Nat} {f : Nat → Nat} : x_ex ad g f g = f := if_pos rfl
/-- a name that is new: in heap, locals, stack and the fixed names -/
def x_new (g : Nat) (F : List Nat) (lv : xL) (st : List xV) (hp : xH) : Bool := (F ++ (x_lid lv ++ (x_rid st ++ x_hid hp))).all (fun i => !Nat.beq i g)
theorem x_new_ne {g : Nat} {F : List Nat} {lv : xL} {st : List xV} {hp : xH} (h : x_new g F lv st hp = true) : (∀ i ∈ F, i ≠ g) ∧ (∀ i ∈ x_lid lv, i ≠ g) ∧ (∀ i ∈ x_rid st, i ≠ g) ∧ ∀ i ∈ x_hid hp, i ≠ g := by
  have key : ∀ i ∈ F ++ (x_lid lv ++ (x_rid st ++ x_hid hp)), i ≠ g := fun i hi e => by
    have := List.all_eq_true.mp h i hi
    rw [e, Nat.beq_refl] at this
    cases this
  exact ⟨fun i hi => key i (by simp [hi]), fun i hi => key i (by simp [hi]), fun i hi => key i (by simp [hi]), fun i hi => key i (by simp [hi])⟩
abbrev OKf (F : List Nat) (ad0 : Nat → Nat → Nat) : (Nat → Nat → Nat) → Prop := fun ad => ∀ i ∈ F, ad i = ad0 i
section XNEW
variable {p : Program} {l : Launch} {e : Env} {R : Room} {s : State} {m : MethodId} {args : Array Value} {below : List Frame} {meth : Method} {c : Code} {Q : State → Prop} {D : va_G} {tc : Nat → Nat} {A : Nat → Prop} {nL : Nat} {F : List Nat} {ad0 : Nat → Nat → Nat} {own : String} {cc : ByteArray} {nc ns pc : Nat} {lv : xL} {st : List xV} {hp : xH}
/-- the world with a new cell, by new addresses -/
theorem x_grow {ad : Nat → Nat → Nat} {g : Nat} {f : Nat → Nat} {cell : xC} (hn : x_new g F lv st hp = true) (ho : OKf F ad0 ad) : OKf F ad0 (x_ex ad g f) ∧ x_lm (x_ex ad g f) lv = x_lm ad lv ∧ st.map (x_v (x_ex ad g f)) = st.map (x_v ad) ∧ x_w tc (x_ex ad g f) (hp ++ [(g, cell)]) = x_w tc ad hp ++ x_c tc (x_ex ad g f) (g, cell) := by
  obtain ⟨n1, n2, n3, n4⟩ := x_new_ne hn
  refine ⟨fun i hi => by rw [x_ex_ne (n1 i hi)]; exact ho i hi, x_lm_congr (fun i hi => x_ex_ne (n2 i hi)), x_v_congr (fun i hi => x_ex_ne (n3 i hi)), ?_⟩
  rw [x_w_app, x_w_cons, x_w_congr (ad := x_ex ad g f) (ad' := ad) (fun i hi => x_ex_ne (n4 i hi))]
  simp [x_w]
theorem o_newarr (hC : CC p s m args meth c D tc A nL own cc) {g t N : Nat} {n : Int32} {at_ : ArrayType} {ty : FieldType} {ar : xA} {a0 : vp_A} (hn : x_new g F lv st hp = true) (harr : Cond.arrayClass (newarray.typeOf at_) ∈ lw_g) (hty : newarray.typeOf at_ = ty) (ht : (x_t tc)[t]? = some (tc t, ty)) (hra : ∀ cA : ClassId, va_RA s cA ty → s.vm.findClass ("[" ++ ty.toString) = some cA) (hcell : ∀ ad : Nat → Nat → Nat, x_c tc ad (g, .inl (t, N, 0, ar)) = [(ad g 0, .inl (tc t, a0))]) (ha : ∀ cA : ClassId, vp_cell cA a0 = arrV cA N (fun _ => defaultValue ty)) (h0 : ¬ n < 0) (hN : n.toNatClampNeg = N) (hb : N * componentBytes ty ≤ 536870912) (hcs : nc + 1 ≤ R.cells ∧ ns + N ≤ R.slots) (hd : decode cc pc = .ok (.newarray at_, 2))
    (k : GG p l e R s m args below meth c Q D tc A nL (OKf F ad0) (nc + 1) (ns + N) (pc + 2) lv (.inr (g, 0) :: st) (hp ++ [(g, .inl (t, N, 0, ar))])) : GG p l e R s m args below meth c Q D tc A nL (OKf F ad0) nc ns pc lv (.inl (.int n) :: st) hp := by
  intro ad H locs ls ho hP hD hS hl
  refine va_newa (ty := ty) (a0 := a0) hC.1 hC.2.1 (hC.2.2.2.2.1 _ harr) hty hC.2.2.2.2.2.1 hP hD hS hC.2.2.2.2.2.2.1 ha h0 hN hb hcs.1 hcs.2 hd (fun q cA H1 hK1 hP1 hD1 hS1 => ?_)
  have e1 : cA = tc t := by
    have h1 := hra _ (hC.2.2.2.2.2.1.2 t _ ht).2
    have h2 := hra _ (hK1.2 (x_t tc).length (cA, ty) (by simp)).2
    exact Option.some.inj (h2.symm.trans h1)
  subst e1
  obtain ⟨g1, g2, g3, g4⟩ := x_grow (tc := tc) (f := fun _ => q) (cell := .inl (t, N, 0, ar)) hn ho
  rw [hcell] at g4
  have e2 : x_ex ad g (fun _ => q) g 0 = q := by rw [x_ex_eq]
  rw [e2] at g4
  have key := k (x_ex ad g (fun _ => q)) H1 locs ls g1 (by rw [g4]; exact hP1) (by rw [g4]; exact hD1) hS1 (by rw [g2]; exact hl)
  have e3 : (.inr (g, 0) :: st : List xV).map (x_v (x_ex ad g (fun _ => q))) = Value.ref q :: st.map (x_v ad) := by
    show Value.ref (x_ex ad g (fun _ => q) g 0) :: st.map (x_v (x_ex ad g (fun _ => q))) = _
    rw [e2, g3]
  rw [e3] at key
  exact key
theorem o_newI (hC : CC p s m args meth c D tc A nL own cc) {g N : Nat} {n : Int32} (hn : x_new g F lv st hp = true) (harr : Cond.arrayClass .int ∈ lw_g) (h0 : ¬ n < 0) (hN : n.toNatClampNeg = N) (hb : N ≤ 1000) (hcs : nc + 1 ≤ R.cells ∧ ns + N ≤ R.slots) (hd : decode cc pc = .ok (.newarray .int, 2))
    (k : GG p l e R s m args below meth c Q D tc A nL (OKf F ad0) (nc + 1) (ns + N) (pc + 2) lv (.inr (g, 0) :: st) (hp ++ [iA g N (fun _ => 0)])) : GG p l e R s m args below meth c Q D tc A nL (OKf F ad0) nc ns pc lv (.inl (.int n) :: st) hp :=
  o_newarr (at_ := .int) (t := 0) (ty := .int) (ar := .inl (fun _ => 0)) (a0 := (N, .inl (fun _ => 0))) hC hn harr rfl rfl (fun _ h => h) (fun _ => rfl) (fun _ => rfl) h0 hN (by show N * 4 ≤ _; omega) hcs hd k
theorem o_newL (hC : CC p s m args meth c D tc A nL own cc) {g N : Nat} {n : Int32} (hn : x_new g F lv st hp = true) (harr : Cond.arrayClass .long ∈ lw_g) (h0 : ¬ n < 0) (hN : n.toNatClampNeg = N) (hb : N ≤ 1000) (hcs : nc + 1 ≤ R.cells ∧ ns + N ≤ R.slots) (hd : decode cc pc = .ok (.newarray .long, 2))
    (k : GG p l e R s m args below meth c Q D tc A nL (OKf F ad0) (nc + 1) (ns + N) (pc + 2) lv (.inr (g, 0) :: st) (hp ++ [lA g N (fun _ => 0)])) : GG p l e R s m args below meth c Q D tc A nL (OKf F ad0) nc ns pc lv (.inl (.int n) :: st) hp :=
  o_newarr (at_ := .long) (t := 1) (ty := .long) (ar := .inr (.inl (fun _ => 0))) (a0 := (N, .inr (.inl (fun _ => 0)))) hC hn harr rfl rfl (fun _ h => h) (fun _ => rfl) (fun _ => rfl) h0 hN (by show N * 8 ≤ _; omega) hcs hd k
theorem o_newZ (hC : CC p s m args meth c D tc A nL own cc) {g N : Nat} {n : Int32} (hn : x_new g F lv st hp = true) (harr : Cond.arrayClass .boolean ∈ lw_g) (h0 : ¬ n < 0) (hN : n.toNatClampNeg = N) (hb : N ≤ 1000) (hcs : nc + 1 ≤ R.cells ∧ ns + N ≤ R.slots) (hd : decode cc pc = .ok (.newarray .boolean, 2))
    (k : GG p l e R s m args below meth c Q D tc A nL (OKf F ad0) (nc + 1) (ns + N) (pc + 2) lv (.inr (g, 0) :: st) (hp ++ [bA g N (fun _ => 0)])) : GG p l e R s m args below meth c Q D tc A nL (OKf F ad0) nc ns pc lv (.inl (.int n) :: st) hp :=
  o_newarr (at_ := .boolean) (t := 2) (ty := .boolean) (ar := .inl (fun _ => 0)) (a0 := (N, .inl (fun _ => 0))) hC hn harr rfl rfl (fun _ h => h) (fun _ => rfl) (fun _ => rfl) h0 hN (by show N * 1 ≤ _; omega) hcs hd k
/-- the start of a constructor -/
theorem o_objInit (hC : CC p s m args meth c D tc A nL own cc) {idx : Nat} {r : Nat × Nat} (w1 : Cond.methodLink own idx Lib.objectInit ∈ lw_g) (w2 : Cond.instanceMethod Lib.objectInit ∈ lw_g) (w3 : Cond.code Lib.objectInit ⟨#[0xb1]⟩ 1 none ∈ lw_g) (hfr : 1 ≤ R.frames) (hlo : (st.map x_cat).sum + 12 ≤ R.locals) {OK : (Nat → Nat → Nat) → Prop} (hd : decode cc pc = .ok (.invokespecial idx, 3)) (k : GG p l e R s m args below meth c Q D tc A nL OK nc ns (pc + 3) lv st hp) : GG p l e R s m args below meth c Q D tc A nL OK nc ns pc lv (.inr r :: st) hp := by
  intro ad H locs ls ho hP hD hS hl
  have hts := hC.2.2.2.2.1
  have ecat : ((st.map (x_v ad)).map fun v => v.category).sum = (st.map x_cat).sum := by
    rw [List.map_map]
    congr 1
    exact List.map_congr_left (fun v _ => x_cat_v ad v)
  refine W.objInit (a := ad r.1 r.2) (rest := st.map (x_v ad)) hC.1 hC.2.1 hC.2.2.2.1 (hts _ w1) (hts _ w2) (hts _ w3) rfl (by rw [hC.2.2.1]; exact hl.1) rfl hd hfr (by rw [ecat]; show 2 * 0 + _ + 12 ≤ _; omega) (k ad H locs ls ho hP hD hS hl)
theorem o_newO (hC : CC p s m args meth c D tc A nL own cc) {g ci idx N : Nat} {C : String} {T : u_T} {fs : List Value} {fx : List xV} (hn : x_new g F lv st hp = true) (hcl : x_cls[ci]? = some (C, T, N)) (w1 : Cond.classLink own idx C ∈ lw_g) (w2 : Cond.instantiable C N ∈ lw_g) (w3 : Cond.initialized C ∈ lw_g) (hfx : ∀ ad : Nat → Nat → Nat, fx.map (x_v ad) = fs) (hfs : ∀ j, j < N → defaultValue (x_ty ci j) = vp_V fs j) (hcs : nc + 1 ≤ R.cells ∧ ns + N ≤ R.slots) (hd : decode cc pc = .ok (.new idx, 3))
    (k : GG p l e R s m args below meth c Q D tc A nL (OKf F ad0) (nc + 1) (ns + N) (pc + 3) lv (.inr (g, 0) :: st) (hp ++ [(g, .inr (ci, fx))])) : GG p l e R s m args below meth c Q D tc A nL (OKf F ad0) nc ns pc lv st hp := by
  intro ad H locs ls ho hP hD hS hl
  obtain ⟨f1, f2, f3⟩ := x_cf hcl
  have hts := hC.2.2.2.2.1
  refine va_new (ci := ci) (fs := fs) hC.1 hC.2.1 hts f1 (x_ty ci) f3 hC.2.2.2.1 (hts _ w1) (hts _ w2) (hts _ w3) hC.2.2.2.2.2.1 hP hD hS hC.2.2.2.2.2.2.1 hcl hfs hcs.1 hcs.2 hd (fun q H1 hP1 hD1 hS1 => ?_)
  obtain ⟨g1, g2, g3, g4⟩ := x_grow (tc := tc) (f := fun _ => q) (cell := .inr (ci, fx)) hn ho
  have e2 : x_ex ad g (fun _ => q) g 0 = q := by rw [x_ex_eq]
  have e4 : x_c tc (x_ex ad g (fun _ => q)) (g, .inr (ci, fx)) = [(q, .inr (ci, fs))] := by
    show [(x_ex ad g (fun _ => q) g 0, Sum.inr (ci, fx.map (x_v (x_ex ad g (fun _ => q)))))] = _
    rw [e2, hfx]
  rw [e4] at g4
  have key := k (x_ex ad g (fun _ => q)) H1 locs ls g1 (by rw [g4]; exact hP1) (by rw [g4]; exact hD1) hS1 (by rw [g2]; exact hl)
  have e3 : (.inr (g, 0) :: st : List xV).map (x_v (x_ex ad g (fun _ => q))) = Value.ref q :: st.map (x_v ad) := by
    show Value.ref (x_ex ad g (fun _ => q) g 0) :: st.map (x_v (x_ex ad g (fun _ => q))) = _
    rw [e2, g3]
  rw [e3] at key
  exact key
end XNEW
