/-! ===== worlds by their addresses ===== -/
theorem w_D_iff {A : Nat → Prop} {ws : va_W} : va_D A ws ↔ (ws.map Prod.fst).Nodup ∧ ∀ q ∈ ws, A q.1 := by
  constructor
  · intro h
    refine ⟨?_, fun q hq => ?_⟩
    · unfold List.Nodup
      rw [List.pairwise_iff_getElem]
      intro i j hi hj hij e
      rw [List.length_map] at hi hj
      rw [List.getElem_map, List.getElem_map] at e
      have := h.1 i j _ _ (List.getElem?_eq_getElem hi) (List.getElem?_eq_getElem hj) e
      omega
    · obtain ⟨i, hi⟩ := List.getElem?_of_mem hq
      exact h.2 i q hi
  · rintro ⟨h1, h2⟩
    refine ⟨fun i j p q hi hj e => ?_, fun k q hk => h2 q (List.mem_of_getElem? hk)⟩
    unfold List.Nodup at h1
    rw [List.pairwise_iff_getElem] at h1
    obtain ⟨li, ei⟩ := List.getElem?_eq_some_iff.mp hi
    obtain ⟨lj, ej⟩ := List.getElem?_eq_some_iff.mp hj
    have li2 : i < (ws.map Prod.fst).length := by rw [List.length_map]; exact li
    have lj2 : j < (ws.map Prod.fst).length := by rw [List.length_map]; exact lj
    rcases Nat.lt_trichotomy i j with h | h | h
    · exact absurd (by rw [List.getElem_map, List.getElem_map, ei, ej]; exact e) (h1 i j li2 lj2 h)
    · exact h
    · exact absurd (by rw [List.getElem_map, List.getElem_map, ei, ej]; exact e.symm) (h1 j i lj2 li2 h)
theorem w_P_iff {D : va_G} {cl : List vw_C} {ws : va_W} {H : Heap} : va_P D cl ws H ↔ ∀ q ∈ ws, va_at D cl q H :=
  ⟨fun h q hq => by obtain ⟨i, hi⟩ := List.getElem?_of_mem hq; exact h i q hi, fun h k q hk => h q (List.mem_of_getElem? hk)⟩
/-- the shape of a cell: its name, and how many rows stand behind it -/
def x_sh (q : Nat × xC) : Nat × Nat := (q.1, match q.2 with
  | .inl (_, n, _, .inr (.inr _)) => n
  | _ => 0)
abbrev x_shp (hp : xH) : List (Nat × Nat) := hp.map x_sh
def x_ads (ad : Nat → Nat → Nat) (s : Nat × Nat) : List Nat := ad s.1 0 :: (List.range s.2).map (fun j => ad s.1 (j + 1))
theorem x_c_ads (tc : Nat → Nat) (ad : Nat → Nat → Nat) (q : Nat × xC) : (x_c tc ad q).map Prod.fst = x_ads ad (x_sh q) := by
  obtain ⟨g, c⟩ := q
  rcases c with ⟨t, n, k, f | f | f⟩ | ⟨ci, fs⟩
  · rfl
  · rfl
  · show _ :: List.map _ _ = _
    simp only [List.map_map]
    rfl
  · rfl
theorem x_w_ads (tc : Nat → Nat) (ad : Nat → Nat → Nat) (hp : xH) : (x_w tc ad hp).map Prod.fst = (x_shp hp).flatMap (x_ads ad) := by
  induction hp with
  | nil => rfl
  | cons q t ih =>
    rw [x_w_cons, List.map_append, ih, x_c_ads]
    simp [x_shp]
theorem x_D_shape {tc : Nat → Nat} {ad : Nat → Nat → Nat} {hp hp' : xH} {A : Nat → Prop} (h : va_D A (x_w tc ad hp)) (e : x_shp hp' = x_shp hp) : va_D A (x_w tc ad hp') := by
  rw [w_D_iff] at h ⊢
  have e2 : (x_w tc ad hp').map Prod.fst = (x_w tc ad hp).map Prod.fst := by rw [x_w_ads, x_w_ads, e]
  refine ⟨by rw [e2]; exact h.1, fun q hq => ?_⟩
  have : q.1 ∈ (x_w tc ad hp').map Prod.fst := List.mem_map.mpr ⟨q, hq, rfl⟩
  rw [e2] at this
  obtain ⟨q2, h2, e3⟩ := List.mem_map.mp this
  rw [← e3]
  exact h.2 q2 h2
/-- a part of the heap, by names -/
def x_sel (fp : List Nat) : xH → xH
  | [] => []
  | q :: t => match fp.elem q.1 with
    | true => q :: x_sel fp t
    | false => x_sel fp t
def x_upd (hc : xH) : xH → xH
  | [] => []
  | q :: t => (match x_get hc q.1 with
    | some c => (q.1, c)
    | none => q) :: x_upd hc t
theorem x_sel_eq (fp : List Nat) : ∀ hp : xH, x_sel fp hp = hp.filter (fun q => fp.elem q.1)
  | [] => rfl
  | q :: t => by
    unfold x_sel
    rw [List.filter_cons, x_sel_eq fp t]
    cases fp.elem q.1 <;> rfl
theorem x_upd_eq (hc : xH) : ∀ hp : xH, x_upd hc hp = hp.map (fun q => match x_get hc q.1 with | some c => (q.1, c) | none => q)
  | [] => rfl
  | q :: t => by
    unfold x_upd
    rw [List.map_cons, x_upd_eq hc t]
theorem x_w_mem {tc : Nat → Nat} {ad : Nat → Nat → Nat} {hp : xH} {w : Nat × va_E} : w ∈ x_w tc ad hp ↔ ∃ q ∈ hp, w ∈ x_c tc ad q := by simp [x_w, List.mem_flatMap]
theorem x_sel_sub {tc : Nat → Nat} {ad : Nat → Nat → Nat} (fp : List Nat) : ∀ hp : xH, (x_w tc ad (x_sel fp hp)).Sublist (x_w tc ad hp)
  | [] => List.Sublist.refl _
  | q :: t => by
    unfold x_sel
    rw [x_w_cons]
    cases fp.elem q.1 with
    | true =>
      show (x_w tc ad (q :: x_sel fp t)).Sublist _
      rw [x_w_cons]
      exact (List.Sublist.refl _).append (x_sel_sub fp t)
    | false => exact (x_sel_sub fp t).trans (List.sublist_append_right _ _)
theorem x_P_sel {D : va_G} {tc : Nat → Nat} {ad : Nat → Nat → Nat} {hp : xH} {H : Heap} (fp : List Nat) (h : va_P D x_cls (x_w tc ad hp) H) : va_P D x_cls (x_w tc ad (x_sel fp hp)) H := by
  rw [w_P_iff] at h ⊢
  exact fun q hq => h q ((x_sel_sub fp hp).subset hq)
theorem x_D_sel {tc : Nat → Nat} {ad : Nat → Nat → Nat} {hp : xH} {A : Nat → Prop} (fp : List Nat) (h : va_D A (x_w tc ad hp)) : va_D A (x_w tc ad (x_sel fp hp)) := by
  rw [w_D_iff] at h ⊢
  exact ⟨h.1.sublist ((x_sel_sub fp hp).map Prod.fst), fun q hq => h.2 q ((x_sel_sub fp hp).subset hq)⟩
/-- one address belongs to one cell -/
theorem x_apart {tc : Nat → Nat} {ad : Nat → Nat → Nat} : ∀ {hp : xH}, ((x_w tc ad hp).map Prod.fst).Nodup → ∀ {q q' : Nat × xC}, q ∈ hp → q' ∈ hp → ∀ {w w' : Nat × va_E}, w ∈ x_c tc ad q → w' ∈ x_c tc ad q' → w.1 = w'.1 → q = q'
  | [], _, q, q', h, _, _, _, _, _, _ => by cases h
  | a :: t, hn, q, q', h, h', w, w', hw, hw', e => by
    rw [x_w_cons, List.map_append, List.nodup_append] at hn
    obtain ⟨n1, n2, n3⟩ := hn
    have inT : ∀ {z : Nat × xC} {v : Nat × va_E}, z ∈ t → v ∈ x_c tc ad z → v.1 ∈ (x_w tc ad t).map Prod.fst := fun hz hv => List.mem_map.mpr ⟨_, x_w_mem.mpr ⟨_, hz, hv⟩, rfl⟩
    have inA : ∀ {v : Nat × va_E}, v ∈ x_c tc ad a → v.1 ∈ (x_c tc ad a).map Prod.fst := fun hv => List.mem_map.mpr ⟨_, hv, rfl⟩
    rcases List.mem_cons.mp h with rfl | h0
    · rcases List.mem_cons.mp h' with rfl | h'
      · rfl
      · exact absurd e (n3 _ (inA hw) _ (inT h' hw'))
    · rcases List.mem_cons.mp h' with rfl | h'
      · exact absurd e.symm (n3 _ (inA hw') _ (inT h0 hw))
      · exact x_apart n2 h0 h' hw hw' e
theorem x_c_first (tc : Nat → Nat) (ad : Nat → Nat → Nat) (q : Nat × xC) : ∃ w ∈ x_c tc ad q, w.1 = ad q.1 0 := by
  obtain ⟨g, c⟩ := q
  rcases c with ⟨t, n, k, f | f | f⟩ | ⟨ci, fs⟩ <;> exact ⟨_, List.mem_cons_self, rfl⟩
theorem x_key_inj {tc : Nat → Nat} {ad : Nat → Nat → Nat} {hp : xH} (hn : ((x_w tc ad hp).map Prod.fst).Nodup) {q q' : Nat × xC} (h : q ∈ hp) (h' : q' ∈ hp) (e : q.1 = q'.1) : q = q' := by
  obtain ⟨w, hw, e1⟩ := x_c_first tc ad q
  obtain ⟨w', hw', e2⟩ := x_c_first tc ad q'
  exact x_apart hn h h' hw hw' (by rw [e1, e2, e])
theorem x_get_mem {hp : xH} {g : Nat} {c : xC} (h : x_get hp g = some c) : (g, c) ∈ hp := by
  obtain ⟨pre, post, e, -⟩ := x_at h
  rw [e]
  simp
theorem x_get_none : ∀ {hp : xH} {g : Nat}, x_get hp g = none → ∀ q ∈ hp, ¬ q.1 = g
  | [], _, _, q, hq => by cases hq
  | a :: t, g, h, q, hq => by
    unfold x_get at h
    cases hb : Nat.beq a.1 g with
    | true => rw [hb] at h; cases h
    | false =>
      rw [hb] at h
      rcases List.mem_cons.mp hq with rfl | hq
      · exact fun e => by rw [e, Nat.beq_refl] at hb; cases hb
      · exact x_get_none h q hq
section WJ
variable {D : va_G} {tc : Nat → Nat} {ad : Nat → Nat → Nat} {hp hc' : xH} {fp : List Nat} {A : Nat → Prop} {H H1 : Heap}
theorem x_shp_upd (hD : va_D A (x_w tc ad hp)) (hs : x_shp hc' = x_shp (x_sel fp hp)) : x_shp (x_upd hc' hp) = x_shp hp := by
  rw [w_D_iff] at hD
  rw [x_upd_eq, x_shp, List.map_map]
  apply List.map_congr_left
  intro q hq
  show x_sh (match x_get hc' q.1 with | some c => (q.1, c) | none => q) = x_sh q
  cases hg : x_get hc' q.1 with
  | none => rfl
  | some c =>
    show x_sh (q.1, c) = x_sh q
    have h1 : x_sh (q.1, c) ∈ x_shp hc' := List.mem_map.mpr ⟨_, x_get_mem hg, rfl⟩
    rw [hs] at h1
    obtain ⟨q', h2, e⟩ := List.mem_map.mp h1
    rw [x_sel_eq] at h2
    have h3 := (List.mem_filter.mp h2).1
    have e1 : (x_sh q').1 = (x_sh (q.1, c)).1 := congrArg Prod.fst e
    have := x_key_inj hD.1 h3 hq e1
    subst this
    exact e.symm
theorem x_P_upd (hP : va_P D x_cls (x_w tc ad hp) H) (hD : va_D A (x_w tc ad hp)) (hs : x_shp hc' = x_shp (x_sel fp hp)) (hk : ∀ q : Nat, q < H.size → ¬ va_A (x_w tc ad (x_sel fp hp)) H.size q → H1[q]? = H[q]?) (hP1 : va_P D x_cls (x_w tc ad hc') H1) : va_P D x_cls (x_w tc ad (x_upd hc' hp)) H1 := by
  rw [w_P_iff] at hP hP1 ⊢
  rw [w_D_iff] at hD
  intro w hw
  obtain ⟨q2, h2, h3⟩ := x_w_mem.mp hw
  rw [x_upd_eq] at h2
  obtain ⟨q, hq, rfl⟩ := List.mem_map.mp h2
  cases hg : x_get hc' q.1 with
  | some c =>
    rw [hg] at h3
    exact hP1 w (x_w_mem.mpr ⟨_, x_get_mem hg, h3⟩)
  | none =>
    rw [hg] at h3
    have h4 : w ∈ x_w tc ad hp := x_w_mem.mpr ⟨q, hq, h3⟩
    refine (hP w h4).kept (hk w.1 (hP w h4).lt ?_)
    rintro (⟨k, e, hke⟩ | hle)
    · obtain ⟨q', h5, h6⟩ := x_w_mem.mp (List.mem_of_getElem? hke)
      rw [x_sel_eq] at h5
      have h7 := x_apart hD.1 hq (List.mem_filter.mp h5).1 h3 h6 rfl
      subst h7
      have h8 : x_sh q ∈ x_shp (x_sel fp hp) := List.mem_map.mpr ⟨q, by rw [x_sel_eq]; exact h5, rfl⟩
      rw [← hs] at h8
      obtain ⟨q3, h9, e9⟩ := List.mem_map.mp h8
      exact x_get_none hg q3 h9 (show (x_sh q3).1 = (x_sh q).1 from congrArg Prod.fst e9)
    · have := (hP w h4).lt
      omega
end WJ
/-! ===== a method's contract, at given arguments and heap ===== -/
def lw_g : List Cond := lw_tbl.filter goodWord
theorem x_g_in {w : Cond} (h : w ∈ lw_tbl) (hg : goodWord w = true) : w ∈ lw_g := List.mem_filter.mpr ⟨h, hg⟩
theorem x_goodIn {w : List Cond} (h : ∀ c ∈ w, c ∈ lw_g) : GoodIn lw_g w := fun c hc => ⟨h c hc, good_of_word (List.mem_filter.mp (h c hc)).2⟩
abbrev xM : Type := MethodName × ByteArray × Nat × Option FieldType × Nat × Nat
def x_ws (z : xM) : List Cond := .code z.1 z.2.1 z.2.2.1 z.2.2.2.1 :: lw_g
def x_rm (z : xM) : Room := { frames := z.2.2.2.2.1, cells := 0, slots := 0, locals := z.2.2.2.2.2 }
def x_Q (D : va_G) (tc : Nat → Nat) (ad : Nat → Nat → Nat) (A : Nat → Prop) (hc : xH) (P : Option xV → xH → Prop) : Array Value → State → Outcome → State → Prop := fun _ st oc t =>
  (∃ (r : Option xV) (hp' : xH), P r hp' ∧ x_shp hp' = x_shp hc ∧ oc = .returned (r.map (x_v ad)) ∧ va_P D x_cls (x_w tc ad hp') t.heap ∧ va_K D x_cls (x_t tc) t ∧ va_D A (x_w tc ad hp')) ∧ va_F A st t
def x_Pc (D : va_G) (tc : Nat → Nat) (ad : Nat → Nat → Nat) (sz : Nat) (as : List xV) (hc : xH) : Array Value → State → Prop :=
  va_Pc (as.map (x_v ad)) (fun U => U.heap.size = sz ∧ va_P D x_cls (x_w tc ad hc) U.heap ∧ va_K D x_cls (x_t tc) U ∧ va_D (fun _ => True) (x_w tc ad hc))
def Ev (l : Launch) (z : xM) (as : List xV) (hc : xH) (P : Option xV → xH → Prop) : Prop :=
  ∀ (D : va_G) (tc : Nat → Nat) (ad : Nat → Nat → Nat) (sz : Nat), Met l z.1 (x_ws z) (x_rm z) (x_Pc D tc ad sz as hc) (x_Q D tc ad (va_A (x_w tc ad hc) sz) hc P) 0 0 (va_A (x_w tc ad hc) sz)
theorem x_blind {D : va_G} {tc : Nat → Nat} {ad : Nat → Nat → Nat} {sz : Nat} {as : List xV} {hc : xH} : FrameBlind (x_Pc D tc ad sz as hc) := fun a U g mk q => by
  obtain ⟨q0, q1, qP, qK, qD⟩ := q
  exact ⟨q0, q1, qP, va_K.moved (u := U) (U := U.calling g mk a) (Vm.Alike.refl U.vm) qK, qD⟩
/-- what every method's walk has: the machine, the code, the words, the classes -/
def CC (p : Program) (s : State) (m : MethodId) (args : Array Value) (meth : Method) (c : Code) (D : va_G) (tc : Nat → Nat) (A : Nat → Prop) (nL : Nat) (own : String) (cc : ByteArray) : Prop :=
  p.tables.exec = Jvm.exec ∧ c.code = cc ∧ c.maxLocals = nL ∧ s.vm.findClass own = some m.cls ∧ (∀ w ∈ lw_g, w.before args s = true) ∧ va_K D x_cls (x_t tc) s ∧ (∀ q : Nat, s.heap.size ≤ q → A q) ∧ meth.locks = false
section XCALL
variable {p : Program} {l : Launch} {e : Env} {R : Room} {s : State} {m : MethodId} {args : Array Value} {below : List Frame} {meth : Method} {c : Code} {Q : State → Prop} {D : va_G} {tc : Nat → Nat} {A : Nat → Prop} {nL : Nat} {OK : (Nat → Nat → Nat) → Prop} {own : String} {cc : ByteArray} {nc ns pc : Nat} {lv : xL} {st : List xV} {hp : xH}
/-- behind a call: the callee's part of the heap is as its contract says, the rest is unchanged -/
theorem x_back {ad : Nat → Nat → Nat} {H : Heap} {locs : List Loc} {ls : Array Slot} {st0 : List Value} {a : Array Value} {fp : List Nat} {P : Option xV → xH → Prop}
    (hrun : va_Run p l e R s m args below meth c H locs nc ns 0 0 (F0 m pc ls st0) (st.map (x_v ad)) (x_Q D tc ad (va_A (x_w tc ad (x_sel fp hp)) H.size) (x_sel fp hp) P a) (va_A (x_w tc ad (x_sel fp hp)) H.size))
    (ho : OK ad) (hA : ∀ q : Nat, s.heap.size ≤ q → A q) (hP : va_P D x_cls (x_w tc ad hp) H) (hD : va_D A (x_w tc ad hp)) (hS : va_S A s.heap H locs) (hl : lv_has ls nL (x_lm ad lv))
    (kk : ∀ (r : Option xV) (hc' : xH), P r hc' → x_shp hc' = x_shp (x_sel fp hp) → GG p l e R s m args below meth c Q D tc A nL OK nc ns (pc + 3) lv (r.toList ++ st) (x_upd hc' hp)) : W p l e R s m args below meth c H locs nc ns Q (F0 m pc ls st0) := by
  have hDs := x_D_sel fp hD
  have hfree : ∀ q, va_A (x_w tc ad (x_sel fp hp)) H.size q → A q := fun q h => by
    rcases h with ⟨k, e, h⟩ | h
    · exact hDs.2 k _ h
    · exact hA q (Nat.le_trans hS.1 h)
  intro T hT X
  obtain ⟨v, st₀, t, T', L, h0, X', hL, e1, e2, ⟨⟨r, hc', hPr, hs, hv, hp1, hK1, hD1⟩, hz, hk⟩, stp⟩ := hrun T hT X
  cases hv
  rw [h0] at hz hk
  rw [← e1] at hp1 hz hk
  have hS' : va_S A s.heap T'.heap (locs ++ L) := ⟨Nat.le_trans hS.1 hz, fun q h1 h2 => by rw [hk q (Nat.lt_of_lt_of_le h1 hS.1) (fun z => h2 (hfree q z))]; exact hS.2.1 q h1 h2, fun q hq => by
      rcases List.mem_append.mp hq with h | h
      · exact hS.2.2 q h
      · exact hfree _ (hL q h)⟩
  obtain ⟨t2, a1, b1⟩ := kk r hc' hPr hs ad T'.heap (locs ++ L) ls ho (x_P_upd hP hD hs hk hp1) (x_D_shape hD (x_shp_upd hD hs)) hS' hl T' rfl X'
  refine ⟨t2, stp t2 ?_, b1⟩
  have e3 : (r.map (x_v ad)).toList ++ st.map (x_v ad) = (r.toList ++ st).map (x_v ad) := by cases r <;> simp
  rw [show (Option.map (x_v ad) r).toList ++ List.map (x_v ad) st = (r.toList ++ st).map (x_v ad) from e3]
  exact a1
end XCALL
