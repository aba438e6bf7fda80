/-! ===== new grids; constructors' contracts ===== -/
theorem outerV (c : ClassId) (N h0 : Nat) : ∀ i : Nat, Jvm.Free.Multi.outerC c N h0 i = arrV c N (fun j => if j < i then Value.ref (h0 + 1 + j) else .null)
  | 0 => by
    show ({ cls := c, slots := Array.replicate N .null, vm := .none } : Cell) = _
    rw [arrV_new]
    congr 1
  | i + 1 => by
    show (Jvm.Free.Multi.outerC c N h0 i).setSlot i (.ref (h0 + 1 + i)) = _
    rw [outerV c N h0 i, arrV_store]
    congr 1
    funext j
    unfold updV
    by_cases e : j = i
    · rw [if_pos e, if_pos (by omega), e]
    · rw [if_neg e]
      by_cases h : j < i
      · show (if j < i then Value.ref (h0 + 1 + j) else Value.null) = _
        rw [if_pos h, if_pos (by omega)]
      · show (if j < i then Value.ref (h0 + 1 + j) else Value.null) = _
        rw [if_neg h, if_neg (by omega)]
theorem aoa_spec {t : FieldType} {s : State} (h : va_AOA t s) :
    ∃ comp c k, s.vm.findClass (FieldType.array t).toString = some comp ∧ (s.vm.classes.findIdx? fun (x : Class) => match x.kind with | .array component _ => component == comp | _ => false) = some c ∧ s.vm.classes[c]? = some k ∧ k.kind = .array comp (.array t) ∧ s.vm.findClass ("[" ++ (FieldType.array t).toString) = some c := by
  unfold va_AOA Cond.before at h
  simp only [Cond.holds, Cond.value, beq_iff_eq] at h
  cases hc : s.vm.findClass (FieldType.array t).toString with
  | none => simp [hc] at h
  | some comp =>
    simp only [hc, Option.bind_some, Option.bind_eq_some_iff, Option.map_eq_some_iff] at h
    obtain ⟨c, hi, k, hk, hb⟩ := h
    obtain ⟨hlt, hp, -⟩ := Array.findIdx?_eq_some_iff_getElem.mp hi
    have hkk : s.vm.classes[c] = k := (Array.getElem?_eq_some_iff.mp hk).2
    rw [hkk] at hp
    cases hkind : k.kind with
    | array component ty =>
      rw [hkind] at hb hp
      simp at hb hp
      exact ⟨comp, c, k, rfl, hi, hk, by rw [hkind, hp, hb.1], hb.2⟩
    | _ => rw [hkind] at hb; simp at hb
def aPr (comp : ClassId) (x : Class) : Bool := match x.kind with
  | .array component _ => component == comp
  | _ => false
theorem idx_b (vm : Vm) (comp : ClassId) : vm.bare.classes.findIdx? (aPr comp) = vm.classes.findIdx? (aPr comp) := by
  simp only [Vm.bare, Array.findIdx?_map]
  rfl
theorem aoa_moved {t : FieldType} {u U : State} (hvm : u.vm.Alike U.vm) (h : va_AOA t u) : va_AOA t U := by
  obtain ⟨comp, c, k, h1, h2, h3, h4, h5⟩ := aoa_spec h
  obtain ⟨k', hk', he⟩ := hvm.2.2 _ _ h3
  have hi : (U.vm.classes.findIdx? fun (x : Class) => match x.kind with | .array component _ => component == comp | _ => false) = some c := by
    have h2' : u.vm.classes.findIdx? (aPr comp) = some c := h2
    have h0 : U.vm.classes.findIdx? (aPr comp) = some c := by
      rw [← idx_b]
      first | rw [hvm.bare_eq] | rw [← hvm.bare_eq]
      rw [idx_b]
      exact h2'
    exact h0
  have hkind : k'.kind = .array comp (.array t) := by rw [he]; exact h4
  have f1 : U.vm.findClass (FieldType.array t).toString = some comp := by rw [hvm.findClass]; exact h1
  have f2 : U.vm.findClass ("[" ++ (FieldType.array t).toString) = some c := by rw [hvm.findClass]; exact h5
  unfold va_AOA Cond.before Cond.holds
  simp only [Cond.value]
  rw [f1, Option.bind_some]
  refine (congrArg (fun o : Option Nat => (o.bind (fun c => (U.vm.classes[c]?).map fun (k : Class) => match k.kind with | .array _ ty => decide (ty = FieldType.array t) && decide (U.vm.findClass ("[" ++ (FieldType.array t).toString) = some c) | _ => false) == some true)) hi).trans ?_
  simp [hk', hkind, f2]
section XMUL
variable {p : Program} {l : Launch} {e : Env} {R : Room} {s : State} {m : MethodId} {args : Array Value} {below : List Frame} {meth : Method} {c : Code} {Q : State → Prop} {D : va_G} {tc : Nat → Nat} {A : Nat → Prop} {nL : Nat} {F : List Nat} {ad0 : Nat → Nat → Nat} {own : String} {cc : ByteArray} {nc ns pc : Nat} {lv : xL} {st : List xV} {hp : xH}
theorem x_map_idx (h0 K : Nat) (z : Nat) (N : Nat) (q : Nat × va_E) (hq : q ∈ (List.range N).map (fun j => ((h0 + (j + 1), .inl (z, K, .inl (fun _ => (0 : Int32)))) : Nat × va_E))) : ∃ j, j < N ∧ q = (h0 + (j + 1), .inl (z, K, .inl (fun _ => 0))) := by
  obtain ⟨j, hj, rfl⟩ := List.mem_map.mp hq
  exact ⟨j, List.mem_range.mp hj, rfl⟩
theorem o_multi (hC : CC p s m args meth c D tc A nL own cc) {g N K idx : Nat} {n k : Int32} (hnew : x_new g F lv st hp = true) (w1 : Cond.classLink own idx ("[" ++ (FieldType.array .int).toString) ∈ lw_g) (hao : va_AOA .int s) (w3 : Cond.arrayClass .int ∈ lw_g) (hn : ¬ n < 0) (hk : ¬ k < 0) (hN : n.toNatClampNeg = N) (hK : k.toNatClampNeg = K) (hb : N ≤ 100 ∧ K ≤ 100) (hcs : nc + (1 + N) ≤ R.cells ∧ ns + (N + N * K) ≤ R.slots) (hd : decode cc pc = .ok (.multianewarray idx 2, 4))
    (kk : GG p l e R s m args below meth c Q D tc A nL (OKf F ad0) (nc + 1 + N) (ns + N + N * K) (pc + 4) lv (.inr (g, 0) :: st) (hp ++ [gA g N K (fun _ _ => 0)])) : GG p l e R s m args below meth c Q D tc A nL (OKf F ad0) nc ns pc lv (.inl (.int k) :: .inl (.int n) :: st) hp := by
  subst hN; subst hK
  intro ad H locs ls ho hP hD hS hl T hT X
  have hts := hC.2.2.2.2.1
  obtain ⟨vm₁, cA, comp, hW, hfA, hfC, -, -, X1, step⟩ := X.multianewarray2F hC.1 (own := own) (index := idx) (ty := .int) hC.2.2.2.1 (hts _ w1) (va_AOA.use hao) (hts _ w3) (g := F0 m pc ls (.int k :: .int n :: st.map (x_v ad))) rfl (by rw [hC.2.1]; exact hd) (n := n) (k := k) (rest := st.map (x_v ad)) rfl hn hk (by omega) (by show k.toNatClampNeg * 4 ≤ _; omega) (by omega) rfl rfl hcs.1 hcs.2
  obtain ⟨f1, f2, f3, f4⟩ := Jvm.Free.Multi.fill_facts (T.setVm vm₁) cA comp n.toNatClampNeg k.toNatClampNeg (defaultValue .int) n.toNatClampNeg
  have hsz : (T.setVm vm₁).heap.size = H.size := by show T.heap.size = _; rw [hT]
  rw [hsz] at f1 f2
  have hold : ∀ q, q < H.size → (Jvm.Free.Multi.fill (T.setVm vm₁) cA comp n.toNatClampNeg k.toNatClampNeg (defaultValue .int) n.toNatClampNeg).heap[q]? = H[q]? := fun q hq => by
    rw [Jvm.Free.Multi.fill_old (T.setVm vm₁) cA comp _ _ _ (by rw [hsz]; exact hq)]
    show T.heap[q]? = _
    rw [hT]
  have hinn : ∀ j, j < n.toNatClampNeg → (Jvm.Free.Multi.fill (T.setVm vm₁) cA comp n.toNatClampNeg k.toNatClampNeg (defaultValue .int) n.toNatClampNeg).heap[H.size + (j + 1)]? = some (arrV comp k.toNatClampNeg (fun _ => .int 0)) := fun j hj => by
    have h1 := Jvm.Free.Multi.fill_inner (T.setVm vm₁) cA comp n.toNatClampNeg k.toNatClampNeg (defaultValue .int) n.toNatClampNeg j hj
    rw [hsz] at h1
    rw [show H.size + (j + 1) = H.size + 1 + j by omega, h1]
    show some ({ cls := comp, slots := Array.replicate k.toNatClampNeg (.int 0), vm := .none } : Cell) = _
    rw [arrV_new]
  have eA : cA = tc 3 := by
    have h1 : s.vm.findClass ("[" ++ (FieldType.array .int).toString) = some (tc 3) := (hC.2.2.2.2.2.1.2 3 (tc 3, .array .int) rfl).2
    exact Option.some.inj (hfA.symm.trans h1)
  have eC : comp = tc 0 := by
    have h1 : s.vm.findClass ("[" ++ FieldType.int.toString) = some (tc 0) := (hC.2.2.2.2.2.1.2 0 (tc 0, .int) rfl).2
    have h2 : s.vm.findClass ("[" ++ FieldType.int.toString) = some comp := hfC
    exact Option.some.inj (h2.symm.trans h1)
  subst eA; subst eC
  obtain ⟨g1, g2, g3, g4⟩ := x_grow (tc := tc) (f := fun j => H.size + j) (cell := .inl (3, n.toNatClampNeg, k.toNatClampNeg, .inr (.inr (fun _ _ => 0)))) hnew ho
  have e4 : x_c tc (x_ex ad g (fun j => H.size + j)) (g, .inl (3, n.toNatClampNeg, k.toNatClampNeg, .inr (.inr (fun _ _ => 0)))) = (H.size, .inl (tc 3, n.toNatClampNeg, .inr (.inr (.inr (.inr (fun j => if j < n.toNatClampNeg then some (H.size + (j + 1)) else none)))))) :: (List.range n.toNatClampNeg).map (fun j => ((H.size + (j + 1), .inl (tc 0, k.toNatClampNeg, .inl (fun _ => (0 : Int32)))) : Nat × va_E)) := by
    unfold x_c
    simp only [x_ex_eq, Nat.add_zero]
  rw [e4] at g4
  have hPn : va_P D x_cls (x_w tc (x_ex ad g (fun j => H.size + j)) (hp ++ [gA g n.toNatClampNeg k.toNatClampNeg (fun _ _ => 0)])) (Jvm.Free.Multi.fill (T.setVm vm₁) (tc 3) (tc 0) n.toNatClampNeg k.toNatClampNeg (defaultValue .int) n.toNatClampNeg).heap := by
    show va_P D x_cls (x_w tc (x_ex ad g (fun j => H.size + j)) (hp ++ [(g, .inl (3, n.toNatClampNeg, k.toNatClampNeg, .inr (.inr (fun _ _ => 0))))])) _
    rw [g4, w_P_iff]
    intro q hq
    rcases List.mem_append.mp hq with h | h
    · exact ((w_P_iff.mp hP) q h).kept (hold _ ((w_P_iff.mp hP) q h).lt)
    · rcases List.mem_cons.mp h with rfl | h
      · show (Jvm.Free.Multi.fill _ _ _ _ _ _ _).heap[H.size]? = some (vp_cell (tc 3) (n.toNatClampNeg, .inr (.inr (.inr (.inr (fun j => if j < n.toNatClampNeg then some (H.size + (j + 1)) else none))))))
        rw [f2, outerV, vp_cell_q]
        congr 2
        funext j
        by_cases hj : j < n.toNatClampNeg
        · rw [if_pos hj, if_pos hj]
          show Value.ref (H.size + 1 + j) = Value.ref (H.size + (j + 1))
          rw [show H.size + 1 + j = H.size + (j + 1) by omega]
        · rw [if_neg hj, if_neg hj]
          rfl
      · obtain ⟨j, hj, rfl⟩ := x_map_idx _ _ _ _ q h
        exact hinn j hj
  have hDn : va_D A (x_w tc (x_ex ad g (fun j => H.size + j)) (hp ++ [gA g n.toNatClampNeg k.toNatClampNeg (fun _ _ => 0)])) := by
    show va_D A (x_w tc (x_ex ad g (fun j => H.size + j)) (hp ++ [(g, .inl (3, n.toNatClampNeg, k.toNatClampNeg, .inr (.inr (fun _ _ => 0))))]))
    rw [g4, w_D_iff]
    have hD' := w_D_iff.mp hD
    have hlt : ∀ a ∈ (x_w tc ad hp).map Prod.fst, a < H.size := fun a ha => by
      obtain ⟨q, hq, rfl⟩ := List.mem_map.mp ha
      exact ((w_P_iff.mp hP) q hq).lt
    refine ⟨?_, fun q hq => ?_⟩
    · rw [List.map_append, List.nodup_append]
      refine ⟨hD'.1, ?_, fun a ha b hb e9 => ?_⟩
      · rw [List.map_cons, List.nodup_cons, List.map_map]
        refine ⟨fun hm => ?_, ?_⟩
        · obtain ⟨j, _, hj⟩ := List.mem_map.mp hm
          have hj : H.size + (j + 1) = H.size := hj
          omega
        · unfold List.Nodup
          rw [List.pairwise_map]
          refine List.nodup_range.imp (fun {a b} hab e9 => hab ?_)
          have e9 : H.size + (a + 1) = H.size + (b + 1) := e9
          omega
      · have h1 := hlt a ha
        rw [List.map_cons, List.map_map] at hb
        rcases List.mem_cons.mp hb with rfl | hb
        · have e9 : a = H.size := e9
          omega
        · obtain ⟨j, _, rfl⟩ := List.mem_map.mp hb
          have e9 : a = H.size + (j + 1) := e9
          omega
    · rcases List.mem_append.mp hq with h | h
      · exact hD'.2 q h
      · refine hC.2.2.2.2.2.2.1 _ (Nat.le_trans hS.1 ?_)
        rcases List.mem_cons.mp h with rfl | h
        · exact Nat.le_refl _
        · obtain ⟨j, _, rfl⟩ := x_map_idx _ _ _ _ q h
          show H.size ≤ H.size + (j + 1)
          omega
  have hSn : va_S A s.heap (Jvm.Free.Multi.fill (T.setVm vm₁) (tc 3) (tc 0) n.toNatClampNeg k.toNatClampNeg (defaultValue .int) n.toNatClampNeg).heap locs := ⟨Nat.le_trans hS.1 (by rw [f1]; omega), fun q h1 h2 => (hold q (Nat.lt_of_lt_of_le h1 hS.1)).trans (hS.2.1 q h1 h2), hS.2.2⟩
  obtain ⟨t, a1, b1⟩ := kk (x_ex ad g (fun j => H.size + j)) _ locs ls g1 hPn hDn hSn (by rw [g2]; exact hl) _ rfl X1
  refine ⟨t, step t ?_, b1⟩
  have e3 : (.inr (g, 0) :: st : List xV).map (x_v (x_ex ad g (fun j => H.size + j))) = Value.ref T.heap.size :: st.map (x_v ad) := by
    show Value.ref (x_ex ad g (fun j => H.size + j) g 0) :: st.map (x_v (x_ex ad g (fun j => H.size + j))) = _
    rw [x_ex_eq, g3, hT]
    rfl
  rw [e3] at a1
  exact a1
end XMUL
/-! a constructor's contract: the object g, and new cells -/
def x_rmN (z : xM) (mc ms : Nat) : Room := { frames := z.2.2.2.2.1, cells := mc, slots := ms, locals := z.2.2.2.2.2 }
def x_QN (D : va_G) (tc : Nat → Nat) (ad : Nat → Nat → Nat) (g : Nat) (A : Nat → Prop) (P : xH → Prop) : Array Value → State → Outcome → State → Prop := fun _ st oc t =>
  (∃ (ad' : Nat → Nat → Nat) (hp' : xH), P hp' ∧ ad' g = ad g ∧ oc = .returned none ∧ va_P D x_cls (x_w tc ad' hp') t.heap ∧ va_K D x_cls (x_t tc) t ∧ va_D A (x_w tc ad' hp')) ∧ va_F A st t
def x_PcN (D : va_G) (tc : Nat → Nat) (ad : Nat → Nat → Nat) (sz g : Nat) (hc : xH) : Array Value → State → Prop :=
  va_Pc [x_v ad (.inr (g, 0))] (fun U => U.heap.size = sz ∧ va_P D x_cls (x_w tc ad hc) U.heap ∧ va_K D x_cls (x_t tc) U ∧ va_D (fun _ => True) (x_w tc ad hc) ∧ va_AOA .int U)
theorem x_blindN {D : va_G} {tc : Nat → Nat} {ad : Nat → Nat → Nat} {sz g : Nat} {hc : xH} : FrameBlind (x_PcN D tc ad sz g hc) := fun a U gg mk q => by
  obtain ⟨q0, q1, qP, qK, qD, qA⟩ := q
  exact ⟨q0, q1, qP, va_K.moved (u := U) (U := U.calling gg mk a) (Vm.Alike.refl U.vm) qK, qD, aoa_moved (u := U) (U := U.calling gg mk a) (Vm.Alike.refl U.vm) qA⟩
def EvN (l : Launch) (z : xM) (mc ms g : Nat) (hc : xH) (P : xH → Prop) : Prop :=
  ∀ (D : va_G) (tc : Nat → Nat) (ad : Nat → Nat → Nat) (sz : Nat), Met l z.1 (x_ws z) (x_rmN z mc ms) (x_PcN D tc ad sz g hc) (x_QN D tc ad g (va_A (x_w tc ad hc) sz) P) mc ms (va_A (x_w tc ad hc) sz)
abbrev x_EN (below : List Frame) (D : va_G) (tc : Nat → Nat) (ad : Nat → Nat → Nat) (g : Nat) (A : Nat → Prop) (P : xH → Prop) (mc ms : Nat) (args : Array Value) (s : State) : State → Prop := MQ below (x_QN D tc ad g A P) args s mc ms A
theorem evN_of {l : Launch} {z : xM} {mc ms g : Nat} {hc : xH} {P : xH → Prop} (hy : plainName z.1.cls = true) (hw : 1 ≤ z.2.2.1) (hin : z.1.name = "<init>")
    (body : ∀ (p : Program) (e : Env) (s : State) (m : MethodId) (args : Array Value) (below : List Frame) (meth : Method) (c : Code) (D : va_G) (tc : Nat → Nat) (A : Nat → Prop) (ad0 : Nat → Nat → Nat),
      CC p s m args meth c D tc A z.2.2.1 z.1.cls z.2.1 → meth.sig.returnType = z.2.2.2.1 → meth.name = "<init>" → va_AOA .int s →
      GG p l e (x_rmN z mc ms) s m args below meth c (x_EN below D tc ad0 g A P mc ms args s) D tc A z.2.2.1 (OKf [g] ad0) 0 0 0 [(0, .inr (g, 0))] [] hc) : EvN l z mc ms g hc P := by
  intro D tc ad sz
  refine Met.ofW (cc := z.2.1) (maxL := z.2.2.1) (ret := z.2.2.2.1) hy rfl ?_
  intro p e s m args below meth c s₁ B hml hv
  obtain ⟨rfl, hsz, hP, hK, hD0, hAO⟩ := hv
  have hts := atoms_spec (ws := x_ws z) B.pre
  have hown : s.vm.findClass z.1.cls = some m.cls := findClass_of_methodNamed B.named
  have hnm : meth.name = "<init>" := (name_of_methodNamed B.named B.method).1.trans hin
  subst hsz
  have hD := hD0.self (sz := s.heap.size)
  generalize hAe : va_A (x_w tc ad hc) s.heap.size = A at hD ⊢
  have hA : ∀ q : Nat, s.heap.size ≤ q → A q := fun q h => by rw [← hAe]; exact Or.inr h
  have hl := lv_entry (([.inr (g, 0)] : List xV).map (x_v ad)) (n := z.2.2.1) (by show 1 ≤ _; exact hw)
  rw [lg_entry_eq]
  exact body p e s m _ below meth c D tc A ad ⟨B.exec, B.bytes, hml, hown, fun w hw => hts w (List.mem_cons_of_mem _ hw), hK, hA, B.notSynchronized⟩ B.returns hnm hAO ad s.heap [] _ (fun _ _ => rfl) hP hD va_S.rf hl
section XCN
variable {p : Program} {l : Launch} {e : Env} {R : Room} {s : State} {m : MethodId} {args : Array Value} {below : List Frame} {meth : Method} {c : Code} {Q : State → Prop} {D : va_G} {tc : Nat → Nat} {A : Nat → Prop} {nL : Nat} {F : List Nat} {ad0 : Nat → Nat → Nat} {own : String} {cc : ByteArray} {nc ns pc : Nat} {lv : xL} {st : List xV} {hp : xH}
/-- a constructor's end -/
theorem o_retN (hC : CC p s m args meth c D tc A nL own cc) (hrt : meth.sig.returnType = none) {g mc ms : Nat} {P : xH → Prop} (hd : decode cc pc = .ok (.return_, 1)) (h : P hp) (hc : nc = mc ∧ ns = ms) : GG p l e R s m args below meth c (x_EN below D tc ad0 g A P mc ms args s) D tc A nL (OKf [g] ad0) nc ns pc lv [] hp := by
  obtain ⟨rfl, rfl⟩ := hc
  intro ad H locs ls ho hP hD hS hl
  exact W.vret hC.1 hC.2.1 hrt (fun t ht hW => ⟨⟨ad, hp, h, ho g List.mem_cons_self, rfl, by rw [ht]; exact hP, va_K.moved hW.alike hC.2.2.2.2.2.1, hD⟩, hS.F ht⟩) hS.2.2 hd hC.2.2.2.2.2.2.2
/-- names that are new, several at once -/
def x_newL (G F : List Nat) (lv : xL) (st : List xV) (hp : xH) : Bool := (F ++ (x_lid lv ++ (x_rid st ++ x_hid hp))).all (fun i => !G.elem i)
theorem x_newL_ne {G F : List Nat} {lv : xL} {st : List xV} {hp : xH} (h : x_newL G F lv st hp = true) : (∀ i ∈ F, i ∉ G) ∧ (∀ i ∈ x_lid lv, i ∉ G) ∧ (∀ i ∈ x_rid st, i ∉ G) ∧ ∀ i ∈ x_hid hp, i ∉ G := by
  have key : ∀ i ∈ F ++ (x_lid lv ++ (x_rid st ++ x_hid hp)), i ∉ G := fun i hi e => by
    have := List.all_eq_true.mp h i hi
    rw [List.elem_eq_true_of_mem e] at this
    cases this
  exact ⟨fun i hi => key i (by simp [hi]), fun i hi => key i (by simp [hi]), fun i hi => key i (by simp [hi]), fun i hi => key i (by simp [hi])⟩
theorem o_callN (hC : CC p s m args meth c D tc A nL own cc) (hao : va_AOA .int s) {z : xM} {mc ms g ci idx : Nat} {fx : List xV} {P : xH → Prop} {G : List Nat} (hev : EvN l z mc ms g [(g, .inr (ci, fx))] P) (hids : ∀ hp', P hp' → ∀ i ∈ x_hid hp', i = g ∨ i ∈ G) (hgG : g ∉ G) (hnew : x_newL G F lv st hp = true)
    (w1 : Cond.code z.1 z.2.1 z.2.2.1 z.2.2.2.1 ∈ lw_g) (hz : z.2.2.2.1 = none) (w2 : Cond.initialized z.1.cls ∈ lw_g) (w3 : Cond.methodLink own idx z.1 ∈ lw_g) (w4 : Cond.instanceMethod z.1 ∈ lw_g) (hin : z.1.name = "<init>") (hy : z.1.cls ≠ "java/lang/invoke/MethodHandle" ∧ z.1.cls ≠ "java/lang/invoke/VarHandle" ∧ (parseMethodDescriptor z.1.desc).map (fun d => d.parameters.length) = some 0)
    (hR : z.2.2.2.2.1 + 1 ≤ R.frames ∧ 8 + (z.2.2.1 + 11) + z.2.2.2.2.2 ≤ R.locals) (hcat : (st.map x_cat).sum ≤ 8) (hcs : nc + mc ≤ R.cells ∧ ns + ms ≤ R.slots) (hd : decode cc pc = .ok (.invokespecial idx, 3))
    (k : ∀ hp', P hp' → GG p l e R s m args below meth c Q D tc A nL (OKf F ad0) (nc + mc) (ns + ms) (pc + 3) lv st (hp ++ hp')) : GG p l e R s m args below meth c Q D tc A nL (OKf F ad0) nc ns pc lv (.inr (g, 0) :: st) (hp ++ [(g, .inr (ci, fx))]) := by
  intro ad H locs ls ho hP hD hS hl
  have hts := hC.2.2.2.2.1
  have ecat : ((st.map (x_v ad)).map fun v => v.category).sum = (st.map x_cat).sum := by
    rw [List.map_map]
    congr 1
    exact List.map_congr_left (fun v _ => x_cat_v ad v)
  have hPc : va_P D x_cls (x_w tc ad [(g, .inr (ci, fx))]) H := by
    rw [w_P_iff] at hP ⊢
    exact fun q hq => hP q (by rw [x_w_app]; exact List.mem_append_right _ hq)
  have hP0 : ∀ q ∈ x_w tc ad hp, va_at D x_cls q H := fun q hq => (w_P_iff.mp hP) q (by rw [x_w_app]; exact List.mem_append_left _ hq)
  have hD' := w_D_iff.mp hD
  rw [x_w_app, List.map_append, List.nodup_append] at hD'
  obtain ⟨⟨dn1, dn2, dn3⟩, dA⟩ := hD'
  have hDc : va_D A (x_w tc ad [(g, .inr (ci, fx))]) := w_D_iff.mpr ⟨dn2, fun q hq => dA q (List.mem_append_right _ hq)⟩
  have hone : x_w tc ad [(g, .inr (ci, fx))] = [(ad g 0, .inr (ci, fx.map (x_v ad)))] := by
    rw [x_w_cons]
    simp [x_w, x_c]
  have hAg : A (ad g 0) := dA (ad g 0, .inr (ci, fx.map (x_v ad))) (List.mem_append_right _ (by rw [hone]; exact List.mem_cons_self))
  have hfree : ∀ q, va_A (x_w tc ad [(g, .inr (ci, fx))]) H.size q → A q := fun q h => by
    rcases h with ⟨j, e9, h⟩ | h
    · exact hDc.2 j _ h
    · exact hC.2.2.2.2.2.2.1 q (Nat.le_trans hS.1 h)
  have hrun := va_runI (b := ad g 0) (As := []) (rest := st.map (x_v ad)) (n := 0) (Ts := lw_g) (own := own) (g := F0 m pc ls ((.inr (g, 0) :: st : List xV).map (x_v ad))) (locs := locs) (cells := nc) (slots := ns) (nL := nL) (H := H) (R := R) (below := below) (meth := meth) (e := e) ⟨hC.1, hC.2.1, hC.2.2.1, hC.2.2.2.1, hts⟩ (hev D tc ad H.size) (cwI 0 hts (x_goodIn (fun w hw => by
      rcases List.mem_cons.mp hw with rfl | hw
      · exact w1
      · exact hw)) (by rw [← hz]; rfl) rfl rfl (hts _ w2) (hts _ w3) (hts _ w4) hin hy hR) ⟨x_blindN, fun U hU hW => ⟨rfl, by rw [hU], by rw [hU]; exact hPc, va_K.moved hW.alike hC.2.2.2.2.2.1, hDc.weaken (fun _ _ _ _ => trivial), aoa_moved hW.alike hao⟩⟩ rfl rfl hl.1 rfl (lv_room (by rw [ecat]; exact hcat)) hd hcs
  intro T hT X
  obtain ⟨v, st₀, t, T', Lc, h0, X', hLc, e1, e2, ⟨⟨ad', hp', hPr, hag, hv, hp1, hK1, hD1⟩, hz1, hk1⟩, stp⟩ := hrun T hT X
  cases hv
  rw [h0] at hz1 hk1
  rw [← e1] at hp1 hz1 hk1
  obtain ⟨n1, n2, n3, n4⟩ := x_newL_ne hnew
  have hidp := hids hp' hPr
  let ad2 : Nat → Nat → Nat := fun i => if i ∈ G then ad' i else ad i
  have c1 : ∀ i, i ∉ G → ad2 i = ad i := fun i hi => if_neg hi
  have c2 : ∀ i ∈ x_hid hp', ad2 i = ad' i := fun i hi => by
    rcases hidp i hi with rfl | h
    · rw [c1 _ hgG]; exact hag.symm
    · exact if_pos h
  have w0 : x_w tc ad2 hp = x_w tc ad hp := x_w_congr (fun i hi => c1 i (n4 i hi))
  have w9 : x_w tc ad2 hp' = x_w tc ad' hp' := x_w_congr c2
  have hS' : va_S A s.heap T'.heap (locs ++ Lc) := ⟨Nat.le_trans hS.1 hz1, fun q h1 h2 => by rw [hk1 q (Nat.lt_of_lt_of_le h1 hS.1) (fun z => h2 (hfree q z))]; exact hS.2.1 q h1 h2, fun q hq => by
      rcases List.mem_append.mp hq with h | h
      · exact hS.2.2 q h
      · exact hfree _ (hLc q h)⟩
  have hne0 : ∀ q ∈ x_w tc ad hp, q.1 ≠ ad g 0 := fun q hq e9 => dn3 q.1 (List.mem_map.mpr ⟨q, hq, rfl⟩) (ad g 0) (by rw [hone]; exact List.mem_cons_self) e9
  have hkeep : ∀ q ∈ x_w tc ad hp, ¬ va_A (x_w tc ad [(g, .inr (ci, fx))]) H.size q.1 := fun q hq hz9 => by
    rcases hz9 with ⟨j, e9, hj⟩ | h
    · rw [hone] at hj
      have := List.mem_of_getElem? hj
      rcases List.mem_cons.mp this with h | h
      · exact hne0 q hq (congrArg Prod.fst h)
      · cases h
    · have := (hP0 q hq).lt
      omega
  have hPn : va_P D x_cls (x_w tc ad2 (hp ++ hp')) T'.heap := by
    rw [x_w_app, w0, w9, w_P_iff]
    intro q hq
    rcases List.mem_append.mp hq with h | h
    · exact (hP0 q h).kept (hk1 _ (hP0 q h).lt (hkeep q h))
    · exact (w_P_iff.mp hp1) q h
  have hDn : va_D A (x_w tc ad2 (hp ++ hp')) := by
    have hD1' := w_D_iff.mp hD1
    rw [x_w_app, w0, w9, w_D_iff]
    refine ⟨?_, fun q hq => ?_⟩
    · rw [List.map_append, List.nodup_append]
      refine ⟨dn1, hD1'.1, fun a ha b hb e9 => ?_⟩
      obtain ⟨q, hq, rfl⟩ := List.mem_map.mp ha
      obtain ⟨q', hq', rfl⟩ := List.mem_map.mp hb
      have e9 : q.1 = q'.1 := e9
      have := hD1'.2 q' hq'
      rw [← e9] at this
      exact hkeep q hq this
    · rcases List.mem_append.mp hq with h | h
      · exact dA q (List.mem_append_left _ h)
      · exact hfree _ (hD1'.2 q h)
  have key := k hp' hPr ad2 T'.heap (locs ++ Lc) ls (fun i hi => by rw [c1 i (n1 i hi)]; exact ho i hi) hPn hDn hS' (by rw [x_lm_congr (ad := ad2) (ad' := ad) (fun i hi => c1 i (n2 i hi))]; exact hl) T' rfl X'
  obtain ⟨t2, a1, b1⟩ := key
  refine ⟨t2, stp t2 ?_, b1⟩
  rw [x_v_congr (ad := ad2) (ad' := ad) (fs := st) (fun i hi => c1 i (n3 i hi))] at a1
  exact a1
end XCN
