/-! ===== the abstract machine: values, cells, heaps ===== -/
abbrev xV : Type := Value ⊕ (Nat × Nat)
abbrev xA : Type := (Nat → Int32) ⊕ (Nat → Int64) ⊕ (Nat → Nat → Int32)
abbrev xC : Type := (Nat × Nat × Nat × xA) ⊕ (Nat × List xV)
abbrev xH : Type := List (Nat × xC)
abbrev xL : Type := List (Nat × xV)
abbrev x_cls : List vw_C := [(RX0, TX0, 11), (RX1, TX1, 8), (RX2, TX2, 7), (RX3, TX3, 10), (RX4, TX4, 4), (RX5, TX5, 36)]
abbrev x_t (tc : Nat → Nat) : List (ClassId × FieldType) := [(tc 0, .int), (tc 1, .long), (tc 2, .boolean), (tc 3, .array .int)]
def x_v (ad : Nat → Nat → Nat) : xV → Value
  | .inl v => v
  | .inr r => .ref (ad r.1 r.2)
def x_c (tc : Nat → Nat) (ad : Nat → Nat → Nat) (q : Nat × xC) : va_W := match q.2 with
  | .inl (t, n, _, .inl f) => [(ad q.1 0, .inl (tc t, n, .inl f))]
  | .inl (t, n, _, .inr (.inl f)) => [(ad q.1 0, .inl (tc t, n, .inr (.inl f)))]
  | .inl (t, n, k, .inr (.inr M)) => (ad q.1 0, .inl (tc t, n, .inr (.inr (.inr (.inr (fun j => if j < n then some (ad q.1 (j + 1)) else none)))))) :: (List.range n).map (fun j => (ad q.1 (j + 1), .inl (tc 0, k, .inl (M j))))
  | .inr (ci, fs) => [(ad q.1 0, .inr (ci, fs.map (x_v ad)))]
def x_w (tc : Nat → Nat) (ad : Nat → Nat → Nat) (hp : xH) : va_W := hp.flatMap (x_c tc ad)
def x_get : xH → Nat → Option xC
  | [], _ => none
  | q :: t, g => match Nat.beq q.1 g with
    | true => some q.2
    | false => x_get t g
def x_set : xH → Nat → xC → xH
  | [], _, _ => []
  | q :: t, g, c => match Nat.beq q.1 g with
    | true => (q.1, c) :: t
    | false => q :: x_set t g c
theorem x_at : ∀ {hp : xH} {g : Nat} {c : xC}, x_get hp g = some c → ∃ pre post : xH, hp = pre ++ (g, c) :: post ∧ ∀ c', x_set hp g c' = pre ++ (g, c') :: post
  | [], g, c, h => by cases h
  | q :: t, g, c, h => by
    unfold x_get at h
    cases hb : Nat.beq q.1 g with
    | true =>
      rw [hb] at h
      cases h
      have e := Nat.eq_of_beq_eq_true hb
      refine ⟨[], t, by rw [← e]; rfl, fun c' => ?_⟩
      unfold x_set
      rw [hb, ← e]
      rfl
    | false =>
      rw [hb] at h
      obtain ⟨pre, post, e1, e2⟩ := x_at h
      refine ⟨q :: pre, post, by rw [e1]; rfl, fun c' => ?_⟩
      unfold x_set
      rw [hb]
      show q :: x_set t g c' = _
      rw [e2 c']
      rfl
theorem x_w_app (tc : Nat → Nat) (ad : Nat → Nat → Nat) (a b : xH) : x_w tc ad (a ++ b) = x_w tc ad a ++ x_w tc ad b := by simp [x_w]
theorem x_w_cons (tc : Nat → Nat) (ad : Nat → Nat → Nat) (q : Nat × xC) (b : xH) : x_w tc ad (q :: b) = x_c tc ad q ++ x_w tc ad b := by simp [x_w]
theorem x_mid {α : Type} (a b : List α) (x : α) : (a ++ x :: b)[a.length]? = some x := by simp
theorem x_midset {α : Type} (a b : List α) (x y : α) : (a ++ x :: b).set a.length y = a ++ y :: b := by simp
/-- a cell that is one place of the world -/
theorem x_one {tc : Nat → Nat} {ad : Nat → Nat → Nat} {hp : xH} {g : Nat} {c : xC} {e : Nat × va_E} (h : x_get hp g = some c) (hc : x_c tc ad (g, c) = [e]) :
    ∃ k : Nat, (x_w tc ad hp)[k]? = some e ∧ ∀ (c' : xC) (e' : Nat × va_E), x_c tc ad (g, c') = [e'] → (x_w tc ad hp).set k e' = x_w tc ad (x_set hp g c') := by
  obtain ⟨pre, post, e1, e2⟩ := x_at h
  refine ⟨(x_w tc ad pre).length, ?_, fun c' e' h' => ?_⟩
  · rw [e1, x_w_app, x_w_cons, hc]
    exact x_mid _ _ _
  · rw [e2 c', e1, x_w_app, x_w_cons, hc, x_w_app, x_w_cons, h']
    exact x_midset _ _ _ _
/-- a row of a grid, changed -/
def x_row (M : Nat → Nat → Int32) (j : Nat) (f : Nat → Int32) : Nat → Nat → Int32 := fun a b => if a = j then f b else M a b
theorem x_rowset (tc : Nat → Nat) (ad : Nat → Nat → Nat) (g n k j : Nat) (M : Nat → Nat → Int32) (f : Nat → Int32) (hj : j < n) :
    (((List.range n).map (fun j => ((ad g (j + 1), .inl (tc 0, k, .inl (M j))) : Nat × va_E))).set j (ad g (j + 1), .inl (tc 0, k, .inl f))) = (List.range n).map (fun i => ((ad g (i + 1), .inl (tc 0, k, .inl (x_row M j f i))) : Nat × va_E)) := by
  apply List.ext_getElem?
  intro i
  by_cases hi : i = j
  · subst hi
    rw [List.getElem?_set_self (by simpa using hj)]
    have e : x_row M i f i = f := by
      funext b
      simp [x_row]
    rw [List.getElem?_map, List.getElem?_range hj]
    simp only [Option.map_some, e]
  · rw [List.getElem?_set_ne (Ne.symm hi)]
    simp only [List.getElem?_map]
    cases hr : (List.range n)[i]? with
    | none => rfl
    | some z =>
      have hz : z = i := by
        have hlt := (List.getElem?_eq_some_iff.mp hr).1
        rw [List.length_range] at hlt
        rw [List.getElem?_range hlt] at hr
        exact (Option.some.inj hr).symm
      subst hz
      have e : x_row M j f z = M z := by
        funext b
        simp [x_row, hi]
      simp only [Option.map_some, e]
theorem x_grid {tc : Nat → Nat} {ad : Nat → Nat → Nat} {hp : xH} {g t n k : Nat} {M : Nat → Nat → Int32} (h : x_get hp g = some (.inl (t, n, k, .inr (.inr M)))) {j : Nat} (hj : j < n) :
    ∃ q : Nat, (x_w tc ad hp)[q]? = some ((ad g (j + 1), .inl (tc 0, k, .inl (M j))) : Nat × va_E) ∧ ∀ f : Nat → Int32, (x_w tc ad hp).set q (ad g (j + 1), .inl (tc 0, k, .inl f)) = x_w tc ad (x_set hp g (.inl (t, n, k, .inr (.inr (x_row M j f))))) := by
  obtain ⟨pre, post, e1, e2⟩ := x_at h
  refine ⟨(x_w tc ad pre).length + (j + 1), ?_, fun f => ?_⟩
  · rw [e1, x_w_app, x_w_cons]
    rw [List.getElem?_append_right (by omega), show (x_w tc ad pre).length + (j + 1) - (x_w tc ad pre).length = j + 1 by omega]
    show ((_ :: List.map _ _) ++ _)[j + 1]? = _
    rw [List.cons_append, List.getElem?_cons_succ, List.getElem?_append_left (by simpa using hj), List.getElem?_map, List.getElem?_range hj]
    rfl
  · rw [e2, e1, x_w_app, x_w_cons, x_w_app, x_w_cons]
    rw [List.set_append_right _ _ (by omega), show (x_w tc ad pre).length + (j + 1) - (x_w tc ad pre).length = j + 1 by omega]
    congr 1
    show ((_ :: List.map _ _) ++ _).set (j + 1) _ = (_ :: List.map _ _) ++ _
    rw [List.cons_append, List.set_cons_succ, List.set_append_left _ _ (by simpa using hj), x_rowset tc ad g n k j M f hj]
    rfl
theorem x_outer {tc : Nat → Nat} {ad : Nat → Nat → Nat} {hp : xH} {g t n k : Nat} {M : Nat → Nat → Int32} (h : x_get hp g = some (.inl (t, n, k, .inr (.inr M)))) :
    ∃ q : Nat, (x_w tc ad hp)[q]? = some ((ad g 0, .inl (tc t, n, .inr (.inr (.inr (.inr (fun j => if j < n then some (ad g (j + 1)) else none)))))) : Nat × va_E) := by
  obtain ⟨pre, post, e1, e2⟩ := x_at h
  refine ⟨(x_w tc ad pre).length, ?_⟩
  rw [e1, x_w_app, x_w_cons]
  exact x_mid _ _ _
/-! locals -/
def x_lk : xL → Nat → Option xV
  | [], _ => none
  | q :: t, i => match Nat.beq q.1 i with
    | true => some q.2
    | false => x_lk t i
theorem x_lk_mem : ∀ {lv : xL} {i : Nat} {v : xV}, x_lk lv i = some v → (i, v) ∈ lv
  | [], _, _, h => by cases h
  | q :: t, i, v, h => by
    unfold x_lk at h
    cases hb : Nat.beq q.1 i with
    | true =>
      rw [hb] at h
      cases h
      have e := Nat.eq_of_beq_eq_true hb
      rw [← e]
      exact List.mem_cons_self
    | false =>
      rw [hb] at h
      exact List.mem_cons_of_mem _ (x_lk_mem h)
def x_cat : xV → Nat
  | .inl v => v.category
  | .inr _ => 1
theorem x_cat_v (ad : Nat → Nat → Nat) (v : xV) : (x_v ad v).category = x_cat v := by cases v <;> rfl
def x_ins (i : Nat) (v : xV) : xL → xL
  | [] => [(i, v)]
  | q :: t => match Nat.ble i q.1 with
    | true => (i, v) :: q :: t
    | false => q :: x_ins i v t
theorem x_ins_mem {i : Nat} {v : xV} : ∀ {l : xL} {q : Nat × xV}, q ∈ x_ins i v l → q = (i, v) ∨ q ∈ l
  | [], q, h => by
    rcases List.mem_cons.mp h with h | h
    · exact Or.inl h
    · cases h
  | a :: t, q, h => by
    unfold x_ins at h
    cases hb : Nat.ble i a.1 with
    | true =>
      rw [hb] at h
      rcases List.mem_cons.mp h with h | h
      · exact Or.inl h
      · exact Or.inr h
    | false =>
      rw [hb] at h
      rcases List.mem_cons.mp h with h | h
      · exact Or.inr (by rw [h]; exact List.mem_cons_self)
      · rcases x_ins_mem h with h | h
        · exact Or.inl h
        · exact Or.inr (List.mem_cons_of_mem _ h)
def x_f1 (i : Nat) : xL → xL
  | [] => []
  | q :: t => match (Nat.beq q.1 i || (Nat.beq (q.1 + 1) i && Nat.beq (x_cat q.2) 2)) with
    | true => x_f1 i t
    | false => q :: x_f1 i t
def x_f2 (i : Nat) : xL → xL
  | [] => []
  | q :: t => match (Nat.beq q.1 i || (Nat.beq q.1 (i + 1) || (Nat.beq (q.1 + 1) i && Nat.beq (x_cat q.2) 2))) with
    | true => x_f2 i t
    | false => q :: x_f2 i t
def x_s1 (lv : xL) (i : Nat) (v : xV) : xL := x_ins i v (x_f1 i lv)
def x_s2 (lv : xL) (i : Nat) (v : xV) : xL := x_ins i v (x_f2 i lv)
theorem x_f1_mem {i : Nat} : ∀ {l : xL} {q : Nat × xV}, q ∈ x_f1 i l → q ∈ l ∧ ¬ q.1 = i ∧ ¬ (q.1 + 1 = i ∧ x_cat q.2 = 2)
  | [], q, h => by cases h
  | a :: t, q, h => by
    unfold x_f1 at h
    cases hb : (Nat.beq a.1 i || (Nat.beq (a.1 + 1) i && Nat.beq (x_cat a.2) 2)) with
    | true =>
      rw [hb] at h
      have := x_f1_mem h
      exact ⟨List.mem_cons_of_mem _ this.1, this.2⟩
    | false =>
      rw [hb] at h
      rcases List.mem_cons.mp h with h | h
      · subst h
        refine ⟨List.mem_cons_self, fun e => ?_, fun e => ?_⟩
        · rw [e, Nat.beq_refl] at hb
          cases hb
        · rw [e.1, e.2, Nat.beq_refl] at hb
          simp at hb
      · have := x_f1_mem h
        exact ⟨List.mem_cons_of_mem _ this.1, this.2⟩
theorem x_f2_mem {i : Nat} : ∀ {l : xL} {q : Nat × xV}, q ∈ x_f2 i l → q ∈ l ∧ ¬ q.1 = i ∧ ¬ q.1 = i + 1 ∧ ¬ (q.1 + 1 = i ∧ x_cat q.2 = 2)
  | [], q, h => by cases h
  | a :: t, q, h => by
    unfold x_f2 at h
    cases hb : (Nat.beq a.1 i || (Nat.beq a.1 (i + 1) || (Nat.beq (a.1 + 1) i && Nat.beq (x_cat a.2) 2))) with
    | true =>
      rw [hb] at h
      have := x_f2_mem h
      exact ⟨List.mem_cons_of_mem _ this.1, this.2⟩
    | false =>
      rw [hb] at h
      rcases List.mem_cons.mp h with h | h
      · subst h
        refine ⟨List.mem_cons_self, fun e => ?_, fun e => ?_, fun e => ?_⟩
        · rw [e, Nat.beq_refl] at hb
          cases hb
        · rw [e, Nat.beq_refl] at hb
          simp at hb
        · rw [e.1, e.2, Nat.beq_refl] at hb
          simp at hb
      · have := x_f2_mem h
        exact ⟨List.mem_cons_of_mem _ this.1, this.2⟩
abbrev x_lm (ad : Nat → Nat → Nat) (lv : xL) : List (Nat × Value) := lv.map (fun q => (q.1, x_v ad q.2))
theorem x_has_get {ls : Array Slot} {nL : Nat} {ad : Nat → Nat → Nat} {lv : xL} (h : lv_has ls nL (x_lm ad lv)) {i : Nat} {v : xV} (hv : x_lk lv i = some v) : ls[i]? = some (.val (x_v ad v)) :=
  h.2.2 (i, x_v ad v) (List.mem_map.mpr ⟨(i, v), x_lk_mem hv, rfl⟩)
theorem x_has_of {ls : Array Slot} {nL : Nat} {ad : Nat → Nat → Nat} {lv : xL} {l : List (Nat × Value)} (h : lv_has ls nL l) (hs : ∀ q ∈ lv, (q.1, x_v ad q.2) ∈ l) : lv_has ls nL (x_lm ad lv) :=
  ⟨h.1, h.2.1, fun q hq => by
    obtain ⟨a, ha, rfl⟩ := List.mem_map.mp hq
    exact h.2.2 _ (hs a ha)⟩
theorem x_has_s1 {ls : Array Slot} {nL : Nat} {ad : Nat → Nat → Nat} {lv : xL} {i : Nat} {v : xV} (h : lv_has ls nL ((i, x_v ad v) :: (x_lm ad lv).filter (fun q => !(q.1 == i) && !(q.1 + 1 == i && q.2.category == 2)))) : lv_has ls nL (x_lm ad (x_s1 lv i v)) := by
  refine x_has_of h (fun q hq => ?_)
  rcases x_ins_mem hq with rfl | hq
  · exact List.mem_cons_self
  · obtain ⟨h1, h2, h3⟩ := x_f1_mem hq
    refine List.mem_cons_of_mem _ (List.mem_filter.mpr ⟨List.mem_map.mpr ⟨q, h1, rfl⟩, ?_⟩)
    simp only [x_cat_v]
    simp [h2]
    omega
theorem x_has_s2 {ls : Array Slot} {nL : Nat} {ad : Nat → Nat → Nat} {lv : xL} {i : Nat} {v : xV} (h : lv_has ls nL ((i, x_v ad v) :: (x_lm ad lv).filter (fun q => !(q.1 == i) && (!(q.1 == i + 1) && !(q.1 + 1 == i && q.2.category == 2))))) : lv_has ls nL (x_lm ad (x_s2 lv i v)) := by
  refine x_has_of h (fun q hq => ?_)
  rcases x_ins_mem hq with rfl | hq
  · exact List.mem_cons_self
  · obtain ⟨h1, h2, h4, h3⟩ := x_f2_mem hq
    refine List.mem_cons_of_mem _ (List.mem_filter.mpr ⟨List.mem_map.mpr ⟨q, h1, rfl⟩, ?_⟩)
    simp only [x_cat_v]
    simp [h2, h4]
    omega
/-- only the locals of these slots -/
def x_keep (ks : List Nat) (lv : xL) : xL := lv.filter (fun q => ks.elem q.1)
theorem x_has_keep {ls : Array Slot} {nL : Nat} {ad : Nat → Nat → Nat} {lv : xL} (ks : List Nat) (h : lv_has ls nL (x_lm ad lv)) : lv_has ls nL (x_lm ad (x_keep ks lv)) :=
  x_has_of h (fun q hq => List.mem_map.mpr ⟨q, (List.mem_filter.mp hq).1, rfl⟩)
/-! ===== what the machine does from an abstract state ===== -/
section XG
variable (p : Program) (l : Launch) (e : Env) (R : Room) (s : State) (m : MethodId) (args : Array Value) (below : List Frame) (meth : Method) (c : Code) (Q : State → Prop) (D : va_G) (tc : Nat → Nat) (A : Nat → Prop) (nL : Nat) (OK : (Nat → Nat → Nat) → Prop)
/-- from this pc, locals, stack and heap the machine comes to Q -/
def GG (nc ns pc : Nat) (lv : xL) (st : List xV) (hp : xH) : Prop :=
  ∀ (ad : Nat → Nat → Nat) (H : Heap) (locs : List Loc) (ls : Array Slot), OK ad → va_P D x_cls (x_w tc ad hp) H → va_D A (x_w tc ad hp) → va_S A s.heap H locs → lv_has ls nL (x_lm ad lv) →
    W p l e R s m args below meth c H locs nc ns Q (F0 m pc ls (st.map (x_v ad)))
end XG
