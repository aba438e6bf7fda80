/-! ===== contracts by an abstract walk: K is any property that a run keeps ===== -/
def KR (l : Launch) (mth : Nat → xM) (code : List xI) (hc : xH) (P : Option xV → xH → Prop) (K : Nat → xL → List xV → xH → Prop) : Prop :=
  ∀ (cuts : List (Nat × List Nat)) (n t : Nat) (lv : xL) (st : List xV) (hp : xH), x_run l mth code cuts K (fun r' hp' => P r' hp' ∧ x_shp hp' = x_shp hc) n (x_to t code) lv st hp → K t lv st hp
theorem ev_all {l : Launch} {mth : Nat → xM} {z : xM} {code : List xI} {as : List xV} {hc : xH} {P : Option xV → xH → Prop} (hok : x_okM mth z code = true) (hy : plainName z.1.cls = true) (hw : x_words as ≤ z.2.2.1)
    (h : ∀ K : Nat → xL → List xV → xH → Prop, KR l mth code hc P K → K 0 (x_la 0 as) [] hc) : Ev l z as hc P := by
  refine ev_of hy hw ?_
  intro p e s m args below meth c D tc A ad0 hC hrt
  refine h _ (fun cuts n t lv st hp hrun => ?_)
  have h2 := x_walk (cuts := cuts) hok hC hrt n (x_to_suf t code) (fun _ _ _ _ h => h) hrun
  cases hq : x_to t code with
  | nil =>
    rw [hq] at hrun
    cases n with
    | zero => exact hrun.elim
    | succ n => exact hrun.elim
  | cons en r' =>
    rw [hq] at h2
    have h3 := x_to_pc t code en r' hq
    rw [← h3]
    exact h2
/-- a method without a loop -/
theorem ev_run {l : Launch} {mth : Nat → xM} {z : xM} {code : List xI} {as : List xV} {hc : xH} {P : Option xV → xH → Prop} (hok : x_okM mth z code = true) (hy : plainName z.1.cls = true) (hw : x_words as ≤ z.2.2.1) (n : Nat)
    (h : x_run l mth code [] (fun _ _ _ _ => False) (fun r' hp' => P r' hp' ∧ x_shp hp' = x_shp hc) n (x_to 0 code) (x_la 0 as) [] hc) : Ev l z as hc P := by
  refine ev_of hy hw ?_
  intro p e s m args below meth c D tc A ad0 hC hrt
  have h2 := x_walk (p := p) (e := e) (s := s) (below := below) (D := D) (tc := tc) (A := A) (ad0 := ad0) (cuts := []) (K := fun _ _ _ _ => False) hok hC hrt n (x_to_suf 0 code) (fun _ _ _ _ h => h.elim) h
  cases hq : x_to 0 code with
  | nil =>
    rw [hq] at h
    cases n with
    | zero => exact h.elim
    | succ n => exact h.elim
  | cons en r' =>
    rw [hq] at h2
    have h3 : x_pc (en :: r') = 0 := x_to_pc 0 code en r' hq
    rw [h3] at h2
    exact h2
def b2i (b : Bool) : Int32 := match b with
  | true => 1
  | false => 0
theorem b2i_01 (b : Bool) : b2i b = 0 ∨ b2i b = 1 := by cases b <;> simp [b2i]
abbrev vI (x : Int32) : xV := .inl (.int x)
abbrev vL (x : Int64) : xV := .inl (.long x)
