/-! ===== the runner: pc, op, instruction, length, a, b, c, constant, targets ===== -/
abbrev xI : Type := Nat × Nat × Instr × Nat × Nat × Nat × Nat × Value × List Nat
def x_to (t : Nat) : List xI → List xI
  | [] => []
  | en :: r => match Nat.beq en.1 t with
    | true => en :: r
    | false => x_to t r
def x_cs : List xV → Nat
  | [] => 0
  | v :: vs => x_cat v + x_cs vs
def x_bi (a : Nat) (x y : Int32) (P P' : Prop) : Prop := match a with
  | 0 => (x = y → P) ∧ (¬ (x = y) → P')
  | 1 => (¬ (x = y) → P) ∧ (x = y → P')
  | 2 => (x < y → P) ∧ (¬ (x < y) → P')
  | 3 => (y ≤ x → P) ∧ (¬ (y ≤ x) → P')
  | 4 => (y < x → P) ∧ (¬ (y < x) → P')
  | _ => (x ≤ y → P) ∧ (¬ (x ≤ y) → P')
def x_b0 (a : Nat) (x : Int32) (P P' : Prop) : Prop := match a with
  | 0 => (x = 0 → P) ∧ (¬ (x = 0) → P')
  | 1 => (¬ (x = 0) → P) ∧ (x = 0 → P')
  | 2 => (x < 0 → P) ∧ (¬ (x < 0) → P')
  | 3 => (0 ≤ x → P) ∧ (¬ (0 ≤ x) → P')
  | 4 => (0 < x → P) ∧ (¬ (0 < x) → P')
  | _ => (x ≤ 0 → P) ∧ (¬ (x ≤ 0) → P')
def x_bl (a : Nat) (x y : Int64) (P P' : Prop) : Prop := match a with
  | 0 => (x = y → P) ∧ (¬ (x = y) → P')
  | 1 => (¬ (x = y) → P) ∧ (x = y → P')
  | 2 => (x < y → P) ∧ (¬ (x < y) → P')
  | 3 => (y ≤ x → P) ∧ (¬ (y ≤ x) → P')
  | 4 => (y < x → P) ∧ (¬ (y < x) → P')
  | _ => (x ≤ y → P) ∧ (¬ (x ≤ y) → P')
def x_cj (a : Nat) : Jvm.ClassFile.Cond := match a with
  | 0 => .eq
  | 1 => .ne
  | 2 => .lt
  | 3 => .ge
  | 4 => .gt
  | _ => .le
def x_ib (a : Nat) (x y : Int32) : Int32 := match a with
  | 0 => x + y
  | 1 => x - y
  | 2 => x * y
  | 3 => x &&& y
  | 4 => x ||| y
  | 5 => x ^^^ y
  | 6 => x <<< (y &&& 31)
  | 7 => x >>> (y &&& 31)
  | _ => (x.toUInt32 >>> (y.toUInt32 &&& Int32.toUInt32 31)).toInt32
def x_ii (a : Nat) : Instr := match a with
  | 0 => .iadd
  | 1 => .isub
  | 2 => .imul
  | 3 => .iand
  | 4 => .ior
  | 5 => .ixor
  | 6 => .ishl
  | 7 => .ishr
  | _ => .iushr
def x_lb (a : Nat) (x y : Int64) : Int64 := match a with
  | 0 => x + y
  | 1 => x - y
  | _ => x * y
def x_li (a : Nat) : Instr := match a with
  | 0 => .ladd
  | 1 => .lsub
  | _ => .lmul
def x_tsw (x : Int32) (go : Nat → Prop) : Nat → List Nat → Prop
  | _, [] => True
  | j, t :: ts => (x.toInt = (j : Int) → go t) ∧ x_tsw x go (j + 1) ts
def x_o0 (l : Launch) (mth : Nat → xM) (code : List xI) (ret : Option xV → xH → Prop) (go : List xI → xL → List xV → xH → Prop) (a b c : Nat) (val : Value) (ts : List Nat) (rest : List xI) (lv : xL) (st : List xV) (hp : xH) : Prop := go rest lv (.inl val :: st) hp
def x_o1 (l : Launch) (mth : Nat → xM) (code : List xI) (ret : Option xV → xH → Prop) (go : List xI → xL → List xV → xH → Prop) (a b c : Nat) (val : Value) (ts : List Nat) (rest : List xI) (lv : xL) (st : List xV) (hp : xH) : Prop := match b, x_lk lv a with
      | 0, some (.inl (.int x)) => go rest lv (.inl (.int x) :: st) hp
      | 1, some (.inl (.long x)) => go rest lv (.inl (.long x) :: st) hp
      | 2, some (.inr r) => go rest lv (.inr r :: st) hp
      | _, _ => False
def x_o2 (l : Launch) (mth : Nat → xM) (code : List xI) (ret : Option xV → xH → Prop) (go : List xI → xL → List xV → xH → Prop) (a b c : Nat) (val : Value) (ts : List Nat) (rest : List xI) (lv : xL) (st : List xV) (hp : xH) : Prop := match b, st with
      | 0, .inl (.int x) :: st' => go rest (x_s1 lv a (.inl (.int x))) st' hp
      | 1, .inl (.long x) :: st' => go rest (x_s2 lv a (.inl (.long x))) st' hp
      | 2, .inr r :: st' => go rest (x_s1 lv a (.inr r)) st' hp
      | _, _ => False
def x_o3 (l : Launch) (mth : Nat → xM) (code : List xI) (ret : Option xV → xH → Prop) (go : List xI → xL → List xV → xH → Prop) (a b c : Nat) (val : Value) (ts : List Nat) (rest : List xI) (lv : xL) (st : List xV) (hp : xH) : Prop := match st with
      | .inl (.int y) :: .inl (.int x) :: st' => go rest lv (.inl (.int (x_ib a x y)) :: st') hp
      | _ => False
def x_o4 (l : Launch) (mth : Nat → xM) (code : List xI) (ret : Option xV → xH → Prop) (go : List xI → xL → List xV → xH → Prop) (a b c : Nat) (val : Value) (ts : List Nat) (rest : List xI) (lv : xL) (st : List xV) (hp : xH) : Prop := match st with
      | .inl (.long y) :: .inl (.long x) :: st' => go rest lv (.inl (.long (x_lb a x y)) :: st') hp
      | _ => False
def x_o5 (l : Launch) (mth : Nat → xM) (code : List xI) (ret : Option xV → xH → Prop) (go : List xI → xL → List xV → xH → Prop) (a b c : Nat) (val : Value) (ts : List Nat) (rest : List xI) (lv : xL) (st : List xV) (hp : xH) : Prop := match a, st with
      | 0, .inl (.int y) :: .inl (.int x) :: st' => ¬ y = 0 ∧ go rest lv (.inl (.int (x / y)) :: st') hp
      | 1, .inl (.int y) :: .inl (.int x) :: st' => ¬ y = 0 ∧ go rest lv (.inl (.int (x - x / y * y)) :: st') hp
      | 2, .inl (.long y) :: .inl (.long x) :: st' => ¬ y = 0 ∧ go rest lv (.inl (.long (x / y)) :: st') hp
      | 3, .inl (.long y) :: .inl (.long x) :: st' => ¬ y = 0 ∧ go rest lv (.inl (.long (x - x / y * y)) :: st') hp
      | _, _ => False
def x_o6 (l : Launch) (mth : Nat → xM) (code : List xI) (ret : Option xV → xH → Prop) (go : List xI → xL → List xV → xH → Prop) (a b c : Nat) (val : Value) (ts : List Nat) (rest : List xI) (lv : xL) (st : List xV) (hp : xH) : Prop := match a, st with
      | 0, .inl (.int x) :: st' => go rest lv (.inl (.long x.toInt64) :: st') hp
      | 1, .inl (.long x) :: st' => go rest lv (.inl (.int x.toInt32) :: st') hp
      | 2, .inl (.long x) :: st' => go rest lv (.inl (.long (-x)) :: st') hp
      | _, _ => False
def x_o7 (l : Launch) (mth : Nat → xM) (code : List xI) (ret : Option xV → xH → Prop) (go : List xI → xL → List xV → xH → Prop) (a b c : Nat) (val : Value) (ts : List Nat) (rest : List xI) (lv : xL) (st : List xV) (hp : xH) : Prop := match st with
      | .inl (.int y) :: .inl (.int x) :: st' => x_bi a x y (go (x_to b code) lv st' hp) (go rest lv st' hp)
      | _ => False
def x_o8 (l : Launch) (mth : Nat → xM) (code : List xI) (ret : Option xV → xH → Prop) (go : List xI → xL → List xV → xH → Prop) (a b c : Nat) (val : Value) (ts : List Nat) (rest : List xI) (lv : xL) (st : List xV) (hp : xH) : Prop := match st with
      | .inl (.int x) :: st' => x_b0 a x (go (x_to b code) lv st' hp) (go rest lv st' hp)
      | _ => False
def x_o9 (l : Launch) (mth : Nat → xM) (code : List xI) (ret : Option xV → xH → Prop) (go : List xI → xL → List xV → xH → Prop) (a b c : Nat) (val : Value) (ts : List Nat) (rest : List xI) (lv : xL) (st : List xV) (hp : xH) : Prop := match st, rest with
      | .inl (.long y) :: .inl (.long x) :: st', _ :: rest' => x_bl a x y (go (x_to b code) lv st' hp) (go rest' lv st' hp)
      | _, _ => False
def x_o10 (l : Launch) (mth : Nat → xM) (code : List xI) (ret : Option xV → xH → Prop) (go : List xI → xL → List xV → xH → Prop) (a b c : Nat) (val : Value) (ts : List Nat) (rest : List xI) (lv : xL) (st : List xV) (hp : xH) : Prop := go (x_to b code) lv st hp
def x_o11 (l : Launch) (mth : Nat → xM) (code : List xI) (ret : Option xV → xH → Prop) (go : List xI → xL → List xV → xH → Prop) (a b c : Nat) (val : Value) (ts : List Nat) (rest : List xI) (lv : xL) (st : List xV) (hp : xH) : Prop := match st with
      | .inr (g, 0) :: st' => (match x_get hp g with
        | some (.inr (ci, fs)) => (match Nat.beq ci a, fs[b]? with
          | true, some v => go rest lv (v :: st') hp
          | _, _ => False)
        | _ => False)
      | _ => False
def x_o12 (l : Launch) (mth : Nat → xM) (code : List xI) (ret : Option xV → xH → Prop) (go : List xI → xL → List xV → xH → Prop) (a b c : Nat) (val : Value) (ts : List Nat) (rest : List xI) (lv : xL) (st : List xV) (hp : xH) : Prop := match st with
      | v :: .inr (g, 0) :: st' => (match x_get hp g with
        | some (.inr (ci, fs)) => (match Nat.beq ci a, Nat.ble (b + 1) fs.length, c, v with
          | true, true, 0, .inl (.int x) => go rest lv st' (x_set hp g (.inr (a, fs.set b (.inl (.int x)))))
          | true, true, 1, .inl (.long x) => go rest lv st' (x_set hp g (.inr (a, fs.set b (.inl (.long x)))))
          | true, true, 2, .inl (.int x) => (x = 0 ∨ x = 1) ∧ go rest lv st' (x_set hp g (.inr (a, fs.set b (.inl (.int x)))))
          | _, _, _, _ => False)
        | _ => False)
      | _ => False
def x_o13 (l : Launch) (mth : Nat → xM) (code : List xI) (ret : Option xV → xH → Prop) (go : List xI → xL → List xV → xH → Prop) (a b c : Nat) (val : Value) (ts : List Nat) (rest : List xI) (lv : xL) (st : List xV) (hp : xH) : Prop := match st with
      | .inl (.int i) :: .inr (g, j) :: st' => (match a, j, x_get hp g with
        | 0, 0, some (.inl (0, n, _, .inl f)) => vp_in i n ∧ go rest lv (.inl (.int (f i.toNatClampNeg)) :: st') hp
        | 0, j + 1, some (.inl (_, n, z, .inr (.inr M))) => j < n ∧ vp_in i z ∧ go rest lv (.inl (.int (M j i.toNatClampNeg)) :: st') hp
        | 1, 0, some (.inl (1, n, _, .inr (.inl f))) => vp_in i n ∧ go rest lv (.inl (.long (f i.toNatClampNeg)) :: st') hp
        | 2, 0, some (.inl (2, n, _, .inl f)) => vp_in i n ∧ go rest lv (.inl (.int (f i.toNatClampNeg)) :: st') hp
        | 3, 0, some (.inl (3, n, _, .inr (.inr _))) => vp_in i n ∧ go rest lv (.inr (g, i.toNatClampNeg + 1) :: st') hp
        | _, _, _ => False)
      | _ => False
def x_o14 (l : Launch) (mth : Nat → xM) (code : List xI) (ret : Option xV → xH → Prop) (go : List xI → xL → List xV → xH → Prop) (a b c : Nat) (val : Value) (ts : List Nat) (rest : List xI) (lv : xL) (st : List xV) (hp : xH) : Prop := match st with
      | v :: .inl (.int i) :: .inr (g, j) :: st' => (match a, j, x_get hp g, v with
        | 0, 0, some (.inl (0, n, z, .inl f)), .inl (.int x) => vp_in i n ∧ go rest lv st' (x_set hp g (.inl (0, n, z, .inl (upd f i.toNatClampNeg x))))
        | 0, j + 1, some (.inl (t, n, z, .inr (.inr M))), .inl (.int x) => j < n ∧ vp_in i z ∧ go rest lv st' (x_set hp g (.inl (t, n, z, .inr (.inr (x_row M j (upd (M j) i.toNatClampNeg x))))))
        | 1, 0, some (.inl (1, n, z, .inr (.inl f))), .inl (.long x) => vp_in i n ∧ go rest lv st' (x_set hp g (.inl (1, n, z, .inr (.inl (vp_updL f i.toNatClampNeg x)))))
        | 2, 0, some (.inl (2, n, z, .inl f)), .inl (.int x) => vp_in i n ∧ (x = 0 ∨ x = 1) ∧ go rest lv st' (x_set hp g (.inl (2, n, z, .inl (upd f i.toNatClampNeg x))))
        | _, _, _, _ => False)
      | _ => False
def x_o15 (l : Launch) (mth : Nat → xM) (code : List xI) (ret : Option xV → xH → Prop) (go : List xI → xL → List xV → xH → Prop) (a b c : Nat) (val : Value) (ts : List Nat) (rest : List xI) (lv : xL) (st : List xV) (hp : xH) : Prop := match a, st with
      | 0, v :: st' => (match x_cat v with
        | 1 => go rest lv (v :: v :: st') hp
        | _ => False)
      | 1, v :: w :: st' => (match x_cat v, x_cat w with
        | 1, 1 => go rest lv (v :: w :: v :: w :: st') hp
        | _, _ => False)
      | 2, v :: st' => (match x_cat v with
        | 1 => go rest lv st' hp
        | _ => False)
      | _, _ => False
def x_o16 (l : Launch) (mth : Nat → xM) (code : List xI) (ret : Option xV → xH → Prop) (go : List xI → xL → List xV → xH → Prop) (a b c : Nat) (val : Value) (ts : List Nat) (rest : List xI) (lv : xL) (st : List xV) (hp : xH) : Prop := match x_lk lv a, val with
      | some (.inl (.int x)), .int y => go rest (x_s1 lv a (.inl (.int (x + y)))) st hp
      | _, _ => False
def x_o17 (l : Launch) (mth : Nat → xM) (code : List xI) (ret : Option xV → xH → Prop) (go : List xI → xL → List xV → xH → Prop) (a b c : Nat) (val : Value) (ts : List Nat) (rest : List xI) (lv : xL) (st : List xV) (hp : xH) : Prop := match st.drop b with
      | .inr (g, 0) :: st' => (match x_get hp g with
        | some (.inr (ci, _)) => (match Nat.beq ci c, Nat.ble (x_cs st') 8 with
          | true, true => ∃ (fp : List Nat) (P : Option xV → xH → Prop), Ev l (mth a) (.inr (g, 0) :: (st.take b).reverse) (x_sel fp hp) P ∧ ∀ (r : Option xV) (hc' : xH), P r hc' → x_shp hc' = x_shp (x_sel fp hp) → go rest lv (r.toList ++ st') (x_upd hc' hp)
          | _, _ => False)
        | _ => False)
      | _ => False
def x_o18 (l : Launch) (mth : Nat → xM) (code : List xI) (ret : Option xV → xH → Prop) (go : List xI → xL → List xV → xH → Prop) (a b c : Nat) (val : Value) (ts : List Nat) (rest : List xI) (lv : xL) (st : List xV) (hp : xH) : Prop := match Nat.ble b st.length, Nat.ble (x_cs (st.drop b)) 8 with
      | true, true => ∃ (fp : List Nat) (P : Option xV → xH → Prop), Ev l (mth a) (st.take b).reverse (x_sel fp hp) P ∧ ∀ (r : Option xV) (hc' : xH), P r hc' → x_shp hc' = x_shp (x_sel fp hp) → go rest lv (r.toList ++ st.drop b) (x_upd hc' hp)
      | _, _ => False
def x_o19 (l : Launch) (mth : Nat → xM) (code : List xI) (ret : Option xV → xH → Prop) (go : List xI → xL → List xV → xH → Prop) (a b c : Nat) (val : Value) (ts : List Nat) (rest : List xI) (lv : xL) (st : List xV) (hp : xH) : Prop := match a, st with
      | 0, [] => ret none hp
      | 1, [.inl (.int v)] => ret (some (.inl (.int v))) hp
      | 2, [.inl (.long v)] => ret (some (.inl (.long v))) hp
      | 3, [.inl (.int v)] => (v = 0 ∨ v = 1) ∧ ret (some (.inl (.int v))) hp
      | _, _ => False
def x_o20 (l : Launch) (mth : Nat → xM) (code : List xI) (ret : Option xV → xH → Prop) (go : List xI → xL → List xV → xH → Prop) (a b c : Nat) (val : Value) (ts : List Nat) (rest : List xI) (lv : xL) (st : List xV) (hp : xH) : Prop := match st with
      | .inl (.int x) :: st' => x_tsw x (fun t => go (x_to t code) lv st' hp) 0 ts ∧ (x.toInt < 0 ∨ ((ts.length : Int) - 1) < x.toInt → go (x_to b code) lv st' hp)
      | _ => False
def x_o21 (l : Launch) (mth : Nat → xM) (code : List xI) (ret : Option xV → xH → Prop) (go : List xI → xL → List xV → xH → Prop) (a b c : Nat) (val : Value) (ts : List Nat) (rest : List xI) (lv : xL) (st : List xV) (hp : xH) : Prop := match st with
      | .inl (.int n) :: .inl (.int dp) :: .inr (g1, 0) :: .inl (.int sp) :: .inr (g0, 0) :: st' => (match x_get hp g0, x_get hp g1, Nat.ble (x_cs st') 8 with
        | some (.inl (0, n0, _, .inl f0)), some (.inl (0, n1, z1, .inl f1)), true => ¬ sp < 0 ∧ ¬ dp < 0 ∧ ¬ n < 0 ∧ sp.toNatClampNeg + n.toNatClampNeg ≤ n0 ∧ dp.toNatClampNeg + n.toNatClampNeg ≤ n1 ∧ go rest lv st' (x_set hp g1 (.inl (0, n1, z1, .inl (va_cpy f0 f1 sp.toNatClampNeg dp.toNatClampNeg n.toNatClampNeg))))
        | _, _, _ => False)
      | _ => False
def x_o22 (l : Launch) (mth : Nat → xM) (code : List xI) (ret : Option xV → xH → Prop) (go : List xI → xL → List xV → xH → Prop) (a b c : Nat) (val : Value) (ts : List Nat) (rest : List xI) (lv : xL) (st : List xV) (hp : xH) : Prop := match st with
      | .inl (.int y) :: .inl (.int x) :: st' => (match Nat.ble (x_cs st') 8 with
        | true => go rest lv (.inl (.int (if y < x then y else x)) :: st') hp
        | _ => False)
      | _ => False
def x_o23 (l : Launch) (mth : Nat → xM) (code : List xI) (ret : Option xV → xH → Prop) (go : List xI → xL → List xV → xH → Prop) (a b c : Nat) (val : Value) (ts : List Nat) (rest : List xI) (lv : xL) (st : List xV) (hp : xH) : Prop := match st with
      | .inl (.long y) :: .inl (.long x) :: st' => (match Nat.ble (x_cs st') 8 with
        | true => go rest lv (.inl (.long (if y < x then x else y)) :: st') hp
        | _ => False)
      | _ => False
def x_o24 (l : Launch) (mth : Nat → xM) (code : List xI) (ret : Option xV → xH → Prop) (go : List xI → xL → List xV → xH → Prop) (a b c : Nat) (val : Value) (ts : List Nat) (rest : List xI) (lv : xL) (st : List xV) (hp : xH) : Prop := match st with
      | .inl (.int v) :: .inr (g, j) :: st' => (match j, x_get hp g, Nat.ble (x_cs st') 8 with
        | 0, some (.inl (0, n, z, .inl f)), true => n < 2 ^ 31 ∧ go rest lv st' (x_set hp g (.inl (0, n, z, .inl (x_fill n v f))))
        | j + 1, some (.inl (t, n, z, .inr (.inr M))), true => j < n ∧ z < 2 ^ 31 ∧ go rest lv st' (x_set hp g (.inl (t, n, z, .inr (.inr (x_row M j (x_fill z v (M j)))))))
        | _, _, _ => False)
      | _ => False
/-- one instruction, backwards -/
def x_step (l : Launch) (mth : Nat → xM) (code : List xI) (ret : Option xV → xH → Prop) (go : List xI → xL → List xV → xH → Prop) (en : xI) (rest : List xI) (lv : xL) (st : List xV) (hp : xH) : Prop := match en with
  | (_, op, _, _, a, b, c, val, ts) => match op with
    | 0 => x_o0 l mth code ret go a b c val ts rest lv st hp
    | 1 => x_o1 l mth code ret go a b c val ts rest lv st hp
    | 2 => x_o2 l mth code ret go a b c val ts rest lv st hp
    | 3 => x_o3 l mth code ret go a b c val ts rest lv st hp
    | 4 => x_o4 l mth code ret go a b c val ts rest lv st hp
    | 5 => x_o5 l mth code ret go a b c val ts rest lv st hp
    | 6 => x_o6 l mth code ret go a b c val ts rest lv st hp
    | 7 => x_o7 l mth code ret go a b c val ts rest lv st hp
    | 8 => x_o8 l mth code ret go a b c val ts rest lv st hp
    | 9 => x_o9 l mth code ret go a b c val ts rest lv st hp
    | 10 => x_o10 l mth code ret go a b c val ts rest lv st hp
    | 11 => x_o11 l mth code ret go a b c val ts rest lv st hp
    | 12 => x_o12 l mth code ret go a b c val ts rest lv st hp
    | 13 => x_o13 l mth code ret go a b c val ts rest lv st hp
    | 14 => x_o14 l mth code ret go a b c val ts rest lv st hp
    | 15 => x_o15 l mth code ret go a b c val ts rest lv st hp
    | 16 => x_o16 l mth code ret go a b c val ts rest lv st hp
    | 17 => x_o17 l mth code ret go a b c val ts rest lv st hp
    | 18 => x_o18 l mth code ret go a b c val ts rest lv st hp
    | 19 => x_o19 l mth code ret go a b c val ts rest lv st hp
    | 20 => x_o20 l mth code ret go a b c val ts rest lv st hp
    | 21 => x_o21 l mth code ret go a b c val ts rest lv st hp
    | 22 => x_o22 l mth code ret go a b c val ts rest lv st hp
    | 23 => x_o23 l mth code ret go a b c val ts rest lv st hp
    | 24 => x_o24 l mth code ret go a b c val ts rest lv st hp
    | _ => False
def x_cut : List (Nat × List Nat) → Nat → Option (List Nat)
  | [], _ => none
  | q :: t, pc => match Nat.beq q.1 pc with
    | true => some q.2
    | false => x_cut t pc
def x_goP (cuts : List (Nat × List Nat)) (K : Nat → xL → List xV → xH → Prop) (run : List xI → xL → List xV → xH → Prop) (r : List xI) (lv : xL) (st : List xV) (hp : xH) : Prop := match r with
  | [] => False
  | en' :: _ => match x_cut cuts en'.1 with
    | some ks => K en'.1 (x_keep ks lv) st hp
    | none => run r lv st hp
/-- run on, up to a cut -/
def x_run (l : Launch) (mth : Nat → xM) (code : List xI) (cuts : List (Nat × List Nat)) (K : Nat → xL → List xV → xH → Prop) (ret : Option xV → xH → Prop) : Nat → List xI → xL → List xV → xH → Prop
  | 0 => fun _ _ _ _ => False
  | n + 1 => fun rest lv st hp => match rest with
    | [] => False
    | en :: rest' => x_step l mth code ret (x_goP cuts K (x_run l mth code cuts K ret n)) en rest' lv st hp
/-! what is checked of the table, once a method -/
def x_okc (own : String) (i : Instr) (len : Nat) (val : Value) : Bool := match i, val with
  | .iconst n, .int v => len == 1 && decide (Int32.ofInt n = v)
  | .bipush n, .int v => len == 2 && decide ((Int8.ofInt n).toInt32 = v)
  | .sipush n, .int v => len == 3 && decide ((Int16.ofInt n).toInt32 = v)
  | .lconst n, .long v => len == 1 && decide (Int64.ofNat (n : Nat) = v)
  | .ldc k, .int v => len == 2 && x_fN [Cond.constant own k v]
  | .ldc2_w k, .long v => len == 3 && x_fN [Cond.constantLong own k v]
  | _, _ => false
def x_okl (a b : Nat) (i : Instr) (len : Nat) : Bool := match i with
  | .iload k => b == 0 && k == a && len == 2
  | .iload_n k => b == 0 && k.val == a && len == 1
  | .lload k => b == 1 && k == a && len == 2
  | .lload_n k => b == 1 && k.val == a && len == 1
  | .aload k => b == 2 && k == a && len == 2
  | .aload_n k => b == 2 && k.val == a && len == 1
  | _ => false
def x_oks (nL a b : Nat) (i : Instr) (len : Nat) : Bool := match i with
  | .istore k => b == 0 && k == a && len == 2 && decide (a < nL)
  | .istore_n k => b == 0 && k.val == a && len == 1 && decide (a < nL)
  | .lstore k => b == 1 && k == a && len == 2 && decide (a + 1 < nL)
  | .lstore_n k => b == 1 && k.val == a && len == 1 && decide (a + 1 < nL)
  | .astore k => b == 2 && k == a && len == 2 && decide (a < nL)
  | .astore_n k => b == 2 && k.val == a && len == 1 && decide (a < nL)
  | _ => false
def x_di (a : Nat) : Instr := match a with
  | 0 => .idiv
  | 1 => .irem
  | 2 => .ldiv
  | _ => .lrem
def x_cvi (a : Nat) : Instr := match a with
  | 0 => .i2l
  | 1 => .l2i
  | _ => .lneg
def x_ali (a : Nat) : Instr := match a with
  | 0 => .iaload
  | 1 => .laload
  | 2 => .baload
  | _ => .aaload
def x_asi (a : Nat) : Instr := match a with
  | 0 => .iastore
  | 1 => .lastore
  | _ => .bastore
def x_sti (a : Nat) : Instr := match a with
  | 0 => .dup
  | 1 => .dup2
  | _ => .pop
def x_tyk (c : Nat) (ty : FieldType) : Bool := match c, ty with
  | 0, .int => true
  | 1, .long => true
  | 2, .boolean => true
  | _, _ => false
def x_okf (own : String) (ci k idx : Nat) (fin : Bool) : Bool := match x_cls[ci]? with
  | some q => decide (k < q.2.2) && x_fN [Cond.fieldLink own idx (q.2.1 k).1 (q.2.1 k).2.1 (q.2.1 k).2.2.1] && (!fin || (q.2.1 k).2.2.2 == false)
  | none => false
def x_okd (y : MethodName) (n : Nat) : Bool := decide (y.cls ≠ "java/lang/invoke/MethodHandle") && decide (y.cls ≠ "java/lang/invoke/VarHandle") && decide ((parseMethodDescriptor y.desc).map (fun d => d.parameters.length) = some n)
def x_okr (fr lo : Nat) (z : xM) : Bool := decide (z.2.2.2.2.1 + 1 ≤ fr) && decide (8 + (z.2.2.1 + 11) + z.2.2.2.2.2 ≤ lo)
def x_rti (a : Nat) : Instr := match a with
  | 0 => .return_
  | 1 => .ireturn
  | 2 => .lreturn
  | _ => .ireturn
def x_rtt (a : Nat) : Option FieldType := match a with
  | 0 => none
  | 1 => some .int
  | 2 => some .long
  | _ => some .boolean
def x_q0 (mth : Nat → xM) (own : String) (fr lo nL : Nat) (rt : Option FieldType) (pc : Nat) (i : Instr) (len a b c : Nat) (val : Value) (ts : List Nat) : Bool := x_okc own i len val
def x_q1 (mth : Nat → xM) (own : String) (fr lo nL : Nat) (rt : Option FieldType) (pc : Nat) (i : Instr) (len a b c : Nat) (val : Value) (ts : List Nat) : Bool := x_okl a b i len
def x_q2 (mth : Nat → xM) (own : String) (fr lo nL : Nat) (rt : Option FieldType) (pc : Nat) (i : Instr) (len a b c : Nat) (val : Value) (ts : List Nat) : Bool := x_oks nL a b i len
def x_q3 (mth : Nat → xM) (own : String) (fr lo nL : Nat) (rt : Option FieldType) (pc : Nat) (i : Instr) (len a b c : Nat) (val : Value) (ts : List Nat) : Bool := decide (i = x_ii a) && len == 1
def x_q4 (mth : Nat → xM) (own : String) (fr lo nL : Nat) (rt : Option FieldType) (pc : Nat) (i : Instr) (len a b c : Nat) (val : Value) (ts : List Nat) : Bool := decide (i = x_li a) && len == 1
def x_q5 (mth : Nat → xM) (own : String) (fr lo nL : Nat) (rt : Option FieldType) (pc : Nat) (i : Instr) (len a b c : Nat) (val : Value) (ts : List Nat) : Bool := decide (i = x_di a) && len == 1 && decide (a < 4)
def x_q6 (mth : Nat → xM) (own : String) (fr lo nL : Nat) (rt : Option FieldType) (pc : Nat) (i : Instr) (len a b c : Nat) (val : Value) (ts : List Nat) : Bool := decide (i = x_cvi a) && len == 1 && decide (a < 3)
def x_q7 (mth : Nat → xM) (own : String) (fr lo nL : Nat) (rt : Option FieldType) (pc : Nat) (i : Instr) (len a b c : Nat) (val : Value) (ts : List Nat) : Bool := match i with
      | .if_icmp cd off => decide (cd = x_cj a) && decide ((pc : Int) + off = (b : Int)) && len == 3
      | _ => false
def x_q8 (mth : Nat → xM) (own : String) (fr lo nL : Nat) (rt : Option FieldType) (pc : Nat) (i : Instr) (len a b c : Nat) (val : Value) (ts : List Nat) : Bool := match i with
      | .ifCond cd off => decide (cd = x_cj a) && decide ((pc : Int) + off = (b : Int)) && len == 3
      | _ => false
def x_q9 (mth : Nat → xM) (own : String) (fr lo nL : Nat) (rt : Option FieldType) (pc : Nat) (i : Instr) (len a b c : Nat) (val : Value) (ts : List Nat) : Bool := decide (i = .lcmp) && len == 1
def x_q10 (mth : Nat → xM) (own : String) (fr lo nL : Nat) (rt : Option FieldType) (pc : Nat) (i : Instr) (len a b c : Nat) (val : Value) (ts : List Nat) : Bool := match i with
      | .goto off => decide ((pc : Int) + off = (b : Int)) && len == 3
      | _ => false
def x_q11 (mth : Nat → xM) (own : String) (fr lo nL : Nat) (rt : Option FieldType) (pc : Nat) (i : Instr) (len a b c : Nat) (val : Value) (ts : List Nat) : Bool := match i with
      | .getfield idx => x_okf own a b idx false && len == 3
      | _ => false
def x_q12 (mth : Nat → xM) (own : String) (fr lo nL : Nat) (rt : Option FieldType) (pc : Nat) (i : Instr) (len a b c : Nat) (val : Value) (ts : List Nat) : Bool := match i with
      | .putfield idx => x_okf own a b idx true && x_tyk c (x_ty a b) && len == 3
      | _ => false
def x_q13 (mth : Nat → xM) (own : String) (fr lo nL : Nat) (rt : Option FieldType) (pc : Nat) (i : Instr) (len a b c : Nat) (val : Value) (ts : List Nat) : Bool := decide (i = x_ali a) && len == 1 && decide (a < 4)
def x_q14 (mth : Nat → xM) (own : String) (fr lo nL : Nat) (rt : Option FieldType) (pc : Nat) (i : Instr) (len a b c : Nat) (val : Value) (ts : List Nat) : Bool := decide (i = x_asi a) && len == 1 && decide (a < 3)
def x_q15 (mth : Nat → xM) (own : String) (fr lo nL : Nat) (rt : Option FieldType) (pc : Nat) (i : Instr) (len a b c : Nat) (val : Value) (ts : List Nat) : Bool := decide (i = x_sti a) && len == 1 && decide (a < 3)
def x_q16 (mth : Nat → xM) (own : String) (fr lo nL : Nat) (rt : Option FieldType) (pc : Nat) (i : Instr) (len a b c : Nat) (val : Value) (ts : List Nat) : Bool := match i, val with
      | .iinc k n, .int y => k == a && len == 3 && decide (Int32.ofInt n = y) && decide (a < nL)
      | _, _ => false
def x_q17 (mth : Nat → xM) (own : String) (fr lo nL : Nat) (rt : Option FieldType) (pc : Nat) (i : Instr) (len a b c : Nat) (val : Value) (ts : List Nat) : Bool := match i with
      | .invokevirtual idx => len == 3 && x_fN [.methodLink own idx (mth a).1, .instanceMethod (mth a).1, .selects (mth a).1.cls (mth a).1 (mth a).1, .initialized (mth a).1.cls, .code (mth a).1 (mth a).2.1 (mth a).2.2.1 (mth a).2.2.2.1] && x_okd (mth a).1 b && x_okr fr lo (mth a) && decide ((x_cls[c]?).map (fun q => q.1) = some (mth a).1.cls)
      | _ => false
def x_q18 (mth : Nat → xM) (own : String) (fr lo nL : Nat) (rt : Option FieldType) (pc : Nat) (i : Instr) (len a b c : Nat) (val : Value) (ts : List Nat) : Bool := match i with
      | .invokestatic idx => len == 3 && x_fN [.methodLink own idx (mth a).1, .static (mth a).1, .initialized own, .code (mth a).1 (mth a).2.1 (mth a).2.2.1 (mth a).2.2.2.1] && x_okd (mth a).1 b && x_okr fr lo (mth a) && decide ((mth a).1.cls = own)
      | _ => false
def x_q19 (mth : Nat → xM) (own : String) (fr lo nL : Nat) (rt : Option FieldType) (pc : Nat) (i : Instr) (len a b c : Nat) (val : Value) (ts : List Nat) : Bool := decide (i = x_rti a) && len == 1 && decide (a < 4) && decide (rt = x_rtt a)
def x_q20 (mth : Nat → xM) (own : String) (fr lo nL : Nat) (rt : Option FieldType) (pc : Nat) (i : Instr) (len a b c : Nat) (val : Value) (ts : List Nat) : Bool := match i with
      | .tableswitch d lo hi offs => decide (lo = 0) && decide (hi = (ts.length : Int) - 1) && decide (offs.toList = ts.map (fun (t : Nat) => (t : Int) - (pc : Int))) && decide ((pc : Int) + d = (b : Int))
      | _ => false
def x_q21 (mth : Nat → xM) (own : String) (fr lo nL : Nat) (rt : Option FieldType) (pc : Nat) (i : Instr) (len a b c : Nat) (val : Value) (ts : List Nat) : Bool := match i with
      | .invokestatic idx => len == 3 && x_fN [.methodLink own idx arraycopyName, .native arraycopyName, .static arraycopyName, .initialized "java/lang/System"] && decide (1 ≤ fr) && decide (8 + (nativeFrameWords "java/lang/System" "arraycopy" 5 + 11) ≤ lo)
      | _ => false
def x_q22 (mth : Nat → xM) (own : String) (fr lo nL : Nat) (rt : Option FieldType) (pc : Nat) (i : Instr) (len a b c : Nat) (val : Value) (ts : List Nat) : Bool := match i with
      | .invokestatic idx => len == 3 && x_fN [.methodLink own idx Lib.Math.min.name, .static Lib.Math.min.name, .initialized "java/lang/Math", .code Lib.Math.min.name Lib.Math.min.code 2 (some .int)] && decide (1 ≤ fr) && decide (8 + 13 ≤ lo)
      | _ => false
def x_q23 (mth : Nat → xM) (own : String) (fr lo nL : Nat) (rt : Option FieldType) (pc : Nat) (i : Instr) (len a b c : Nat) (val : Value) (ts : List Nat) : Bool := match i with
      | .invokestatic idx => len == 3 && x_fN [.methodLink own idx Lib.MathLoose.max_long.x, .static Lib.MathLoose.max_long.x, .initialized "java/lang/Math", .code Lib.MathLoose.max_long.x Lib.MathLoose.max_long.code 4 (some .long)] && decide (1 ≤ fr) && decide (8 + 15 ≤ lo)
      | _ => false
def x_q24 (mth : Nat → xM) (own : String) (fr lo nL : Nat) (rt : Option FieldType) (pc : Nat) (i : Instr) (len a b c : Nat) (val : Value) (ts : List Nat) : Bool := match i with
      | .invokestatic idx => len == 3 && x_fN [.methodLink own idx yJ7_fill_53178, .static yJ7_fill_53178, .initialized yJ7_fill_53178.cls, .code yJ7_fill_53178 cJ7_fill_53178 4 none] && decide (1 ≤ fr) && decide (8 + (4 + 11) ≤ lo)
      | _ => false
def x_okI (mth : Nat → xM) (own : String) (fr lo nL : Nat) (rt : Option FieldType) (en : xI) : Bool := match en with
  | (pc, op, i, len, a, b, c, val, ts) => match op with
    | 0 => x_q0 mth own fr lo nL rt pc i len a b c val ts
    | 1 => x_q1 mth own fr lo nL rt pc i len a b c val ts
    | 2 => x_q2 mth own fr lo nL rt pc i len a b c val ts
    | 3 => x_q3 mth own fr lo nL rt pc i len a b c val ts
    | 4 => x_q4 mth own fr lo nL rt pc i len a b c val ts
    | 5 => x_q5 mth own fr lo nL rt pc i len a b c val ts
    | 6 => x_q6 mth own fr lo nL rt pc i len a b c val ts
    | 7 => x_q7 mth own fr lo nL rt pc i len a b c val ts
    | 8 => x_q8 mth own fr lo nL rt pc i len a b c val ts
    | 9 => x_q9 mth own fr lo nL rt pc i len a b c val ts
    | 10 => x_q10 mth own fr lo nL rt pc i len a b c val ts
    | 11 => x_q11 mth own fr lo nL rt pc i len a b c val ts
    | 12 => x_q12 mth own fr lo nL rt pc i len a b c val ts
    | 13 => x_q13 mth own fr lo nL rt pc i len a b c val ts
    | 14 => x_q14 mth own fr lo nL rt pc i len a b c val ts
    | 15 => x_q15 mth own fr lo nL rt pc i len a b c val ts
    | 16 => x_q16 mth own fr lo nL rt pc i len a b c val ts
    | 17 => x_q17 mth own fr lo nL rt pc i len a b c val ts
    | 18 => x_q18 mth own fr lo nL rt pc i len a b c val ts
    | 19 => x_q19 mth own fr lo nL rt pc i len a b c val ts
    | 20 => x_q20 mth own fr lo nL rt pc i len a b c val ts
    | 21 => x_q21 mth own fr lo nL rt pc i len a b c val ts
    | 22 => x_q22 mth own fr lo nL rt pc i len a b c val ts
    | 23 => x_q23 mth own fr lo nL rt pc i len a b c val ts
    | 24 => x_q24 mth own fr lo nL rt pc i len a b c val ts
    | _ => false
def x_okE (mth : Nat → xM) (own : String) (cc : ByteArray) (fr lo nL : Nat) (rt : Option FieldType) (en : xI) : Bool := decide (decode cc en.1 = .ok (en.2.2.1, en.2.2.2.1)) && x_okI mth own fr lo nL rt en
/-- the next entry stands where this one ends; behind a comparison of longs stands its branch -/
def x_link : List xI → Bool
  | [] => true
  | en :: r => (match r with
    | [] => true
    | en' :: _ => Nat.beq (en.1 + en.2.2.2.1) en'.1 && (match Nat.beq en.2.1 9 with
      | true => Nat.beq en'.2.1 8 && Nat.beq en'.2.2.2.2.1 en.2.2.2.2.1 && Nat.beq en'.2.2.2.2.2.1 en.2.2.2.2.2.1
      | false => true)) && x_link r
def x_okM (mth : Nat → xM) (z : xM) (code : List xI) : Bool := code.all (x_okE mth z.1.cls z.2.1 z.2.2.2.2.1 z.2.2.2.2.2 z.2.2.1 z.2.2.2.1) && x_link code

