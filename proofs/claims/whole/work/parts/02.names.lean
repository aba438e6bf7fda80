/-! ===== BEGIN words of one list among another's, by their places ===== -/
theorem goodIn_r {big : List Cond} (ws : List Cond) (ps : List Nat) (hp : ws = ps.filterMap (fun i => big[i]?)) (h : ws.all goodWord = true) : GoodIn big ws := by
  intro w hw
  have h1 := List.all_eq_true.mp h w hw
  rw [hp] at hw
  obtain ⟨i, -, hi⟩ := List.mem_filterMap.mp hw
  have hm : w ∈ big := by first | exact List.mem_of_getElem? hi | exact List.getElem?_mem hi
  exact ⟨hm, good_of_word h1⟩
theorem goodIn_app {big a b : List Cond} (ha : GoodIn big a) (hb : GoodIn big b) : GoodIn big (a ++ b) := fun w h => (List.mem_append.mp h).elim (ha w) (hb w)
theorem goodIn_ca {big a b : List Cond} {c : Cond} (ha : GoodIn big (c :: a)) (hb : GoodIn big b) : GoodIn big (c :: (a ++ b)) := fun w h => (List.mem_cons.mp h).elim (fun e => ha w (List.mem_cons.mpr (Or.inl e))) (fun h => (List.mem_append.mp h).elim (fun h => ha w (List.mem_cons.mpr (Or.inr h))) (hb w))
theorem goodIn_sub {big ws : List Cond} (hm : ∀ w ∈ ws, w ∈ big) (h : ws.all goodWord = true) : GoodIn big ws := fun w hw => ⟨hm w hw, good_of_word (List.all_eq_true.mp h w hw)⟩
/-! ===== END ===== -/
def va_AOA (t : FieldType) (U : State) : Prop := (Cond.arrayOver (.array t)).before #[] U = true
theorem va_AOA.of {t : FieldType} {A : Array Value} {U : State} (h : (Cond.arrayOver (.array t)).before A U = true) : va_AOA t U := h
theorem va_AOA.use {t : FieldType} {A : Array Value} {U : State} (h : va_AOA t U) : (Cond.arrayOver (.array t)).before A U = true := h

/-! ===== BEGIN new T[n][m]: the outer array a place, the inner ones among the pooled ===== -/
/-- f, but v at every address of l -/
def vr_up {α : Type} (f : Nat → α) (l : List Nat) (v : α) : Nat → α := fun a => if a ∈ l then v else f a
theorem vr_up_in {α : Type} {f : Nat → α} {l : List Nat} {v : α} {a : Nat} (h : a ∈ l) : vr_up f l v a = v := if_pos h
theorem vr_up_ne {α : Type} {f : Nat → α} {l : List Nat} {v : α} {a : Nat} (h : a ∉ l) : vr_up f l v a = f a := if_neg h
theorem vr_rows {L l : List Nat} {f : Nat → va_E} {e : va_E} (h : ∀ a, a ∈ l → a ∉ L) : va_pl L f ++ l.map (fun a => (a, e)) = va_pl (L ++ l) (vr_up f l e) := by
  unfold va_pl
  rw [List.map_append]
  congr 1
  · apply List.map_congr_left
    intro a ha
    rw [vr_up_ne (fun q => h a q ha)]
  · apply List.map_congr_left
    intro a ha
    rw [vr_up_in ha]
theorem vr_lay {X rows : va_W} {x : Nat × va_E} {pl : va_W} {D : va_G} {cl : List vw_C} {H : Heap} (hP : va_P D cl (((X ++ pl) ++ [x]) ++ rows) H) : va_P D cl ((X ++ [x]) ++ (pl ++ rows)) H := by
  rw [List.append_assoc (X ++ pl)] at hP
  have h := va_P.swap hP
  rw [← List.append_assoc X] at h
  have h2 := va_P.swap h
  rw [List.append_assoc (X ++ [x])] at h2
  exact h2
theorem vr_layD {X rows : va_W} {x : Nat × va_E} {pl : va_W} {A : Nat → Prop} (hD : va_D A (((X ++ pl) ++ [x]) ++ rows)) : va_D A ((X ++ [x]) ++ (pl ++ rows)) := by
  rw [List.append_assoc (X ++ pl)] at hD
  have h := va_D.swap hD
  rw [← List.append_assoc X] at h
  have h2 := va_D.swap h
  rw [List.append_assoc (X ++ [x])] at h2
  exact h2
theorem vr_outer (c : ClassId) (N h0 : Nat) : ∀ i : Nat, Jvm.Free.Multi.outerC c N h0 i = arrV c N (fun j => va_rf (if j < i then some (h0 + 1 + j) else none))
  | 0 => by
    show ({ cls := c, slots := Array.replicate N .null, vm := .none } : Cell) = _
    rw [arrV_new]
    refine congrArg (arrV c N) (funext fun j => ?_)
    simp [va_rf]
  | i + 1 => by
    show (Jvm.Free.Multi.outerC c N h0 i).setSlot i (.ref (h0 + 1 + i)) = _
    rw [vr_outer c N h0 i, arrV_store]
    refine congrArg (arrV c N) (funext fun j => ?_)
    by_cases e : j = i
    · subst e
      simp [updV, va_rf]
    · by_cases h : j < i
      · simp [updV, e, h, Nat.lt_succ_of_lt h]
      · simp [updV, e, h, show ¬ j < i + 1 by omega]
section VGM
variable {p : Program} {l : Launch} {e : Env} {R : Room} {s : State} {m : MethodId} {args : Array Value} {below : List Frame} {meth : Method} {c : Code} {H : Heap} {locs : List Loc} {cells slots : Nat} {Q : State → Prop}
variable {cc : ByteArray} {pc : Nat} {ls : Array Slot} {rest : List Value} {D : va_G} {cl : List vw_C} {A : Nat → Prop} {a : Nat} {tys : List (ClassId × FieldType)} {ws : va_W} {H0 : Heap}
theorem va_mna {X : va_W} {L : List Nat} {f : Nat → va_E} {cc : ByteArray} (hexec : p.tables.exec = Jvm.exec) (hb : c.code = cc) {own : String} {index : Nat} {ty : FieldType} {cy : ClassId} (hown : s.vm.findClass own = some m.cls) (hclink : (Cond.classLink own index ("[" ++ (FieldType.array ty).toString)).before args s = true) (hover : va_AOA ty s) (harr : (Cond.arrayClass ty).before args s = true) (hcy : s.vm.findClass (FieldType.array ty).toString = some cy)
    (hK : va_K D cl tys s) (hP : va_P D cl (X ++ va_pl L f) H) (hD : va_D A (X ++ va_pl L f)) (hS : va_S A H0 H locs) (hA : ∀ q, H0.size ≤ q → A q) {n k : Int32} {N' K' : Nat} {z : vp_A} (hn : ¬ n < 0) (hk : ¬ k < 0) (hN : n.toNatClampNeg = N') (hM : k.toNatClampNeg = K')
    (hb1 : N' * 4 ≤ 536870912) (hb2 : K' * componentBytes ty ≤ 536870912) (hb3 : K' ≤ 536870912) (hdf : fits ty (defaultValue ty) = true) (hdd : (defaultValue ty).isDefault = true) (hcells : cells + (1 + N') ≤ R.cells) (hslots : slots + (N' + N' * K') ≤ R.slots) (hz : ∀ c : ClassId, Jvm.Free.Multi.innerC c K' (defaultValue ty) = vp_cell c z) (hdg : decode cc pc = .ok (.multianewarray index 2, 4))
    (kk : ∀ (q : Nat) (r : Nat → Nat) (cA : ClassId) (H1 : Heap), (∀ i j : Nat, i < N' → j < N' → r i = r j → i = j) → (∀ i : Nat, i < N' → r i ∉ L) → va_K D cl (tys ++ [(cA, .array ty)]) s →
      va_P D cl ((X ++ [(q, .inl (cA, N', .inr (.inr (.inr (.inr (fun i => if i < N' then some (r i) else none))))))]) ++ va_pl (L ++ (List.range N').map r) (vr_up f ((List.range N').map r) (.inl (cy, z)))) H1 → va_D A ((X ++ [(q, .inl (cA, N', .inr (.inr (.inr (.inr (fun i => if i < N' then some (r i) else none))))))]) ++ va_pl (L ++ (List.range N').map r) (vr_up f ((List.range N').map r) (.inl (cy, z)))) → va_S A H0 H1 locs →
      W p l e R s m args below meth c H1 locs (cells + 1 + N') (slots + N' + N' * K') Q (F0 m (pc + 4) ls (.ref q :: rest))) : W p l e R s m args below meth c H locs cells slots Q (F0 m pc ls (.int k :: .int n :: rest)) := by
  subst hN
  subst hM
  intro T hT Xs
  obtain ⟨vm₁, cA, comp, -, fA, fC, hO, -, X', step⟩ := Xs.multianewarray2F hexec hown hclink (va_AOA.use hover) harr (g := F0 m pc ls (.int k :: .int n :: rest)) rfl (by rw [hb]; exact hdg) rfl hn hk hb1 hb2 hb3 hdf hdd hcells hslots
  have ec : some cy = some comp := hcy.symm.trans fC
  cases ec
  generalize hF : Jvm.Free.Multi.fill (T.setVm vm₁) cA cy n.toNatClampNeg k.toNatClampNeg (defaultValue ty) n.toNatClampNeg = F at X' step
  have hTh : (T.setVm vm₁).heap = H := hT
  obtain ⟨f1, f2, -, -⟩ := Jvm.Free.Multi.fill_facts (T.setVm vm₁) cA cy n.toNatClampNeg k.toNatClampNeg (defaultValue ty) n.toNatClampNeg
  rw [hF, hTh] at f1 f2
  have hold : ∀ x : Nat, x < H.size → F.heap[x]? = H[x]? := fun x hx => by
    have := Jvm.Free.Multi.fill_old (T.setVm vm₁) cA cy n.toNatClampNeg k.toNatClampNeg (defaultValue ty) (a := x) (by rw [hTh]; exact hx) n.toNatClampNeg
    rw [hF, hTh] at this
    exact this
  have hrow : ∀ j : Nat, j < n.toNatClampNeg → F.heap[H.size + 1 + j]? = some (vp_cell cy z) := fun j hj => by
    have := Jvm.Free.Multi.fill_inner (T.setVm vm₁) cA cy n.toNatClampNeg k.toNatClampNeg (defaultValue ty) n.toNatClampNeg j hj
    rw [hF, hTh, hz] at this
    exact this
  have hout : Jvm.Free.Multi.outerC cA n.toNatClampNeg H.size n.toNatClampNeg = vp_cell cA (n.toNatClampNeg, .inr (.inr (.inr (.inr (fun i => if i < n.toNatClampNeg then some (H.size + 1 + i) else none))))) := by
    rw [vp_cell_q]
    exact vr_outer cA n.toNatClampNeg H.size n.toNatClampNeg
  rw [hout] at f2
  have hlt : ∀ a, a ∈ L → a < H.size := fun a ha => by
    obtain ⟨k9, hk9⟩ := va_pl_get (X := X) (f := f) ha
    exact (hP k9 _ hk9).lt
  have hnl : ∀ i : Nat, i < n.toNatClampNeg → H.size + 1 + i ∉ L := fun i _ h => by
    have := hlt _ h
    omega
  have hnm : ∀ a, a ∈ (List.range n.toNatClampNeg).map (fun i => H.size + 1 + i) → a ∉ L := fun a ha h => by
    obtain ⟨i, -, rfl⟩ := List.mem_map.mp ha
    have := hlt _ h
    omega
  have hP0 : va_P D cl (X ++ va_pl L f) F.heap := hP.kept (fun k9 x hx => hold x.1 ((hP k9 x hx).lt))
  have hP1 : va_P D cl ((X ++ va_pl L f) ++ [(H.size, .inl (cA, n.toNatClampNeg, .inr (.inr (.inr (.inr (fun i => if i < n.toNatClampNeg then some (H.size + 1 + i) else none))))))]) F.heap := hP0.app (fun k9 x hx => by
    have h0 : k9 < 1 := (List.getElem?_eq_some_iff.mp hx).1
    rw [show k9 = 0 by omega] at hx
    cases hx
    exact f2)
  have hP2 : va_P D cl (((X ++ va_pl L f) ++ [(H.size, .inl (cA, n.toNatClampNeg, .inr (.inr (.inr (.inr (fun i => if i < n.toNatClampNeg then some (H.size + 1 + i) else none))))))]) ++ ((List.range n.toNatClampNeg).map (fun i => H.size + 1 + i)).map (fun a => (a, .inl (cy, z)))) F.heap := hP1.app (fun k9 x hx => by
    obtain ⟨a, ha, rfl⟩ := List.mem_map.mp (List.mem_of_getElem? hx)
    obtain ⟨i, hi, rfl⟩ := List.mem_map.mp ha
    exact hrow i (List.mem_range.mp hi))
  have hD2 : va_D A (((X ++ va_pl L f) ++ [(H.size, .inl (cA, n.toNatClampNeg, .inr (.inr (.inr (.inr (fun i => if i < n.toNatClampNeg then some (H.size + 1 + i) else none))))))]) ++ ((List.range n.toNatClampNeg).map (fun i => H.size + 1 + i)).map (fun a => (a, .inl (cy, z)))) := by
    have hD1 := hD.push (e := .inl (cA, n.toNatClampNeg, .inr (.inr (.inr (.inr (fun i => if i < n.toNatClampNeg then some (H.size + 1 + i) else none)))))) hP rfl (hA _ hS.1)
    generalize hW1 : (X ++ va_pl L f) ++ [(H.size, .inl (cA, n.toNatClampNeg, .inr (.inr (.inr (.inr (fun i => if i < n.toNatClampNeg then some (H.size + 1 + i) else none))))))] = W1 at hD1 hP1 ⊢
    have hle : ∀ (k9 : Nat) (x : Nat × va_E), W1[k9]? = some x → x.1 ≤ H.size := fun k9 x hx => by
      rw [← hW1] at hx
      by_cases hl : k9 < (X ++ va_pl L f).length
      · rw [List.getElem?_append_left hl] at hx
        exact Nat.le_of_lt ((hP k9 x hx).lt)
      · rw [List.getElem?_append_right (by omega)] at hx
        have h0 : k9 - (X ++ va_pl L f).length < 1 := (List.getElem?_eq_some_iff.mp hx).1
        rw [show k9 - (X ++ va_pl L f).length = 0 by omega] at hx
        cases hx
        exact Nat.le_refl _
    have hr : ∀ (k9 : Nat) (x : Nat × va_E), (((List.range n.toNatClampNeg).map (fun i => H.size + 1 + i)).map (fun a => ((a, .inl (cy, z)) : Nat × va_E)))[k9]? = some x → x.1 = H.size + 1 + k9 := fun k9 x hx => by
      rw [List.getElem?_map, List.getElem?_map] at hx
      by_cases h9 : k9 < n.toNatClampNeg
      · rw [List.getElem?_range h9] at hx
        cases hx
        rfl
      · have hn0 : (List.range n.toNatClampNeg)[k9]? = none := List.getElem?_eq_none (by rw [List.length_range]; omega)
        rw [hn0] at hx
        cases hx
    refine ⟨fun i j x y hi hj hxy => ?_, fun k9 x hx => ?_⟩
    · by_cases h1 : i < W1.length <;> by_cases h2 : j < W1.length
      · rw [List.getElem?_append_left h1] at hi
        rw [List.getElem?_append_left h2] at hj
        exact hD1.1 i j x y hi hj hxy
      · rw [List.getElem?_append_left h1] at hi
        rw [List.getElem?_append_right (by omega)] at hj
        have := hle _ _ hi
        have := hr _ _ hj
        omega
      · rw [List.getElem?_append_right (by omega)] at hi
        rw [List.getElem?_append_left h2] at hj
        have := hle _ _ hj
        have := hr _ _ hi
        omega
      · rw [List.getElem?_append_right (by omega)] at hi hj
        have := hr _ _ hi
        have := hr _ _ hj
        omega
    · by_cases h1 : k9 < W1.length
      · rw [List.getElem?_append_left h1] at hx
        exact hD1.2 k9 x hx
      · rw [List.getElem?_append_right (by omega)] at hx
        have := hr _ _ hx
        exact hA _ (by have := hS.1; omega)
  have hAr : ArrOfT s cA (.array ty) := fun N9 z9 => by
    obtain ⟨-, k9, hk9, cm9, hkk9⟩ := (hO 0 0 0).1
    exact ⟨(fun q hq => by cases hq), k9, hk9, cm9, hkk9⟩
  have hK2 : va_K D cl (tys ++ [(cA, .array ty)]) s := ⟨hK.1, fun k9 x hx => by
    by_cases hl : k9 < tys.length
    · rw [List.getElem?_append_left hl] at hx
      exact hK.2 k9 x hx
    · rw [List.getElem?_append_right (by omega)] at hx
      have h0 : k9 - tys.length < 1 := (List.getElem?_eq_some_iff.mp hx).1
      rw [show k9 - tys.length = 0 by omega] at hx
      cases hx
      exact ⟨hAr, fA⟩⟩
  obtain ⟨t, a1, b1⟩ := kk H.size (fun i => H.size + 1 + i) cA F.heap (fun i j _ _ h => by have h9 : H.size + 1 + i = H.size + 1 + j := h; omega) hnl hK2 (by rw [← vr_rows hnm]; exact vr_lay hP2) (by rw [← vr_rows hnm]; exact vr_layD hD2) ⟨by rw [f1]; have := hS.1; omega, fun x h1 h2 => (hold x (Nat.lt_of_lt_of_le h1 hS.1)).trans (hS.2.1 x h1 h2), hS.2.2⟩ F rfl X'
  refine ⟨t, step t ?_, b1⟩
  have e : T.heap.size = H.size := by rw [hT]
  rw [e]
  exact a1
end VGM
/-! ===== END ===== -/

/-! ===== BEGIN printed: names, fields, word lists, decode rows ===== -/
def RX0 : String := "ShareBench$Line"
def TX0 : u_T := fun k => match k with
  | 0 => ("ShareBench$Line", "worths", "[[I", true)
  | 1 => ("ShareBench$Line", "ahead", "[[I", true)
  | 2 => ("ShareBench$Line", "ends", "[J", true)
  | 3 => ("ShareBench$Line", "holders", "[I", true)
  | 4 => ("ShareBench$Line", "served", "[Z", true)
  | 5 => ("ShareBench$Line", "count", "I", false)
  | 6 => ("ShareBench$Line", "stretches", "I", false)
  | 7 => ("ShareBench$Line", "unit", "J", false)
  | 8 => ("ShareBench$Line", "shared", "Z", false)
  | 9 => ("ShareBench$Line", "said", "J", false)
  | _ => ("ShareBench$Line", "saidFiner", "J", false)
def tyX0 : Nat → FieldType := fun k => match k with
  | 0 => .array (.array .int)
  | 1 => .array (.array .int)
  | 2 => .array .long
  | 3 => .array .int
  | 4 => .array .boolean
  | 5 => .int
  | 6 => .int
  | 7 => .long
  | 8 => .boolean
  | 9 => .long
  | _ => .long
abbrev wsX00 : List Cond := u_ws RX0 TX0 11
theorem nmX0 : ∀ a, a < 11 → ∀ b, b < 11 → a ≠ b → (TX0 a).2.1 ≠ (TX0 b).2.1 := by decide +kernel
theorem tyX0_ok : ∀ k, k < 11 → parseFieldDescriptor (TX0 k).2.2.1 = some (tyX0 k) := by decide +kernel
abbrev cX0_init : ByteArray := prog_2_method_1_code
def yX0_init : MethodName := ⟨RX0, "<init>", "()V"⟩
abbrev cX0_invite : ByteArray := prog_2_method_2_code
def yX0_invite : MethodName := ⟨RX0, "invite", "(I)V"⟩
abbrev cX0_resize : ByteArray := prog_2_method_3_code
def yX0_resize : MethodName := ⟨RX0, "resize", "(I)Z"⟩
abbrev cX0_setWorth : ByteArray := prog_2_method_4_code
def yX0_setWorth : MethodName := ⟨RX0, "setWorth", "(III)Z"⟩
abbrev cX0_holderOf : ByteArray := prog_2_method_5_code
def yX0_holderOf : MethodName := ⟨RX0, "holderOf", "(I)I"⟩
abbrev cX0_endOf : ByteArray := prog_2_method_6_code
def yX0_endOf : MethodName := ⟨RX0, "endOf", "(II)J"⟩
abbrev cX0_worthOf : ByteArray := prog_2_method_7_code
def yX0_worthOf : MethodName := ⟨RX0, "worthOf", "(III)J"⟩
abbrev cX0_countEnvied : ByteArray := prog_2_method_8_code
def yX0_countEnvied : MethodName := ⟨RX0, "countEnvied", "(I)I"⟩
abbrev cX0_isOne : ByteArray := prog_2_method_9_code
def yX0_isOne : MethodName := ⟨RX0, "isOne", "(I)Z"⟩
abbrev cX0_clearWorths : ByteArray := prog_2_method_10_code
def yX0_clearWorths : MethodName := ⟨RX0, "clearWorths", "()V"⟩
abbrev cX0_share : ByteArray := prog_2_method_11_code
def yX0_share : MethodName := ⟨RX0, "share", "()V"⟩
abbrev cX0_cutOff : ByteArray := prog_2_method_12_code
def yX0_cutOff : MethodName := ⟨RX0, "cutOff", "(I)V"⟩
abbrev cX0_giveRest : ByteArray := prog_2_method_13_code
def yX0_giveRest : MethodName := ⟨RX0, "giveRest", "()V"⟩
abbrev cX0_speak : ByteArray := prog_2_method_14_code
def yX0_speak : MethodName := ⟨RX0, "speak", "(IJ)V"⟩
abbrev cX0_piecesAhead : ByteArray := prog_2_method_15_code
def yX0_piecesAhead : MethodName := ⟨RX0, "piecesAhead", "(IJ)J"⟩
abbrev cX0_piecesOf : ByteArray := prog_2_method_16_code
def yX0_piecesOf : MethodName := ⟨RX0, "piecesOf", "(II)J"⟩
abbrev cX0_inLeastTerms : ByteArray := prog_2_method_17_code
def yX0_inLeastTerms : MethodName := ⟨RX0, "inLeastTerms", "(JI)J"⟩
abbrev cX0_greatestCommon : ByteArray := prog_2_method_18_code
def yX0_greatestCommon : MethodName := ⟨RX0, "greatestCommon", "(JJ)J"⟩
def RX1 : String := "ShareBench$Necklace"
def TX1 : u_T := fun k => match k with
  | 0 => ("ShareBench$Necklace", "ahead", "[I", true)
  | 1 => ("ShareBench$Necklace", "ends", "[I", true)
  | 2 => ("ShareBench$Necklace", "owned", "[I", true)
  | 3 => ("ShareBench$Necklace", "firstRow", "[I", true)
  | 4 => ("ShareBench$Necklace", "beads", "I", false)
  | 5 => ("ShareBench$Necklace", "searched", "Z", false)
  | 6 => ("ShareBench$Necklace", "fewest", "I", false)
  | _ => ("ShareBench$Necklace", "rowCount", "I", false)
def tyX1 : Nat → FieldType := fun k => match k with
  | 0 => .array .int
  | 1 => .array .int
  | 2 => .array .int
  | 3 => .array .int
  | 4 => .int
  | 5 => .boolean
  | 6 => .int
  | _ => .int
abbrev wsX10 : List Cond := u_ws RX1 TX1 8
theorem nmX1 : ∀ a, a < 8 → ∀ b, b < 8 → a ≠ b → (TX1 a).2.1 ≠ (TX1 b).2.1 := by decide +kernel
theorem tyX1_ok : ∀ k, k < 8 → parseFieldDescriptor (TX1 k).2.2.1 = some (tyX1 k) := by decide +kernel
abbrev cX1_init : ByteArray := prog_3_method_1_code
def yX1_init : MethodName := ⟨RX1, "<init>", "()V"⟩
abbrev cX1_string : ByteArray := prog_3_method_2_code
def yX1_string : MethodName := ⟨RX1, "string", "(I)I"⟩
abbrev cX1_shorten : ByteArray := prog_3_method_3_code
def yX1_shorten : MethodName := ⟨RX1, "shorten", "(I)Z"⟩
abbrev cX1_countOf : ByteArray := prog_3_method_4_code
def yX1_countOf : MethodName := ⟨RX1, "countOf", "(I)I"⟩
abbrev cX1_fewestCuts : ByteArray := prog_3_method_5_code
def yX1_fewestCuts : MethodName := ⟨RX1, "fewestCuts", "()I"⟩
abbrev cX1_cutOfFirstRow : ByteArray := prog_3_method_6_code
def yX1_cutOfFirstRow : MethodName := ⟨RX1, "cutOfFirstRow", "(I)I"⟩
abbrev cX1_countRows : ByteArray := prog_3_method_7_code
def yX1_countRows : MethodName := ⟨RX1, "countRows", "()I"⟩
abbrev cX1_halvedBy : ByteArray := prog_3_method_8_code
def yX1_halvedBy : MethodName := ⟨RX1, "halvedBy", "(I)I"⟩
abbrev cX1_isSort : ByteArray := prog_3_method_9_code
def yX1_isSort : MethodName := ⟨RX1, "isSort", "(I)Z"⟩
abbrev cX1_isWithinHalf : ByteArray := prog_3_method_10_code
def yX1_isWithinHalf : MethodName := ⟨RX1, "isWithinHalf", "(I)Z"⟩
abbrev cX1_search : ByteArray := prog_3_method_11_code
def yX1_search : MethodName := ⟨RX1, "search", "()V"⟩
abbrev cX1_searchRows : ByteArray := prog_3_method_12_code
def yX1_searchRows : MethodName := ⟨RX1, "searchRows", "(I)V"⟩
abbrev cX1_takesUpTo : ByteArray := prog_3_method_13_code
def yX1_takesUpTo : MethodName := ⟨RX1, "takesUpTo", "(II)Z"⟩
abbrev cX1_keepRow : ByteArray := prog_3_method_14_code
def yX1_keepRow : MethodName := ⟨RX1, "keepRow", "(I)V"⟩
def RX2 : String := "ShareBench$Net"
def TX2 : u_T := fun k => match k with
  | 0 => ("ShareBench$Net", "marks", "[I", true)
  | 1 => ("ShareBench$Net", "size", "I", false)
  | 2 => ("ShareBench$Net", "walked", "Z", false)
  | 3 => ("ShareBench$Net", "atX", "I", false)
  | 4 => ("ShareBench$Net", "atY", "I", false)
  | 5 => ("ShareBench$Net", "atKind", "I", false)
  | _ => ("ShareBench$Net", "outBy", "I", false)
def tyX2 : Nat → FieldType := fun k => match k with
  | 0 => .array .int
  | 1 => .int
  | 2 => .boolean
  | 3 => .int
  | 4 => .int
  | 5 => .int
  | _ => .int
abbrev wsX20 : List Cond := u_ws RX2 TX2 7
theorem nmX2 : ∀ a, a < 7 → ∀ b, b < 7 → a ≠ b → (TX2 a).2.1 ≠ (TX2 b).2.1 := by decide +kernel
theorem tyX2_ok : ∀ k, k < 7 → parseFieldDescriptor (TX2 k).2.2.1 = some (tyX2 k) := by decide +kernel
abbrev cX2_init : ByteArray := prog_4_method_1_code
def yX2_init : MethodName := ⟨RX2, "<init>", "()V"⟩
abbrev cX2_resize : ByteArray := prog_4_method_2_code
def yX2_resize : MethodName := ⟨RX2, "resize", "(I)Z"⟩
abbrev cX2_setMark : ByteArray := prog_4_method_3_code
def yX2_setMark : MethodName := ⟨RX2, "setMark", "(III)Z"⟩
abbrev cX2_markAt : ByteArray := prog_4_method_4_code
def yX2_markAt : MethodName := ⟨RX2, "markAt", "(II)I"⟩
abbrev cX2_countFull : ByteArray := prog_4_method_5_code
def yX2_countFull : MethodName := ⟨RX2, "countFull", "()I"⟩
abbrev cX2_countOuterDoors : ByteArray := prog_4_method_6_code
def yX2_countOuterDoors : MethodName := ⟨RX2, "countOuterDoors", "()I"⟩
abbrev cX2_countDoors : ByteArray := prog_4_method_7_code
def yX2_countDoors : MethodName := ⟨RX2, "countDoors", "()I"⟩
abbrev cX2_walkFrom : ByteArray := prog_4_method_8_code
def yX2_walkFrom : MethodName := ⟨RX2, "walkFrom", "(I)I"⟩
abbrev cX2_walkEnd : ByteArray := prog_4_method_9_code
def yX2_walkEnd : MethodName := ⟨RX2, "walkEnd", "(I)I"⟩
abbrev cX2_markAsAtFirst : ByteArray := prog_4_method_10_code
def yX2_markAsAtFirst : MethodName := ⟨RX2, "markAsAtFirst", "()V"⟩
abbrev cX2_isPoint : ByteArray := prog_4_method_11_code
def yX2_isPoint : MethodName := ⟨RX2, "isPoint", "(II)Z"⟩
abbrev cX2_mayBear : ByteArray := prog_4_method_12_code
def yX2_mayBear : MethodName := ⟨RX2, "mayBear", "(III)Z"⟩
abbrev cX2_cornerMark : ByteArray := prog_4_method_13_code
def yX2_cornerMark : MethodName := ⟨RX2, "cornerMark", "(IIII)I"⟩
abbrev cX2_isFull : ByteArray := prog_4_method_14_code
def yX2_isFull : MethodName := ⟨RX2, "isFull", "(III)Z"⟩
abbrev cX2_isDoor : ByteArray := prog_4_method_15_code
def yX2_isDoor : MethodName := ⟨RX2, "isDoor", "(IIII)Z"⟩
abbrev cX2_isOuterDoor : ByteArray := prog_4_method_16_code
def yX2_isOuterDoor : MethodName := ⟨RX2, "isOuterDoor", "(I)Z"⟩
abbrev cX2_otherDoor : ByteArray := prog_4_method_17_code
def yX2_otherDoor : MethodName := ⟨RX2, "otherDoor", "(I)I"⟩
abbrev cX2_goThrough : ByteArray := prog_4_method_18_code
def yX2_goThrough : MethodName := ⟨RX2, "goThrough", "(I)V"⟩
def RX3 : String := "ShareBench$Rooms"
def TX3 : u_T := fun k => match k with
  | 0 => ("ShareBench$Rooms", "worths", "[[I", true)
  | 1 => ("ShareBench$Rooms", "trial", "[I", true)
  | 2 => ("ShareBench$Rooms", "own", "[I", true)
  | 3 => ("ShareBench$Rooms", "belowTop", "[I", true)
  | 4 => ("ShareBench$Rooms", "prices", "[J", true)
  | 5 => ("ShareBench$Rooms", "more", "[I", true)
  | 6 => ("ShareBench$Rooms", "count", "I", false)
  | 7 => ("ShareBench$Rooms", "rentInAll", "I", false)
  | 8 => ("ShareBench$Rooms", "greatest", "I", false)
  | _ => ("ShareBench$Rooms", "settled", "Z", false)
def tyX3 : Nat → FieldType := fun k => match k with
  | 0 => .array (.array .int)
  | 1 => .array .int
  | 2 => .array .int
  | 3 => .array .int
  | 4 => .array .long
  | 5 => .array .int
  | 6 => .int
  | 7 => .int
  | 8 => .int
  | _ => .boolean
abbrev wsX30 : List Cond := u_ws RX3 TX3 10
theorem nmX3 : ∀ a, a < 10 → ∀ b, b < 10 → a ≠ b → (TX3 a).2.1 ≠ (TX3 b).2.1 := by decide +kernel
theorem tyX3_ok : ∀ k, k < 10 → parseFieldDescriptor (TX3 k).2.2.1 = some (tyX3 k) := by decide +kernel
abbrev cX3_init : ByteArray := prog_5_method_1_code
def yX3_init : MethodName := ⟨RX3, "<init>", "()V"⟩
abbrev cX3_invite : ByteArray := prog_5_method_2_code
def yX3_invite : MethodName := ⟨RX3, "invite", "(I)V"⟩
abbrev cX3_setWorth : ByteArray := prog_5_method_3_code
def yX3_setWorth : MethodName := ⟨RX3, "setWorth", "(III)Z"⟩
abbrev cX3_setRent : ByteArray := prog_5_method_4_code
def yX3_setRent : MethodName := ⟨RX3, "setRent", "(I)Z"⟩
abbrev cX3_setMore : ByteArray := prog_5_method_5_code
def yX3_setMore : MethodName := ⟨RX3, "setMore", "(II)Z"⟩
abbrev cX3_greatestSum : ByteArray := prog_5_method_6_code
def yX3_greatestSum : MethodName := ⟨RX3, "greatestSum", "()I"⟩
abbrev cX3_roomOf : ByteArray := prog_5_method_7_code
def yX3_roomOf : MethodName := ⟨RX3, "roomOf", "(I)I"⟩
abbrev cX3_priceOf : ByteArray := prog_5_method_8_code
def yX3_priceOf : MethodName := ⟨RX3, "priceOf", "(I)J"⟩
abbrev cX3_grudgeOf : ByteArray := prog_5_method_9_code
def yX3_grudgeOf : MethodName := ⟨RX3, "grudgeOf", "(II)J"⟩
abbrev cX3_faultOfRents : ByteArray := prog_5_method_10_code
def yX3_faultOfRents : MethodName := ⟨RX3, "faultOfRents", "()I"⟩
abbrev cX3_isOne : ByteArray := prog_5_method_11_code
def yX3_isOne : MethodName := ⟨RX3, "isOne", "(I)Z"⟩
abbrev cX3_beginAnew : ByteArray := prog_5_method_12_code
def yX3_beginAnew : MethodName := ⟨RX3, "beginAnew", "()V"⟩
abbrev cX3_settle : ByteArray := prog_5_method_13_code
def yX3_settle : MethodName := ⟨RX3, "settle", "()V"⟩
abbrev cX3_findBest : ByteArray := prog_5_method_14_code
def yX3_findBest : MethodName := ⟨RX3, "findBest", "()V"⟩
abbrev cX3_sumOfTrial : ByteArray := prog_5_method_15_code
def yX3_sumOfTrial : MethodName := ⟨RX3, "sumOfTrial", "()I"⟩
abbrev cX3_nextTrial : ByteArray := prog_5_method_16_code
def yX3_nextTrial : MethodName := ⟨RX3, "nextTrial", "()Z"⟩
abbrev cX3_swapTrial : ByteArray := prog_5_method_17_code
def yX3_swapTrial : MethodName := ⟨RX3, "swapTrial", "(II)V"⟩
abbrev cX3_findPrices : ByteArray := prog_5_method_18_code
def yX3_findPrices : MethodName := ⟨RX3, "findPrices", "()V"⟩
abbrev cX3_lowerOwn : ByteArray := prog_5_method_19_code
def yX3_lowerOwn : MethodName := ⟨RX3, "lowerOwn", "(I)V"⟩
abbrev cX3_asked : ByteArray := prog_5_method_20_code
def yX3_asked : MethodName := ⟨RX3, "asked", "(I)J"⟩
abbrev cX3_gainAt : ByteArray := prog_5_method_21_code
def yX3_gainAt : MethodName := ⟨RX3, "gainAt", "(II)J"⟩
abbrev cX3_hasAnyGrudge : ByteArray := prog_5_method_22_code
def yX3_hasAnyGrudge : MethodName := ⟨RX3, "hasAnyGrudge", "()Z"⟩
abbrev cX3_couldTopBeLess : ByteArray := prog_5_method_23_code
def yX3_couldTopBeLess : MethodName := ⟨RX3, "couldTopBeLess", "()Z"⟩
def RX4 : String := "ShareBench"
def TX4 : u_T := fun k => match k with
  | 0 => ("ShareBench", "necklace", "LShareBench$Necklace;", true)
  | 1 => ("ShareBench", "thirds", "LShareBench$Net;", true)
  | 2 => ("ShareBench", "home", "LShareBench$Rooms;", true)
  | _ => ("ShareBench", "strip", "LShareBench$Line;", true)
def tyX4 : Nat → FieldType := fun k => match k with
  | 0 => .object "ShareBench$Necklace"
  | 1 => .object "ShareBench$Net"
  | 2 => .object "ShareBench$Rooms"
  | _ => .object "ShareBench$Line"
abbrev wsX40 : List Cond := u_ws RX4 TX4 4
theorem nmX4 : ∀ a, a < 4 → ∀ b, b < 4 → a ≠ b → (TX4 a).2.1 ≠ (TX4 b).2.1 := by decide +kernel
theorem tyX4_ok : ∀ k, k < 4 → parseFieldDescriptor (TX4 k).2.2.1 = some (tyX4 k) := by decide +kernel
abbrev cX4_init : ByteArray := prog_1_method_1_code
def yX4_init : MethodName := ⟨RX4, "<init>", "()V"⟩
abbrev cX4_bead : ByteArray := prog_1_method_2_code
def yX4_bead : MethodName := ⟨RX4, "bead", "(I)I"⟩
abbrev cX4_beads : ByteArray := prog_1_method_3_code
def yX4_beads : MethodName := ⟨RX4, "beads", "(I)Z"⟩
abbrev cX4_count : ByteArray := prog_1_method_4_code
def yX4_count : MethodName := ⟨RX4, "count", "(I)I"⟩
abbrev cX4_least : ByteArray := prog_1_method_5_code
def yX4_least : MethodName := ⟨RX4, "least", "()I"⟩
abbrev cX4_cut : ByteArray := prog_1_method_6_code
def yX4_cut : MethodName := ⟨RX4, "cut", "(I)I"⟩
abbrev cX4_rows : ByteArray := prog_1_method_7_code
def yX4_rows : MethodName := ⟨RX4, "rows", "()I"⟩
abbrev cX4_halves : ByteArray := prog_1_method_8_code
def yX4_halves : MethodName := ⟨RX4, "halves", "(I)I"⟩
abbrev cX4_net : ByteArray := prog_1_method_9_code
def yX4_net : MethodName := ⟨RX4, "net", "(I)Z"⟩
abbrev cX4_mark : ByteArray := prog_1_method_10_code
def yX4_mark : MethodName := ⟨RX4, "mark", "(III)Z"⟩
abbrev cX4_marked : ByteArray := prog_1_method_11_code
def yX4_marked : MethodName := ⟨RX4, "marked", "(II)I"⟩
abbrev cX4_all : ByteArray := prog_1_method_12_code
def yX4_all : MethodName := ⟨RX4, "all", "()I"⟩
abbrev cX4_doors : ByteArray := prog_1_method_13_code
def yX4_doors : MethodName := ⟨RX4, "doors", "()I"⟩
abbrev cX4_doorsAll : ByteArray := prog_1_method_14_code
def yX4_doorsAll : MethodName := ⟨RX4, "doorsAll", "()I"⟩
abbrev cX4_walk : ByteArray := prog_1_method_15_code
def yX4_walk : MethodName := ⟨RX4, "walk", "(I)I"⟩
abbrev cX4_ended : ByteArray := prog_1_method_16_code
def yX4_ended : MethodName := ⟨RX4, "ended", "(I)I"⟩
abbrev cX4_people : ByteArray := prog_1_method_17_code
def yX4_people : MethodName := ⟨RX4, "people", "(I)Z"⟩
abbrev cX4_room : ByteArray := prog_1_method_18_code
def yX4_room : MethodName := ⟨RX4, "room", "(III)Z"⟩
abbrev cX4_rent : ByteArray := prog_1_method_19_code
def yX4_rent : MethodName := ⟨RX4, "rent", "(I)Z"⟩
abbrev cX4_best : ByteArray := prog_1_method_20_code
def yX4_best : MethodName := ⟨RX4, "best", "()I"⟩
abbrev cX4_has : ByteArray := prog_1_method_21_code
def yX4_has : MethodName := ⟨RX4, "has", "(I)I"⟩
abbrev cX4_price : ByteArray := prog_1_method_22_code
def yX4_price : MethodName := ⟨RX4, "price", "(I)J"⟩
abbrev cX4_grudge : ByteArray := prog_1_method_23_code
def yX4_grudge : MethodName := ⟨RX4, "grudge", "(II)J"⟩
abbrev cX4_turned : ByteArray := prog_1_method_24_code
def yX4_turned : MethodName := ⟨RX4, "turned", "(II)Z"⟩
abbrev cX4_check : ByteArray := prog_1_method_25_code
def yX4_check : MethodName := ⟨RX4, "check", "()I"⟩
abbrev cX4_line : ByteArray := prog_1_method_26_code
def yX4_line : MethodName := ⟨RX4, "line", "(I)Z"⟩
abbrev cX4_stretch : ByteArray := prog_1_method_27_code
def yX4_stretch : MethodName := ⟨RX4, "stretch", "(III)Z"⟩
abbrev cX4_who : ByteArray := prog_1_method_28_code
def yX4_who : MethodName := ⟨RX4, "who", "(I)I"⟩
abbrev cX4_place : ByteArray := prog_1_method_29_code
def yX4_place : MethodName := ⟨RX4, "place", "(II)J"⟩
abbrev cX4_worth : ByteArray := prog_1_method_30_code
def yX4_worth : MethodName := ⟨RX4, "worth", "(III)J"⟩
abbrev cX4_envies : ByteArray := prog_1_method_31_code
def yX4_envies : MethodName := ⟨RX4, "envies", "(I)I"⟩
def RX5 : String := "ShareBenchModel"
def TX5 : u_T := fun k => match k with
  | 0 => ("ShareBenchModel", "thrown", "I", false)
  | 1 => ("ShareBenchModel", "beads", "[I", true)
  | 2 => ("ShareBenchModel", "beadMany", "I", false)
  | 3 => ("ShareBenchModel", "firsts", "[I", true)
  | 4 => ("ShareBenchModel", "seconds", "[I", true)
  | 5 => ("ShareBenchModel", "row", "[I", true)
  | 6 => ("ShareBenchModel", "rowMany", "I", false)
  | 7 => ("ShareBenchModel", "fewest", "I", false)
  | 8 => ("ShareBenchModel", "places", "[I", true)
  | 9 => ("ShareBenchModel", "size", "I", false)
  | 10 => ("ShareBenchModel", "marks", "[I", true)
  | 11 => ("ShareBenchModel", "a", "I", false)
  | 12 => ("ShareBenchModel", "b", "I", false)
  | 13 => ("ShareBenchModel", "c", "I", false)
  | 14 => ("ShareBenchModel", "hasWalked", "Z", false)
  | 15 => ("ShareBenchModel", "endAll", "I", false)
  | 16 => ("ShareBenchModel", "endX", "I", false)
  | 17 => ("ShareBenchModel", "endY", "I", false)
  | 18 => ("ShareBenchModel", "endUp", "I", false)
  | 19 => ("ShareBenchModel", "endDoor", "I", false)
  | 20 => ("ShareBenchModel", "people", "I", false)
  | 21 => ("ShareBenchModel", "worths", "[I", true)
  | 22 => ("ShareBenchModel", "rent", "I", false)
  | 23 => ("ShareBenchModel", "turns", "[I", true)
  | 24 => ("ShareBenchModel", "homes", "[I", true)
  | 25 => ("ShareBenchModel", "trial", "[I", true)
  | 26 => ("ShareBenchModel", "bestSum", "I", false)
  | 27 => ("ShareBenchModel", "below", "[I", true)
  | 28 => ("ShareBenchModel", "prices", "[J", true)
  | 29 => ("ShareBenchModel", "length", "I", false)
  | 30 => ("ShareBenchModel", "stretches", "[I", true)
  | 31 => ("ShareBenchModel", "whose", "[I", true)
  | 32 => ("ShareBenchModel", "upper", "[J", true)
  | 33 => ("ShareBenchModel", "lower", "[J", true)
  | 34 => ("ShareBenchModel", "up", "J", false)
  | _ => ("ShareBenchModel", "low", "J", false)
def tyX5 : Nat → FieldType := fun k => match k with
  | 0 => .int
  | 1 => .array .int
  | 2 => .int
  | 3 => .array .int
  | 4 => .array .int
  | 5 => .array .int
  | 6 => .int
  | 7 => .int
  | 8 => .array .int
  | 9 => .int
  | 10 => .array .int
  | 11 => .int
  | 12 => .int
  | 13 => .int
  | 14 => .boolean
  | 15 => .int
  | 16 => .int
  | 17 => .int
  | 18 => .int
  | 19 => .int
  | 20 => .int
  | 21 => .array .int
  | 22 => .int
  | 23 => .array .int
  | 24 => .array .int
  | 25 => .array .int
  | 26 => .int
  | 27 => .array .int
  | 28 => .array .long
  | 29 => .int
  | 30 => .array .int
  | 31 => .array .int
  | 32 => .array .long
  | 33 => .array .long
  | 34 => .long
  | _ => .long
abbrev wsX50 : List Cond := u_ws RX5 TX5 36
theorem nmX5 : ∀ a, a < 36 → ∀ b, b < 36 → a ≠ b → (TX5 a).2.1 ≠ (TX5 b).2.1 := by decide +kernel
theorem tyX5_ok : ∀ k, k < 36 → parseFieldDescriptor (TX5 k).2.2.1 = some (tyX5 k) := by decide +kernel
abbrev cX5_init : ByteArray := prog_7_method_1_code
def yX5_init : MethodName := ⟨RX5, "<init>", "()V"⟩
abbrev cX5_bead : ByteArray := prog_7_method_3_code
def yX5_bead : MethodName := ⟨RX5, "bead", "(I)I"⟩
abbrev cX5_beads : ByteArray := prog_7_method_4_code
def yX5_beads : MethodName := ⟨RX5, "beads", "(I)Z"⟩
abbrev cX5_count : ByteArray := prog_7_method_5_code
def yX5_count : MethodName := ⟨RX5, "count", "(I)I"⟩
abbrev cX5_isHalved : ByteArray := prog_7_method_6_code
def yX5_isHalved : MethodName := ⟨RX5, "isHalved", "(I)Z"⟩
abbrev cX5_tries : ByteArray := prog_7_method_7_code
def yX5_tries : MethodName := ⟨RX5, "tries", "(I)V"⟩
abbrev cX5_steps : ByteArray := prog_7_method_8_code
def yX5_steps : MethodName := ⟨RX5, "steps", "(I)Z"⟩
abbrev cX5_finds : ByteArray := prog_7_method_9_code
def yX5_finds : MethodName := ⟨RX5, "finds", "()V"⟩
abbrev cX5_least : ByteArray := prog_7_method_10_code
def yX5_least : MethodName := ⟨RX5, "least", "()I"⟩
abbrev cX5_cut : ByteArray := prog_7_method_11_code
def yX5_cut : MethodName := ⟨RX5, "cut", "(I)I"⟩
abbrev cX5_rows : ByteArray := prog_7_method_12_code
def yX5_rows : MethodName := ⟨RX5, "rows", "()I"⟩
abbrev cX5_halves : ByteArray := prog_7_method_13_code
def yX5_halves : MethodName := ⟨RX5, "halves", "(I)I"⟩
abbrev cX5_isPoint : ByteArray := prog_7_method_14_code
def yX5_isPoint : MethodName := ⟨RX5, "isPoint", "(II)Z"⟩
abbrev cX5_markOf : ByteArray := prog_7_method_15_code
def yX5_markOf : MethodName := ⟨RX5, "markOf", "(II)I"⟩
abbrev cX5_puts : ByteArray := prog_7_method_16_code
def yX5_puts : MethodName := ⟨RX5, "puts", "(I)V"⟩
abbrev cX5_net : ByteArray := prog_7_method_17_code
def yX5_net : MethodName := ⟨RX5, "net", "(I)Z"⟩
abbrev cX5_mark : ByteArray := prog_7_method_18_code
def yX5_mark : MethodName := ⟨RX5, "mark", "(III)Z"⟩
abbrev cX5_marked : ByteArray := prog_7_method_19_code
def yX5_marked : MethodName := ⟨RX5, "marked", "(II)I"⟩
abbrev cX5_isDoor : ByteArray := prog_7_method_20_code
def yX5_isDoor : MethodName := ⟨RX5, "isDoor", "(II)Z"⟩
abbrev cX5_thirdIs : ByteArray := prog_7_method_21_code
def yX5_thirdIs : MethodName := ⟨RX5, "thirdIs", "(III)V"⟩
abbrev cX5_all : ByteArray := prog_7_method_22_code
def yX5_all : MethodName := ⟨RX5, "all", "()I"⟩
abbrev cX5_isAll : ByteArray := prog_7_method_23_code
def yX5_isAll : MethodName := ⟨RX5, "isAll", "(III)Z"⟩
abbrev cX5_isOuter : ByteArray := prog_7_method_24_code
def yX5_isOuter : MethodName := ⟨RX5, "isOuter", "(I)Z"⟩
abbrev cX5_doors : ByteArray := prog_7_method_25_code
def yX5_doors : MethodName := ⟨RX5, "doors", "()I"⟩
abbrev cX5_doorsAll : ByteArray := prog_7_method_26_code
def yX5_doorsAll : MethodName := ⟨RX5, "doorsAll", "()I"⟩
abbrev cX5_walk : ByteArray := prog_7_method_27_code
def yX5_walk : MethodName := ⟨RX5, "walk", "(I)I"⟩
abbrev cX5_ended : ByteArray := prog_7_method_28_code
def yX5_ended : MethodName := ⟨RX5, "ended", "(I)I"⟩
abbrev cX5_people : ByteArray := prog_7_method_29_code
def yX5_people : MethodName := ⟨RX5, "people", "(I)Z"⟩
abbrev cX5_turnsBack : ByteArray := prog_7_method_30_code
def yX5_turnsBack : MethodName := ⟨RX5, "turnsBack", "()V"⟩
abbrev cX5_isOne : ByteArray := prog_7_method_31_code
def yX5_isOne : MethodName := ⟨RX5, "isOne", "(I)Z"⟩
abbrev cX5_room : ByteArray := prog_7_method_32_code
def yX5_room : MethodName := ⟨RX5, "room", "(III)Z"⟩
abbrev cX5_rent : ByteArray := prog_7_method_33_code
def yX5_rent : MethodName := ⟨RX5, "rent", "(I)Z"⟩
abbrev cX5_shares : ByteArray := prog_7_method_34_code
def yX5_shares : MethodName := ⟨RX5, "shares", "()V"⟩
abbrev cX5_reckons : ByteArray := prog_7_method_35_code
def yX5_reckons : MethodName := ⟨RX5, "reckons", "()V"⟩
abbrev cX5_best : ByteArray := prog_7_method_36_code
def yX5_best : MethodName := ⟨RX5, "best", "()I"⟩
abbrev cX5_has : ByteArray := prog_7_method_37_code
def yX5_has : MethodName := ⟨RX5, "has", "(I)I"⟩
abbrev cX5_price : ByteArray := prog_7_method_38_code
def yX5_price : MethodName := ⟨RX5, "price", "(I)J"⟩
abbrev cX5_grudgeOf : ByteArray := prog_7_method_39_code
def yX5_grudgeOf : MethodName := ⟨RX5, "grudgeOf", "(II)J"⟩
abbrev cX5_grudge : ByteArray := prog_7_method_40_code
def yX5_grudge : MethodName := ⟨RX5, "grudge", "(II)J"⟩
abbrev cX5_turned : ByteArray := prog_7_method_41_code
def yX5_turned : MethodName := ⟨RX5, "turned", "(II)Z"⟩
abbrev cX5_check : ByteArray := prog_7_method_42_code
def yX5_check : MethodName := ⟨RX5, "check", "()I"⟩
abbrev cX5_line : ByteArray := prog_7_method_43_code
def yX5_line : MethodName := ⟨RX5, "line", "(I)Z"⟩
abbrev cX5_stretch : ByteArray := prog_7_method_44_code
def yX5_stretch : MethodName := ⟨RX5, "stretch", "(III)Z"⟩
abbrev cX5_common : ByteArray := prog_7_method_45_code
def yX5_common : MethodName := ⟨RX5, "common", "(JJ)J"⟩
abbrev cX5_fraction : ByteArray := prog_7_method_46_code
def yX5_fraction : MethodName := ⟨RX5, "fraction", "(JJ)V"⟩
abbrev cX5_worthTo : ByteArray := prog_7_method_47_code
def yX5_worthTo : MethodName := ⟨RX5, "worthTo", "(IJJ)V"⟩
abbrev cX5_wholeOf : ByteArray := prog_7_method_48_code
def yX5_wholeOf : MethodName := ⟨RX5, "wholeOf", "(I)I"⟩
abbrev cX5_says : ByteArray := prog_7_method_49_code
def yX5_says : MethodName := ⟨RX5, "says", "(IJJ)V"⟩
abbrev cX5_cuts : ByteArray := prog_7_method_50_code
def yX5_cuts : MethodName := ⟨RX5, "cuts", "()V"⟩
abbrev cX5_isLess : ByteArray := prog_7_method_51_code
def yX5_isLess : MethodName := ⟨RX5, "isLess", "(JJJJ)Z"⟩
abbrev cX5_who : ByteArray := prog_7_method_52_code
def yX5_who : MethodName := ⟨RX5, "who", "(I)I"⟩
abbrev cX5_place : ByteArray := prog_7_method_53_code
def yX5_place : MethodName := ⟨RX5, "place", "(II)J"⟩
abbrev cX5_worthOf : ByteArray := prog_7_method_54_code
def yX5_worthOf : MethodName := ⟨RX5, "worthOf", "(II)V"⟩
abbrev cX5_worth : ByteArray := prog_7_method_55_code
def yX5_worth : MethodName := ⟨RX5, "worth", "(III)J"⟩
abbrev cX5_envies : ByteArray := prog_7_method_56_code
def yX5_envies : MethodName := ⟨RX5, "envies", "(I)I"⟩
def RJ9 : String := "java/lang/Math"
def TJ9 : u_T := fun k => match k with
  | _ => ("", "", "", false)
def tyJ9 : Nat → FieldType := fun k => match k with
  | _ => .int
abbrev wsJ90 : List Cond := u_ws RJ9 TJ9 0
theorem nmJ9 : ∀ a, a < 0 → ∀ b, b < 0 → a ≠ b → (TJ9 a).2.1 ≠ (TJ9 b).2.1 := by decide +kernel
theorem tyJ9_ok : ∀ k, k < 0 → parseFieldDescriptor (TJ9 k).2.2.1 = some (tyJ9 k) := by decide +kernel
abbrev cJ9_max_f86c9 : ByteArray := prog_8_method_66_code
def yJ9_max_f86c9 : MethodName := ⟨RJ9, "max", "(JJ)J"⟩
abbrev cJ9_min_7cf53 : ByteArray := prog_8_method_69_code
def yJ9_min_7cf53 : MethodName := ⟨RJ9, "min", "(II)I"⟩
def RJ10 : String := "java/lang/System"
def TJ10 : u_T := fun k => match k with
  | _ => ("", "", "", false)
def tyJ10 : Nat → FieldType := fun k => match k with
  | _ => .int
abbrev wsJ100 : List Cond := u_ws RJ10 TJ10 0
theorem nmJ10 : ∀ a, a < 0 → ∀ b, b < 0 → a ≠ b → (TJ10 a).2.1 ≠ (TJ10 b).2.1 := by decide +kernel
theorem tyJ10_ok : ∀ k, k < 0 → parseFieldDescriptor (TJ10 k).2.2.1 = some (tyJ10 k) := by decide +kernel
def RJ7 : String := "java/util/Arrays"
def TJ7 : u_T := fun k => match k with
  | _ => ("", "", "", false)
def tyJ7 : Nat → FieldType := fun k => match k with
  | _ => .int
abbrev wsJ70 : List Cond := u_ws RJ7 TJ7 0
theorem nmJ7 : ∀ a, a < 0 → ∀ b, b < 0 → a ≠ b → (TJ7 a).2.1 ≠ (TJ7 b).2.1 := by decide +kernel
theorem tyJ7_ok : ∀ k, k < 0 → parseFieldDescriptor (TJ7 k).2.2.1 = some (tyJ7 k) := by decide +kernel
abbrev cJ7_fill_53178 : ByteArray := prog_10_method_103_code
def yJ7_fill_53178 : MethodName := ⟨RJ7, "fill", "([II)V"⟩
def RL : String := "ShareBenchLaw"
abbrev cL_law : ByteArray := code
def yL_law : MethodName := ⟨RL, "law", "([I)Z"⟩
