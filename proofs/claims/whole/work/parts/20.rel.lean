/-! The small machine's heap and the machine's: what it means that they agree. -/
def rx_ad (b base i : Nat) : Nat := match i with
  | 0 => b
  | j + 1 => base + j
def rx_mv (ad : Nat → Nat) (v : Value) : Value := match v with
  | .ref i => .ref (ad i)
  | v => v
theorem rx_mv_cat (ad : Nat → Nat) (v : Value) : (rx_mv ad v).category = v.category := by cases v <;> rfl
theorem rx_mv_rf (ad : Nat → Nat) (r : Option Nat) : rx_mv ad (va_rf r) = va_rf (r.map ad) := by cases r <;> rfl
theorem rx_mv_sum (ad : Nat → Nat) (st : List Value) : ((st.map (rx_mv ad)).map fun v => v.category).sum = rx_cat st := by
  unfold rx_cat
  rw [List.map_map]
  congr 1
  apply List.map_congr_left
  intro v _
  exact rx_mv_cat ad v
/-- the locals that hold something -/
def rx_al (f : Value → Value) (ls : List Value) : List (Nat × Value) := ls.zipIdx.filterMap (fun q => bif rx_un q.1 then none else some (q.2, f q.1))
theorem rx_al_mem {f : Value → Value} {ls : List Value} {q : Nat × Value} : q ∈ rx_al f ls ↔ ∃ v, ls[q.1]? = some v ∧ rx_un v = false ∧ q.2 = f v := by
  unfold rx_al
  constructor
  · intro h
    obtain ⟨⟨v, i⟩, hm, he⟩ := List.mem_filterMap.mp h
    have hv := List.mk_mem_zipIdx_iff_getElem?.mp hm
    cases hu : rx_un v with
    | true => simp [hu] at he
    | false =>
      simp [hu] at he
      subst he
      exact ⟨v, hv, hu, rfl⟩
  · rintro ⟨v, h1, h2, h3⟩
    refine List.mem_filterMap.mpr ⟨(v, q.1), List.mk_mem_zipIdx_iff_getElem?.mpr h1, ?_⟩
    simp [h2, ← h3]
theorem rx_get {lc : Array Slot} {nL k : Nat} {f : Value → Value} {ls : List Value} {v : Value} (h : lv_has lc nL (rx_al f ls)) (hk : ls[k]? = some v) (hu : rx_un v = false) : lc[k]? = some (.val (f v)) :=
  h.2.2 (k, f v) (rx_al_mem.mpr ⟨v, hk, hu, rfl⟩)
theorem rx_kl_len (ls : List Value) (i : Nat) : (rx_kl ls i).length = ls.length := by
  cases i with
  | zero => rfl
  | succ k =>
    unfold rx_kl
    dsimp only
    split
    · split <;> simp
    · rfl
theorem rx_kl_get {ls : List Value} {i j : Nat} {w : Value} (h : (rx_kl ls i)[j]? = some w) (hu : rx_un w = false) : ls[j]? = some w ∧ ¬ (j + 1 = i ∧ w.category = 2) := by
  cases i with
  | zero => exact ⟨h, fun q => by omega⟩
  | succ k =>
    unfold rx_kl at h
    dsimp only at h
    cases hk : ls[k]? with
    | none =>
      rw [hk] at h
      refine ⟨h, fun q => ?_⟩
      have e : j = k := by omega
      subst e
      dsimp only at h
      rw [hk] at h
      cases h
    | some v =>
      rw [hk] at h
      dsimp only at h
      by_cases hv : v.category = 2
      · rw [if_pos hv] at h
        by_cases hj : j = k
        · subst hj
          rw [List.getElem?_set_self (List.getElem?_eq_some_iff.mp hk).1] at h
          cases h
          cases hu
        · rw [List.getElem?_set_ne (Ne.symm hj)] at h
          exact ⟨h, fun q => hj (by omega)⟩
      · rw [if_neg hv] at h
        refine ⟨h, fun q => ?_⟩
        have e : j = k := by omega
        subst e
        rw [hk] at h
        cases h
        exact hv q.2
theorem rx_st1_len (ls : List Value) (i : Nat) (v : Value) : (rx_st1 ls i v).length = ls.length := by simp [rx_st1, rx_kl_len]
theorem rx_st2_len (ls : List Value) (i : Nat) (v : Value) : (rx_st2 ls i v).length = ls.length := by simp [rx_st2, rx_kl_len]
theorem rx_al_st1 {ad : Nat → Nat} {ls : List Value} {i nL : Nat} {v : Value} {lc : Array Slot} (hi : i < ls.length)
    (h : lv_has lc nL ((i, rx_mv ad v) :: (rx_al (rx_mv ad) ls).filter (fun q => !(q.1 == i) && !(q.1 + 1 == i && q.2.category == 2)))) : lv_has lc nL (rx_al (rx_mv ad) (rx_st1 ls i v)) := by
  refine ⟨h.1, h.2.1, fun q hq => h.2.2 q ?_⟩
  obtain ⟨w, hw, hu, he⟩ := rx_al_mem.mp hq
  obtain ⟨j, z⟩ := q
  dsimp only at hw he
  subst he
  by_cases hj : j = i
  · subst hj
    rw [rx_st1, List.getElem?_set_self (by rw [rx_kl_len]; exact hi)] at hw
    cases hw
    exact List.mem_cons_self
  · rw [rx_st1, List.getElem?_set_ne (Ne.symm hj)] at hw
    obtain ⟨h1, h2⟩ := rx_kl_get hw hu
    refine List.mem_cons_of_mem _ (List.mem_filter.mpr ⟨rx_al_mem.mpr ⟨w, h1, hu, rfl⟩, ?_⟩)
    simp only [rx_mv_cat, Bool.and_eq_true, Bool.not_eq_true', beq_eq_false_iff_ne, ne_eq, Bool.and_eq_false_iff]
    refine ⟨hj, ?_⟩
    by_cases g : j + 1 = i
    · exact Or.inr fun g2 => h2 ⟨g, g2⟩
    · exact Or.inl g
theorem rx_al_st2 {ad : Nat → Nat} {ls : List Value} {i nL : Nat} {v : Value} {lc : Array Slot} (hi : i + 1 < ls.length)
    (h : lv_has lc nL ((i, rx_mv ad v) :: (rx_al (rx_mv ad) ls).filter (fun q => !(q.1 == i) && (!(q.1 == i + 1) && !(q.1 + 1 == i && q.2.category == 2))))) : lv_has lc nL (rx_al (rx_mv ad) (rx_st2 ls i v)) := by
  refine ⟨h.1, h.2.1, fun q hq => h.2.2 q ?_⟩
  obtain ⟨w, hw, hu, he⟩ := rx_al_mem.mp hq
  obtain ⟨j, z⟩ := q
  dsimp only at hw he
  subst he
  by_cases hj2 : j = i + 1
  · subst hj2
    rw [rx_st2, List.getElem?_set_self (by simp [rx_kl_len]; exact hi)] at hw
    cases hw
    cases hu
  · rw [rx_st2, List.getElem?_set_ne (Ne.symm hj2)] at hw
    by_cases hj : j = i
    · subst hj
      rw [List.getElem?_set_self (by rw [rx_kl_len]; omega)] at hw
      cases hw
      exact List.mem_cons_self
    · rw [List.getElem?_set_ne (Ne.symm hj)] at hw
      obtain ⟨h1, h2⟩ := rx_kl_get hw hu
      refine List.mem_cons_of_mem _ (List.mem_filter.mpr ⟨rx_al_mem.mpr ⟨w, h1, hu, rfl⟩, ?_⟩)
      simp only [rx_mv_cat, Bool.and_eq_true, Bool.not_eq_true', beq_eq_false_iff_ne, ne_eq, Bool.and_eq_false_iff]
      refine ⟨hj, hj2, ?_⟩
      by_cases g : j + 1 = i
      · exact Or.inr fun g2 => h2 ⟨g, g2⟩
      · exact Or.inl g
/-- a field's value -/
def rx_fv (ad : Nat → Nat) (h : rx_H) (i c k : Nat) : Value := match rx_kd (rx_ty c k) with
  | 1 => .long (h.2.2.1 i k)
  | 2 => va_rf ((h.2.2.2 i k).map ad)
  | _ => .int (h.2.1 i k)
def rx_av (ad : Nat → Nat) (h : rx_H) (i t : Nat) : (Nat → Int32) ⊕ (Nat → Int64) ⊕ (Nat → UInt32) ⊕ (Nat → UInt64) ⊕ (Nat → Option Nat) :=
  if t = 15 then .inr (.inl (h.2.2.1 i)) else if t < 17 then .inl (h.2.1 i) else .inr (.inr (.inr (.inr (fun j => (h.2.2.2 i j).map ad))))
/-- what a cell holds -/
def rx_E (ad : Nat → Nat) (dA : Nat → ClassId) (h : rx_H) (i : Nat) : va_E := match h.1[i]? with
  | some (t, n) => if t < 13 then .inr (t, (List.range n).map (rx_fv ad h i t)) else .inl (dA t, n, rx_av ad h i t)
  | none => .inr (0, [])
def rx_W (b base : Nat) (dA : Nat → ClassId) (h : rx_H) : va_W := (List.range (h.1.length - 1)).map (fun j => (base + j, rx_E (rx_ad b base) dA h (j + 1)))
def rx_ay (dA : Nat → ClassId) : List (ClassId × FieldType) := [(dA 13, .byte), (dA 14, .int), (dA 15, .long), (dA 16, .boolean), (dA 17, .object "CartFloor$Cart"), (dA 18, .object "CartFloor$Shelf")]
/-- what is known of the tables: classes, array classes, nest mates -/
def rx_env (D : va_G) (dA : Nat → ClassId) (U : State) : Prop := va_K D rx_cls (rx_ay dA) U ∧ (∀ w ∈ rx_nml.map rx_nlw, va_Nw w U) ∧ va_AO "CartFloor$Cart" U ∧ va_AO "CartFloor$Shelf" U
def rx_us (h : rx_H) : Nat := (h.1.map fun q => q.2).sum
def rx_rel (D : va_G) (dA : Nat → ClassId) (b base : Nat) (U : State) (h : rx_H) (H : Heap) : Prop :=
  va_P D rx_cls (rx_W b base dA h) H ∧ rx_env D dA U ∧ b < base ∧ base ≤ H.size ∧ ∃ L, h.1[0]? = some (14, L) ∧ va_X b L (h.2.1 0) U H
theorem rx_W_get {b base i : Nat} {dA : Nat → ClassId} {h : rx_H} (hi : i + 1 < h.1.length) : (rx_W b base dA h)[i]? = some (base + i, rx_E (rx_ad b base) dA h (i + 1)) := by
  unfold rx_W
  rw [List.getElem?_map, List.getElem?_range (by omega)]
  rfl
theorem rx_W_inv {b base i : Nat} {dA : Nat → ClassId} {h : rx_H} {q : Nat × va_E} (hq : (rx_W b base dA h)[i]? = some q) : i + 1 < h.1.length ∧ q = (base + i, rx_E (rx_ad b base) dA h (i + 1)) := by
  have hl : i < (rx_W b base dA h).length := (List.getElem?_eq_some_iff.mp hq).1
  have hi : i + 1 < h.1.length := by
    unfold rx_W at hl
    simp at hl
    omega
  exact ⟨hi, Option.some.inj (hq.symm.trans (rx_W_get hi))⟩
theorem rx_W_D {b base : Nat} {dA : Nat → ClassId} {h : rx_H} : va_D (fun q => base ≤ q) (rx_W b base dA h) := by
  refine ⟨fun i j p q hp hq e => ?_, fun k q hk => ?_⟩
  · obtain ⟨-, rfl⟩ := rx_W_inv hp
    obtain ⟨-, rfl⟩ := rx_W_inv hq
    dsimp only at e
    omega
  · obtain ⟨-, rfl⟩ := rx_W_inv hk
    exact Nat.le_add_right base k
theorem rx_E_congr {ad : Nat → Nat} {dA : Nat → ClassId} {h h2 : rx_H} {j : Nat} (h0 : h2.1[j]? = h.1[j]?) (h1 : h2.2.1 j = h.2.1 j) (h3 : h2.2.2.1 j = h.2.2.1 j) (h4 : h2.2.2.2 j = h.2.2.2 j) : rx_E ad dA h2 j = rx_E ad dA h j := by
  unfold rx_E rx_av
  have e : ∀ t, rx_fv ad h2 j t = rx_fv ad h j t := fun t => by
    funext k
    unfold rx_fv
    rw [h1, h3, h4]
  rw [h0, h1, h3, h4]
  simp only [e]
theorem rx_W_set {b base i : Nat} {dA : Nat → ClassId} {h h2 : rx_H} (hs : h2.1 = h.1) (he : ∀ j, j ≠ i + 1 → rx_E (rx_ad b base) dA h2 j = rx_E (rx_ad b base) dA h j) (x : va_E) (hx : x = rx_E (rx_ad b base) dA h2 (i + 1)) :
    (rx_W b base dA h).set i (base + i, x) = rx_W b base dA h2 := by
  subst hx
  unfold rx_W
  rw [hs]
  apply List.ext_getElem?
  intro k
  rw [List.getElem?_set]
  by_cases hk : k < h.1.length - 1
  · by_cases e : i = k
    · subst e
      rw [if_pos rfl, if_pos (by simp; exact hk), List.getElem?_map, List.getElem?_range hk]
      rfl
    · rw [if_neg e, List.getElem?_map, List.getElem?_map, List.getElem?_range hk]
      show some (base + k, rx_E (rx_ad b base) dA h (k + 1)) = some (base + k, rx_E (rx_ad b base) dA h2 (k + 1))
      rw [he (k + 1) (by omega)]
  · have e1 : ((List.range (h.1.length - 1)).map (fun j => (base + j, rx_E (rx_ad b base) dA h2 (j + 1))))[k]? = none := by simp; omega
    rw [e1]
    by_cases e : i = k
    · rw [if_pos e, if_neg (by simp; omega)]
    · rw [if_neg e]; simp; omega
theorem rx_W_app {b base : Nat} {dA : Nat → ClassId} {h h2 : rx_H} {z : Nat × Nat} (h0 : 0 < h.1.length) (hs : h2.1 = h.1 ++ [z]) (he : ∀ j, j < h.1.length → rx_E (rx_ad b base) dA h2 j = rx_E (rx_ad b base) dA h j) (x : va_E) (hx : x = rx_E (rx_ad b base) dA h2 h.1.length) :
    rx_W b base dA h ++ [(base + (h.1.length - 1), x)] = rx_W b base dA h2 := by
  subst hx
  have e1 : h2.1.length - 1 = (h.1.length - 1) + 1 := by rw [hs]; simp; omega
  have e2 : h.1.length - 1 + 1 = h.1.length := by omega
  unfold rx_W
  rw [e1, List.range_succ, List.map_append, List.map_singleton, e2]
  congr 1
  apply List.map_congr_left
  intro j hj
  have := List.mem_range.mp hj
  rw [he (j + 1) (by omega)]
theorem rx_u_ne {α : Type} {f : Nat → Nat → α} {i k a : Nat} {v : α} (h : a ≠ i) : rx_u f i k v a = f a := by unfold rx_u; rw [if_neg h]
theorem rx_u_eq {α : Type} {f : Nat → Nat → α} {i k : Nat} {v : α} : rx_u f i k v i = fun b => if b = k then v else f i b := by unfold rx_u; rw [if_pos rfl]
theorem rx_row_ne {α : Type} {f : Nat → Nat → α} {i a : Nat} {g : Nat → α} (h : a ≠ i) : rx_row f i g a = f a := by unfold rx_row; rw [if_neg h]
theorem rx_row_eq {α : Type} {f : Nat → Nat → α} {i : Nat} {g : Nat → α} : rx_row f i g i = g := by unfold rx_row; rw [if_pos rfl]
theorem rx_env.moved {D : va_G} {dA : Nat → ClassId} {u U : State} (hW : u.WarmedH U.vm) (h : rx_env D dA u) : rx_env D dA U := by
  refine ⟨va_K.moved hW.alike h.1, fun w hw => ?_, va_AO.moved hW.alike h.2.2.1, va_AO.moved hW.alike h.2.2.2⟩
  have h2 := h.2.1 w hw
  obtain ⟨q, -, rfl⟩ := List.mem_map.mp hw
  exact va_Nw.warmM hW h2
theorem rx_rel.moved {D : va_G} {dA : Nat → ClassId} {b base : Nat} {u U : State} {h : rx_H} {H : Heap} (hW : u.WarmedH U.vm) (g : rx_rel D dA b base u h H) : rx_rel D dA b base U h H := by
  obtain ⟨h1, h2, h3, h4, L, h5, h6⟩ := g
  exact ⟨h1, h2.moved hW, h3, h4, L, h5, h6.moved hW.alike⟩
