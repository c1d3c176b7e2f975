/-! Bits: the lowest one, nibbles. Search.leads, pick. -/
theorem cf_neg (x : Int64) (p : Nat) (hp : p < 64) : cf_has (-x) p = (cf_has x p ^^ decide (∃ j, j < p ∧ cf_has x j = true)) := by
  unfold cf_has
  rw [Int64.toBitVec_neg, BitVec.getLsbD_neg, decide_eq_true hp, Bool.true_and]
/-- the lowest square of a set -/
theorem cf_low {x : Int64} (h : ¬ x = 0) : ∃ q, q < 64 ∧ cf_has x q = true ∧ (∀ p, p < q → cf_has x p = false) ∧ (x &&& -x) = cf_bt q := by
  obtain ⟨p, hp, hx⟩ := cf_hne.mp h
  obtain ⟨q, hq, h1, _, h2⟩ := cf_ff_pos (p := cf_has x) (n := 64) ⟨p, hp, hx⟩
  refine ⟨q, hq, h1, h2, ?_⟩
  apply cf_ext
  intro j hj
  rw [cf_hand, cf_neg x j hj, cf_hbt, decide_eq_true hq, Bool.true_and]
  by_cases e : q = j
  · subst e
    rw [h1, decide_eq_true rfl, decide_eq_false (fun ⟨i, hi, hi2⟩ => by rw [h2 i hi] at hi2; cases hi2)]; rfl
  · rw [decide_eq_false e]
    rcases Nat.lt_or_gt_of_ne e with l | l
    · rw [decide_eq_true ⟨q, l, h1⟩]; cases cf_has x j <;> rfl
    · rw [h2 j l]; rfl
theorem cf_pop_bt {q : Nat} (hq : q < 64) : cf_pop (cf_bt q - 1) = q := by
  have : ∀ i : Fin 64, cf_pop (cf_bt i.val - 1) = i.val := by decide +kernel
  exact this ⟨q, hq⟩
/-- four bits of a long, from 4 k on -/
def cf_nb (x : Int64) (k m : Nat) : Prop := ∀ j, j < 4 → cf_has x (4 * k + j) = m.testBit j
theorem cf_h15 (q : Nat) (hq : q < 64) : cf_has 15 q = decide (q < 4) := by
  have : ∀ i : Fin 64, cf_has 15 i.val = decide (i.val < 4) := by decide +kernel
  exact this ⟨q, hq⟩
theorem cf_hsm (m q : Nat) (hm : m < 5) (hq : q < 64) : cf_has (nI m).toInt64 q = m.testBit q := by
  have : ∀ (a : Fin 5) (i : Fin 64), cf_has (nI a.val).toInt64 i.val = a.val.testBit i.val := by decide +kernel
  exact this ⟨m, hm⟩ ⟨q, hq⟩
theorem cf_sm4 (m q : Nat) (hm : m < 5) (hq : 4 ≤ q) : m.testBit q = false := by
  apply Nat.testBit_lt_two_pow
  have : 2 ^ 4 ≤ 2 ^ q := Nat.pow_le_pow_right (by decide) hq
  omega
/-- a nibble is written -/
theorem cf_nb_put {x : Int64} {k m : Nat} (hk : k < 16) (hm : m < 5) : cf_nb ((x &&& (((15 : Int64) <<< ((nI (4 * k)).toInt64 &&& 63)) ^^^ -1)) ||| ((nI m).toInt64 <<< ((nI (4 * k)).toInt64 &&& 63))) k m ∧ (∀ k' m', k' < 16 → ¬ k' = k → cf_nb x k' m' → cf_nb ((x &&& (((15 : Int64) <<< ((nI (4 * k)).toInt64 &&& 63)) ^^^ -1)) ||| ((nI m).toInt64 <<< ((nI (4 * k)).toInt64 &&& 63))) k' m') := by
  have val : ∀ p, p < 64 → cf_has ((x &&& (((15 : Int64) <<< ((nI (4 * k)).toInt64 &&& 63)) ^^^ -1)) ||| ((nI m).toInt64 <<< ((nI (4 * k)).toInt64 &&& 63))) p = ((cf_has x p && !(decide (4 * k ≤ p) && decide (p - 4 * k < 4))) || (decide (4 * k ≤ p) && m.testBit (p - 4 * k))) := by
    intro p hp
    rw [cf_hor, cf_hand, cf_hnot, cf_shl _ _ (by omega), cf_shl _ _ (by omega), decide_eq_true hp, cf_h15 _ (by omega), cf_hsm _ _ hm (by omega)]
    simp
  refine ⟨fun j hj => ?_, fun k' m' hk' hne h j hj => ?_⟩
  · rw [val _ (by omega), decide_eq_true (show 4 * k ≤ 4 * k + j by omega), show 4 * k + j - 4 * k = j by omega, decide_eq_true hj]
    simp
  · rw [val _ (by omega), h j hj]
    by_cases g : 4 * k ≤ 4 * k' + j
    · rw [decide_eq_true g, decide_eq_false (show ¬ 4 * k' + j - 4 * k < 4 by omega), cf_sm4 m _ hm (by omega)]; simp
    · rw [decide_eq_false g]; simp
/-- a nibble is read -/
theorem cf_nb_get {x : Int64} {k m : Nat} (hk : k < 16) (hm : m < 5) (h : cf_nb x k m) : (Int64.toInt32 (((Int64.toUInt64 x) >>> (((nI (4 * k)).toInt64).toUInt64 &&& Int64.toUInt64 63)).toInt64)) &&& (15 : Int32) = nI m := by
  apply Int32.toBitVec_inj.mp
  rw [Int32.toBitVec_and]
  apply BitVec.eq_of_getLsbD_eq
  intro i hi
  rw [BitVec.getLsbD_and]
  have e1 : (Int64.toInt32 (((Int64.toUInt64 x) >>> (((nI (4 * k)).toInt64).toUInt64 &&& Int64.toUInt64 63)).toInt64)).toBitVec.getLsbD i = (decide (i < 32) && cf_has ((Int64.toUInt64 x >>> (((nI (4 * k)).toInt64).toUInt64 &&& Int64.toUInt64 63)).toInt64) i) := by
    rw [Int64.toBitVec_toInt32, BitVec.getLsbD_signExtend]
    rw [if_pos (by omega)]
    rfl
  rw [e1, cf_shr _ _ (by omega), decide_eq_true hi, Bool.true_and]
  have e2 : (15 : Int32).toBitVec.getLsbD i = decide (i < 4) := by
    have : ∀ i : Fin 32, (15 : Int32).toBitVec.getLsbD i.val = decide (i.val < 4) := by decide +kernel
    exact this ⟨i, hi⟩
  have e3 : (nI m).toBitVec.getLsbD i = m.testBit i := by
    have : ∀ (a : Fin 5) (i : Fin 32), (nI a.val).toBitVec.getLsbD i.val = a.val.testBit i.val := by decide +kernel
    exact this ⟨m, hm⟩ ⟨i, hi⟩
  rw [e2, e3]
  by_cases g : i < 4
  · have := h i g
    rw [decide_eq_true g, Bool.and_true, show i + 4 * k = 4 * k + i by omega]; exact this
  · rw [decide_eq_false g, Bool.and_false, cf_sm4 m i hm (by omega)]
/-- what may be made, if both states are free: carts of one square -/
theorem cf_may1 {S : cf_S} (V : cf_V S) {c l f t s m r : Nat} (hE : S 4 c ≤ f) (h2 : cf_two (S 3 c) = false) (hs : cf_vs (S 0 0) (S 0 1) (cf_two (S 3 c)) s) (hfs : (cf_std (S 0 0) (S 0 1) (cf_two (S 3 c)) s &&& cf_gT S (cf_sp S) (cf_hd S) c l t) = 0) (hm : m < 5) (e : cf_mv (S 0 0) (S 0 1) (cf_two (S 3 c)) s m = some r) (hfr : (cf_std (S 0 0) (S 0 1) (cf_two (S 3 c)) r &&& cf_gT S (cf_sp S) (cf_hd S) c l (t + 1)) = 0) :
    cf_may S (cf_gT S (cf_sp S) (cf_hd S) c l) (cf_sd S) c t s m = some r ↔ (m = 0 ∨ cf_fcd S c f t (m - 1) (s % 64) = false) := by
  have hwh := cf_V_wh V
  have tq0 : ∀ s m, cf_tq (S 0 0) (S 0 1) (S 3 c) s m = 0 := fun s m => by unfold cf_tq; rw [h2]; rfl
  have free1 : ∀ s u, (cf_std (S 0 0) (S 0 1) (cf_two (S 3 c)) s &&& cf_gT S (cf_sp S) (cf_hd S) c l u) = 0 ↔ cf_has (cf_gT S (cf_sp S) (cf_hd S) c l u) (s % 64) = false := by
    intro s u
    rw [cf_dj, h2, cf_not_true]
    constructor
    · intro h; exact h _ (cf_std1.mpr rfl)
    · intro h p hp; rw [cf_std1.mp hp]; exact h
  have f1 := (free1 s t).mp hfs
  have f2 := (free1 r (t + 1)).mp hfr
  have iff1 : cf_may S (cf_gT S (cf_sp S) (cf_hd S) c l) (cf_sd S) c t s m = some r ↔ ∀ o, o < S 0 2 → ¬ o = c → ¬ (cf_has (cf_sd S (t + 1) o) (s % 64) = true ∧ cf_has (cf_sd S t o) (r % 64) = true ∧ ¬ s % 64 = r % 64) := by
    rw [cf_may_iff, tq0, cf_or0, cf_or0]
    constructor
    · rintro ⟨_, _, _, h⟩ o ho ho2 q
      have := h o ho ho2
      rw [cf_not_true, h2] at this
      exact this ((cf_swap_1 (by omega) (by omega)).mpr q)
    · intro h
      refine ⟨e, hfs, hfr, fun o ho ho2 => ?_⟩
      rw [cf_not_true, h2]
      intro q
      exact h o ho ho2 ((cf_swap_1 (p := s % 64) (q := r % 64) (by omega) (by omega)).mp q)
  rw [iff1]
  by_cases m0 : m = 0
  · subst m0
    rw [cf_mv_0] at e
    have e := Option.some_inj.mp e
    refine ⟨fun _ => Or.inl rfl, fun _ o ho ho2 q => q.2.2 (by omega)⟩
  · have e' := e
    rw [h2] at e'
    unfold cf_mv at e'
    rw [if_neg m0, cond_false] at e'
    cases es : cf_step (S 0 0) (S 0 1) (s % 64) (m - 1) with
    | none => rw [es] at e'; cases e'
    | some p =>
      rw [es] at e'
      have e' : p + 64 * (m - 1) = r := Option.some_inj.mp e'
      have hp64 := cf_step_64 hwh hs.1 es
      have hrp : r % 64 = p := by omega
      rw [hrp] at f2 ⊢
      constructor
      · intro h
        right
        rw [cf_not_true]
        intro hf
        unfold cf_fcd at hf
        rw [Bool.and_eq_true, cf_any_iff] at hf
        obtain ⟨_, o, ho, hf⟩ := hf
        rw [es, Bool.and_eq_true, Bool.and_eq_true, Bool.and_eq_true, Bool.and_eq_true] at hf
        obtain ⟨⟨k1, k2, k3⟩, k4, k5⟩ := hf
        have ho2 : ¬ o = c := by intro q; rw [decide_eq_true q] at k1; cases k1
        exact h o ho ho2 ⟨k2, k4, fun q => by rw [q, k4] at k3; cases k3⟩
      · rintro (h | h) o ho ho2 ⟨k1, k2, k3⟩
        · exact m0 h
        · have n1 : ¬ cf_has (cf_sd S t o) (s % 64) = true := fun q => by
            rw [cf_gT_hd ho ho2 (cf_sd_hd q)] at f1; cases f1
          have n2 : ¬ cf_has (cf_sd S (t + 1) o) p = true := fun q => by
            rw [cf_gT_hd ho ho2 (cf_sd_hd q)] at f2; cases f2
          rw [cf_not_true] at h
          apply h
          unfold cf_fcd
          rw [Bool.and_eq_true, cf_any_iff]
          refine ⟨decide_eq_true ?_, o, ho, ?_⟩
          · rcases Nat.lt_or_ge t (cf_clm S c f) with g | g
            · exact g
            · exfalso
              apply n1
              rw [cf_calm_sd hE g ho, ← cf_calm_sd hE (show cf_clm S c f ≤ t + 1 by omega) ho]; exact k1
          · rw [es, decide_eq_false ho2, k1, cf_not_true.mpr n1]
            dsimp only
            rw [k2, cf_not_true.mpr n2]; rfl
/-- the same for carts of two -/
theorem cf_may2 {S : cf_S} (V : cf_V S) {c l t s m r : Nat} (h2 : cf_two (S 3 c) = true) (hs : cf_vs (S 0 0) (S 0 1) (cf_two (S 3 c)) s) (hfs : (cf_std (S 0 0) (S 0 1) (cf_two (S 3 c)) s &&& cf_gT S (cf_sp S) (cf_hd S) c l t) = 0) (hm : m < 5) (e : cf_mv (S 0 0) (S 0 1) (cf_two (S 3 c)) s m = some r) (hfr : (cf_std (S 0 0) (S 0 1) (cf_two (S 3 c)) r &&& cf_gT S (cf_sp S) (cf_hd S) c l (t + 1)) = 0) :
    cf_may S (cf_gT S (cf_sp S) (cf_hd S) c l) (cf_sd S) c t s m = some r ↔ (cf_tq (S 0 0) (S 0 1) (S 3 c) s m &&& (cf_blk S c l t ||| cf_blk S c l (t + 1))) = 0 := by
  have hwh := cf_V_wh V
  -- the squares of a turn lie on the floor
  have tin : cf_in (S 0 0) (S 0 1) (cf_tq (S 0 0) (S 0 1) (S 3 c) s m) := by
    intro p hp
    unfold cf_tq at hp
    rw [h2, Bool.true_and] at hp
    cases hb : (decide (m = 3) || decide (m = 4)) with
    | false => rw [hb, cond_false, cf_h0] at hp; cases hp
    | true =>
      rw [hb, cond_true] at hp
      cases et : cf_tn (S 0 0) (S 0 1) s (cf_to s m) with
      | none => unfold cf_four at hp; rw [et] at hp; dsimp only at hp; rw [cf_h0] at hp; cases hp
      | some z =>
        obtain ⟨b, n, k⟩ := z
        obtain ⟨t1, t2, t3⟩ := cf_tn_some et
        have hbl := cf_step_lt hs.1 t1
        rw [cf_four2 hwh hs.1 et] at hp
        rcases hp with q | q | q | q
        · rw [q]; exact hs.1
        · rw [q]; exact hbl
        · rw [q]; exact cf_step_lt hbl t2
        · rw [q]; exact cf_step_lt hs.1 t3
  have eqv : (cf_tq (S 0 0) (S 0 1) (S 3 c) s m &&& (cf_blk S c l t ||| cf_blk S c l (t + 1))) = 0 ↔ (cf_tq (S 0 0) (S 0 1) (S 3 c) s m &&& cf_gT S (cf_sp S) (cf_hd S) c l t) = 0 ∧ (cf_tq (S 0 0) (S 0 1) (S 3 c) s m &&& cf_gT S (cf_sp S) (cf_hd S) c l (t + 1)) = 0 := by
    rw [cf_dj, cf_dj, cf_dj]
    constructor
    · intro h
      refine ⟨fun q hq g => ?_, fun q hq g => ?_⟩
      · apply h q hq
        rw [cf_hor, cf_blk_gT (by have := tin q hq; omega), g, Bool.or_true, Bool.true_or]
      · apply h q hq
        rw [cf_hor, cf_blk_gT (u := t + 1) (by have := tin q hq; omega), g, Bool.or_true, Bool.or_true]
    · rintro ⟨a, b⟩ q hq g
      have hl := tin q hq
      rw [cf_hor, cf_blk_gT (by omega), cf_blk_gT (by omega), decide_eq_false (fun x => x hl), Bool.false_or, Bool.false_or, Bool.or_eq_true] at g
      rcases g with g | g
      · exact a q hq g
      · exact b q hq g
  rw [eqv, cf_may_iff]
  constructor
  · rintro ⟨_, a, b, _⟩
    exact ⟨(cf_dj_or.mp a).2, (cf_dj_or.mp b).2⟩
  · rintro ⟨a, b⟩
    refine ⟨e, cf_dj_or.mpr ⟨hfs, a⟩, cf_dj_or.mpr ⟨hfr, b⟩, fun o ho ho2 => ?_⟩
    rw [h2] at hs e hfs hfr ⊢
    refine cf_noswap2 (c := c) V ho hs hm e (fun p hp q => ?_) (fun p hp q => ?_) (fun h34 p hp q => ?_)
    · exact cf_dj.mp hfs p hp (cf_gT_hd ho ho2 q)
    · exact cf_dj.mp hfr p hp (cf_gT_hd ho ho2 q)
    · refine cf_dj.mp b p ?_ (cf_gT_hd ho ho2 q)
      unfold cf_tq
      rw [h2, Bool.true_and]
      rcases h34 with g | g <;> rw [g] at hp ⊢ <;> exact hp
section RXE
variable {L : Nat} {t : List (Nat × Nat)} {hi : Nat → Nat → Int32} {hl : Nat → Nat → Int64} {v : Nat → Nat → Option Nat}
variable {RI : Int32 → (Nat → Nat → Int32) → (Nat → Nat → Int64) → (Nat → Nat → Option Nat) → Prop}
theorem c80 {S : cf_S} {c l f tg wt : Nat} {last : Bool} (X : cf_CX S c l f tg wt last hi hl v) (hc : c < S 0 2) (hE : S 4 c ≤ f) (hf : f ≤ 400) {u : Nat} (hu : f ≤ u) (hu2 : u < 400) {kp : Nat → Bool} (Yk : cf_LY hl (u + 1) kp) (G : ∀ d, d < 4 → ∀ q, q < 64 → cf_has (hl 83 d) q = cf_fcd S c f u d q)
    {s m r : Nat} (hs : cf_vs (S 0 0) (S 0 1) (cf_two (S 3 c)) s) (hs2 : s < 256) (hfs : (cf_std (S 0 0) (S 0 1) (cf_two (S 3 c)) s &&& cf_gT S (cf_sp S) (cf_hd S) c l u) = 0) (hm : m < 5) (e : cf_mv (S 0 0) (S 0 1) (cf_two (S 3 c)) s m = some r) (hkf : kp r = true → (cf_std (S 0 0) (S 0 1) (cf_two (S 3 c)) r &&& cf_gT S (cf_sp S) (cf_hd S) c l (u + 1)) = 0)
    (k : RI (cf_B (kp r && decide (cf_may S (cf_gT S (cf_sp S) (cf_hd S) c l) (cf_sd S) c u s m = some r))) hi hl v) : rx_CI L t 80 [.ref 77, .int (nI u), .int (nI s), .int (nI r), .int (nI m)] hi hl v RI := by
  have V := X.1.1.1
  have h6 := V.2.2.1
  have hwh := cf_V_wh V
  have hkd := (V.2.2.2.2.2.2.1 c hc).1
  have hC := X.1.1.2.2.2.2.1.2.2.1 c hc
  have hr := cf_mv_lt hwh hs.1 hm e
  have er : r % 64 + 64 * (r / 64 % 4) = r := by omega
  have hY := Yk (r / 64 % 4) (by omega) (r % 64) (by omega)
  rw [er] at hY
  have i2 : (2 : Int32) = nI 2 := rfl
  refine w80_leads (c16 (by omega) ⟨4 * (u + 1) + r / 64 % 4, ?_, by omega, c8 (c9 (by omega) ⟨fun g => c_retI ?_, fun g => Or.inr ⟨c, by omega, X.2.1, fun g2 => Or.inr ⟨c, by omega, X.2.1, ?_⟩, fun g2 => ⟨fun g3 => c_retI ?_, fun g3 => ⟨m - 1, ?_, ?_, c8 (c9 (by omega) ⟨fun g4 => c_retI ?_, fun g4 => c_retI ?_⟩)⟩⟩⟩⟩)⟩)
  · rw [show (4 : Int32) = nI 4 from rfl, cf_nmul, nI_add, nI_add]; congr 1
  · rw [cf_cmp0, cf_bt_and (by omega), hY] at g
    rw [g, Bool.false_and] at k; exact k
  · rw [cf_cmp0, cf_bt_and (by omega), hY, Bool.not_eq_false] at g
    rw [g, Bool.true_and] at k
    rw [hC.1] at g2 ⊢
    have h2 : cf_two (S 3 c) = true := by
      unfold cf_two
      rw [i2, nI_leI (by decide) (by omega)] at g2
      exact decide_eq_true g2
    rw [nI_1]
    refine c53 X.1.1.2.2.1 hkd hs.1 (by omega) (c71 X (by omega) hE hu (by omega) (c71 X (by omega) hE (by omega) (by omega) ⟨fun g5 => c_retI ?_, fun g5 => c_retI ?_⟩))
    · rw [cf_cmp0] at g5
      rw [decide_eq_true ((cf_may2 V h2 hs hfs hm e (hkf g)).mpr g5)] at k; exact k
    · rw [cf_cmp0] at g5
      rw [decide_eq_false (fun q => g5 ((cf_may2 V h2 hs hfs hm e (hkf g)).mp q))] at k; exact k
  · rw [cf_cmp0, cf_bt_and (by omega), hY, Bool.not_eq_false] at g
    rw [g, Bool.true_and] at k
    rw [hC.1, i2, nI_leI (by decide) (by omega)] at g2
    rw [show (0 : Int32) = nI 0 from rfl, nI_eq (by omega) (by decide)] at g3
    have h2 : cf_two (S 3 c) = false := decide_eq_false g2
    rw [decide_eq_true ((cf_may1 V hE h2 hs hfs hm e (hkf g)).mpr (Or.inl g3))] at k; exact k
  · rw [show (0 : Int32) = nI 0 from rfl, nI_eq (by omega) (by decide)] at g3
    rw [show (1 : Int32) = nI 1 from rfl, cf_nsub (by omega)]
  · omega
  · rw [cf_cmp0, cf_bt_and (by omega), hY, Bool.not_eq_false] at g
    rw [g, Bool.true_and] at k
    rw [hC.1, i2, nI_leI (by decide) (by omega)] at g2
    have h2 : cf_two (S 3 c) = false := decide_eq_false g2
    rw [show (0 : Int32) = nI 0 from rfl, nI_eq (by omega) (by decide)] at g3
    rw [cf_cmp0, cf_bt_and (by omega), G (m - 1) (by omega) (s % 64) (by omega)] at g4
    rw [decide_eq_true ((cf_may1 V hE h2 hs hfs hm e (hkf g)).mpr (Or.inr g4))] at k; exact k
  · rw [cf_cmp0, cf_bt_and (by omega), hY, Bool.not_eq_false] at g
    rw [g, Bool.true_and] at k
    rw [hC.1, i2, nI_leI (by decide) (by omega)] at g2
    have h2 : cf_two (S 3 c) = false := decide_eq_false g2
    rw [show (0 : Int32) = nI 0 from rfl, nI_eq (by omega) (by decide)] at g3
    rw [cf_cmp0, cf_bt_and (by omega), G (m - 1) (by omega) (s % 64) (by omega)] at g4
    rw [decide_eq_false (fun q => by
      rcases (cf_may1 V hE h2 hs hfs hm e (hkf g)).mp q with r | r
      · exact g3 r
      · exact g4 r)] at k
    exact k
end RXE
