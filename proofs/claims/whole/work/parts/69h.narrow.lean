/-! Search.pick, narrow. -/
theorem cf_spr_has {w h : Nat} (hwh : w * h ≤ 64) {x : Int64} {q : Nat} : cf_has (cf_spr w h x) q = true ↔ cf_has x q = true ∨ (q < w * h ∧ ∃ d p, d < 4 ∧ cf_step w h q d = some p ∧ cf_has x p = true) := by
  unfold cf_spr
  simp only [cf_hor, Bool.or_eq_true]
  rw [cf_shf_has hwh (by decide), cf_shf_has hwh (by decide), cf_shf_has hwh (by decide), cf_shf_has hwh (by decide)]
  constructor
  · rintro ((((h | ⟨a, p, e, b⟩) | ⟨a, p, e, b⟩) | ⟨a, p, e, b⟩) | ⟨a, p, e, b⟩)
    · exact Or.inl h
    · exact Or.inr ⟨a, _, p, cf_opp_lt _, e, b⟩
    · exact Or.inr ⟨a, _, p, cf_opp_lt _, e, b⟩
    · exact Or.inr ⟨a, _, p, cf_opp_lt _, e, b⟩
    · exact Or.inr ⟨a, _, p, cf_opp_lt _, e, b⟩
  · rintro (h | ⟨a, d, p, hd, e, b⟩)
    · exact Or.inl (Or.inl (Or.inl (Or.inl h)))
    · rcases cf_dd4 hd with rfl | rfl | rfl | rfl
      · exact Or.inl (Or.inr ⟨a, p, e, b⟩)
      · exact Or.inr ⟨a, p, e, b⟩
      · exact Or.inl (Or.inl (Or.inl (Or.inr ⟨a, p, e, b⟩)))
      · exact Or.inl (Or.inl (Or.inr ⟨a, p, e, b⟩))
/-- a MOVE leads near -/
theorem cf_near {w h s m r : Nat} {two : Bool} (hwh : w * h ≤ 64) (hs : cf_vs w h two s) (hm : m < 5) (e : cf_mv w h two s m = some r) {x : Int64} (hx : cf_has x (r % 64) = true) : cf_has (bif two then cf_spr w h (cf_spr w h x) else cf_spr w h x) (s % 64) = true := by
  have hh : s / 64 % 4 < 4 := by omega
  have one : (r % 64 = s % 64 ∨ ∃ d, d < 4 ∧ cf_step w h (s % 64) d = some (r % 64)) → cf_has (cf_spr w h x) (s % 64) = true := by
    rintro (q | ⟨d, hd, q⟩)
    · rw [cf_spr_has hwh]; left; rw [← q]; exact hx
    · rw [cf_spr_has hwh]; right; exact ⟨hs.1, d, _, hd, q, hx⟩
  by_cases m0 : m = 0
  · subst m0
    rw [cf_mv_0] at e
    have := one (Or.inl (by have := Option.some_inj.mp e; omega))
    cases two with
    | false => exact this
    | true => rw [cond_true, cf_spr_has hwh]; exact Or.inl this
  · cases two with
    | false =>
      rw [cond_false]
      unfold cf_mv at e
      rw [if_neg m0, cond_false] at e
      cases es : cf_step w h (s % 64) (m - 1) with
      | none => rw [es] at e; cases e
      | some p =>
        rw [es] at e
        have e : p + 64 * (m - 1) = r := Option.some_inj.mp e
        have hp := cf_step_64 hwh hs.1 es
        exact one (Or.inr ⟨m - 1, by omega, by rw [es]; congr 1; omega⟩)
    | true =>
      rw [cond_true]
      cases eb : cf_step w h (s % 64) (cf_opp (s / 64 % 4)) with
      | none => exact absurd eb (hs.2 rfl)
      | some b =>
        have hb64 := cf_step_64 hwh hs.1 eb
        unfold cf_mv at e
        rw [if_neg m0, cond_true] at e
        by_cases m1 : m = 1
        · rw [if_pos m1] at e
          cases es : cf_step w h (s % 64) (s / 64 % 4) with
          | none => rw [es] at e; cases e
          | some p =>
            rw [es] at e
            have e : p + 64 * (s / 64 % 4) = r := Option.some_inj.mp e
            have hp := cf_step_64 hwh hs.1 es
            rw [cf_spr_has hwh]; left
            exact one (Or.inr ⟨s / 64 % 4, hh, by rw [es]; congr 1; omega⟩)
        · rw [if_neg m1] at e
          by_cases m2 : m = 2
          · rw [if_pos m2, eb] at e
            dsimp only at e
            cases es : cf_step w h b (cf_opp (s / 64 % 4)) with
            | none => rw [es] at e; cases e
            | some p =>
              rw [es] at e
              have e : b + 64 * (s / 64 % 4) = r := Option.some_inj.mp e
              rw [cf_spr_has hwh]; left
              exact one (Or.inr ⟨cf_opp (s / 64 % 4), cf_opp_lt _, by rw [eb]; congr 1; omega⟩)
          · rw [if_neg m2] at e
            cases et : cf_tn w h s (cf_to s m) with
            | none => rw [et] at e; cases e
            | some z =>
              obtain ⟨b', n, k⟩ := z
              rw [et] at e
              have e : n + 64 * cf_to s m = r := Option.some_inj.mp e
              obtain ⟨t1, t2, t3⟩ := cf_tn_some et
              have hto := cf_to_lt s m
              have hbl := cf_step_lt hs.1 t1
              have hn := cf_step_64 hwh hbl t2
              rw [cf_spr_has hwh]; right
              refine ⟨hs.1, _, b', cf_opp_lt _, t1, ?_⟩
              rw [cf_spr_has hwh]; right
              exact ⟨hbl, _, n, hto, t2, by rw [show n = r % 64 by omega]; exact hx⟩
/-- the best MOVE so far, and 1 -/
def cf_bb (S : cf_S) (T : Nat → Int64) (sd : Nat → Nat → Int64) (D : Nat → Nat) (c t s i : Nat) : Nat := if cf_bst S T sd D c t s i < 1000000 then cf_ff (fun m => decide (cf_cst S T sd D c t s m = cf_bst S T sd D c t s i)) i else 0
theorem cf_bb_ge {S : cf_S} {T : Nat → Int64} {sd : Nat → Nat → Int64} {D : Nat → Nat} {c t s i : Nat} (h : cf_bst S T sd D c t s i ≤ cf_cst S T sd D c t s i) : cf_bst S T sd D c t s (i + 1) = cf_bst S T sd D c t s i ∧ cf_bb S T sd D c t s (i + 1) = cf_bb S T sd D c t s i := by
  have e : cf_bst S T sd D c t s (i + 1) = cf_bst S T sd D c t s i := by rw [cf_bst, Nat.min_eq_left h]
  refine ⟨e, ?_⟩
  unfold cf_bb
  rw [e]
  by_cases g : cf_bst S T sd D c t s i < 1000000
  · rw [if_pos g, if_pos g]
    obtain ⟨m, hm, em⟩ := cf_bst_ex g
    obtain ⟨j, _, _, h3, _⟩ := cf_ff_pos (p := fun m => decide (cf_cst S T sd D c t s m = cf_bst S T sd D c t s i)) (n := i) ⟨m, hm, decide_eq_true em⟩
    rw [cf_ff, h3, if_neg (by omega)]
  · rw [if_neg g, if_neg g]
theorem cf_bb_lt {S : cf_S} {T : Nat → Int64} {sd : Nat → Nat → Int64} {D : Nat → Nat} {c t s i : Nat} (h : cf_cst S T sd D c t s i < cf_bst S T sd D c t s i) : cf_bst S T sd D c t s (i + 1) = cf_cst S T sd D c t s i ∧ cf_bb S T sd D c t s (i + 1) = i + 1 := by
  have e : cf_bst S T sd D c t s (i + 1) = cf_cst S T sd D c t s i := by rw [cf_bst, Nat.min_eq_right (by omega)]
  have hle := cf_bst_le (S := S) (T := T) (sd := sd) (D := D) (c := c) (t := t) (s := s) i
  refine ⟨e, ?_⟩
  unfold cf_bb
  rw [e, if_pos (by omega)]
  refine cf_ff_at (p := fun m => decide (cf_cst S T sd D c t s m = cf_cst S T sd D c t s i)) (i := i) (cf_ff_zero (fun m hm => decide_eq_false (fun q => ?_))) (decide_eq_true rfl) _ (by omega)
  have := cf_bst_m (S := S) (T := T) (sd := sd) (D := D) (c := c) (t := t) (s := s) hm
  omega
theorem cf_bb_b {S : cf_S} {T : Nat → Int64} {sd : Nat → Nat → Int64} {D : Nat → Nat} {c t s i : Nat} : cf_bb S T sd D c t s i ≤ i := by
  unfold cf_bb
  split
  · exact cf_ff_le _ _
  · exact Nat.zero_le _
section RXE
variable {L : Nat} {t : List (Nat × Nat)} {v : Nat → Nat → Option Nat}
variable {RI : Int32 → (Nat → Nat → Int32) → (Nat → Nat → Int64) → (Nat → Nat → Option Nat) → Prop}
variable {RV : (Nat → Nat → Int32) → (Nat → Nat → Int64) → (Nat → Nat → Option Nat) → Prop}
/-- what is known of the next layer: which states are kept, the fewest turns from each -/
def cf_KP (S : cf_S) (c l u : Nat) (kp : Nat → Bool) (D : Nat → Nat) (hi : Nat → Nat → Int32) (hl : Nat → Nat → Int64) : Prop :=
  cf_lyv S c l (u + 1) kp ∧ cf_LY hl (u + 1) kp ∧ (∀ r, kp r = true ↔ D r < 1000000) ∧ (∀ r, kp r = true → hi 82 ((u + 1) % 2 * 256 + r) = nI (D r))
theorem c79 {S : cf_S} {hi : Nat → Nat → Int32} {hl : Nat → Nat → Int64} {c l f tg wt : Nat} {last : Bool} (X : cf_CX S c l f tg wt last hi hl v) (hc : c < S 0 2) (hE : S 4 c ≤ f) (hf : f ≤ 400) {u : Nat} (hu : f ≤ u) (hu2 : u < 400) {kp : Nat → Bool} {D : Nat → Nat} (K : cf_KP S c l u kp D hi hl) (G : ∀ d, d < 4 → ∀ q, q < 64 → cf_has (hl 83 d) q = cf_fcd S c f u d q)
    {s : Nat} (hs : cf_vs (S 0 0) (S 0 1) (cf_two (S 3 c)) s) (hs2 : s < 256) (hfs : (cf_std (S 0 0) (S 0 1) (cf_two (S 3 c)) s &&& cf_gT S (cf_sp S) (cf_hd S) c l u) = 0)
    (k0 : cf_bst S (cf_gT S (cf_sp S) (cf_hd S) c l) (cf_sd S) D c u s 5 = 1000000 → RI 0 hi hl v)
    (k1 : cf_bst S (cf_gT S (cf_sp S) (cf_hd S) c l) (cf_sd S) D c u s 5 < 1000000 → ∀ x, cf_nb x (s % 16) (cf_lm S (cf_gT S (cf_sp S) (cf_hd S) c l) (cf_sd S) D c u s (cf_bst S (cf_gT S (cf_sp S) (cf_hd S) c l) (cf_sd S) D c u s 5) 5 - 1) → (∀ k' m', k' < 16 → ¬ k' = s % 16 → cf_nb (hl 81 (16 * u + s / 16)) k' m' → cf_nb x k' m') → RI 1 (rx_u hi 82 (u % 2 * 256 + s) (nI (cf_bst S (cf_gT S (cf_sp S) (cf_hd S) c l) (cf_sd S) D c u s 5))) (rx_u hl 81 (16 * u + s / 16) x) v) :
    rx_CI L t 79 [.ref 77, .int (nI u), .int (nI s)] hi hl v RI := by
  obtain ⟨kv, kY, kD, kt⟩ := K
  have V := X.1.1.1
  have h6 := V.2.2.1
  have hwh := cf_V_wh V
  have hkd := (V.2.2.2.2.2.2.1 c hc).1
  have hC := X.1.1.2.2.2.2.1.2.2.1 c hc
  generalize hT : cf_gT S (cf_sp S) (cf_hd S) c l = T at *
  have i4 : (4 : Int32) = nI 4 := rfl
  have hg : ∀ q, q < 64 → hi 8 q = nI (S 1 q) ∧ S 1 q < 4 := fun q hq => ⟨X.1.1.2.2.2.2.2.1 q hq, V.2.2.2.2.1 q⟩
  have loop : ∀ e i, i + e = 5 → rx_aw 79 9 [.ref 77, .int (nI u), .int (nI s), .int (oI (cf_bb S T (cf_sd S) D c u s i)), .int (nI (cf_bst S T (cf_sd S) D c u s i)), .int (nI i), rx_no, rx_no] [] (rx_hp L t hi hl v) (fun r h2 => ∃ z : Int32, r = some (.int z) ∧ rx_ok2 L t h2 (RI z)) := by
    intro e
    induction e with
    | zero =>
      intro i hi0
      have : i = 5 := by omega
      subst this
      have hbb := cf_bb_b (S := S) (T := T) (sd := cf_sd S) (D := D) (c := c) (t := u) (s := s) (i := 5)
      have hbl := cf_bst_le (S := S) (T := T) (sd := cf_sd S) (D := D) (c := c) (t := u) (s := s) 5
      refine w79_pick_9 ⟨fun _ => ⟨fun g => ⟨u % 2 * 256 + s, ?_, by omega, 16 * u + s / 16, ?_, by omega, 16 * u + s / 16, ?_, by omega, c_retI ?_⟩, fun g => c_retI (k0 ?_)⟩, fun g => absurd (by decide) g⟩
      · rw [cf_u1, show (256 : Int32) = nI 256 from rfl, cf_nmul, nI_add]
      · rw [show (16 : Int32) = nI 16 from rfl, i4, cf_nshr s 4 (by omega) (by decide), cf_nmul, nI_add]
      · rw [show (16 : Int32) = nI 16 from rfl, i4, cf_nshr s 4 (by omega) (by decide), cf_nmul, nI_add]
      · rw [cf_ole (by omega)] at g
        have hlt : cf_bst S T (cf_sd S) D c u s 5 < 1000000 := by
          unfold cf_bb at g
          split at g
          · assumption
          · omega
        have hbe : cf_bb S T (cf_sd S) D c u s 5 = cf_lm S T (cf_sd S) D c u s (cf_bst S T (cf_sd S) D c u s 5) 5 := by
          unfold cf_bb cf_lm
          rw [if_pos hlt]
        obtain ⟨mm, hmm⟩ : ∃ mm, cf_bb S T (cf_sd S) D c u s 5 = mm + 1 := ⟨_, (Nat.succ_pred_eq_of_pos g).symm⟩
        have e15 : (4 : Int32) * (nI s &&& 15) = nI (4 * (s % 16)) := by
          rw [show (15 : Int32) = nI 15 from rfl, cf_nand, i4, cf_nmul, show s &&& 15 = s % 16 from Nat.and_two_pow_sub_one_eq_mod s 4]
        have hput := cf_nb_put (x := hl 81 (16 * u + s / 16)) (k := s % 16) (m := mm) (by omega) (by omega)
        have := k1 hlt _ (by rw [← hbe, hmm, Nat.add_sub_cancel]; exact hput.1) hput.2
        rw [hmm, cf_oS, e15]
        exact this
      · rw [cf_ole (by omega)] at g
        unfold cf_bb at g
        split at g
        · rename_i hlt
          obtain ⟨m, hm, em⟩ := cf_bst_ex hlt
          obtain ⟨j, _, _, h3, _⟩ := cf_ff_pos (p := fun m => decide (cf_cst S T (cf_sd S) D c u s m = cf_bst S T (cf_sd S) D c u s 5)) (n := 5) ⟨m, hm, decide_eq_true em⟩
          omega
        · omega
    | succ e ih =>
      intro i hi0
      have nx := ih (i + 1) (by omega)
      have hbl := cf_bst_le (S := S) (T := T) (sd := cf_sd S) (D := D) (c := c) (t := u) (s := s) i
      have skip : cf_bst S T (cf_sd S) D c u s i ≤ cf_cst S T (cf_sd S) D c u s i → rx_aw 79 9 [.ref 77, .int (nI u), .int (nI s), .int (oI (cf_bb S T (cf_sd S) D c u s i)), .int (nI (cf_bst S T (cf_sd S) D c u s i)), .int (nI i + 1), rx_no, rx_no] [] (rx_hp L t hi hl v) (fun r h2 => ∃ z : Int32, r = some (.int z) ∧ rx_ok2 L t h2 (RI z)) := by
        intro h
        obtain ⟨q1, q2⟩ := cf_bb_ge h
        rw [q1, q2] at nx
        rw [nI_1]; exact nx
      have eaf : cf_aft (S 0 0) (S 0 1) (S 1) (S 3 c) s i 0 = (cf_mv (S 0 0) (S 0 1) (cf_two (S 3 c)) s i).map (fun r => s / 256 * 256 + r) := by
        unfold cf_aft; rw [if_pos (by omega)]
      refine w79_pick_9 ⟨fun g => ?_, fun _ => Or.inr ⟨c, by omega, X.2.1, ?_⟩⟩
      · rw [i4, nI_ltI (by decide) (by omega)] at g; omega
      rw [hC.1]
      refine c49 (l := 0) X.1.1.2.1 X.1.1.2.2.1 hg hkd hs (by omega) (by omega) (by decide) ?_
      rw [eaf]
      cases em : cf_mv (S 0 0) (S 0 1) (cf_two (S 3 c)) s i with
      | none =>
        refine ⟨fun _ => skip ?_, fun g => absurd (show (-1 : Int32) < 0 by decide) g⟩
        unfold cf_cst cf_may
        rw [em]; exact hbl
      | some r =>
        have hr := cf_mv_lt hwh hs.1 (by omega) em
        rw [show oO (Option.map (fun r => s / 256 * 256 + r) (some r)) = nI r by show nI (s / 256 * 256 + r) = nI r; congr 1; omega]
        refine ⟨fun g => absurd g (nI_pos (by omega)), fun _ => ?_⟩
        have hmay : ∀ r2, cf_may S T (cf_sd S) c u s i = some r2 → r2 = r := by
          intro r2 h
          have := (cf_may_iff.mp h).1
          rw [em] at this
          exact (Option.some_inj.mp this).symm
        refine c80 X hc hE hf hu hu2 kY G hs hs2 (by rw [hT]; exact hfs) (by omega) em (fun q => (kv r q).2.2) ?_
        rw [hT]
        refine ⟨fun g => skip ?_, fun g => ?_⟩
        · have := cf_B_eq g
          unfold cf_cst
          cases ey : cf_may S T (cf_sd S) c u s i with
          | none => exact hbl
          | some r2 =>
            have := hmay r2 ey
            subst this
            dsimp only
            rw [ey, decide_eq_true rfl, Bool.and_true] at g
            have hk := cf_B_eq g
            have : ¬ D r2 < 1000000 := fun q => by rw [(kD r2).mpr q] at hk; cases hk
            omega
        · have hb := cf_B_ne g
          rw [Bool.and_eq_true, decide_eq_true_iff] at hb
          obtain ⟨hk, ey⟩ := hb
          have hDr := (kD r).mp hk
          have ec : cf_cst S T (cf_sd S) D c u s i = (bif cf_itn (S 3 c) (s / 64 % 4) i then 1 else 0) + D r := by
            unfold cf_cst; rw [ey]
          have eb : cf_B (cf_itn (S 3 c) (s / 64 % 4) i) = nI (bif cf_itn (S 3 c) (s / 64 % 4) i then 1 else 0) := by cases cf_itn (S 3 c) (s / 64 % 4) i <;> rfl
          have hb1 : (bif cf_itn (S 3 c) (s / 64 % 4) i then 1 else 0 : Nat) ≤ 1 := by cases cf_itn (S 3 c) (s / 64 % 4) i <;> decide
          refine ⟨(u + 1) % 2 * 256 + r, ?_, by omega, Or.inr ⟨c, by omega, X.2.1, ?_⟩⟩
          · rw [nI_1, cf_u1, show (256 : Int32) = nI 256 from rfl, cf_nmul, nI_add]
          rw [hC.1, kt r hk]
          have fin : ∀ b : Nat, b ≤ 1 → (bif cf_itn (S 3 c) (s / 64 % 4) i then 1 else 0 : Nat) = b → ((nI (cf_bst S T (cf_sd S) D c u s i) ≤ nI (D r) + nI b → rx_aw 79 9 [.ref 77, .int (nI u), .int (nI s), .int (oI (cf_bb S T (cf_sd S) D c u s i)), .int (nI (cf_bst S T (cf_sd S) D c u s i)), .int (nI i + 1), rx_no, rx_no] [] (rx_hp L t hi hl v) (fun r h2 => ∃ z : Int32, r = some (.int z) ∧ rx_ok2 L t h2 (RI z))) ∧ (¬ (nI (cf_bst S T (cf_sd S) D c u s i) ≤ nI (D r) + nI b) → rx_aw 79 9 [.ref 77, .int (nI u), .int (nI s), .int (nI i), .int (nI (D r) + nI b), .int (nI i + 1), rx_no, rx_no] [] (rx_hp L t hi hl v) (fun r h2 => ∃ z : Int32, r = some (.int z) ∧ rx_ok2 L t h2 (RI z)))) := by
            intro b hb2 hbe
            rw [hbe] at ec
            rw [nI_add, nI_leI (by omega) (by omega)]
            refine ⟨fun q => skip (by omega), fun q => ?_⟩
            obtain ⟨q1, q2⟩ := cf_bb_lt (S := S) (T := T) (sd := cf_sd S) (D := D) (c := c) (t := u) (s := s) (i := i) (by omega)
            rw [q1, q2, cf_oS, ec, Nat.add_comm b] at nx
            rw [nI_1]; exact nx
          refine c16 (by omega) (c81 hkd (by omega) (by omega) ⟨fun g2 => fin 0 (by decide) (by rw [cf_B_eq g2]; rfl), fun g2 => fin 1 (by decide) (by rw [cf_B_ne g2]; rfl)⟩)
  have e0 : cf_bb S T (cf_sd S) D c u s 0 = 0 := Nat.le_zero.mp cf_bb_b
  have := loop 5 0 (by omega)
  rw [e0] at this
  exact w79_pick this
end RXE
