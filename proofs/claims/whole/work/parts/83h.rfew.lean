/-! few of the reference. -/
theorem cf_rk_wh {S : cf_S} (V : cf_V S) : cf_rk S (S 0 0 * S 0 1) = cf_rk S 64 := by
  have hwh := cf_V_wh V
  have key : ∀ d, cf_rk S (S 0 0 * S 0 1 + d) = cf_rk S (S 0 0 * S 0 1) := by
    intro d
    induction d with
    | zero => rfl
    | succ d ih =>
      rw [← Nat.add_assoc, cf_rk_s, ih]
      have : cf_fs S (S 0 0 * S 0 1 + d) = false := by unfold cf_fs; rw [decide_eq_false (by omega)]; rfl
      rw [this]; rfl
  have := key (64 - S 0 0 * S 0 1)
  rw [show S 0 0 * S 0 1 + (64 - S 0 0 * S 0 1) = 64 by omega] at this
  exact this.symm
theorem cf_an_u {g : Nat → Nat} {st : Nat → Nat → Nat → Nat} {s0 : Nat} {z z' : Int32} (h : cf_an g st s0 z) (h' : cf_an g st s0 z') : z' = z := by
  rcases h with ⟨n, rfl, h1, h2⟩ | ⟨rfl, h1⟩ <;> rcases h' with ⟨n', rfl, h1', h2'⟩ | ⟨rfl, h1'⟩
  · have := h2 n' h1'
    have := h2' n h1
    rw [show n' = n by omega]
  · exact absurd h1 (h1' n)
  · exact absurd h1' (h1 n')
  · rfl
/-- what few writes in the reference -/
def cf_fF (hi hi2 : Nat → Nat → Int32) : Prop := ∀ a b, ¬ (a = 90 ∧ 50 ≤ b ∧ b ≤ 53) → ¬ (126 ≤ a ∧ a ≤ 133) → hi2 a b = hi a b
section RXE
variable {L : Nat} {t : List (Nat × Nat)} {v : Nat → Nat → Option Nat}
variable {RI : Int32 → (Nat → Nat → Int32) → (Nat → Nat → Int64) → (Nat → Nat → Option Nat) → Prop}
/-- the levels -/
theorem g228 {hl : Nat → Nat → Int64} {hi0 : Nat → Nat → Int32} {S : cf_S} {u : Nat → Nat} {s0 : Nat} {x1 x2 x3 x4 : Int32} (V : cf_V S) (W : cf_FW S u) (k : ∀ z hi2, cf_fF hi0 hi2 → cf_an (cf_gg S u) (cf_ss S u) s0 z → RI z hi2 hl v) :
    ∀ D vl, vl + D = 200000 → ∀ hi c e, cf_fF hi0 hi → cf_Fr S u hi hl → cf_Cs hi c e → cf_D3 S u s0 c e 9261 vl → (∀ j, j < 64000 → e j = true → ¬ j % 8 = 0) → rx_aw 228 293 [.ref 90, .int x1, .int x2, .int x3, .int x4, .int (nI vl)] [] (rx_hp L t hi hl v) (fun r h2 => ∃ z : Int32, r = some (.int z) ∧ rx_ok2 L t h2 (RI z)) := by
  intro D
  induction D with
  | zero =>
    intro vl hvd hi c e F R C D3 Z
    refine w228_few_r_293 (c233 C (fun j hj => (D3.1 j hj).1) (by omega) (fun z hz => ⟨fun q => c_retI (k _ hi F (Or.inr ⟨rfl, ?_⟩)), fun q => ?_⟩))
    · refine cf_D3_none V W D3 (Nat.le_refl _) (fun j hj he hc => ?_) Z
      have := hz.mpr ⟨j, hj, he, (D3.1 j hj).2.2.2 he hc, hc⟩
      rw [cf_B_eq q] at this; cases this
    · exfalso
      obtain ⟨j, hj, he, h1, h2⟩ := hz.mp (cf_B_ne q)
      have := ((D3.1 j hj).2.1 h2).1
      have := cf_cnt_le e 64000
      omega
  | succ D ih =>
    intro vl hvd hi c e F R C D3 Z
    refine w228_few_r_293 (c233 C (fun j hj => (D3.1 j hj).1) (by omega) (fun z hz => ⟨fun q => c_retI (k _ hi F (Or.inr ⟨rfl, ?_⟩)), fun q => ?_⟩))
    · refine cf_D3_none V W D3 (Nat.le_refl _) (fun j hj he hc => ?_) Z
      have := hz.mpr ⟨j, hj, he, (D3.1 j hj).2.2.2 he hc, hc⟩
      rw [cf_B_eq q] at this; cases this
    · refine c234 V W R C D3 (by omega) Z (fun hi2 c2 e2 f F2 C2 D2 f1 f2 => ⟨fun q2 => ?_, fun q2 => c_retI (k _ hi2 (fun a b w1 w2 => (F2 a b (by omega)).trans (F a b w1 w2)) (Or.inl ⟨vl, rfl, ?_⟩))⟩)
      · rw [show nI vl + 1 = nI (vl + 1) from nI_add vl 1]
        exact ih (vl + 1) (by omega) hi2 c2 e2 (fun a b w1 w2 => (F2 a b (by omega)).trans (F a b w1 w2)) (cf_Fr_ext R F2) C2 D2 (f2 (cf_B_eq q2))
      · have low : ∀ m, cf_Re (cf_gg S u) (cf_ss S u) s0 9260 m → vl ≤ m := by
          rintro m ⟨kk, hm⟩
          obtain ⟨Py, h⟩ := cf_D3_path V W D3 (Nat.le_refl _) kk 9260 m hm
          have ly := (cf_ph_c V W Py).1
          rcases h with h | ⟨j, j1, j2, j3, j4⟩
          · by_cases w : c (cf_ph (cf_gg S u) 9260) < 1000000
            · have he : e (cf_ph (cf_gg S u) 9260) = false := by
                rw [cf_not_true]
                intro z
                exact Z _ ly z ((cf_ph_end V W Py).mpr rfl)
              have := (D3.1 _ ly).2.2.2 he w
              omega
            · omega
          · have := (D3.1 j j1).2.2.2 j2 j3
            omega
        obtain ⟨m, m1, m2⟩ := f1 (cf_B_ne q2)
        have := low m m2
        have e : m = vl := by omega
        rw [e] at m2
        exact ⟨m2, low⟩
/-- behind the refusals -/
theorem g228b {hi0 : Nat → Nat → Int32} {hl0 : Nat → Nat → Int64} {S : cf_S} {ls : Nat} (I : cf_Ir ls S) (M : cf_M S hi0) (N : cf_NW S hi0 hl0) {u : Nat → Nat} (W : cf_FW S u) {x1 x2 x3 : Int32} (hg : hi0 90 53 = nI (cf_gr u)) (hw : ∀ i, i < 3 → ¬ u i = 0 → hi0 128 i = nI (u i - 1)) (h126 : ∀ p, p < cf_rk S 64 → hi0 126 p = nI (cf_sk S p)) (h127 : ∀ q, q < S 0 0 * S 0 1 → hi0 127 q = oI (if cf_fs S q = true then cf_rk S q + 1 else 0))
    (k : ∀ z hi2 hl2, cf_fF hi0 hi2 → (∀ a b, ¬ a = 131 → hl2 a b = hl0 a b) → cf_an (cf_gg S u) (cf_ss S u) (cf_st3 S u) z → RI z hi2 hl2 v) : rx_aw 228 172 [.ref 90, .int x1, .int x2, .int x3, .int 0, rx_no] [] (rx_hp L t hi0 hl0 v) (fun r h2 => ∃ z : Int32, r = some (.int z) ∧ rx_ok2 L t h2 (RI z)) := by
  have V := I.1
  have h6 := V.2.2.1
  have hwh := cf_V_wh V
  have hn := W.2.2.2.2.2.2.2
  have g3 := cf_gr_le u
  have hgr : ∀ i, i < 3 → (i < cf_gr u ↔ ¬ u i = 0) := fun i hi => cf_gr_c W.2.1 W.2.2.1 hi
  have hgg : cf_gr u = 2 ∨ cf_gr u = 3 := by unfold cf_gr; split <;> omega
  have P := cf_pp_st I W
  -- the carts' places
  have l206 : ∀ d i, i + d = cf_gr u → ∀ hi hl, (∀ a b, ¬ (129 ≤ a ∧ a ≤ 130) → ¬ a = 132 → hi a b = hi0 a b) → (∀ a b, ¬ a = 131 → hl a b = hl0 a b) → cf_Cs hi (fun _ => 1000000) (fun _ => false) → (∀ j, j < i → ¬ u j = 0 → hi 132 j = nI (cf_sx S u j) ∧ ∀ q, cf_fs S q = true → (cf_has (hl 131 j) q = false ↔ cf_oq S u (u j - 1) q = true)) → rx_aw 228 206 [.ref 90, .int x1, .int x2, .int x3, .int (nI i), rx_no] [] (rx_hp L t hi hl v) (fun r h2 => ∃ z : Int32, r = some (.int z) ∧ rx_ok2 L t h2 (RI z)) := by
    intro d
    induction d with
    | zero =>
      intro i hid hi hl F Fl C J
      have hgi : hi 90 53 = nI (cf_gr u) := (F _ _ (by omega) (by omega)).trans hg
      refine w228_few_r_206 ⟨fun _ => ?_, fun q => absurd ?_ q⟩
      · have el : ((1 : Int32) <<< (hi 90 53 &&& 31)) - 1 = nI (2 ^ cf_gr u - 1) := by
          rw [hgi, cf_sh1 (by omega), show (1 : Int32) = nI 1 from rfl, cf_nsub (Nat.one_le_two_pow)]
        rw [el]
        have bb : ∀ j, j < 3 → cf_pf (cf_gg S u) (cf_st3 S u) j = (if u j = 0 then 0 else cf_sx S u j) ∧ cf_wt1 (cf_st3 S u) j = (if u j = 0 then 0 else 1) := by
          obtain ⟨a0, b0, c0⟩ := cf_sx_lt I W (i := 0) (by omega)
          obtain ⟨a1, b1, c1⟩ := cf_sx_lt I W (i := 1) (by omega)
          obtain ⟨a2, b2, c2⟩ := cf_sx_lt I W (i := 2) (by omega)
          obtain ⟨p0, p1, p2⟩ := cf_p0_mk a0 a1 a2
          intro j hj
          have pj : cf_p0 (cf_st3 S u) j = cf_sx S u j := by
            match j, hj with
            | 0, _ => exact p0
            | 1, _ => exact p1
            | 2, _ => exact p2
          obtain ⟨aj, bj, cj⟩ := cf_sx_lt I W hj
          unfold cf_pf cf_wt1
          rw [pj]
          by_cases z : u j = 0
          · rw [if_pos (bj z), if_pos z, if_pos (bj z), if_pos z]
            refine ⟨?_, rfl⟩
            unfold cf_gg; rw [if_pos z]
          · have := (cj z).1
            rw [if_neg (by omega), if_neg z, if_neg (by omega), if_neg z]
            exact ⟨rfl, rfl⟩
        have es : 8 * (400 * (if u 0 = 0 then 0 else cf_sx S u 0) + 20 * (if u 1 = 0 then 0 else cf_sx S u 1) + (if u 2 = 0 then 0 else cf_sx S u 2)) + (2 ^ cf_gr u - 1) = cf_ph (cf_gg S u) (cf_st3 S u) := by
          unfold cf_ph
          rw [(bb 0 (by omega)).1, (bb 1 (by omega)).1, (bb 2 (by omega)).1, (bb 0 (by omega)).2, (bb 1 (by omega)).2, (bb 2 (by omega)).2]
          have e2 : (2 : Nat) ^ 2 - 1 = 3 := rfl
          have e3 : (2 : Nat) ^ 3 - 1 = 7 := rfl
          have h0 := W.2.1
          have h1 := W.2.2.1
          rw [if_neg (show ¬ u 0 = 0 by omega), if_neg (show ¬ u 1 = 0 by omega), if_neg (show ¬ u 0 = 0 by omega), if_neg (show ¬ u 1 = 0 by omega)]
          unfold cf_gr
          by_cases z : u 2 = 0
          · rw [if_pos z, if_pos z, if_pos z, e2]
          · rw [if_neg z, if_neg z, if_neg z, e3]
        refine c231a (u := u) (b := fun j => if u j = 0 then 0 else cf_sx S u j) hgi (fun j hj => ?_) (fun j h1 h2 => ?_) ?_
        · have hu := (hgr j (by omega)).mp hj
          show hi 132 j = nI (if u j = 0 then 0 else cf_sx S u j)
          rw [if_neg hu]; exact (J j (by omega) hu).1
        · show (if u j = 0 then 0 else cf_sx S u j) = 0
          rw [if_pos (Classical.byContradiction fun z => h2 ((hgr j h1).mpr z))]
        · have es' : 8 * (400 * (fun j => if u j = 0 then 0 else cf_sx S u j) 0 + 20 * (fun j => if u j = 0 then 0 else cf_sx S u j) 1 + (fun j => if u j = 0 then 0 else cf_sx S u j) 2) + (2 ^ cf_gr u - 1) = cf_ph (cf_gg S u) (cf_st3 S u) := es
          rw [es', show (0 : Int32) = nI 0 from rfl]
          have lp := (cf_ph_c V W P).1
          refine c232 C lp (by omega) (by omega) (fun hi2 z F2 C2 => ?_)
          have R : cf_Fr S u hi2 hl := by
            refine ⟨cf_M_ext M (fun a b q1 q2 q3 => (F2 a b (by omega)).trans (F a b (by omega) (by omega))), (F2 _ _ (by omega)).trans hgi, fun j h1 h2 => ?_, fun p hp => ?_, fun q hq => ?_, fun j h1 h2 q hq => (J j (by have := (hgr j h1).mpr h2; omega) h2).2 q hq⟩
            · rw [F2 _ _ (by omega), F _ _ (by omega) (by omega)]; exact hw j h1 h2
            · rw [F2 _ _ (by omega), F _ _ (by omega) (by omega)]; exact h126 p hp
            · rw [F2 _ _ (by omega), F _ _ (by omega) (by omega)]; exact h127 q hq
          have D : cf_D3 S u (cf_st3 S u) (cf_mn (fun _ => 1000000) (cf_ph (cf_gg S u) (cf_st3 S u)) 0) (fun _ => false) 9261 0 := by
            have v0 : cf_mn (fun _ => 1000000) (cf_ph (cf_gg S u) (cf_st3 S u)) 0 (cf_ph (cf_gg S u) (cf_st3 S u)) = 0 := by
              have := cf_mn_at (fun _ => 1000000) (cf_ph (cf_gg S u) (cf_st3 S u)) 0
              omega
            refine ⟨fun j hj => ⟨?_, fun h => ?_, fun h => Bool.noConfusion h, fun _ _ => Nat.zero_le _⟩, fun x _ h => Bool.noConfusion h, v0, P⟩
            · exact cf_mn_le (fun _ => 1000000) _ 0 j
            · have ej : j = cf_ph (cf_gg S u) (cf_st3 S u) := Classical.byContradiction fun w => by rw [cf_mn_ne w] at h; omega
              rw [ej, v0]
              exact ⟨Nat.zero_le _, cf_st3 S u, P, rfl, 0, rfl, rfl⟩
          exact g228 (hi0 := hi0) V W (fun z hi3 F3 A => k z hi3 hl F3 Fl A) 200000 0 (by omega) hi2 _ _ (fun a b w1 w2 => (F2 a b (by omega)).trans (F a b (by omega) (by omega))) R C2 D (fun j _ h => Bool.noConfusion h)
      · rw [hgi, cf_nle (by omega) (by omega)]; omega
    | succ d ih =>
      intro i hid hi hl F Fl C J
      have h3 : i < 3 := by omega
      have hu := (hgr i h3).mp (by omega)
      have hui := W.1 i h3
      have hgi : hi 90 53 = nI (cf_gr u) := (F _ _ (by omega) (by omega)).trans hg
      have hwi : ∀ j, j < 3 → ¬ u j = 0 → hi 128 j = nI (u j - 1) := fun j h1 h2 => (F _ _ (by omega) (by omega)).trans (hw j h1 h2)
      have Mi : cf_M S hi := cf_M_ext M (fun a b _ _ _ => F a b (by omega) (by omega))
      have Ni : cf_NW S hi hl := by
        refine ⟨fun c hc => ⟨fun w hw' => ?_, fun w hw' => by rw [F _ _ (by omega) (by omega)]; exact (N.1 c hc).2 w hw'⟩, fun s hs w hw' => by rw [F _ _ (by omega) (by omega)]; exact N.2 s hs w hw'⟩
        rw [F _ _ (by omega) (by omega), F _ _ (by omega) (by omega), F _ _ (by omega) (by omega), Fl _ _ (by omega), Fl _ _ (by omega)]
        exact (N.1 c hc).1 w hw'
      have hMc := Mi.2.2.2.2.2.1 (u i - 1) (by omega)
      have h64 : S 9 (u i - 1) % 64 < S 0 0 * S 0 1 := (V.2.2.2.2.2.2.1 (u i - 1) (by omega)).2.1.1
      have e402 : (402 : Int32) * nI (u i - 1) = nI (402 * (u i - 1)) := by rw [show (402 : Int32) = nI 402 from rfl, cf_nmul]
      refine w228_few_r_206 ⟨fun q => ?_, fun _ => ⟨i, rfl, h3, ?_⟩⟩
      · rw [hgi, cf_nle (by omega) (by omega)] at q; omega
      rw [hwi i h3 hu]
      refine c230 V Mi Ni W h3 hu hgi hwi (fun z hz => ⟨i, rfl, h3, i, rfl, h3, 402 * (u i - 1), by rw [hwi i h3 hu]; exact e402, by omega, S 9 (u i - 1) % 64, hMc.2.2.2.2.2.2.2.1, by omega, i, rfl, h3, ?_⟩)
      have hf := cf_oq_fs (cf_oq_at I W h3 hu)
      have ix : hi 127 (S 9 (u i - 1) % 64) = nI (cf_sx S u i) := by
        rw [F _ _ (by omega) (by omega), h127 _ h64, if_pos hf, cf_oS]
        unfold cf_sx; rw [if_neg hu]
      rw [ix, show nI i + 1 = nI (i + 1) from nI_add i 1]
      refine ih (i + 1) (by omega) _ _ (fun a b q1 q2 => by rw [cf_ru_ne (by omega)]; exact F a b q1 q2) (fun a b q => by rw [cf_ru_ne (by omega)]; exact Fl a b q) (cf_Cs_ext C (fun a b q => cf_ru_ne (by omega))) (fun j hj hu' => ?_)
      by_cases w : j = i
      · subst w
        refine ⟨cf_ru_eq, ?_⟩
        rw [cf_ru_eq]; exact hz
      · rw [cf_ru_ne (by omega), cf_ru_ne (by omega)]
        exact J j (by omega) hu'
  have l172 : ∀ d i, i + d = 64000 → ∀ hi : Nat → Nat → Int32, (∀ a b, ¬ (129 ≤ a ∧ a ≤ 130) → hi a b = hi0 a b) → (∀ j, j < i → hi 129 j = nI 1000000 ∧ hi 130 j = cf_B false) → rx_aw 228 172 [.ref 90, .int x1, .int x2, .int x3, .int (nI i), rx_no] [] (rx_hp L t hi hl0 v) (fun r h2 => ∃ z : Int32, r = some (.int z) ∧ rx_ok2 L t h2 (RI z)) := by
    intro d
    induction d with
    | zero =>
      intro i hid hi F J
      refine w228_few_r_172 ⟨fun _ => l206 (cf_gr u) 0 (by omega) hi hl0 (fun a b q _ => F a b q) (fun _ _ _ => rfl) (fun j hj => J j (by omega)) (fun j hj => by omega), fun q => absurd ?_ q⟩
      rw [show (64000 : Int32) = nI 64000 from rfl, cf_nle (by omega) (by omega)]; omega
    | succ d ih =>
      intro i hid hi F J
      refine w228_few_r_172 ⟨fun q => ?_, fun _ => ⟨i, rfl, by omega, i, rfl, by omega, ?_⟩⟩
      · rw [show (64000 : Int32) = nI 64000 from rfl, cf_nle (by omega) (by omega)] at q; omega
      · rw [show nI i + 1 = nI (i + 1) from nI_add i 1]
        refine ih (i + 1) (by omega) _ (fun a b q => by rw [cf_ru_ne (by omega), cf_ru_ne (by omega)]; exact F a b q) (fun j hj => ?_)
        by_cases w : j = i
        · subst w
          exact ⟨by rw [cf_ru_ne (by omega), cf_ru_eq]; rfl, by rw [cf_ru_eq]; rfl⟩
        · rw [cf_ru_ne (by omega), cf_ru_ne (by omega), cf_ru_ne (by omega), cf_ru_ne (by omega)]
          exact J j (by omega)
  exact l172 64000 0 (by omega) hi0 (fun _ _ _ => rfl) (fun j hj => by omega)
end RXE
