/-! few: the class's search finds the least sum. -/
/-- one more -/
def cf_pu (p : Nat → Bool) (x : Nat) : Nat → Bool := fun y => p y || decide (y = x)
theorem cf_pu_eq {p : Nat → Bool} {x : Nat} : cf_pu p x x = true := by unfold cf_pu; rw [decide_eq_true rfl, Bool.or_true]
theorem cf_pu_ne {p : Nat → Bool} {x y : Nat} (h : ¬ y = x) : cf_pu p x y = p y := by unfold cf_pu; rw [decide_eq_false h, Bool.or_false]
theorem cf_cnt_s (p : Nat → Bool) (n : Nat) : cf_cnt p (n + 1) = cf_cnt p n + (bif p n then 1 else 0) := rfl
theorem cf_cnt_pu {p : Nat → Bool} {x : Nat} (hp : p x = false) : ∀ {n : Nat}, cf_cnt (cf_pu p x) n = cf_cnt p n + (if x < n then 1 else 0)
  | 0 => by rw [if_neg (by omega)]; rfl
  | n + 1 => by
    rw [cf_cnt_s, cf_cnt_s, cf_cnt_pu hp (n := n)]
    by_cases q : n = x
    · subst q
      rw [hp, if_neg (by omega), if_pos (by omega), cf_pu_eq]
      show _ + 0 + 1 = _ + 0 + 1
      rfl
    · rw [cf_pu_ne q]
      by_cases z : x < n
      · rw [if_pos z, if_pos (by omega)]; omega
      · rw [if_neg z, if_neg (by omega)]; omega
theorem cf_cnt_9260 {p : Nat → Bool} {n : Nat} (h : p n = false) : cf_cnt p (n + 1) ≤ n := by
  have := cf_cnt_le p n
  rw [cf_cnt_s, h]
  show _ + 0 ≤ _
  omega
/-- the answer: the least sum, or none -/
def cf_an (g : Nat → Nat) (st : Nat → Nat → Nat → Nat) (s0 : Nat) (z : Int32) : Prop := (∃ n, z = nI n ∧ cf_Re g st s0 9260 n ∧ ∀ m, cf_Re g st s0 9260 m → n ≤ m) ∨ (z = -1 ∧ ∀ m, ¬ cf_Re g st s0 9260 m)
section RXE
variable {L : Nat} {hl : Nat → Nat → Int64} {v : Nat → Nat → Option Nat}
variable {RI : Int32 → (Nat → Nat → Int32) → (Nat → Nat → Int64) → (Nat → Nat → Option Nat) → Prop}
variable {g : Nat → Nat} {st : Nat → Nat → Nat → Nat} {hh : Nat → Nat → Nat} {s0 : Nat}
theorem g124 (F : cf_GF g st hh) {hi0 : Nat → Nat → Int32} {x1 x2 x3 x6 x7 : Int32} {x4 : Int64} {B : Nat} (hB : B ≤ 189) (k : ∀ z hi2, (∀ a b, ¬ (139 ≤ a ∧ a ≤ 142) → hi2 a b = hi0 a b) → cf_an g st s0 z → RI z hi2 hl v) :
    ∀ D l, l + D = 1000000 → ∀ hi s cl e, (∀ a b, ¬ (139 ≤ a ∧ a ≤ 142) → hi a b = hi0 a b) → cf_Tb g st hh hi → cf_Q3 g st hh s0 hi s cl 9261 l e → l ≤ B + 8 * cf_cnt cl 9261 + e → e ≤ 8 → rx_aw 124 92 [.ref 134, .int x1, .int x2, .int x3, .long x4, rx_no, .int x6, .int x7, .int (nI e), .int (nI l), rx_no, rx_no, rx_no] [] (rx_hp L rx_tr hi hl v) (fun r h2 => ∃ z : Int32, r = some (.int z) ∧ rx_ok2 L rx_tr h2 (RI z)) := by
  have lb : ∀ {hi s cl l e}, cf_Q3 g st hh s0 hi s cl 9261 l e → l ≤ B + 8 * cf_cnt cl 9261 + e → e ≤ 8 → l < 900000 := fun {hi s cl l e} Q h1 h2 => by
    have := cf_cnt_le cl 9261
    omega
  intro D
  induction D with
  | zero =>
    intro l hl0 hi s cl e F0 T Q h1 h2
    have := lb Q h1 h2; omega
  | succ D ihD =>
    intro l hl0 hi s cl e F0 T Q h1 h2
    have hlt := lb Q h1 h2
    refine w124_leastSum_92 ⟨fun q => ?_, fun _ => ⟨fun q => ?_, fun q => ?_⟩⟩
    · rw [show (1000000 : Int32) = nI 1000000 from rfl, cf_nle (by omega) (by omega)] at q; omega
    · rw [show (8 : Int32) = nI 8 from rfl, cf_nle (by omega) (by omega)] at q
      refine c_retI (k _ hi F0 (Or.inr ⟨rfl, ?_⟩))
      obtain ⟨r, tt, K, G, S, J⟩ := Q
      refine cf_J3_none F J (Nat.le_refl _) (fun x hx => ?_) (fun x hx hc => ?_)
      · rcases Nat.eq_zero_or_pos (r x) with z | z
        · exact z
        · have := (J.1 x hx).2.2.2.1 z; omega
      · have := ((J.1 x hx).2.2.2.2.2 hc).2.2.2.1; omega
    · rw [show (8 : Int32) = nI 8 from rfl, cf_nle (by omega) (by omega)] at q
      have eh : (9261 : Int32) + (nI l - nI l / 8 * 8) = nI (9261 + l % 8) := by
        rw [show (8 : Int32) = nI 8 from rfl, cf_nmod (by omega) (by decide), show (9261 : Int32) = nI 9261 from rfl, nI_add]
      rw [eh, show nI e + 1 = nI (e + 1) from nI_add e 1]
      have inner : ∀ d n, n + d = 9261 → ∀ hi s cl E eJ, (∀ a b, ¬ (139 ≤ a ∧ a ≤ 142) → hi a b = hi0 a b) → cf_Tb g st hh hi → cf_Q3 g st hh s0 hi s cl 9261 l eJ → ((E = eJ + 1 ∧ l ≤ B + 8 * cf_cnt cl 9261 + eJ ∧ eJ ≤ 7) ∨ (E = 0 ∧ eJ = 0 ∧ l + 1 ≤ B + 8 * cf_cnt cl 9261)) → n ≤ cf_cnt cl 9261 → rx_aw 124 123 [.ref 134, .int x1, .int x2, .int x3, .long x4, rx_no, .int x6, .int x7, .int (nI E), .int (nI l), .int (nI (9261 + l % 8)), .int (nI n), rx_no] [] (rx_hp L rx_tr hi hl v) (fun r h2 => ∃ z : Int32, r = some (.int z) ∧ rx_ok2 L rx_tr h2 (RI z)) := by
        intro d
        induction d with
        | zero =>
          intro n hnd hi s cl E eJ F1 T1 Q1 hE hn
          exfalso
          obtain ⟨r, tt, K, G, S, J⟩ := Q1
          have : cl 9260 = false := by
            rw [cf_not_true]
            intro z
            exact ((J.1 9260 (by omega)).2.2.2.2.2 z).2.2.1 rfl
          have h9 : cf_cnt cl 9261 ≤ 9260 := cf_cnt_9260 this
          omega
        | succ d ihd =>
          intro n hnd hi s cl E eJ F1 T1 Q1 hE hn
          obtain ⟨r, tt, K, G, S, J⟩ := id Q1
          obtain ⟨nx, pr, R⟩ := G
          have h8 : l % 8 < 8 := Nat.mod_lt _ (by decide)
          have kh : cf_Rk r (9261 + l % 8) = l % 8 + 1 := by rw [cf_Rk_h (by omega)]; omega
          obtain ⟨a1, a2, a3, a4, a5, a6, a7, a8, a9, a10⟩ := R (9261 + l % 8) (by omega) (by omega)
          have hxr : ¬ nx (9261 + l % 8) = 9261 + l % 8 → nx (9261 + l % 8) < 9261 ∧ r (nx (9261 + l % 8)) = l % 8 + 1 := by
            intro q
            have hx : nx (9261 + l % 8) < 9261 := by
              apply Classical.byContradiction
              intro z
              rw [cf_Rk_h z, kh] at a5
              omega
            exact ⟨hx, by rw [← cf_Rk_s (r := r) hx, a5, kh]⟩
          refine w124_leastSum_123 ⟨fun q => ?_, fun _ => ⟨9261 + l % 8, rfl, by omega, fun q => ?_, fun q => ⟨9261 + l % 8, rfl, by omega, fun q2 => ?_, fun q2 => ?_⟩⟩⟩
          · rw [show (9261 : Int32) = nI 9261 from rfl, cf_nle (by omega) (by omega)] at q; omega
          · -- the ring is empty
            rw [a1, nI_eq (by omega) (by omega)] at q
            rw [show nI l + 1 = nI (l + 1) from nI_add l 1]
            refine ihD (l + 1) (by omega) hi s cl E F1 T1 ⟨r, tt, K, ⟨nx, pr, R⟩, S, fun x hx => ?_, J.2⟩ (by omega) (by omega)
            obtain ⟨j1, j2, j3, j4, j5, j6⟩ := J.1 x hx
            refine ⟨j1, j2, j3, fun z => ?_, j5, fun z => ?_⟩
            · obtain ⟨b1, b2, b3, b4, b5⟩ := j4 z
              have : ¬ r x = l % 8 + 1 := fun w => by
                have := cf_Rn_ne R _ x (Nat.le_refl _) hx z j2
                rw [w, show 9260 + (l % 8 + 1) = 9261 + l % 8 by omega] at this
                exact this q
              refine ⟨b1, b2, ?_, ?_, b5⟩
              · have : ¬ s x + cf_h3 hh x = l := fun w => by rw [w] at b5; exact this b5
                omega
              · omega
            · obtain ⟨b1, b2, b3, b4, b5⟩ := j6 z
              exact ⟨b1, b2, b3, by omega, b5⟩
          all_goals rw [a1, nI_eq (by omega) (by omega)] at q
          all_goals obtain ⟨hx, hrx⟩ := hxr q
          · -- the end
            rw [a1, show (9260 : Int32) = nI 9260 from rfl, nI_eq (by omega) (by omega)] at q2
            rw [q2] at hrx
            refine ⟨9260, by rw [a1, q2], by omega, c_retI (k _ hi F1 (Or.inl ⟨s 9260, S 9260 (by omega), ?_⟩))⟩
            exact cf_J3_end F J (Nat.le_refl _) hrx
          · rw [a1, show (9260 : Int32) = nI 9260 from rfl, nI_eq (by omega) (by omega)] at q2
            rw [a1]
            generalize nx (9261 + l % 8) = X at *
            obtain ⟨j1, j2, j3, j4, j5, j6⟩ := J.1 X hx
            obtain ⟨b1, b2, b3, b4, b5⟩ := j4 (by omega)
            have hrank : s X + cf_h3 hh X = l := by omega
            refine c135 ⟨nx, pr, R⟩ hx (by omega) (fun hi2 F2 G2 => ?_)
            have J2 : cf_J3 g st hh s0 s (cf_fu r X 0) (cf_pu cl X) X l 0 := by
              refine ⟨fun y hy => ?_, J.2⟩
              obtain ⟨i1, i2, i3, i4, i5, i6⟩ := J.1 y hy
              by_cases w : y = X
              · subst w
                rw [cf_fu_eq, cf_pu_eq]
                exact ⟨i1, by omega, i3, fun z => by omega, fun _ _ => rfl, fun _ => ⟨rfl, b2, q2, by omega, fun z => absurd rfl z⟩⟩
              · rw [cf_fu_ne w, cf_pu_ne w]
                refine ⟨i1, i2, i3, fun z => ?_, i5, fun z => ?_⟩
                · obtain ⟨d1, d2, d3, d4, d5⟩ := i4 z
                  exact ⟨d1, d2, d3, by omega, d5⟩
                · obtain ⟨d1, d2, d3, d4, d5⟩ := i6 z
                  exact ⟨d1, d2, d3, d4, fun _ => d5 (by omega)⟩
            refine c136 (hi0 := hi0) (n := s X) F ⟨fun a b z => (F2 a b (by omega) (by omega)).trans (F1 a b z), cf_Tb_ext T1 (fun a b z1 z2 => F2 a b (by omega) (by omega)), ⟨_, _, _, G2, fun y hy => (F2 _ _ (by omega) (by omega)).trans (S y hy), J2⟩, rfl⟩ hx cf_pu_eq hrank hlt (fun hi3 s3 F3 T3 Q3 _ _ => ?_)
            have hc := cf_cnt_pu b1 (n := 9261)
            rw [if_pos hx] at hc
            rw [show nI n + 1 = nI (n + 1) from nI_add n 1]
            refine ihd (n + 1) (by omega) hi3 s3 (cf_pu cl X) 0 0 F3 T3 Q3 (Or.inr ⟨rfl, rfl, ?_⟩) (by omega)
            omega
      exact inner 9261 0 (by omega) hi s cl (e + 1) e F0 T Q (Or.inl ⟨rfl, h1, by omega⟩) (Nat.zero_le _)
end RXE
