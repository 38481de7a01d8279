/-! how many slots before n a job runs in -/
def so_sb (p c o n : Nat) : Nat := (n - o) / p * c + (if (n - o) % p < c then (n - o) % p else c)
theorem so_dm {p d : Nat} (hp : 0 < p) : ((d % p + 1 < p ∧ (d + 1) / p = d / p ∧ (d + 1) % p = d % p + 1) ∨ (d % p + 1 = p ∧ (d + 1) / p = d / p + 1 ∧ (d + 1) % p = 0)) := by
  have e := Nat.div_add_mod d p
  have hr := Nat.mod_lt d hp
  by_cases h : d % p + 1 < p
  · left
    have e2 : d + 1 = (d % p + 1) + p * (d / p) := by omega
    refine ⟨h, ?_, ?_⟩
    · have a1 : ((d % p + 1) + p * (d / p)) / p = (d % p + 1) / p + d / p := Nat.add_mul_div_left _ _ hp
      have a2 := Nat.div_eq_of_lt h
      rw [e2]
      omega
    · rw [e2, Nat.add_mul_mod_self_left, Nat.mod_eq_of_lt h]
  · right
    have e2 : d + 1 = 0 + p * (d / p + 1) := by rw [Nat.mul_add]; omega
    refine ⟨by omega, ?_, ?_⟩
    · have a1 : (0 + p * (d / p + 1)) / p = 0 / p + (d / p + 1) := Nat.add_mul_div_left _ _ hp
      have a2 := Nat.zero_div p
      rw [e2]
      omega
    · rw [e2, Nat.add_mul_mod_self_left, Nat.zero_mod]
theorem so_sb_step {p c o n : Nat} (hp : 0 < p) (hc : c ≤ p) : (o ≤ n → (n - o) % p < c → so_sb p c o (n + 1) = so_sb p c o n + 1) ∧ (¬ (o ≤ n ∧ (n - o) % p < c) → so_sb p c o (n + 1) = so_sb p c o n) := by
  by_cases h : o ≤ n
  · obtain ⟨d, rfl⟩ : ∃ d, n = o + d := ⟨n - o, by omega⟩
    have e1 : o + d - o = d := by omega
    have e2 : o + d + 1 - o = d + 1 := by omega
    unfold so_sb
    rw [e1, e2]
    rcases so_dm (d := d) hp with ⟨h1, h2, h3⟩ | ⟨h1, h2, h3⟩
    · rw [h2, h3]
      generalize d / p * c = z
      constructor
      · intro _ hh
        rw [if_pos hh]
        split <;> omega
      · intro hh
        have n1 : ¬ d % p < c := fun z => hh ⟨h, z⟩
        have n2 : ¬ d % p + 1 < c := by omega
        rw [if_neg n1, if_neg n2]
    · rw [h2, h3, Nat.add_mul]
      generalize d / p * c = z
      constructor
      · intro _ hh
        rw [if_pos hh]
        split <;> omega
      · intro hh
        have : ¬ d % p < c := fun z => hh ⟨h, z⟩
        rw [if_neg this]
        split <;> omega
  · have e1 : n - o = 0 := by omega
    have e2 : n + 1 - o = 0 := by omega
    unfold so_sb
    rw [e1, e2]
    exact ⟨fun z => absurd z h, fun _ => rfl⟩
theorem so_sb_0 (p c o : Nat) : so_sb p c o 0 = 0 := by
  unfold so_sb
  rw [Nat.zero_sub, Nat.zero_div, Nat.zero_mod, Nat.zero_mul]
  split <;> omega
theorem so_sb_360 {p c o n : Nat} (h : so_per p) (ho : o ≤ n) : so_sb p c o (n + 360) = so_sb p c o n + 360 / p * c := by
  have hp : 0 < p := by have := h.1; omega
  have e : n + 360 - o = n - o + p * (360 / p) := by rw [so_360 h]; omega
  unfold so_sb
  rw [e, Nat.add_mul_div_left _ _ hp, Nat.add_mul_mod_self_left, Nat.add_mul]
  exact Nat.add_right_comm _ _ _
def so_sum (f : Nat → Nat) : Nat → Nat
  | 0 => 0
  | k + 1 => so_sum f k + f k
def so_one (p c o : Nat → Nat) (n i : Nat) : Nat := if 0 < p i then so_sb (p i) (c i) (o i) n else 0
def so_cy (p c : Nat → Nat) (i : Nat) : Nat := if 0 < p i then 360 / p i * c i else 0
def so_S (p c o : Nat → Nat) (n : Nat) : Nat := so_sum (so_one p c o n) 10
def so_C (p c : Nat → Nat) : Nat := so_sum (so_cy p c) 10
theorem so_one_step {p c o : Nat → Nat} (H : so_ok p c o) {n i : Nat} (hi : i < 10) : (so_hit p c o i n → so_one p c o (n + 1) i = so_one p c o n i + 1) ∧ (¬ so_hit p c o i n → so_one p c o (n + 1) i = so_one p c o n i) := by
  unfold so_one
  by_cases hp : 0 < p i
  · have J := so_live H hi hp
    rw [if_pos hp, if_pos hp]
    have s := so_sb_step (o := o i) (n := n) hp J.2.2.1
    exact ⟨fun h => s.1 h.2.1 h.2.2, fun h => s.2 (fun z => h ⟨hp, z⟩)⟩
  · rw [if_neg hp, if_neg hp]
    exact ⟨fun h => absurd h.1 hp, fun _ => rfl⟩
theorem so_sum_none {p c o : Nat → Nat} (H : so_ok p c o) {n : Nat} : ∀ k, k ≤ 10 → (∀ i, i < k → ¬ so_hit p c o i n) → so_sum (so_one p c o (n + 1)) k = so_sum (so_one p c o n) k := by
  intro k
  induction k with
  | zero => exact fun _ _ => rfl
  | succ k ih =>
    intro hk h
    rw [so_sum, so_sum, ih (by omega) (fun i hi => h i (by omega)), (so_one_step H (by omega)).2 (h k (by omega))]
theorem so_sum_some {p c o : Nat → Nat} (H : so_ok p c o) {n w : Nat} (hw : so_hit p c o w n) : ∀ k, k ≤ 10 → w < k → so_sum (so_one p c o (n + 1)) k = so_sum (so_one p c o n) k + 1 := by
  intro k
  induction k with
  | zero => exact fun _ h => absurd h (Nat.not_lt_zero w)
  | succ k ih =>
    intro hk h
    rw [so_sum, so_sum]
    by_cases e : w = k
    · subst e
      rw [(so_one_step H (by omega)).1 hw, so_sum_none H w (by omega) (fun i hi z => H.2 i w (by omega) (by omega) (by omega) n z hw)]
      omega
    · rw [ih (by omega) (by omega), (so_one_step H (by omega)).2 (fun z => H.2 k w (by omega) (by omega) (by omega) n z hw)]
      omega
theorem so_S_step {p c o : Nat → Nat} (H : so_ok p c o) {n w : Nat} (hw : so_F (fun i => so_hit p c o i n) 10 w) : (w = 10 → so_S p c o (n + 1) = so_S p c o n) ∧ (w < 10 → so_S p c o (n + 1) = so_S p c o n + 1) := by
  constructor
  · intro e
    subst e
    exact so_sum_none H 10 (Nat.le_refl _) hw.2.1
  · intro h
    exact so_sum_some H (hw.2.2 h) 10 (Nat.le_refl _) h
theorem so_sum_0 {f : Nat → Nat} (h : ∀ i, f i = 0) : ∀ k, so_sum f k = 0 := by
  intro k
  induction k with
  | zero => rfl
  | succ k ih => rw [so_sum, ih, h k]
theorem so_S_0 (p c o : Nat → Nat) : so_S p c o 0 = 0 := by
  refine so_sum_0 (fun i => ?_) 10
  unfold so_one
  split
  · exact so_sb_0 _ _ _
  · rfl
theorem so_S_le {p c o : Nat → Nat} (H : so_ok p c o) (n : Nat) : so_S p c o n ≤ n := by
  induction n with
  | zero => exact Nat.le_of_eq (so_S_0 p c o)
  | succ n ih =>
    obtain ⟨w, hw⟩ := so_F_ex (fun i => so_hit p c o i n) 10
    have s := so_S_step H hw
    have h1 := hw.1
    by_cases e : w = 10
    · have := s.1 e
      omega
    · have := s.2 (by omega)
      omega
theorem so_S_360 {p c o : Nat → Nat} (H : so_ok p c o) {n : Nat} (hn : 360 ≤ n) : so_S p c o (n + 360) = so_S p c o n + so_C p c := by
  have key : ∀ k, k ≤ 10 → so_sum (so_one p c o (n + 360)) k = so_sum (so_one p c o n) k + so_sum (so_cy p c) k := by
    intro k
    induction k with
    | zero => exact fun _ => rfl
    | succ k ih =>
      intro hk
      have e : so_one p c o (n + 360) k = so_one p c o n k + so_cy p c k := by
        unfold so_one so_cy
        by_cases hp : 0 < p k
        · have J := so_live H (by omega) hp
          rw [if_pos hp, if_pos hp, if_pos hp]
          exact so_sb_360 J.1 (by have := J.2.2.2; have := J.1.2.1; omega)
        · rw [if_neg hp, if_neg hp, if_neg hp]
      rw [so_sum, so_sum, so_sum, ih (by omega), e]
      omega
  exact key 10 (Nat.le_refl _)
theorem so_S_cyc {p c o : Nat → Nat} (H : so_ok p c o) {n : Nat} (hn : 360 ≤ n) : ∀ q, so_S p c o (n + 360 * q) = so_S p c o n + so_C p c * q := by
  intro q
  induction q with
  | zero => simp
  | succ q ih =>
    have e : n + 360 * (q + 1) = n + 360 * q + 360 := by omega
    rw [e, so_S_360 H (by omega), ih, Nat.mul_add]
    omega
/-- the slots before n in which no job runs -/
def so_fr (p c o : Nat → Nat) (n : Nat) : Nat := n - so_S p c o n
theorem so_fr_step {p c o : Nat → Nat} (H : so_ok p c o) {n w : Nat} (hw : so_F (fun i => so_hit p c o i n) 10 w) : (w = 10 → so_fr p c o (n + 1) = so_fr p c o n + 1) ∧ (w < 10 → so_fr p c o (n + 1) = so_fr p c o n) := by
  have s := so_S_step H hw
  have l := so_S_le H n
  unfold so_fr
  constructor
  · intro e
    rw [s.1 e]
    omega
  · intro e
    rw [s.2 e]
    omega
theorem so_fr_mono {p c o : Nat → Nat} (H : so_ok p c o) (a : Nat) : ∀ d, so_fr p c o a ≤ so_fr p c o (a + d) := by
  intro d
  induction d with
  | zero => exact Nat.le_refl _
  | succ d ih =>
    obtain ⟨w, hw⟩ := so_F_ex (fun i => so_hit p c o i (a + d)) 10
    have s := so_fr_step H hw
    have h1 := hw.1
    have e : a + (d + 1) = a + d + 1 := rfl
    rw [e]
    by_cases e : w = 10
    · have := s.1 e
      omega
    · have := s.2 (by omega)
      omega
/-- what the reference's count has gathered at t: slots before min n 360, and behind 360 -/
def so_fa (p c o : Nat → Nat) (n rest t : Nat) : Nat := so_fr p c o (min t (min n 360)) + (so_fr p c o (360 + min (t - 360) rest) - so_fr p c o 360)
def so_fb (p c o : Nat → Nat) (t : Nat) : Nat := so_fr p c o (360 + (t - 360)) - so_fr p c o 360
theorem so_fab_0 {p c o : Nat → Nat} (n rest : Nat) : so_fa p c o n rest 0 = 0 ∧ so_fb p c o 0 = 0 := by
  have e1 : min 0 (min n 360) = 0 := by omega
  have e2 : 360 + min (0 - 360) rest = 360 := by omega
  have e4 : 360 + (0 - 360) = 360 := by omega
  have e3 : so_fr p c o 0 = 0 := Nat.zero_sub _
  unfold so_fa so_fb
  rw [e1, e2, e3, e4]
  exact ⟨by omega, by omega⟩
theorem so_fa_1 {p c o : Nat → Nat} (H : so_ok p c o) {n rest t w : Nat} (hw : so_F (fun i => so_hit p c o i t) 10 w) :
    (w < 10 → so_fa p c o n rest (t + 1) = so_fa p c o n rest t ∧ so_fb p c o (t + 1) = so_fb p c o t) ∧
    (w = 10 → t < 360 → t < n → so_fa p c o n rest (t + 1) = so_fa p c o n rest t + 1 ∧ so_fb p c o (t + 1) = so_fb p c o t) ∧
    (w = 10 → t < 360 → n ≤ t → so_fa p c o n rest (t + 1) = so_fa p c o n rest t ∧ so_fb p c o (t + 1) = so_fb p c o t) ∧
    (w = 10 → 360 ≤ t → t < 360 + rest → so_fa p c o n rest (t + 1) = so_fa p c o n rest t + 1 ∧ so_fb p c o (t + 1) = so_fb p c o t + 1) ∧
    (w = 10 → 360 ≤ t → 360 + rest ≤ t → so_fa p c o n rest (t + 1) = so_fa p c o n rest t ∧ so_fb p c o (t + 1) = so_fb p c o t + 1) := by
  have s := so_fr_step H hw
  have m := so_fr_mono H 360 (t - 360)
  unfold so_fa so_fb
  by_cases h3 : t < 360
  · have a1 : t + 1 - 360 = 0 := by omega
    have a2 : t - 360 = 0 := by omega
    rw [a1, a2]
    by_cases h4 : t < n
    · have a3 : min (t + 1) (min n 360) = t + 1 := by omega
      have a4 : min t (min n 360) = t := by omega
      rw [a3, a4]
      refine ⟨fun z => ?_, fun z _ _ => ?_, fun _ _ _ => by omega, fun _ _ _ => by omega, fun _ _ _ => by omega⟩
      · rw [s.2 z]; exact ⟨rfl, rfl⟩
      · rw [s.1 z]; exact ⟨by omega, rfl⟩
    · have a3 : min (t + 1) (min n 360) = min t (min n 360) := by omega
      rw [a3]
      exact ⟨fun _ => ⟨rfl, rfl⟩, fun _ _ _ => by omega, fun _ _ _ => ⟨rfl, rfl⟩, fun _ _ _ => by omega, fun _ _ _ => by omega⟩
  · have a1 : min (t + 1) (min n 360) = min t (min n 360) := by omega
    have a2 : 360 + (t - 360) = t := by omega
    have a3 : 360 + (t + 1 - 360) = t + 1 := by omega
    rw [a2] at m
    rw [a1, a2, a3]
    by_cases h4 : t < 360 + rest
    · have a4 : 360 + min (t + 1 - 360) rest = t + 1 := by omega
      have a5 : 360 + min (t - 360) rest = t := by omega
      rw [a4, a5]
      refine ⟨fun z => ?_, fun _ _ _ => by omega, fun _ _ _ => by omega, fun z _ _ => ?_, fun _ _ _ => by omega⟩
      · rw [s.2 z]; exact ⟨rfl, rfl⟩
      · rw [s.1 z]; exact ⟨by omega, by omega⟩
    · have a4 : min (t + 1 - 360) rest = min (t - 360) rest := by omega
      rw [a4]
      refine ⟨fun z => ?_, fun _ _ _ => by omega, fun _ _ _ => by omega, fun _ _ _ => by omega, fun z _ _ => ?_⟩
      · rw [s.2 z]; exact ⟨rfl, rfl⟩
      · rw [s.1 z]; exact ⟨rfl, by omega⟩
theorem so_fa_end {p c o : Nat → Nat} (H : so_ok p c o) (n : Nat) : (n ≤ 360 → so_fa p c o n 0 720 = so_fr p c o n) ∧
    (360 < n → so_fa p c o n ((n - 360) % 360) 720 + so_fb p c o 720 * ((n - 360) / 360) = so_fr p c o n) := by
  have hC : so_S p c o 720 = so_S p c o 360 + so_C p c := so_S_360 H (Nat.le_refl 360)
  have l7 := so_S_le H 720
  constructor
  · intro h
    unfold so_fa
    have a1 : min 720 (min n 360) = n := by omega
    have a2 : 360 + min (720 - 360) 0 = 360 := by omega
    rw [a1, a2]
    omega
  · intro h
    have hr : (n - 360) % 360 < 360 := Nat.mod_lt _ (by decide)
    have hd := Nat.div_add_mod (n - 360) 360
    generalize (n - 360) % 360 = r at *
    generalize (n - 360) / 360 = q at *
    have hn : n = 360 + r + 360 * q := by omega
    have hS := so_S_cyc H (n := 360 + r) (by omega) q
    have l1 := so_S_le H (360 + r)
    have l3 := so_S_le H 360
    have m := so_fr_mono H 360 r
    unfold so_fa so_fb
    have a1 : min 720 (min n 360) = 360 := by omega
    have a2 : min (720 - 360) r = r := by omega
    have a3 : 360 + (720 - 360) = 720 := by omega
    rw [a1, a2, a3, hn]
    unfold so_fr at m ⊢
    rw [hS, hC]
    have e1 : 720 - (so_S p c o 360 + so_C p c) - (360 - so_S p c o 360) = 360 - so_C p c := by omega
    rw [e1, Nat.sub_mul]
    have e2 : so_C p c * q ≤ 360 * q := by
      apply Nat.mul_le_mul_right
      have l8 := so_fr_mono H 360 360
      unfold so_fr at l8
      have e9 : 360 + 360 = 720 := rfl
      rw [e9, hC] at l8
      omega
    generalize so_C p c * q = z at *
    omega
/-! the next start -/
def so_nb (p o t : Nat) : Nat := if t ≤ o then 0 else (t - o - 1) / p + 1
def so_nx (p o t : Nat) : Nat := o + so_nb p o t * p
theorem so_nx_p {p o t : Nat} (hp : 0 < p) (hp3 : p ≤ 360) (ho : o < 360) : t ≤ so_nx p o t ∧ o ≤ so_nx p o t ∧ (so_nx p o t - o) % p = 0 ∧ so_nx p o t < t + 720 ∧ (∀ s, t ≤ s → o ≤ s → (s - o) % p = 0 → so_nx p o t ≤ s) := by
  have e0 : so_nx p o t - o = so_nb p o t * p := by unfold so_nx; omega
  have e1 : (so_nx p o t - o) % p = 0 := by rw [e0]; exact Nat.mul_mod_left _ _
  have e2 : o ≤ so_nx p o t := Nat.le_add_right _ _
  by_cases h : t ≤ o
  · have e3 : so_nx p o t = o := by unfold so_nx so_nb; simp [h]
    rw [e3] at e1 ⊢
    exact ⟨h, Nat.le_refl _, e1, by omega, fun s _ hs _ => hs⟩
  · have e3 : so_nx p o t = o + (p * ((t - o - 1) / p) + p) := by
      unfold so_nx so_nb
      rw [if_neg h, Nat.add_mul, Nat.one_mul, Nat.mul_comm ((t - o - 1) / p) p]
    have hd := Nat.div_add_mod (t - o - 1) p
    have hm := Nat.mod_lt (t - o - 1) hp
    refine ⟨by omega, e2, e1, by omega, fun s h1 h2 h3 => ?_⟩
    obtain ⟨q, hq⟩ := Nat.dvd_of_mod_eq_zero h3
    have hlt : (t - o - 1) / p < q := by
      apply Nat.lt_of_mul_lt_mul_left (a := p)
      omega
    have : p * ((t - o - 1) / p + 1) ≤ p * q := Nat.mul_le_mul_left p hlt
    rw [Nat.mul_add] at this
    omega
def so_beg (p o : Nat → Nat) (t : Nat) : Prop := ∃ j, j < 10 ∧ 0 < p j ∧ o j ≤ t ∧ (t - o j) % p j = 0
/-- what the search has found among the ids before n -/
def so_ns (p o : Nat → Nat) (t n : Nat) (x : Int32) : Prop :=
  ((∀ i, i < n → ¬ 0 < p i) ∧ x = -6) ∨ (∃ m, x = nI m ∧ m < t + 720 ∧ (∃ i, i < n ∧ 0 < p i ∧ m = so_nx (p i) (o i) t) ∧ (∀ i, i < n → 0 < p i → m ≤ so_nx (p i) (o i) t))
theorem so_ns_end {p c o : Nat → Nat} (H : so_ok p c o) {t : Nat} {x : Int32} (h : so_ns p o t 10 x) {m : Nat} (hm : so_F (fun k => so_beg p o (t + k)) 720 m) : x = if m < 720 then nI (t + m) else -6 := by
  rcases h with ⟨h1, rfl⟩ | ⟨k, rfl, h2, ⟨i, hi, hp, hk⟩, h4⟩
  · have : m = 720 := so_F_end hm (fun j _ z => by
      obtain ⟨i, hi, hp, _⟩ := z
      exact h1 i hi hp)
    rw [if_neg (by omega)]
  · have J := so_live H hi hp
    have N := so_nx_p (p := p i) (o := o i) (t := t) hp J.1.2.1 (by have := J.2.2.2; have := J.1.2.1; omega)
    have N1 := N.1
    have e : m = k - t := so_F_hit hm (by omega) (fun j hj z => by
      obtain ⟨i', hi', hp', hz1, hz2⟩ := z
      have J' := so_live H hi' hp'
      have N' := so_nx_p (p := p i') (o := o i') (t := t) hp' J'.1.2.1 (by have := J'.2.2.2; have := J'.1.2.1; omega)
      have := N'.2.2.2.2 (t + j) (by omega) hz1 hz2
      have := h4 i' hi' hp'
      omega) (by
      refine ⟨i, hi, hp, ?_⟩
      have e9 : t + (k - t) = so_nx (p i) (o i) t := by omega
      show o i ≤ t + (k - t) ∧ (t + (k - t) - o i) % p i = 0
      rw [e9]
      exact ⟨N.2.1, N.2.2.1⟩)
    rw [if_pos (by omega)]
    exact congrArg nI (by omega)
