section
/-! the pure picture: p, c, o give for each id its period (0: no job), length, offset -/
def so_hit (p c o : Nat → Nat) (i t : Nat) : Prop := 0 < p i ∧ o i ≤ t ∧ (t - o i) % p i < c i
def so_set (f : Nat → Nat) (k x : Nat) : Nat → Nat := fun i => if i = k then x else f i
theorem so_set_s (f : Nat → Nat) (k x : Nat) : so_set f k x k = x := if_pos rfl
theorem so_set_n {f : Nat → Nat} {k x i : Nat} (h : i ≠ k) : so_set f k x i = f i := if_neg h
def so_per (P : Nat) : Prop := 2 ≤ P ∧ P ≤ 360 ∧ 360 % P = 0
def so_job (p c o : Nat) : Prop := so_per p ∧ 1 ≤ c ∧ c ≤ p ∧ o < p
def so_ok (p c o : Nat → Nat) : Prop :=
  (∀ i, i < 10 → p i = 0 ∨ so_job (p i) (c i) (o i)) ∧
  (∀ i j, i < 10 → j < 10 → i ≠ j → ∀ t, so_hit p c o i t → so_hit p c o j t → False)
theorem so_live {p c o : Nat → Nat} (H : so_ok p c o) {i : Nat} (hi : i < 10) (h : 0 < p i) : so_job (p i) (c i) (o i) := by
  rcases H.1 i hi with h0 | h1
  · omega
  · exact h1
/-- m is the least i below n with f i, or n -/
def so_F (f : Nat → Prop) (n m : Nat) : Prop := m ≤ n ∧ (∀ i, i < m → ¬ f i) ∧ (m < n → f m)
theorem so_F_u {f : Nat → Prop} {n a b : Nat} (ha : so_F f n a) (hb : so_F f n b) : a = b := by
  obtain ⟨a1, a2, a3⟩ := ha
  obtain ⟨b1, b2, b3⟩ := hb
  by_cases h : a < b
  · exact absurd (a3 (by omega)) (b2 a h)
  · by_cases h2 : b < a
    · exact absurd (b3 (by omega)) (a2 b h2)
    · omega
theorem so_F_ex (f : Nat → Prop) (n : Nat) : ∃ m, so_F f n m := by
  induction n with
  | zero => exact ⟨0, Nat.le_refl 0, fun i h => absurd h (Nat.not_lt_zero i), fun h => absurd h (Nat.not_lt_zero 0)⟩
  | succ n ih =>
    obtain ⟨m, h1, h2, h3⟩ := ih
    by_cases h : m < n
    · exact ⟨m, by omega, h2, fun _ => h3 h⟩
    · have e : m = n := by omega
      subst e
      by_cases hf : f m
      · exact ⟨m, by omega, h2, fun _ => hf⟩
      · refine ⟨m + 1, by omega, fun i hi => ?_, fun h => absurd h (by omega)⟩
        by_cases e : i = m
        · rw [e]; exact hf
        · exact h2 i (by omega)
theorem so_F_hit {f : Nat → Prop} {n m i : Nat} (h : so_F f n m) (hi : i < n) (hlo : ∀ j, j < i → ¬ f j) (hf : f i) : m = i := by
  obtain ⟨h1, h2, h3⟩ := h
  by_cases a : m < i
  · exact absurd (h3 (by omega)) (hlo m a)
  · by_cases b : i < m
    · exact absurd hf (h2 i b)
    · omega
theorem so_F_end {f : Nat → Prop} {n m : Nat} (h : so_F f n m) (hlo : ∀ j, j < n → ¬ f j) : m = n := by
  obtain ⟨h1, h2, h3⟩ := h
  by_cases a : m < n
  · exact absurd (h3 a) (hlo m a)
  · omega
theorem so_lo_s {f : Nat → Prop} {i : Nat} (h : ∀ j, j < i → ¬ f j) (hf : ¬ f i) : ∀ j, j < i + 1 → ¬ f j := fun j hj => by
  by_cases e : j = i
  · rw [e]; exact hf
  · exact h j (by omega)
theorem so_lo_0 {f : Nat → Prop} : ∀ j, j < 0 → ¬ f j := fun j h => absurd h (Nat.not_lt_zero j)
/-! divisors of 360 -/
def so_divs : List Nat := [2, 3, 4, 5, 6, 8, 9, 10, 12, 15, 18, 20, 24, 30, 36, 40, 45, 60, 72, 90, 120, 180, 360]
theorem so_divs_tab : ((List.range 361).all fun P => !(decide (2 ≤ P) && decide (360 % P = 0)) || so_divs.contains P) = true := by decide +kernel
theorem so_divs_in {P : Nat} (h : so_per P) : P ∈ so_divs := by
  obtain ⟨h2, h3, h4⟩ := h
  have := List.all_eq_true.mp so_divs_tab P (List.mem_range.mpr (by omega))
  simpa [h2, h4] using this
theorem so_bez_tab : (so_divs.all fun P => so_divs.all fun q => (List.range 361).any fun k => decide ((k * P + Nat.gcd P q) % q = 0)) = true := by decide +kernel
theorem so_bez {P q : Nat} (hP : so_per P) (hq : so_per q) : ∃ k, (k * P + Nat.gcd P q) % q = 0 := by
  have h1 := List.all_eq_true.mp so_bez_tab P (so_divs_in hP)
  have h2 := List.all_eq_true.mp h1 q (so_divs_in hq)
  obtain ⟨k, _, hk⟩ := List.any_eq_true.mp h2
  exact ⟨k, of_decide_eq_true hk⟩
theorem so_360 {P : Nat} (h : so_per P) : P * (360 / P) = 360 := by
  have := Nat.div_add_mod 360 P
  rw [h.2.2] at this
  exact this
theorem so_reach {P q : Nat} (hP : so_per P) (hq : so_per q) (x : Nat) : ∃ k, k < 360 / P ∧ (x + k * P) % q = x % Nat.gcd P q := by
  obtain ⟨k0, hk0⟩ := so_bez hP hq
  have hg : 0 < Nat.gcd P q := Nat.gcd_pos_of_pos_left q (by have := hP.1; omega)
  have hgq : Nat.gcd P q ≤ q := Nat.gcd_le_right P (by have := hq.1; omega)
  obtain ⟨s, hs⟩ := Nat.dvd_of_mod_eq_zero hk0
  have hx := Nat.div_add_mod x (Nat.gcd P q)
  have hr : x % Nat.gcd P q < Nat.gcd P q := Nat.mod_lt _ hg
  generalize Nat.gcd P q = g at *
  generalize x % g = r at *
  generalize x / g = m at *
  have e360 := so_360 hP
  have eq360 := so_360 hq
  generalize hd : 360 / P = d at *
  generalize 360 / q = d' at *
  have dpos : 0 < d := by
    rcases Nat.eq_zero_or_pos d with h | h
    · rw [h] at e360; omega
    · exact h
  have e1 : x + k0 * m * P = r + q * (m * s) := by
    have a1 : k0 * m * P + g * m = m * (k0 * P + g) := by
      rw [Nat.mul_add, Nat.mul_comm g m]
      congr 1
      rw [Nat.mul_comm k0 m, Nat.mul_assoc]
    have a2 : m * (k0 * P + g) = q * (m * s) := by
      rw [hs, ← Nat.mul_assoc, Nat.mul_comm m q, Nat.mul_assoc]
    omega
  refine ⟨k0 * m % d, Nat.mod_lt _ dpos, ?_⟩
  have e2 := Nat.div_add_mod (k0 * m) d
  generalize k0 * m % d = k at *
  generalize k0 * m / d = z at *
  have e3 : k0 * m * P = k * P + q * (d' * z) := by
    rw [← e2, Nat.add_mul]
    have : d * z * P = q * (d' * z) := by
      rw [← Nat.mul_assoc, eq360, ← e360, Nat.mul_assoc, Nat.mul_comm z P, ← Nat.mul_assoc, Nat.mul_comm d P]
    omega
  have e4 : (x + k * P + q * (d' * z)) % q = (r + q * (m * s)) % q := by
    rw [← e1, e3, Nat.add_assoc]
  rw [Nat.add_mul_mod_self_left, Nat.add_mul_mod_self_left, Nat.mod_eq_of_lt (show r < q by omega)] at e4
  exact e4
theorem so_modg {g : Nat} (x : Nat) {y : Nat} (h : g ∣ y) : (x + y) % g = x % g := by
  obtain ⟨s, rfl⟩ := h
  exact Nat.add_mul_mod_self_left x g s
theorem so_meet {P q : Nat} (hP : so_per P) (hq : so_per q) (c x : Nat) : (∃ k, k < 360 / P ∧ (x + k * P) % q < c) ↔ x % Nat.gcd P q < c := by
  constructor
  · rintro ⟨k, _, hk⟩
    have e1 : (x + k * P) % q % Nat.gcd P q = (x + k * P) % Nat.gcd P q := Nat.mod_mod_of_dvd _ (Nat.gcd_dvd_right P q)
    have e2 : (x + k * P) % Nat.gcd P q = x % Nat.gcd P q := so_modg x (Nat.dvd_trans (Nat.gcd_dvd_left P q) (Nat.dvd_mul_left P k))
    have e3 : (x + k * P) % q % Nat.gcd P q ≤ (x + k * P) % q := Nat.mod_le _ _
    omega
  · intro h
    obtain ⟨k, hk, e⟩ := so_reach hP hq x
    exact ⟨k, hk, by omega⟩
/-- slots until the meeting -/
def so_sm (g c D : Nat) : Nat := if D % g < c then 0 else g - D % g
theorem so_sm_lt {g c D i : Nat} (hg : 0 < g) (h : i < so_sm g c D) : ¬ (D + i) % g < c := by
  unfold so_sm at h
  split at h
  · omega
  · have hr := Nat.mod_lt D hg
    have e : (D + i) % g = D % g + i := by
      rw [Nat.add_mod, Nat.mod_eq_of_lt (show i < g by omega), Nat.mod_eq_of_lt (show D % g + i < g by omega)]
    omega
theorem so_sm_hit {g c D : Nat} (hg : 0 < g) (hc : 1 ≤ c) : (D + so_sm g c D) % g < c := by
  unfold so_sm
  split
  · assumption
  · have hr := Nat.mod_lt D hg
    have e := Nat.div_add_mod D g
    have e2 : D + (g - D % g) = g * (D / g + 1) := by rw [Nat.mul_add]; omega
    rw [e2, Nat.mul_mod_right]
    omega
def so_gl (p c o : Nat → Nat) (P off : Nat) : Nat → Nat
  | 0 => P
  | n + 1 => if 0 < p n then (if so_sm (Nat.gcd P (p n)) (c n) (off + 360 - o n) < so_gl p c o P off n then so_sm (Nat.gcd P (p n)) (c n) (off + 360 - o n) else so_gl p c o P off n) else so_gl p c o P off n
theorem so_gl_p {p c o : Nat → Nat} {P off : Nat} : ∀ n, so_gl p c o P off n ≤ P ∧ (∀ i, i < n → 0 < p i → so_gl p c o P off n ≤ so_sm (Nat.gcd P (p i)) (c i) (off + 360 - o i)) ∧ (so_gl p c o P off n = P ∨ ∃ i, i < n ∧ 0 < p i ∧ so_gl p c o P off n = so_sm (Nat.gcd P (p i)) (c i) (off + 360 - o i)) := by
  intro n
  induction n with
  | zero => exact ⟨Nat.le_refl _, fun i h => absurd h (Nat.not_lt_zero i), Or.inl rfl⟩
  | succ n ih =>
    obtain ⟨h1, h2, h3⟩ := ih
    by_cases hp : 0 < p n
    · by_cases hs : so_sm (Nat.gcd P (p n)) (c n) (off + 360 - o n) < so_gl p c o P off n
      · have e : so_gl p c o P off (n + 1) = so_sm (Nat.gcd P (p n)) (c n) (off + 360 - o n) := by rw [so_gl, if_pos hp, if_pos hs]
        refine ⟨by omega, fun i hi hpi => ?_, Or.inr ⟨n, by omega, hp, e⟩⟩
        by_cases ei : i = n
        · rw [ei]; omega
        · have := h2 i (by omega) hpi
          omega
      · have e : so_gl p c o P off (n + 1) = so_gl p c o P off n := by rw [so_gl, if_pos hp, if_neg hs]
        rw [e]
        refine ⟨h1, fun i hi hpi => ?_, ?_⟩
        · by_cases ei : i = n
          · rw [ei]; omega
          · exact h2 i (by omega) hpi
        · rcases h3 with h3 | ⟨i, a, b, d⟩
          · exact Or.inl h3
          · exact Or.inr ⟨i, by omega, b, d⟩
    · have e : so_gl p c o P off (n + 1) = so_gl p c o P off n := by rw [so_gl, if_neg hp]
      rw [e]
      refine ⟨h1, fun i hi hpi => ?_, ?_⟩
      · by_cases ei : i = n
        · rw [ei] at hpi; omega
        · exact h2 i (by omega) hpi
      · rcases h3 with h3 | ⟨i, a, b, d⟩
        · exact Or.inl h3
        · exact Or.inr ⟨i, by omega, b, d⟩
/-- slot i of a run at off is taken in some period -/
def so_blk (p c o : Nat → Nat) (P off i : Nat) : Prop := ∃ k, k < 360 / P ∧ ∃ j, j < 10 ∧ so_hit p c o j (360 + (off + i + k * P))
theorem so_blk_iff {p c o : Nat → Nat} (H : so_ok p c o) {P off i : Nat} (hP : so_per P) : so_blk p c o P off i ↔ ∃ j, j < 10 ∧ 0 < p j ∧ (off + 360 - o j + i) % Nat.gcd P (p j) < c j := by
  constructor
  · rintro ⟨k, hk, j, hj, h1, h2, h3⟩
    have J := so_live H hj h1
    have ho : o j < 360 := by have := J.2.2.2; have := J.1.2.1; omega
    refine ⟨j, hj, h1, (so_meet hP J.1 (c j) _).mp ⟨k, hk, ?_⟩⟩
    have e : off + 360 - o j + i + k * P = 360 + (off + i + k * P) - o j := by omega
    rw [e]
    exact h3
  · rintro ⟨j, hj, h1, h2⟩
    have J := so_live H hj h1
    have ho : o j < 360 := by have := J.2.2.2; have := J.1.2.1; omega
    obtain ⟨k, hk, h3⟩ := (so_meet hP J.1 (c j) _).mpr h2
    refine ⟨k, hk, j, hj, h1, by omega, ?_⟩
    have e : off + 360 - o j + i + k * P = 360 + (off + i + k * P) - o j := by omega
    rw [e] at h3
    exact h3
theorem so_gl_F {p c o : Nat → Nat} (H : so_ok p c o) {P : Nat} (hP : so_per P) (off : Nat) : so_F (so_blk p c o P off) P (so_gl p c o P off 10) := by
  obtain ⟨h1, h2, h3⟩ := so_gl_p (p := p) (c := c) (o := o) (P := P) (off := off) 10
  refine ⟨h1, fun i hi hb => ?_, fun hm => ?_⟩
  · obtain ⟨j, hj, hpj, hc⟩ := (so_blk_iff H hP).mp hb
    have := h2 j hj hpj
    exact so_sm_lt (Nat.gcd_pos_of_pos_left _ (by have := hP.1; omega)) (show i < so_sm (Nat.gcd P (p j)) (c j) (off + 360 - o j) by omega) hc
  · rcases h3 with h3 | ⟨j, hj, hpj, e⟩
    · omega
    · refine (so_blk_iff H hP).mpr ⟨j, hj, hpj, ?_⟩
      rw [e]
      exact so_sm_hit (Nat.gcd_pos_of_pos_left _ (by have := hP.1; omega)) (so_live H hj hpj).2.1
/-! a job that is taken in meets no other -/
theorem so_apart {P q len off c o t : Nat} (hP : so_per P) (hq : so_per q) (ho : o < 360) (h : len ≤ so_sm (Nat.gcd P q) c (off + 360 - o)) (t1 : off ≤ t) (t2 : (t - off) % P < len) (t3 : o ≤ t) (t4 : (t - o) % q < c) : False := by
  have hg : 0 < Nat.gcd P q := Nat.gcd_pos_of_pos_left q (by have := hP.1; omega)
  have n1 := so_sm_lt hg (show (t - off) % P < so_sm (Nat.gcd P q) c (off + 360 - o) by omega)
  have d1 : Nat.gcd P q ∣ P * ((t - off) / P) := Nat.dvd_trans (Nat.gcd_dvd_left P q) (Nat.dvd_mul_right P _)
  have d2 : Nat.gcd P q ∣ 360 := Nat.dvd_trans (Nat.gcd_dvd_left P q) (Nat.dvd_of_mod_eq_zero hP.2.2)
  have e0 := Nat.div_add_mod (t - off) P
  have e1 := so_modg (off + 360 - o + (t - off) % P) d1
  have e2 := so_modg (t - o) d2
  have e3 : (t - o) % q % Nat.gcd P q = (t - o) % Nat.gcd P q := Nat.mod_mod_of_dvd _ (Nat.gcd_dvd_right P q)
  have e4 : (t - o) % q % Nat.gcd P q ≤ (t - o) % q := Nat.mod_le _ _
  have e5 : off + 360 - o + (t - off) % P + P * ((t - off) / P) = t - o + 360 := by omega
  rw [e5] at e1
  omega
theorem so_new {p c o : Nat → Nat} (H : so_ok p c o) {P len off w : Nat} (hP : so_per P) (h1 : 1 ≤ len) (h2 : len ≤ P) (h3 : off < P) (hw : w < 10) (h : len ≤ so_gl p c o P off 10) : so_ok (so_set p w P) (so_set c w len) (so_set o w off) := by
  have key : ∀ j, j < 10 → j ≠ w → ∀ t, so_hit (so_set p w P) (so_set c w len) (so_set o w off) w t → so_hit (so_set p w P) (so_set c w len) (so_set o w off) j t → False := by
    intro j hj hjw t a b
    unfold so_hit at a b
    rw [so_set_s, so_set_s, so_set_s] at a
    rw [so_set_n hjw, so_set_n hjw, so_set_n hjw] at b
    have J := so_live H hj b.1
    have hs := (so_gl_p (p := p) (c := c) (o := o) (P := P) (off := off) 10).2.1 j hj b.1
    exact so_apart (c := c j) (o := o j) hP J.1 (by have := J.2.2.2; have := J.1.2.1; omega) (Nat.le_trans h hs) a.2.1 a.2.2 b.2.1 b.2.2
  refine ⟨fun i hi => ?_, fun i j hi hj hij t a b => ?_⟩
  · by_cases e : i = w
    · subst e
      rw [so_set_s, so_set_s, so_set_s]
      exact Or.inr ⟨hP, h1, h2, h3⟩
    · rw [so_set_n e, so_set_n e, so_set_n e]
      exact H.1 i hi
  · by_cases e : i = w
    · subst e
      exact key j hj (fun z => hij z.symm) t a b
    · by_cases e2 : j = w
      · subst e2
        exact key i hi e t b a
      · unfold so_hit at a b
        rw [so_set_n e, so_set_n e, so_set_n e] at a
        rw [so_set_n e2, so_set_n e2, so_set_n e2] at b
        exact H.2 i j hi hj hij t a b
theorem so_rem {p c o : Nat → Nat} (H : so_ok p c o) (w : Nat) : so_ok (so_set p w 0) c o := by
  have key : ∀ i t, so_hit (so_set p w 0) c o i t → so_hit p c o i t := by
    intro i t a
    unfold so_hit at a ⊢
    by_cases e : i = w
    · subst e
      rw [so_set_s] at a
      omega
    · rw [so_set_n e] at a
      exact a
  refine ⟨fun i hi => ?_, fun i j hi hj hij t a b => H.2 i j hi hj hij t (key i t a) (key j t b)⟩
  by_cases e : i = w
  · subst e
    exact Or.inl (so_set_s _ _ _)
  · rw [so_set_n e]
    exact H.1 i hi
/-! how many jobs -/
def so_ct (p : Nat → Nat) : Nat → Nat
  | 0 => 0
  | n + 1 => if 0 < p n then so_ct p n + 1 else so_ct p n
theorem so_ct_p {p : Nat → Nat} : ∀ n, so_ct p n ≤ n ∧ (so_ct p n = n ↔ ∀ i, i < n → ¬ p i = 0) := by
  intro n
  induction n with
  | zero => exact ⟨Nat.le_refl _, fun _ i h => absurd h (Nat.not_lt_zero i), fun _ => rfl⟩
  | succ n ih =>
    obtain ⟨h1, h2⟩ := ih
    by_cases hp : 0 < p n
    · have e : so_ct p (n + 1) = so_ct p n + 1 := by rw [so_ct, if_pos hp]
      rw [e]
      refine ⟨by omega, fun z => ?_, fun z => ?_⟩
      · exact so_lo_s (f := fun i => p i = 0) (h2.mp (by omega)) (show ¬ p n = 0 by omega)
      · have := h2.mpr (fun i hi => z i (by omega))
        omega
    · have e : so_ct p (n + 1) = so_ct p n := by rw [so_ct, if_neg hp]
      rw [e]
      refine ⟨by omega, fun z => by omega, fun z => absurd (z n (by omega)) (by omega)⟩
theorem so_ct_w {p : Nat → Nat} {w : Nat} (h : so_F (fun i => p i = 0) 10 w) : so_ct p 10 = 10 ↔ w = 10 := by
  rw [(so_ct_p 10).2]
  constructor
  · exact fun z => so_F_end h z
  · intro e
    rw [← e]
    exact h.2.1
end
section
/-! how many slots before n a job runs in -/
def so_sb (p c o n : Nat) : Nat := (n - o) / p * c + (if (n - o) % p < c then (n - o) % p else c)
theorem so_dm {p d : Nat} (hp : 0 < p) : ((d % p + 1 < p ∧ (d + 1) / p = d / p ∧ (d + 1) % p = d % p + 1) ∨ (d % p + 1 = p ∧ (d + 1) / p = d / p + 1 ∧ (d + 1) % p = 0)) := by
  have e := Nat.div_add_mod d p
  have hr := Nat.mod_lt d hp
  by_cases h : d % p + 1 < p
  · left
    have e2 : d + 1 = (d % p + 1) + p * (d / p) := by omega
    refine ⟨h, ?_, ?_⟩
    · have a1 : ((d % p + 1) + p * (d / p)) / p = (d % p + 1) / p + d / p := Nat.add_mul_div_left _ _ hp
      have a2 := Nat.div_eq_of_lt h
      rw [e2]
      omega
    · rw [e2, Nat.add_mul_mod_self_left, Nat.mod_eq_of_lt h]
  · right
    have e2 : d + 1 = 0 + p * (d / p + 1) := by rw [Nat.mul_add]; omega
    refine ⟨by omega, ?_, ?_⟩
    · have a1 : (0 + p * (d / p + 1)) / p = 0 / p + (d / p + 1) := Nat.add_mul_div_left _ _ hp
      have a2 := Nat.zero_div p
      rw [e2]
      omega
    · rw [e2, Nat.add_mul_mod_self_left, Nat.zero_mod]
theorem so_sb_step {p c o n : Nat} (hp : 0 < p) (hc : c ≤ p) : (o ≤ n → (n - o) % p < c → so_sb p c o (n + 1) = so_sb p c o n + 1) ∧ (¬ (o ≤ n ∧ (n - o) % p < c) → so_sb p c o (n + 1) = so_sb p c o n) := by
  by_cases h : o ≤ n
  · obtain ⟨d, rfl⟩ : ∃ d, n = o + d := ⟨n - o, by omega⟩
    have e1 : o + d - o = d := by omega
    have e2 : o + d + 1 - o = d + 1 := by omega
    unfold so_sb
    rw [e1, e2]
    rcases so_dm (d := d) hp with ⟨h1, h2, h3⟩ | ⟨h1, h2, h3⟩
    · rw [h2, h3]
      generalize d / p * c = z
      constructor
      · intro _ hh
        rw [if_pos hh]
        split <;> omega
      · intro hh
        have n1 : ¬ d % p < c := fun z => hh ⟨h, z⟩
        have n2 : ¬ d % p + 1 < c := by omega
        rw [if_neg n1, if_neg n2]
    · rw [h2, h3, Nat.add_mul]
      generalize d / p * c = z
      constructor
      · intro _ hh
        rw [if_pos hh]
        split <;> omega
      · intro hh
        have : ¬ d % p < c := fun z => hh ⟨h, z⟩
        rw [if_neg this]
        split <;> omega
  · have e1 : n - o = 0 := by omega
    have e2 : n + 1 - o = 0 := by omega
    unfold so_sb
    rw [e1, e2]
    exact ⟨fun z => absurd z h, fun _ => rfl⟩
theorem so_sb_0 (p c o : Nat) : so_sb p c o 0 = 0 := by
  unfold so_sb
  rw [Nat.zero_sub, Nat.zero_div, Nat.zero_mod, Nat.zero_mul]
  split <;> omega
theorem so_sb_360 {p c o n : Nat} (h : so_per p) (ho : o ≤ n) : so_sb p c o (n + 360) = so_sb p c o n + 360 / p * c := by
  have hp : 0 < p := by have := h.1; omega
  have e : n + 360 - o = n - o + p * (360 / p) := by rw [so_360 h]; omega
  unfold so_sb
  rw [e, Nat.add_mul_div_left _ _ hp, Nat.add_mul_mod_self_left, Nat.add_mul]
  exact Nat.add_right_comm _ _ _
def so_sum (f : Nat → Nat) : Nat → Nat
  | 0 => 0
  | k + 1 => so_sum f k + f k
def so_one (p c o : Nat → Nat) (n i : Nat) : Nat := if 0 < p i then so_sb (p i) (c i) (o i) n else 0
def so_cy (p c : Nat → Nat) (i : Nat) : Nat := if 0 < p i then 360 / p i * c i else 0
def so_S (p c o : Nat → Nat) (n : Nat) : Nat := so_sum (so_one p c o n) 10
def so_C (p c : Nat → Nat) : Nat := so_sum (so_cy p c) 10
theorem so_one_step {p c o : Nat → Nat} (H : so_ok p c o) {n i : Nat} (hi : i < 10) : (so_hit p c o i n → so_one p c o (n + 1) i = so_one p c o n i + 1) ∧ (¬ so_hit p c o i n → so_one p c o (n + 1) i = so_one p c o n i) := by
  unfold so_one
  by_cases hp : 0 < p i
  · have J := so_live H hi hp
    rw [if_pos hp, if_pos hp]
    have s := so_sb_step (o := o i) (n := n) hp J.2.2.1
    exact ⟨fun h => s.1 h.2.1 h.2.2, fun h => s.2 (fun z => h ⟨hp, z⟩)⟩
  · rw [if_neg hp, if_neg hp]
    exact ⟨fun h => absurd h.1 hp, fun _ => rfl⟩
theorem so_sum_none {p c o : Nat → Nat} (H : so_ok p c o) {n : Nat} : ∀ k, k ≤ 10 → (∀ i, i < k → ¬ so_hit p c o i n) → so_sum (so_one p c o (n + 1)) k = so_sum (so_one p c o n) k := by
  intro k
  induction k with
  | zero => exact fun _ _ => rfl
  | succ k ih =>
    intro hk h
    rw [so_sum, so_sum, ih (by omega) (fun i hi => h i (by omega)), (so_one_step H (by omega)).2 (h k (by omega))]
theorem so_sum_some {p c o : Nat → Nat} (H : so_ok p c o) {n w : Nat} (hw : so_hit p c o w n) : ∀ k, k ≤ 10 → w < k → so_sum (so_one p c o (n + 1)) k = so_sum (so_one p c o n) k + 1 := by
  intro k
  induction k with
  | zero => exact fun _ h => absurd h (Nat.not_lt_zero w)
  | succ k ih =>
    intro hk h
    rw [so_sum, so_sum]
    by_cases e : w = k
    · subst e
      rw [(so_one_step H (by omega)).1 hw, so_sum_none H w (by omega) (fun i hi z => H.2 i w (by omega) (by omega) (by omega) n z hw)]
      omega
    · rw [ih (by omega) (by omega), (so_one_step H (by omega)).2 (fun z => H.2 k w (by omega) (by omega) (by omega) n z hw)]
      omega
theorem so_S_step {p c o : Nat → Nat} (H : so_ok p c o) {n w : Nat} (hw : so_F (fun i => so_hit p c o i n) 10 w) : (w = 10 → so_S p c o (n + 1) = so_S p c o n) ∧ (w < 10 → so_S p c o (n + 1) = so_S p c o n + 1) := by
  constructor
  · intro e
    subst e
    exact so_sum_none H 10 (Nat.le_refl _) hw.2.1
  · intro h
    exact so_sum_some H (hw.2.2 h) 10 (Nat.le_refl _) h
theorem so_sum_0 {f : Nat → Nat} (h : ∀ i, f i = 0) : ∀ k, so_sum f k = 0 := by
  intro k
  induction k with
  | zero => rfl
  | succ k ih => rw [so_sum, ih, h k]
theorem so_S_0 (p c o : Nat → Nat) : so_S p c o 0 = 0 := by
  refine so_sum_0 (fun i => ?_) 10
  unfold so_one
  split
  · exact so_sb_0 _ _ _
  · rfl
theorem so_S_le {p c o : Nat → Nat} (H : so_ok p c o) (n : Nat) : so_S p c o n ≤ n := by
  induction n with
  | zero => exact Nat.le_of_eq (so_S_0 p c o)
  | succ n ih =>
    obtain ⟨w, hw⟩ := so_F_ex (fun i => so_hit p c o i n) 10
    have s := so_S_step H hw
    have h1 := hw.1
    by_cases e : w = 10
    · have := s.1 e
      omega
    · have := s.2 (by omega)
      omega
theorem so_S_360 {p c o : Nat → Nat} (H : so_ok p c o) {n : Nat} (hn : 360 ≤ n) : so_S p c o (n + 360) = so_S p c o n + so_C p c := by
  have key : ∀ k, k ≤ 10 → so_sum (so_one p c o (n + 360)) k = so_sum (so_one p c o n) k + so_sum (so_cy p c) k := by
    intro k
    induction k with
    | zero => exact fun _ => rfl
    | succ k ih =>
      intro hk
      have e : so_one p c o (n + 360) k = so_one p c o n k + so_cy p c k := by
        unfold so_one so_cy
        by_cases hp : 0 < p k
        · have J := so_live H (by omega) hp
          rw [if_pos hp, if_pos hp, if_pos hp]
          exact so_sb_360 J.1 (by have := J.2.2.2; have := J.1.2.1; omega)
        · rw [if_neg hp, if_neg hp, if_neg hp]
      rw [so_sum, so_sum, so_sum, ih (by omega), e]
      omega
  exact key 10 (Nat.le_refl _)
theorem so_S_cyc {p c o : Nat → Nat} (H : so_ok p c o) {n : Nat} (hn : 360 ≤ n) : ∀ q, so_S p c o (n + 360 * q) = so_S p c o n + so_C p c * q := by
  intro q
  induction q with
  | zero => simp
  | succ q ih =>
    have e : n + 360 * (q + 1) = n + 360 * q + 360 := by omega
    rw [e, so_S_360 H (by omega), ih, Nat.mul_add]
    omega
/-- the slots before n in which no job runs -/
def so_fr (p c o : Nat → Nat) (n : Nat) : Nat := n - so_S p c o n
theorem so_fr_step {p c o : Nat → Nat} (H : so_ok p c o) {n w : Nat} (hw : so_F (fun i => so_hit p c o i n) 10 w) : (w = 10 → so_fr p c o (n + 1) = so_fr p c o n + 1) ∧ (w < 10 → so_fr p c o (n + 1) = so_fr p c o n) := by
  have s := so_S_step H hw
  have l := so_S_le H n
  unfold so_fr
  constructor
  · intro e
    rw [s.1 e]
    omega
  · intro e
    rw [s.2 e]
    omega
theorem so_fr_mono {p c o : Nat → Nat} (H : so_ok p c o) (a : Nat) : ∀ d, so_fr p c o a ≤ so_fr p c o (a + d) := by
  intro d
  induction d with
  | zero => exact Nat.le_refl _
  | succ d ih =>
    obtain ⟨w, hw⟩ := so_F_ex (fun i => so_hit p c o i (a + d)) 10
    have s := so_fr_step H hw
    have h1 := hw.1
    have e : a + (d + 1) = a + d + 1 := rfl
    rw [e]
    by_cases e : w = 10
    · have := s.1 e
      omega
    · have := s.2 (by omega)
      omega
/-- what the reference's count has gathered at t: slots before min n 360, and behind 360 -/
def so_fa (p c o : Nat → Nat) (n rest t : Nat) : Nat := so_fr p c o (min t (min n 360)) + (so_fr p c o (360 + min (t - 360) rest) - so_fr p c o 360)
def so_fb (p c o : Nat → Nat) (t : Nat) : Nat := so_fr p c o (360 + (t - 360)) - so_fr p c o 360
theorem so_fab_0 {p c o : Nat → Nat} (n rest : Nat) : so_fa p c o n rest 0 = 0 ∧ so_fb p c o 0 = 0 := by
  have e1 : min 0 (min n 360) = 0 := by omega
  have e2 : 360 + min (0 - 360) rest = 360 := by omega
  have e4 : 360 + (0 - 360) = 360 := by omega
  have e3 : so_fr p c o 0 = 0 := Nat.zero_sub _
  unfold so_fa so_fb
  rw [e1, e2, e3, e4]
  exact ⟨by omega, by omega⟩
theorem so_fa_1 {p c o : Nat → Nat} (H : so_ok p c o) {n rest t w : Nat} (hw : so_F (fun i => so_hit p c o i t) 10 w) :
    (w < 10 → so_fa p c o n rest (t + 1) = so_fa p c o n rest t ∧ so_fb p c o (t + 1) = so_fb p c o t) ∧
    (w = 10 → t < 360 → t < n → so_fa p c o n rest (t + 1) = so_fa p c o n rest t + 1 ∧ so_fb p c o (t + 1) = so_fb p c o t) ∧
    (w = 10 → t < 360 → n ≤ t → so_fa p c o n rest (t + 1) = so_fa p c o n rest t ∧ so_fb p c o (t + 1) = so_fb p c o t) ∧
    (w = 10 → 360 ≤ t → t < 360 + rest → so_fa p c o n rest (t + 1) = so_fa p c o n rest t + 1 ∧ so_fb p c o (t + 1) = so_fb p c o t + 1) ∧
    (w = 10 → 360 ≤ t → 360 + rest ≤ t → so_fa p c o n rest (t + 1) = so_fa p c o n rest t ∧ so_fb p c o (t + 1) = so_fb p c o t + 1) := by
  have s := so_fr_step H hw
  have m := so_fr_mono H 360 (t - 360)
  unfold so_fa so_fb
  by_cases h3 : t < 360
  · have a1 : t + 1 - 360 = 0 := by omega
    have a2 : t - 360 = 0 := by omega
    rw [a1, a2]
    by_cases h4 : t < n
    · have a3 : min (t + 1) (min n 360) = t + 1 := by omega
      have a4 : min t (min n 360) = t := by omega
      rw [a3, a4]
      refine ⟨fun z => ?_, fun z _ _ => ?_, fun _ _ _ => by omega, fun _ _ _ => by omega, fun _ _ _ => by omega⟩
      · rw [s.2 z]; exact ⟨rfl, rfl⟩
      · rw [s.1 z]; exact ⟨by omega, rfl⟩
    · have a3 : min (t + 1) (min n 360) = min t (min n 360) := by omega
      rw [a3]
      exact ⟨fun _ => ⟨rfl, rfl⟩, fun _ _ _ => by omega, fun _ _ _ => ⟨rfl, rfl⟩, fun _ _ _ => by omega, fun _ _ _ => by omega⟩
  · have a1 : min (t + 1) (min n 360) = min t (min n 360) := by omega
    have a2 : 360 + (t - 360) = t := by omega
    have a3 : 360 + (t + 1 - 360) = t + 1 := by omega
    rw [a2] at m
    rw [a1, a2, a3]
    by_cases h4 : t < 360 + rest
    · have a4 : 360 + min (t + 1 - 360) rest = t + 1 := by omega
      have a5 : 360 + min (t - 360) rest = t := by omega
      rw [a4, a5]
      refine ⟨fun z => ?_, fun _ _ _ => by omega, fun _ _ _ => by omega, fun z _ _ => ?_, fun _ _ _ => by omega⟩
      · rw [s.2 z]; exact ⟨rfl, rfl⟩
      · rw [s.1 z]; exact ⟨by omega, by omega⟩
    · have a4 : min (t + 1 - 360) rest = min (t - 360) rest := by omega
      rw [a4]
      refine ⟨fun z => ?_, fun _ _ _ => by omega, fun _ _ _ => by omega, fun _ _ _ => by omega, fun z _ _ => ?_⟩
      · rw [s.2 z]; exact ⟨rfl, rfl⟩
      · rw [s.1 z]; exact ⟨rfl, by omega⟩
theorem so_fa_end {p c o : Nat → Nat} (H : so_ok p c o) (n : Nat) : (n ≤ 360 → so_fa p c o n 0 720 = so_fr p c o n) ∧
    (360 < n → so_fa p c o n ((n - 360) % 360) 720 + so_fb p c o 720 * ((n - 360) / 360) = so_fr p c o n) := by
  have hC : so_S p c o 720 = so_S p c o 360 + so_C p c := so_S_360 H (Nat.le_refl 360)
  have l7 := so_S_le H 720
  constructor
  · intro h
    unfold so_fa
    have a1 : min 720 (min n 360) = n := by omega
    have a2 : 360 + min (720 - 360) 0 = 360 := by omega
    rw [a1, a2]
    omega
  · intro h
    have hr : (n - 360) % 360 < 360 := Nat.mod_lt _ (by decide)
    have hd := Nat.div_add_mod (n - 360) 360
    generalize (n - 360) % 360 = r at *
    generalize (n - 360) / 360 = q at *
    have hn : n = 360 + r + 360 * q := by omega
    have hS := so_S_cyc H (n := 360 + r) (by omega) q
    have l1 := so_S_le H (360 + r)
    have l3 := so_S_le H 360
    have m := so_fr_mono H 360 r
    unfold so_fa so_fb
    have a1 : min 720 (min n 360) = 360 := by omega
    have a2 : min (720 - 360) r = r := by omega
    have a3 : 360 + (720 - 360) = 720 := by omega
    rw [a1, a2, a3, hn]
    unfold so_fr at m ⊢
    rw [hS, hC]
    have e1 : 720 - (so_S p c o 360 + so_C p c) - (360 - so_S p c o 360) = 360 - so_C p c := by omega
    rw [e1, Nat.sub_mul]
    have e2 : so_C p c * q ≤ 360 * q := by
      apply Nat.mul_le_mul_right
      have l8 := so_fr_mono H 360 360
      unfold so_fr at l8
      have e9 : 360 + 360 = 720 := rfl
      rw [e9, hC] at l8
      omega
    generalize so_C p c * q = z at *
    omega
/-! the next start -/
def so_nb (p o t : Nat) : Nat := if t ≤ o then 0 else (t - o - 1) / p + 1
def so_nx (p o t : Nat) : Nat := o + so_nb p o t * p
theorem so_nx_p {p o t : Nat} (hp : 0 < p) (hp3 : p ≤ 360) (ho : o < 360) : t ≤ so_nx p o t ∧ o ≤ so_nx p o t ∧ (so_nx p o t - o) % p = 0 ∧ so_nx p o t < t + 720 ∧ (∀ s, t ≤ s → o ≤ s → (s - o) % p = 0 → so_nx p o t ≤ s) := by
  have e0 : so_nx p o t - o = so_nb p o t * p := by unfold so_nx; omega
  have e1 : (so_nx p o t - o) % p = 0 := by rw [e0]; exact Nat.mul_mod_left _ _
  have e2 : o ≤ so_nx p o t := Nat.le_add_right _ _
  by_cases h : t ≤ o
  · have e3 : so_nx p o t = o := by unfold so_nx so_nb; simp [h]
    rw [e3] at e1 ⊢
    exact ⟨h, Nat.le_refl _, e1, by omega, fun s _ hs _ => hs⟩
  · have e3 : so_nx p o t = o + (p * ((t - o - 1) / p) + p) := by
      unfold so_nx so_nb
      rw [if_neg h, Nat.add_mul, Nat.one_mul, Nat.mul_comm ((t - o - 1) / p) p]
    have hd := Nat.div_add_mod (t - o - 1) p
    have hm := Nat.mod_lt (t - o - 1) hp
    refine ⟨by omega, e2, e1, by omega, fun s h1 h2 h3 => ?_⟩
    obtain ⟨q, hq⟩ := Nat.dvd_of_mod_eq_zero h3
    have hlt : (t - o - 1) / p < q := by
      apply Nat.lt_of_mul_lt_mul_left (a := p)
      omega
    have : p * ((t - o - 1) / p + 1) ≤ p * q := Nat.mul_le_mul_left p hlt
    rw [Nat.mul_add] at this
    omega
def so_beg (p o : Nat → Nat) (t : Nat) : Prop := ∃ j, j < 10 ∧ 0 < p j ∧ o j ≤ t ∧ (t - o j) % p j = 0
/-- what the search has found among the ids before n -/
def so_ns (p o : Nat → Nat) (t n : Nat) (x : Int32) : Prop :=
  ((∀ i, i < n → ¬ 0 < p i) ∧ x = -6) ∨ (∃ m, x = nI m ∧ m < t + 720 ∧ (∃ i, i < n ∧ 0 < p i ∧ m = so_nx (p i) (o i) t) ∧ (∀ i, i < n → 0 < p i → m ≤ so_nx (p i) (o i) t))
theorem so_ns_end {p c o : Nat → Nat} (H : so_ok p c o) {t : Nat} {x : Int32} (h : so_ns p o t 10 x) {m : Nat} (hm : so_F (fun k => so_beg p o (t + k)) 720 m) : x = if m < 720 then nI (t + m) else -6 := by
  rcases h with ⟨h1, rfl⟩ | ⟨k, rfl, h2, ⟨i, hi, hp, hk⟩, h4⟩
  · have : m = 720 := so_F_end hm (fun j _ z => by
      obtain ⟨i, hi, hp, _⟩ := z
      exact h1 i hi hp)
    rw [if_neg (by omega)]
  · have J := so_live H hi hp
    have N := so_nx_p (p := p i) (o := o i) (t := t) hp J.1.2.1 (by have := J.2.2.2; have := J.1.2.1; omega)
    have N1 := N.1
    have e : m = k - t := so_F_hit hm (by omega) (fun j hj z => by
      obtain ⟨i', hi', hp', hz1, hz2⟩ := z
      have J' := so_live H hi' hp'
      have N' := so_nx_p (p := p i') (o := o i') (t := t) hp' J'.1.2.1 (by have := J'.2.2.2; have := J'.1.2.1; omega)
      have := N'.2.2.2.2 (t + j) (by omega) hz1 hz2
      have := h4 i' hi' hp'
      omega) (by
      refine ⟨i, hi, hp, ?_⟩
      have e9 : t + (k - t) = so_nx (p i) (o i) t := by omega
      show o i ≤ t + (k - t) ∧ (t + (k - t) - o i) % p i = 0
      rw [e9]
      exact ⟨N.2.1, N.2.2.1⟩)
    rw [if_pos (by omega)]
    exact congrArg nI (by omega)
end
section
/-! rows of kit/rows -/
theorem pk_us {f : Nat → Int32} {k : Nat} {x : Int32} : upd f k x k = x := if_pos rfl
theorem pk_un {f : Nat → Int32} {k j : Nat} {x : Int32} (h : j ≠ k) : upd f k x j = f j := if_neg h
theorem pk_sub {a b : Nat} (h : b ≤ a) : nI a - nI b = nI (a - b) := by
  obtain ⟨c, rfl⟩ : ∃ c, a = c + b := ⟨a - b, by omega⟩
  rw [← nI_add, Int32.add_sub_cancel, Nat.add_sub_cancel]
theorem pk_mul (a b : Nat) : nI a * nI b = nI (a * b) := (Int32.ofNat_mul a b).symm
theorem pk_div {a d : Nat} (ha : a < 2 ^ 31) (h0 : 0 < d) (hd : d < 2 ^ 31) : nI a / nI d = nI (a / d) := by
  apply Int32.toInt_inj.mp
  rw [lg_idiv_nonneg (by rw [nI_toInt ha]; omega) (by rw [nI_toInt hd]; omega), nI_toInt ha, nI_toInt hd, nI_toInt (Nat.lt_of_le_of_lt (Nat.div_le_self a d) ha)]
  first | rfl | exact (Int.natCast_ediv _ _).symm
theorem pk_rem {a d : Nat} (ha : a < 2 ^ 31) (h0 : 0 < d) (hd : d < 2 ^ 31) : nI a - nI a / nI d * nI d = nI (a % d) := by
  rw [pk_div ha h0 hd, pk_mul, pk_sub (Nat.div_mul_le_self a d)]
  exact congrArg nI (by have := Nat.div_add_mod' a d; omega)
theorem pk_ix (x : Int32) {n : Nat} (hn : n < 2 ^ 31) : x < 0 ∨ nI n ≤ x ∨ ∃ j : Nat, j < n ∧ x = nI j := by
  by_cases h : x < 0
  · exact Or.inl h
  · obtain ⟨j, hj, rfl⟩ := nI_of h
    by_cases h2 : j < n
    · exact Or.inr (Or.inr ⟨j, h2, rfl⟩)
    · exact Or.inr (Or.inl (nI_le (by omega) hj))
theorem pk_le {x y : Int32} {A B : Prop} (a b : Nat) (f : a ≤ b → A) (g : b < a → B) (hx : x = nI a := by rfl) (hy : y = nI b := by rfl) (ha : a < 2 ^ 31 := by omega) (hb : b < 2 ^ 31 := by omega) : (x ≤ y → A) ∧ (¬ x ≤ y → B) := by
  subst hx hy
  rw [nI_leI ha hb]
  exact ⟨f, fun z => g (by omega)⟩
theorem pk_lt {x y : Int32} {A B : Prop} (a b : Nat) (f : a < b → A) (g : b ≤ a → B) (hx : x = nI a := by rfl) (hy : y = nI b := by rfl) (ha : a < 2 ^ 31 := by omega) (hb : b < 2 ^ 31 := by omega) : (x < y → A) ∧ (¬ x < y → B) := by
  subst hx hy
  rw [nI_ltI ha hb]
  exact ⟨f, fun z => g (by omega)⟩
theorem pk_eq {x y : Int32} {A B : Prop} (a b : Nat) (f : a = b → A) (g : a ≠ b → B) (hx : x = nI a := by rfl) (hy : y = nI b := by rfl) (ha : a < 2 ^ 31 := by omega) (hb : b < 2 ^ 31 := by omega) : (x = y → A) ∧ (¬ x = y → B) := by
  subst hx hy
  rw [nI_eq ha hb]
  exact ⟨f, g⟩
/-! the arrays hold the picture -/
def so_V (p c o : Nat → Nat) (aP aL aO : Nat → Int32) : Prop := ∀ i, i < 10 → aP i = nI (p i) ∧ (0 < p i → aL i = nI (c i) ∧ aO i = nI (o i))
section
variable {p c o : Nat → Nat} {aP aL aO : Nat → Int32}
theorem so_rP (V : so_V p c o aP aL aO) {i : Nat} (hi : i < 10) : aP (nI i).toNatClampNeg = nI (p i) := by
  rw [nI_clamp (by omega)]; exact (V i hi).1
theorem so_rL (V : so_V p c o aP aL aO) {i : Nat} (hi : i < 10) (hp : 0 < p i) : aL (nI i).toNatClampNeg = nI (c i) := by
  rw [nI_clamp (by omega)]; exact ((V i hi).2 hp).1
theorem so_rO (V : so_V p c o aP aL aO) {i : Nat} (hi : i < 10) (hp : 0 < p i) : aO (nI i).toNatClampNeg = nI (o i) := by
  rw [nI_clamp (by omega)]; exact ((V i hi).2 hp).2
theorem so_pb (H : so_ok p c o) {i : Nat} (hi : i < 10) : p i < 361 := by
  rcases H.1 i hi with h | h
  · omega
  · have := h.1.2.1
    omega
theorem so_jb (H : so_ok p c o) {i : Nat} (hi : i < 10) (hp : 0 < p i) : 2 ≤ p i ∧ p i < 361 ∧ 1 ≤ c i ∧ c i < 361 ∧ o i < 360 := by
  have J := so_live H hi hp
  have h1 := J.1.1
  have h2 := J.1.2.1
  have h3 := J.2.1
  have h4 := J.2.2.1
  have h5 := J.2.2.2
  omega
theorem so_in {i : Nat} (hi : i < 10) : vp_in (nI i) 10 := vp_in_nI hi (by decide)
theorem so_V_set (V : so_V p c o aP aL aO) (w x y z : Nat) : so_V (so_set p w x) (so_set c w y) (so_set o w z) (upd aP w (nI x)) (upd aL w (nI y)) (upd aO w (nI z)) := by
  intro i hi
  by_cases e : i = w
  · subst e
    rw [pk_us, pk_us, pk_us, so_set_s, so_set_s, so_set_s]
    exact ⟨rfl, fun _ => ⟨rfl, rfl⟩⟩
  · rw [pk_un e, pk_un e, pk_un e, so_set_n e, so_set_n e, so_set_n e]
    exact V i hi
theorem so_V_remX (V : so_V p c o aP aL aO) (w : Nat) : so_V (so_set p w 0) c o (upd aP w 0) (upd aL w 0) (upd aO w 0) := by
  intro i hi
  by_cases e : i = w
  · subst e
    rw [pk_us, so_set_s]
    exact ⟨rfl, fun z => absurd z (by omega)⟩
  · rw [pk_un e, pk_un e, pk_un e, so_set_n e]
    exact V i hi
theorem so_V_remY (V : so_V p c o aP aL aO) (w : Nat) : so_V (so_set p w 0) c o (upd aP w 0) aL aO := by
  intro i hi
  by_cases e : i = w
  · subst e
    rw [pk_us, so_set_s]
    exact ⟨rfl, fun z => absurd z (by omega)⟩
  · rw [pk_un e, so_set_n e]
    exact V i hi
end
/-! the small tests -/
theorem so_r360 {P : Nat} (h0 : 0 < P) (h : P < 2 ^ 31) : (360 : Int32) - 360 / nI P * nI P = nI (360 % P) := pk_rem (a := 360) (by decide) h0 h
theorem so_xPer1 {post : Int32 → Prop} {P : Nat} (h : so_per P) (hp : post 1) : wpX_isPeriod post (nI P) := by
  obtain ⟨h2, h3, h4⟩ := h
  refine pk_lt P 2 (fun z => absurd z (by omega)) (fun _ => pk_lt 360 P (fun z => absurd z (by omega)) (fun _ => ⟨nI_ne0 (by omega) (by omega), ?_⟩))
  rw [so_r360 (by omega) (by omega), h4]
  exact br_t nI_0 hp
theorem so_per_of {x : Int32} (h : ¬ ∃ P, so_per P ∧ x = nI P) (a : ¬ x < 2) (b : ¬ 360 < x) : ¬ x = 0 ∧ ¬ (360 - 360 / x * x) = 0 := by
  obtain ⟨P, hP, rfl⟩ := nI_of (x := x) (fun z => a (Int32.lt_trans z (by decide)))
  have a' : ¬ P < 2 := fun z => a ((nI_ltI hP (by decide)).mpr z)
  have b' : ¬ 360 < P := fun z => b ((nI_ltI (by decide) hP).mpr z)
  have h4 : ¬ 360 % P = 0 := fun z => h ⟨P, ⟨by omega, by omega, z⟩, rfl⟩
  refine ⟨nI_ne0 (by omega) hP, ?_⟩
  rw [so_r360 (by omega) hP]
  exact nI_ne0 (by omega) (Nat.lt_of_le_of_lt (Nat.mod_le 360 P) (by decide))
theorem so_xPer0 {post : Int32 → Prop} {x : Int32} (h : ¬ ∃ P, so_per P ∧ x = nI P) (hp : post 0) : wpX_isPeriod post x :=
  br_c (fun _ => hp) (fun a => br_c (fun _ => hp) (fun b => ⟨(so_per_of h a b).1, br_f (so_per_of h a b).2 hp⟩))
theorem so_yPer1 {post : Int32 → Prop} {aP aL aO : Nat → Int32} {P : Nat} (h : so_per P) (hp : post 0) : wpY_badPeriod post (aP, aL, aO) (nI P) := by
  obtain ⟨h2, h3, h4⟩ := h
  refine pk_lt P 2 (fun z => absurd z (by omega)) (fun _ => pk_le P 360 (fun _ => ⟨nI_ne0 (by omega) (by omega), ?_⟩) (fun z => absurd z (by omega)))
  rw [so_r360 (by omega) (by omega), h4]
  exact br_t nI_0 hp
theorem so_yPer0 {post : Int32 → Prop} {aP aL aO : Nat → Int32} {x : Int32} (h : ¬ ∃ P, so_per P ∧ x = nI P) (hp : post 1) : wpY_badPeriod post (aP, aL, aO) x :=
  br_c (fun _ => hp) (fun a => br_c (fun b => ⟨(so_per_of h a (Int32.not_lt.mpr b)).1, br_f (so_per_of h a (Int32.not_lt.mpr b)).2 hp⟩) (fun _ => hp))
theorem so_xFault0 {post : Int32 → Prop} {P l : Nat} (h : so_per P) (h1 : 1 ≤ l) (h2 : l ≤ P) (hp : post 0) : wpX_faultOf post (nI P) (nI l) := by
  have h3 := h.2.1
  exact so_xPer1 h (br_f (by decide) (pk_lt l 1 (fun z => absurd z (by omega)) (fun _ => pk_le l P (fun _ => hp) (fun z => absurd z (by omega)))))
theorem so_len_of {P : Nat} {x : Int32} (hP : so_per P) (h : ¬ ∃ l, 1 ≤ l ∧ l ≤ P ∧ x = nI l) (a : ¬ x < 1) : ¬ x ≤ nI P := by
  obtain ⟨l, hl, rfl⟩ := nI_of (x := x) (fun z => a (Int32.lt_trans z (by decide)))
  have a' : ¬ l < 1 := fun z => a ((nI_ltI hl (by decide)).mpr z)
  intro b
  have h3 := hP.2.1
  rw [nI_leI hl (by omega)] at b
  exact h ⟨l, by omega, b, rfl⟩
theorem so_xFaultL {post : Int32 → Prop} {P : Nat} {x : Int32} (hP : so_per P) (h : ¬ ∃ l, 1 ≤ l ∧ l ≤ P ∧ x = nI l) (hp : post (-2)) : wpX_faultOf post (nI P) x :=
  so_xPer1 hP (br_f (by decide) (br_c (fun _ => hp) (fun a => br_f (so_len_of hP h a) hp)))
theorem so_xFaultP {post : Int32 → Prop} {x y : Int32} (h : ¬ ∃ P, so_per P ∧ x = nI P) (hp : post (-1)) : wpX_faultOf post x y :=
  so_xPer0 h (br_t rfl hp)
theorem so_xTime1 {post : Int32 → Prop} {t : Nat} (h : t ≤ 1000000000) (hp : post 1) : wpX_isTime post (nI t) :=
  pk_lt t 0 (fun z => absurd z (by omega)) (fun _ => pk_lt 1000000000 t (fun z => absurd z (by omega)) (fun _ => hp))
theorem so_time_of {x : Int32} (h : ¬ ∃ t, t ≤ 1000000000 ∧ x = nI t) (a : ¬ x < 0) : ¬ x ≤ 1000000000 := by
  obtain ⟨t, ht, rfl⟩ := nI_of a
  intro b
  exact h ⟨t, (nI_leI (b := 1000000000) ht (by decide)).mp b, rfl⟩
theorem so_xTime0 {post : Int32 → Prop} {x : Int32} (h : ¬ ∃ t, t ≤ 1000000000 ∧ x = nI t) (hp : post 0) : wpX_isTime post x :=
  br_c (fun _ => hp) (fun a => br_c (fun _ => hp) (fun b => absurd (Int32.not_lt.mp b) (so_time_of h a)))
theorem so_yTime1 {post : Int32 → Prop} {aP aL aO : Nat → Int32} {t : Nat} (h : t ≤ 1000000000) (hp : post 0) : wpY_badTime post (aP, aL, aO) (nI t) :=
  pk_lt t 0 (fun z => absurd z (by omega)) (fun _ => pk_le t 1000000000 (fun _ => hp) (fun z => absurd z (by omega)))
theorem so_yTime0 {post : Int32 → Prop} {aP aL aO : Nat → Int32} {x : Int32} (h : ¬ ∃ t, t ≤ 1000000000 ∧ x = nI t) (hp : post 1) : wpY_badTime post (aP, aL, aO) x :=
  br_c (fun _ => hp) (fun a => br_c (fun b => absurd b (so_time_of h a)) (fun _ => hp))
section
variable {p c o : Nat → Nat} {aP aL aO : Nat → Int32}
theorem so_xJob1 (H : so_ok p c o) (V : so_V p c o aP aL aO) {post : Int32 → Prop} {j : Nat} (hj : j < 10) (h : 0 < p j) (hp : post 1) : wpX_isJob post (aP, aL, aO) (nI j) := by
  have hb := so_pb H hj
  exact pk_lt j 0 (fun z => absurd z (by omega)) (fun _ => pk_le 10 j (fun z => absurd z (by omega)) (fun _ => ⟨so_in hj, pk_le (p j) 0 (fun z => absurd z (by omega)) (fun _ => hp) (so_rP V hj)⟩))
theorem so_xJob0 (H : so_ok p c o) (V : so_V p c o aP aL aO) {post : Int32 → Prop} {x : Int32} (h : ¬ ∃ j, j < 10 ∧ 0 < p j ∧ x = nI j) (hp : post 0) : wpX_isJob post (aP, aL, aO) x := by
  rcases pk_ix x (n := 10) (by decide) with a | a | ⟨j, hj, rfl⟩
  · exact br_t a hp
  · exact br_c (fun _ => hp) (fun _ => br_t a hp)
  · have hb := so_pb H hj
    have h0 : ¬ 0 < p j := fun z => h ⟨j, hj, z, rfl⟩
    exact pk_lt j 0 (fun z => absurd z (by omega)) (fun _ => pk_le 10 j (fun z => absurd z (by omega)) (fun _ => ⟨so_in hj, pk_le (p j) 0 (fun _ => hp) (fun z => absurd z h0) (so_rP V hj)⟩))
theorem so_yJob1 (H : so_ok p c o) (V : so_V p c o aP aL aO) {post : Int32 → Prop} {j : Nat} (hj : j < 10) (h : 0 < p j) (hp : post 0) : wpY_none post (aP, aL, aO) (nI j) := by
  have hb := so_pb H hj
  exact pk_lt j 0 (fun z => absurd z (by omega)) (fun _ => pk_lt 9 j (fun z => absurd z (by omega)) (fun _ => ⟨so_in hj, pk_eq (p j) 0 (fun z => absurd z (by omega)) (fun _ => hp) (so_rP V hj)⟩))
theorem so_yJob0 (H : so_ok p c o) (V : so_V p c o aP aL aO) {post : Int32 → Prop} {x : Int32} (h : ¬ ∃ j, j < 10 ∧ 0 < p j ∧ x = nI j) (hp : post 1) : wpY_none post (aP, aL, aO) x := by
  rcases pk_ix x (n := 10) (by decide) with a | a | ⟨j, hj, rfl⟩
  · exact br_t a hp
  · exact br_c (fun _ => hp) (fun _ => br_t (Int32.lt_of_lt_of_le (show (9 : Int32) < nI 10 by decide) a) hp)
  · have hb := so_pb H hj
    have h0 : ¬ 0 < p j := fun z => h ⟨j, hj, z, rfl⟩
    exact pk_lt j 0 (fun z => absurd z (by omega)) (fun _ => pk_lt 9 j (fun z => absurd z (by omega)) (fun _ => ⟨so_in hj, pk_eq (p j) 0 (fun _ => hp) (fun z => absurd z (by omega)) (so_rP V hj)⟩))
end
end
section
section
variable {p c o : Nat → Nat} {aP aL aO : Nat → Int32}
theorem so_xFree_l (H : so_ok p c o) (V : so_V p c o aP aL aO) {post : Int32 → Prop} {w : Nat} (hw : so_F (fun i => p i = 0) 10 w) (hp : post (nI w)) : ∀ d i, i + d = 10 → (∀ j, j < i → ¬ p j = 0) → wX_smallestFreeId_2 post aP aL aO (d + 1) (nI i) := by
  intro d
  induction d with
  | zero =>
    intro i hi lo
    have e : i = 10 := by omega
    subst e
    have e : w = 10 := so_F_end hw lo
    subst e
    exact pk_le 10 10 (fun _ => hp) (fun z => absurd z (by omega))
  | succ d ih =>
    intro i hi lo
    have hi10 : i < 10 := by omega
    have hb := so_pb H hi10
    refine pk_le 10 i (fun z => absurd z (by omega)) (fun _ => ⟨so_in hi10, pk_eq (p i) 0 (fun z => ?_) (fun z => nm_r (nI_1 i) (ih (i + 1) (by omega) (so_lo_s (f := fun i => p i = 0) lo z))) (so_rP V hi10)⟩)
    have e : w = i := so_F_hit hw hi10 lo z
    rw [← e]
    exact hp
theorem so_xFree (H : so_ok p c o) (V : so_V p c o aP aL aO) {post : Int32 → Prop} {w : Nat} (hw : so_F (fun i => p i = 0) 10 w) (hp : post (nI w)) : wpX_smallestFreeId post (aP, aL, aO) :=
  ⟨11, so_xFree_l H V hw hp 10 0 rfl so_lo_0⟩
theorem so_xGcd_l {post : Int32 → Prop} : ∀ n a b s, b < n → a < 2 ^ 31 → b + s ≤ 360 → post (nI (Nat.gcd a b)) → wX_commonDivisor_7 post n (nI a) (nI b) (nI s) := by
  intro n
  induction n with
  | zero => intro a b s h; exact absurd h (Nat.not_lt_zero b)
  | succ n ih =>
    intro a b s h1 h2 h3 hp
    refine pk_lt 360 s (fun z => absurd z (by omega)) (fun _ => pk_le b 0 (fun z => ?_) (fun z => ⟨nI_ne0 z (by omega), nm_r (pk_rem h2 z (by omega)) (nm_r (nI_1 s) (ih b (a % b) (s + 1) ?_ (by omega) ?_ ?_))⟩))
    · have e : b = 0 := by omega
      rw [e, Nat.gcd_zero_right] at hp
      exact hp
    · have := Nat.mod_lt a z
      omega
    · have := Nat.mod_lt a z
      omega
    · have e : Nat.gcd a b = Nat.gcd b (a % b) := (Nat.gcd_comm a b).trans ((Nat.gcd_rec b a).trans (Nat.gcd_comm _ _))
      rw [← e]
      exact hp
theorem so_xGcd {post : Int32 → Prop} {a b : Nat} (ha : a < 2 ^ 31) (hb : b ≤ 360) (hp : post (nI (Nat.gcd a b))) : wpX_commonDivisor post (nI a) (nI b) :=
  ⟨b + 1, so_xGcd_l (b + 1) a b 0 (by omega) ha (by omega) hp⟩
theorem so_sm_le (g c D : Nat) : so_sm g c D ≤ g := by
  unfold so_sm
  split <;> omega
theorem so_xMeet (H : so_ok p c o) (V : so_V p c o aP aL aO) {post : Int32 → Prop} {i P off : Nat} (hi : i < 10) (hpi : 0 < p i) (hP : so_per P) (ho : off < P) (hp : post (nI (so_sm (Nat.gcd P (p i)) (c i) (off + 360 - o i)))) : wpX_slotsUntilMeeting post (aP, aL, aO) (nI i) (nI P) (nI off) := by
  obtain ⟨b1, b2, b3, b4, b5⟩ := so_jb H hi hpi
  have hP2 := hP.2.1
  have hP1 := hP.1
  have eP := so_rP V hi
  have eL := so_rL V hi hpi
  have eO := so_rO V hi hpi
  have hin := so_in hi
  unfold wpX_slotsUntilMeeting
  dsimp only
  rw [eP, eL, eO]
  have hg : 0 < Nat.gcd P (p i) := Nat.gcd_pos_of_pos_left _ (by omega)
  have hg2 : Nat.gcd P (p i) ≤ P := Nat.gcd_le_left _ (by omega)
  have hm : (off + 360 - o i) % Nat.gcd P (p i) < Nat.gcd P (p i) := Nat.mod_lt _ hg
  have e1 : nI off + 360 - nI (o i) = nI (off + 360 - o i) := by
    rw [show nI off + 360 = nI (off + 360) from nI_add off 360]
    exact pk_sub (by omega)
  have e2 : nI off + 360 - nI (o i) - (nI off + 360 - nI (o i)) / nI (Nat.gcd P (p i)) * nI (Nat.gcd P (p i)) = nI ((off + 360 - o i) % Nat.gcd P (p i)) := by
    rw [e1]
    exact pk_rem (by omega) hg (by omega)
  refine ⟨hin, so_xGcd (by omega) (by omega) ?_⟩
  generalize Nat.gcd P (p i) = g at *
  refine pk_le 1 g (fun _ => ⟨hin, nI_ne0 hg (by omega), nm_r e2 ⟨hin, pk_le (c i) ((off + 360 - o i) % g) (fun z => ?_) (fun z => ?_)⟩⟩) (fun z => absurd z (by omega))
  · rw [pk_sub (by omega)]
    rw [so_sm, if_neg (by omega)] at hp
    exact hp
  · rw [so_sm, if_pos z] at hp
    exact hp
theorem so_xGl_l (H : so_ok p c o) (V : so_V p c o aP aL aO) {post : Int32 → Prop} {P off : Nat} (hP : so_per P) (ho : off < P) (hp : post (nI (so_gl p c o P off 10))) : ∀ d i, i + d = 10 → wX_greatestLengthAt_5 post (nI P) (nI off) aP aL aO (d + 1) (nI (so_gl p c o P off i)) (nI i) := by
  intro d
  induction d with
  | zero =>
    intro i hi
    have e : i = 10 := by omega
    subst e
    exact pk_le 10 10 (fun _ => hp) (fun z => absurd z (by omega))
  | succ d ih =>
    intro i hi
    have hi10 : i < 10 := by omega
    have hb := so_pb H hi10
    have hP2 := hP.2.1
    have hP1 := hP.1
    have hl := (so_gl_p (p := p) (c := c) (o := o) (P := P) (off := off) i).1
    have hs := so_sm_le (Nat.gcd P (p i)) (c i) (off + 360 - o i)
    have hg2 : Nat.gcd P (p i) ≤ P := Nat.gcd_le_left _ (by omega)
    have h := ih (i + 1) (by omega)
    rw [so_gl] at h
    refine pk_le 10 i (fun z => absurd z (by omega)) (fun _ => ⟨so_in hi10, pk_le (p i) 0 (fun z => nm_r (nI_1 i) ?_) (fun z => so_xMeet H V hi10 z hP ho (pk_le (so_gl p c o P off i) (so_sm (Nat.gcd P (p i)) (c i) (off + 360 - o i)) (fun y => nm_r (nI_1 i) ?_) (fun y => nm_r (nI_1 i) ?_))) (so_rP V hi10)⟩)
    · rw [if_neg (by omega)] at h
      exact h
    · rw [if_pos z, if_neg (by omega)] at h
      exact h
    · rw [if_pos z, if_pos y] at h
      exact h
theorem so_xGl (H : so_ok p c o) (V : so_V p c o aP aL aO) {post : Int32 → Prop} {P off : Nat} (hP : so_per P) (ho : off < P) (hp : post (nI (so_gl p c o P off 10))) : wpX_greatestLengthAt post (aP, aL, aO) (nI P) (nI off) :=
  ⟨11, so_xGl_l H V hP ho hp 10 0 rfl⟩
theorem so_xPlace {post : Int32 → SX → Prop} {w : Nat} (hw : w < 10) {x y z : Int32} (hp : post (nI w) (upd aP w x, upd aL w y, upd aO w z)) : wpX_place post (aP, aL, aO) (nI w) x y z := by
  have e : (nI w).toNatClampNeg = w := nI_clamp (by omega)
  unfold wpX_place
  dsimp only
  rw [e]
  exact ⟨so_in hw, nm_e ⟨so_in hw, nm_e ⟨so_in hw, nm_e hp⟩⟩⟩
theorem so_xAdm_l (H : so_ok p c o) (V : so_V p c o aP aL aO) {post : Int32 → SX → Prop} {P l m w : Nat} (hP : so_per P) (hl : l ≤ P) (hw : w < 10) (hm : so_F (fun q => l ≤ so_gl p c o P q 10) P m) (h1 : m < P → post (nI w) (upd aP w (nI P), upd aL w (nI l), upd aO w (nI m))) (h2 : m = P → post (-5) (aP, aL, aO)) : ∀ d i, i + d = P → (∀ j, j < i → ¬ l ≤ so_gl p c o P j 10) → wX_admit_31 post (nI P) (nI l) (nI w) aP aL aO (d + 1) (nI i) := by
  have hP2 := hP.2.1
  intro d
  induction d with
  | zero =>
    intro i hi lo
    have e : i = P := by omega
    subst e
    exact pk_le i i (fun _ => h2 (so_F_end hm lo)) (fun z => absurd z (by omega))
  | succ d ih =>
    intro i hi lo
    have hg := (so_gl_p (p := p) (c := c) (o := o) (P := P) (off := i) 10).1
    refine pk_le P i (fun z => absurd z (by omega)) (fun _ => so_xGl H V hP (by omega) (pk_lt (so_gl p c o P i 10) l (fun z => nm_r (nI_1 i) (ih (i + 1) (by omega) (so_lo_s (f := fun q => l ≤ so_gl p c o P q 10) lo (show ¬ l ≤ so_gl p c o P i 10 by omega)))) (fun z => so_xPlace hw ?_)))
    have e : m = i := so_F_hit hm (by omega) lo z
    subst e
    exact h1 (by omega)
theorem so_xCt_l (H : so_ok p c o) (V : so_V p c o aP aL aO) {post : Int32 → Prop} (hp : post (nI (so_ct p 10))) : ∀ d i, i + d = 10 → wX_countJobs_4 post aP aL aO (d + 1) (nI (so_ct p i)) (nI i) := by
  intro d
  induction d with
  | zero =>
    intro i hi
    have e : i = 10 := by omega
    subst e
    exact pk_le 10 10 (fun _ => hp) (fun z => absurd z (by omega))
  | succ d ih =>
    intro i hi
    have hi10 : i < 10 := by omega
    have hb := so_pb H hi10
    have h := ih (i + 1) (by omega)
    rw [so_ct] at h
    refine pk_le 10 i (fun z => absurd z (by omega)) (fun _ => ⟨so_in hi10, pk_le (p i) 0 (fun z => nm_r (nI_1 i) ?_) (fun z => nm_r (nI_1 _) (nm_r (nI_1 i) ?_)) (so_rP V hi10)⟩)
    · rw [if_neg (by omega)] at h
      exact h
    · rw [if_pos z] at h
      exact h
theorem so_xCt (H : so_ok p c o) (V : so_V p c o aP aL aO) {post : Int32 → Prop} (hp : post (nI (so_ct p 10))) : wpX_countJobs post (aP, aL, aO) :=
  ⟨11, so_xCt_l H V hp 10 0 rfl⟩
theorem so_xRun_l (H : so_ok p c o) (V : so_V p c o aP aL aO) {post : Int32 → Prop} {t w : Nat} (ht : t ≤ 1000000000) (hw : so_F (fun i => so_hit p c o i t) 10 w) (h1 : w < 10 → post (nI w)) (h2 : w = 10 → post (-6)) : ∀ d i, i + d = 10 → (∀ j, j < i → ¬ so_hit p c o j t) → wX_running_12 post (nI t) aP aL aO (d + 1) (nI i) := by
  intro d
  induction d with
  | zero =>
    intro i hi lo
    have e : i = 10 := by omega
    subst e
    exact pk_le 10 10 (fun _ => h2 (so_F_end hw lo)) (fun z => absurd z (by omega))
  | succ d ih =>
    intro i hi lo
    have hi10 : i < 10 := by omega
    have hin := so_in hi10
    have hb := so_pb H hi10
    have next : ¬ so_hit p c o i t → wX_running_12 post (nI t) aP aL aO (d + 1) (nI (i + 1)) := fun z => ih (i + 1) (by omega) (so_lo_s (f := fun i => so_hit p c o i t) lo z)
    refine pk_le 10 i (fun z => absurd z (by omega)) (fun _ => ⟨hin, pk_le (p i) 0 (fun z => nm_r (nI_1 i) (next (fun y => absurd y.1 (by omega)))) (fun z => ?_) (so_rP V hi10)⟩)
    obtain ⟨b1, b2, b3, b4, b5⟩ := so_jb H hi10 z
    rw [so_rP V hi10, so_rL V hi10 z, so_rO V hi10 z]
    refine ⟨hin, pk_lt t (o i) (fun y => nm_r (nI_1 i) (next (fun x => absurd x.2.1 (by omega)))) (fun y => ⟨hin, hin, nI_ne0 z (by omega), hin, ?_⟩)⟩
    rw [pk_sub y, pk_rem (by omega) z (by omega)]
    have hm := Nat.mod_lt (t - o i) z
    refine pk_le (c i) ((t - o i) % p i) (fun x => nm_r (nI_1 i) (next (fun v => absurd v.2.2 (by omega)))) (fun x => ?_)
    have e : w = i := so_F_hit hw hi10 lo ⟨z, y, x⟩
    subst e
    exact h1 hi10
theorem so_xRun (H : so_ok p c o) (V : so_V p c o aP aL aO) {post : Int32 → Prop} {t w : Nat} (ht : t ≤ 1000000000) (hw : so_F (fun i => so_hit p c o i t) 10 w) (h1 : w < 10 → post (nI w)) (h2 : w = 10 → post (-6)) : wpX_running post (aP, aL, aO) (nI t) := by
  unfold wpX_running
  dsimp only
  refine so_xTime1 ht ?_
  exact br_f (by decide) ⟨11, so_xRun_l H V ht hw h1 h2 10 0 rfl so_lo_0⟩
end
end
section
section
variable {p c o : Nat → Nat} {aP aL aO : Nat → Int32}
theorem so_sb_le0 {p c o t : Nat} (h : t ≤ o) : so_sb p c o t = 0 := by
  have e : t - o = 0 := by omega
  have e2 : so_sb p c o t = so_sb p c 0 0 := by
    unfold so_sb
    rw [e]
  rw [e2]
  exact so_sb_0 p c 0
theorem so_xSb (H : so_ok p c o) (V : so_V p c o aP aL aO) {post : Int32 → Prop} {i t : Nat} (hi : i < 10) (ht : t < 2 ^ 31) (hp : post (nI (so_one p c o t i))) : wpX_slotsBefore post (aP, aL, aO) (nI i) (nI t) := by
  have hin := so_in hi
  unfold wpX_slotsBefore
  dsimp only
  by_cases z : 0 < p i
  · obtain ⟨b1, b2, b3, b4, b5⟩ := so_jb H hi z
    rw [so_one, if_pos z] at hp
    refine so_xJob1 H V hi z ?_
    rw [so_rP V hi, so_rL V hi z, so_rO V hi z]
    have hm := Nat.mod_lt (t - o i) z
    refine br_f (by decide) ⟨hin, pk_lt (o i) t (fun y => ⟨hin, hin, nI_ne0 z (by omega), nm_r (e' := nI ((t - o i) / p i)) ?_ ⟨hin, hin, nI_ne0 z (by omega), nm_r (e' := nI ((t - o i) % p i)) ?_ ⟨hin, hin, pk_le (c i) ((t - o i) % p i) (fun x => ⟨hin, ?_⟩) (fun x => ?_)⟩⟩⟩) (fun y => ?_)⟩
    · rw [pk_sub (by omega), pk_div (by omega) z (by omega)]
    · rw [pk_sub (by omega), pk_rem (by omega) z (by omega)]
    · rw [pk_mul, nI_add]
      rw [so_sb, if_neg (by omega)] at hp
      exact hp
    · rw [pk_mul, nI_add]
      rw [so_sb, if_pos x] at hp
      exact hp
    · rw [so_sb_le0 y] at hp
      exact hp
  · rw [so_one, if_neg z] at hp
    refine so_xJob0 H V ?_ (br_t rfl hp)
    rintro ⟨j, hj, hz, e⟩
    rw [nI_eq (by omega) (by omega)] at e
    subst e
    exact z hz
theorem so_xFr_l (H : so_ok p c o) (V : so_V p c o aP aL aO) {post : Int32 → Prop} {a b : Nat} (ha : a ≤ 1000000000) (hb : b ≤ 1000000000) (z : Int32) (hp : post (z - (nI (so_S p c o (b + 1)) - nI (so_S p c o a)))) : ∀ d i, i + d = 10 → wX_free_33 post (nI a) (nI b) aP aL aO (d + 1) (z - (nI (so_sum (so_one p c o (b + 1)) i) - nI (so_sum (so_one p c o a) i))) (nI i) := by
  intro d
  induction d with
  | zero =>
    intro i hi
    have e : i = 10 := by omega
    subst e
    exact pk_le 10 10 (fun _ => hp) (fun z => absurd z (by omega))
  | succ d ih =>
    intro i hi
    have hi10 : i < 10 := by omega
    have h := ih (i + 1) (by omega)
    rw [so_sum, so_sum, ← nI_add, ← nI_add] at h
    refine pk_le 10 i (fun z => absurd z (by omega)) (fun _ => ?_)
    rw [nI_1 b]
    refine so_xSb H V hi10 (by omega) (so_xSb H V hi10 (by omega) (nm_r ?_ (nm_r (nI_1 i) h)))
    generalize nI (so_sum (so_one p c o (b + 1)) i) = s1
    generalize nI (so_sum (so_one p c o a) i) = s2
    generalize nI (so_one p c o (b + 1) i) = s3
    generalize nI (so_one p c o a i) = s4
    grind
theorem so_xNb (H : so_ok p c o) (V : so_V p c o aP aL aO) {post : Int32 → Prop} {i t : Nat} (hi : i < 10) (z : 0 < p i) (ht : t < 2 ^ 31) (hp : post (nI (so_nb (p i) (o i) t))) : wpX_startsBefore post (aP, aL, aO) (nI i) (nI t) := by
  have hin := so_in hi
  obtain ⟨b1, b2, b3, b4, b5⟩ := so_jb H hi z
  unfold wpX_startsBefore
  dsimp only
  refine so_xJob1 H V hi z ?_
  rw [so_rP V hi, so_rO V hi z]
  refine br_f (by decide) ⟨hin, pk_lt (o i) t (fun y => ⟨hin, hin, nI_ne0 z (by omega), ?_⟩) (fun y => ?_)⟩
  · rw [pk_sub (by omega), show nI (t - o i) - 1 = nI (t - o i - 1) from pk_sub (b := 1) (by omega), pk_div (by omega) z (by omega), nI_1]
    rw [so_nb, if_neg (by omega)] at hp
    exact hp
  · rw [so_nb, if_pos y] at hp
    exact hp
theorem so_m6 {m : Nat} (h : m < 2 ^ 31) : ¬ nI m = -6 := fun e => nI_pos h (by rw [e]; decide)
theorem so_xNs_l (H : so_ok p c o) (V : so_V p c o aP aL aO) {post : Int32 → Prop} {t : Nat} (ht : t ≤ 1000000000) (hp : ∀ x, so_ns p o t 10 x → post x) : ∀ d i x, i + d = 10 → so_ns p o t i x → wX_nextStart_15 post (nI t) aP aL aO (d + 1) x (nI i) := by
  intro d
  induction d with
  | zero =>
    intro i x hi hx
    have e : i = 10 := by omega
    subst e
    exact pk_le 10 10 (fun _ => hp x hx) (fun z => absurd z (by omega))
  | succ d ih =>
    intro i x hi hx
    have hi10 : i < 10 := by omega
    have hin := so_in hi10
    have hb := so_pb H hi10
    refine pk_le 10 i (fun z => absurd z (by omega)) (fun _ => ⟨hin, pk_le (p i) 0 (fun z => nm_r (nI_1 i) (ih (i + 1) x (by omega) ?_)) (fun z => ?_) (so_rP V hi10)⟩)
    · rcases hx with ⟨h1, h2⟩ | ⟨m, h1, h2, ⟨j, h3, h4, h5⟩, h6⟩
      · exact Or.inl ⟨so_lo_s (f := fun i => 0 < p i) h1 (show ¬ 0 < p i by omega), h2⟩
      · refine Or.inr ⟨m, h1, h2, ⟨j, by omega, h4, h5⟩, fun k hk hpk => ?_⟩
        by_cases e : k = i
        · rw [e] at hpk; omega
        · exact h6 k (by omega) hpk
    · obtain ⟨b1, b2, b3, b4, b5⟩ := so_jb H hi10 z
      have N := so_nx_p (p := p i) (o := o i) (t := t) z (by omega) b5
      have N4 := N.2.2.2.1
      rw [so_rP V hi10, so_rO V hi10 z]
      refine ⟨hin, so_xNb H V hi10 z (by omega) ⟨hin, nm_r (e' := nI (so_nx (p i) (o i) t)) ?_ ?_⟩⟩
      · rw [pk_mul, nI_add]
        rfl
      · rcases hx with ⟨h1, h2⟩ | ⟨m, h1, h2, ⟨j, h3, h4, h5⟩, h6⟩
        · refine br_t h2 (nm_r (nI_1 i) (ih (i + 1) _ (by omega) (Or.inr ⟨_, rfl, N4, ⟨i, by omega, z, rfl⟩, fun k hk hpk => ?_⟩)))
          by_cases e : k = i
          · rw [e]; exact Nat.le_refl _
          · exact absurd hpk (h1 k (by omega))
        · subst h1
          refine br_f (so_m6 (by omega)) (pk_le m (so_nx (p i) (o i) t) (fun y => nm_r (nI_1 i) (ih (i + 1) _ (by omega) (Or.inr ⟨m, rfl, h2, ⟨j, by omega, h4, h5⟩, fun k hk hpk => ?_⟩))) (fun y => nm_r (nI_1 i) (ih (i + 1) _ (by omega) (Or.inr ⟨_, rfl, N4, ⟨i, by omega, z, rfl⟩, fun k hk hpk => ?_⟩))))
          · by_cases e : k = i
            · rw [e]; exact y
            · exact h6 k (by omega) hpk
          · by_cases e : k = i
            · rw [e]; exact Nat.le_refl _
            · have := h6 k (by omega) hpk
              omega
def so_mx (f : Nat → Nat) : Nat → Nat
  | 0 => 0
  | n + 1 => if f n ≤ so_mx f n then so_mx f n else f n
theorem so_mx_le {f : Nat → Nat} {B : Nat} (h : ∀ i, f i ≤ B) : ∀ n, so_mx f n ≤ B := by
  intro n
  induction n with
  | zero => exact Nat.zero_le _
  | succ n ih =>
    rw [so_mx]
    split
    · exact ih
    · exact h n
theorem so_gl_le (P q : Nat) : so_gl p c o P q 10 ≤ P := (so_gl_p (p := p) (c := c) (o := o) (P := P) (off := q) 10).1
theorem so_xRoom_l (H : so_ok p c o) (V : so_V p c o aP aL aO) {post : Int32 → Prop} {P : Nat} (hP : so_per P) (hp : post (nI (so_mx (fun q => so_gl p c o P q 10) P))) : ∀ d i, i + d = P → wX_room_13 post (nI P) aP aL aO (d + 1) (nI (so_mx (fun q => so_gl p c o P q 10) i)) (nI i) := by
  have hP2 := hP.2.1
  intro d
  induction d with
  | zero =>
    intro i hi
    have e : i = P := by omega
    subst e
    exact pk_le i i (fun _ => hp) (fun z => absurd z (by omega))
  | succ d ih =>
    intro i hi
    have hg := so_gl_le (p := p) (c := c) (o := o) P i
    have hx := so_mx_le (f := fun q => so_gl p c o P q 10) (B := P) (fun q => so_gl_le P q) i
    have h := ih (i + 1) (by omega)
    rw [so_mx] at h
    refine pk_le P i (fun z => absurd z (by omega)) (fun _ => so_xGl H V hP (by omega) (pk_le (so_gl p c o P i 10) (so_mx (fun q => so_gl p c o P q 10) i) (fun z => nm_r (nI_1 i) ?_) (fun z => nm_r (nI_1 i) ?_)))
    · rw [if_pos z] at h
      exact h
    · rw [if_neg (by omega)] at h
      exact h
theorem so_xLoad_l (H : so_ok p c o) (V : so_V p c o aP aL aO) {post : Int32 → Prop} (hp : post (nI (so_C p c))) : ∀ d i, i + d = 10 → wX_load_4 post aP aL aO (d + 1) (nI (so_sum (so_cy p c) i)) (nI i) := by
  intro d
  induction d with
  | zero =>
    intro i hi
    have e : i = 10 := by omega
    subst e
    exact pk_le 10 10 (fun _ => hp) (fun z => absurd z (by omega))
  | succ d ih =>
    intro i hi
    have hi10 : i < 10 := by omega
    have hin := so_in hi10
    have hb := so_pb H hi10
    have h := ih (i + 1) (by omega)
    rw [so_sum, so_cy] at h
    refine pk_le 10 i (fun z => absurd z (by omega)) (fun _ => ⟨hin, pk_le (p i) 0 (fun z => nm_r (nI_1 i) ?_) (fun z => ?_) (so_rP V hi10)⟩)
    · rw [if_neg (by omega)] at h
      exact h
    · rw [if_pos z] at h
      rw [so_rP V hi10, so_rL V hi10 z]
      refine ⟨hin, nI_ne0 z (by omega), hin, nm_r ?_ (nm_r (nI_1 i) h)⟩
      rw [show (360 : Int32) / nI (p i) = nI (360 / p i) from pk_div (by decide) z (by omega), pk_mul, nI_add]
end
end
section
section
variable {p c o : Nat → Nat} {aP aL aO : Nat → Int32}
theorem so_yHit (H : so_ok p c o) (V : so_V p c o aP aL aO) {post : Int32 → Prop} {i t : Nat} (hi : i < 10) (ht : t ≤ 1000000000) (h1 : so_hit p c o i t → post 1) (h0 : ¬ so_hit p c o i t → post 0) : wpY_runs post (aP, aL, aO) (nI i) (nI t) := by
  have hin := so_in hi
  have hb := so_pb H hi
  refine ⟨hin, nm_r (so_rP V hi) (pk_eq (p i) 0 (fun z => h0 (fun y => absurd y.1 (by omega))) (fun z => ?_))⟩
  have z' : 0 < p i := by omega
  obtain ⟨b1, b2, b3, b4, b5⟩ := so_jb H hi z'
  rw [so_rL V hi z', so_rO V hi z']
  refine ⟨hin, pk_le (o i) t (fun y => ⟨hin, nI_ne0 z' (by omega), hin, ?_⟩) (fun y => h0 (fun x => absurd x.2.1 (by omega)))⟩
  rw [pk_sub y, pk_rem (by omega) z' (by omega)]
  have hm := Nat.mod_lt (t - o i) z'
  exact pk_le (c i) ((t - o i) % p i) (fun x => h0 (fun v => absurd v.2.2 (by omega))) (fun x => h1 ⟨z', y, x⟩)
theorem so_yRun_l (H : so_ok p c o) (V : so_V p c o aP aL aO) {post : Int32 → Prop} {t w : Nat} (ht : t ≤ 1000000000) (hw : so_F (fun i => so_hit p c o i t) 10 w) (h1 : w < 10 → post (nI w)) (h2 : w = 10 → post (-6)) : ∀ d i, i + d = 10 → (∀ j, j < i → ¬ so_hit p c o j t) → wY_running_13 post (nI t) aP aL aO (d + 1) (nI i) := by
  intro d
  induction d with
  | zero =>
    intro i hi lo
    have e : i = 10 := by omega
    subst e
    exact pk_le 10 10 (fun _ => h2 (so_F_end hw lo)) (fun z => absurd z (by omega))
  | succ d ih =>
    intro i hi lo
    have hi10 : i < 10 := by omega
    refine pk_le 10 i (fun z => absurd z (by omega)) (fun _ => so_yHit H V hi10 ht (fun z => br_f (by decide) ?_) (fun z => br_t rfl (nm_r (nI_1 i) (ih (i + 1) (by omega) (so_lo_s (f := fun i => so_hit p c o i t) lo z)))))
    have e : w = i := so_F_hit hw hi10 lo z
    subst e
    exact h1 hi10
theorem so_yRun (H : so_ok p c o) (V : so_V p c o aP aL aO) {post : Int32 → Prop} {t w : Nat} (ht : t ≤ 1000000000) (hw : so_F (fun i => so_hit p c o i t) 10 w) (h1 : w < 10 → post (nI w)) (h2 : w = 10 → post (-6)) : wpY_running post (aP, aL, aO) (nI t) := by
  unfold wpY_running
  dsimp only
  refine so_yTime1 ht ?_
  exact br_t rfl ⟨11, so_yRun_l H V ht hw h1 h2 10 0 rfl so_lo_0⟩
/-- running compared with NO_JOB -/
theorem so_yFree (H : so_ok p c o) (V : so_V p c o aP aL aO) {A B : Prop} {t w : Nat} (ht : t ≤ 1000000000) (hw : so_F (fun i => so_hit p c o i t) 10 w) (h1 : w < 10 → B) (h2 : w = 10 → A) : wpY_running (fun r => (r = (-6) → A) ∧ (¬ r = (-6) → B)) (aP, aL, aO) (nI t) :=
  so_yRun H V ht hw (fun z => br_f (so_m6 (by omega)) (h1 z)) (fun z => br_t rfl (h2 z))
theorem so_yL0 {post : Int32 → Prop} {J5 : Int32 → Int32 → Prop} {n i : Nat} {x1 x2 x3 : Int32} (x6 : Int32) (h : J5 x3 (nI (i + 1))) : wY_longest_30 post J5 x1 x2 x3 (nI i) aP aL aO (n + 1) 0 x6 :=
  br_c (fun _ => br_t rfl (nm_r (nI_1 i) h)) (fun _ => br_t rfl (br_t rfl (nm_r (nI_1 i) h)))
theorem so_yL1 (H : so_ok p c o) (V : so_V p c o aP aL aO) {post : Int32 → Prop} {J5 : Int32 → Int32 → Prop} {P off i : Nat} (hP : so_per P) (ho : off < P) (hi : i < P) (hf : ¬ so_blk p c o P off i → J5 (nI (i + 1)) (nI (i + 1))) (hb : so_blk p c o P off i → J5 (nI i) (nI (i + 1))) :
    ∀ d k, k + d = 360 / P → (∀ k', k' < k → ¬ ∃ j, j < 10 ∧ so_hit p c o j (360 + (off + i + k' * P))) → wY_longest_30 post J5 (nI P) (nI off) (nI i) (nI i) aP aL aO (d + 2) 1 (nI (off + i + k * P)) := by
  have hP2 := hP.2.1
  have e360 : 360 / P * P = 360 := by rw [Nat.mul_comm]; exact so_360 hP
  have e1 : nI off + nI i + 360 = nI (off + i + 360) := by
    rw [nI_add]
    exact nI_add (off + i) 360
  intro d
  induction d with
  | zero =>
    intro k hk lo
    have e : k = 360 / P := by omega
    rw [e, e360]
    refine pk_le (off + i + 360) (off + i + 360) (fun _ => br_f (by decide) (nm_r (nI_1 i) (nm_r (nI_1 i) (hf ?_)))) (fun z => absurd z (by omega)) e1
    rintro ⟨k', hk', z⟩
    exact lo k' (by omega) z
  | succ d ih =>
    intro k hk lo
    have hk1 : (k + 1) * P ≤ 360 / P * P := Nat.mul_le_mul_right P (by omega)
    rw [e360, Nat.add_mul] at hk1
    have hP1 := hP.1
    obtain ⟨w, hw⟩ := so_F_ex (fun j => so_hit p c o j (360 + (off + i + k * P))) 10
    have e2 : nI (off + i + k * P) + nI P = nI (off + i + (k + 1) * P) := by
      rw [nI_add, Nat.add_mul, Nat.one_mul, Nat.add_assoc (off + i)]
    refine pk_le (off + i + 360) (off + i + k * P) (fun z => absurd z (by omega)) (fun _ => br_f (by decide) ?_) e1
    rw [show (360 : Int32) + nI (off + i + k * P) = nI (360 + (off + i + k * P)) from nI_add 360 _]
    refine so_yFree H V (by omega) hw (fun z => nm_r e2 (so_yL0 _ (hb ⟨k, by omega, w, z, hw.2.2 z⟩))) (fun z => nm_r e2 (ih (k + 1) (by omega) (so_lo_s (f := fun k => ∃ j, j < 10 ∧ so_hit p c o j (360 + (off + i + k * P))) lo ?_)))
    rintro ⟨j, hj, y⟩
    exact hw.2.1 j (by omega) y
theorem so_yLong_l (H : so_ok p c o) (V : so_V p c o aP aL aO) {post : Int32 → Prop} {P off m : Nat} (hP : so_per P) (ho : off < P) (hm : so_F (so_blk p c o P off) P m) (hp : post (nI m)) : ∀ d i, i + d = P → wY_longest_5 post (nI P) (nI off) aP aL aO (d + 1) (nI (min i m)) (nI i) := by
  have hP2 := hP.2.1
  obtain ⟨m1, m2, m3⟩ := hm
  intro d
  induction d with
  | zero =>
    intro i hi
    have e : i = P := by omega
    subst e
    have e2 : min i m = m := by omega
    rw [e2]
    exact pk_le i i (fun _ => hp) (fun z => absurd z (by omega))
  | succ d ih =>
    intro i hi
    have h := ih (i + 1) (by omega)
    refine pk_le P i (fun z => absurd z (by omega)) (fun _ => pk_eq (min i m) i (fun z => nm_r (nI_add off i) ⟨360 / P + 2, ?_⟩) (fun z => nm_r (nI_add off i) ⟨1, ?_⟩))
    · have g := so_yL1 (post := post) (J5 := wY_longest_5 post (nI P) (nI off) aP aL aO (d + 1)) H V (P := P) (off := off) (i := i) hP ho (by omega) (fun nb => by
        have e : min (i + 1) m = i + 1 := by
          by_cases e : i = m
          · subst e
            exact absurd (m3 (by omega)) nb
          · omega
        rw [e] at h
        exact h) (fun b => by
        have e : min (i + 1) m = i := by
          by_cases e : i < m
          · exact absurd b (m2 i e)
          · omega
        rw [e] at h
        exact h) (360 / P) 0 (by omega) (fun k' hk' => absurd hk' (Nat.not_lt_zero k'))
      rw [Nat.zero_mul, Nat.add_zero] at g
      rw [z]
      exact g
    · have e : min (i + 1) m = min i m := by omega
      rw [e] at h
      exact so_yL0 _ h
theorem so_yLong (H : so_ok p c o) (V : so_V p c o aP aL aO) {post : Int32 → Prop} {P off : Nat} (hP : so_per P) (ho : off < P) (hp : post (nI (so_gl p c o P off 10))) : wpY_longest post (aP, aL, aO) (nI P) (nI off) := by
  have h := so_yLong_l H V hP ho (so_gl_F H hP off) hp P 0 (by omega)
  have e : min 0 (so_gl p c o P off 10) = 0 := by omega
  rw [e] at h
  exact ⟨P + 1, h⟩
theorem so_yCt_l (H : so_ok p c o) (V : so_V p c o aP aL aO) {post : Int32 → Prop} (hp : post (nI (so_ct p 10))) : ∀ d i, i + d = 10 → wY_count_4 post aP aL aO (d + 1) (nI (so_ct p i)) (nI i) := by
  intro d
  induction d with
  | zero =>
    intro i hi
    have e : i = 10 := by omega
    subst e
    exact pk_le 10 10 (fun _ => hp) (fun z => absurd z (by omega))
  | succ d ih =>
    intro i hi
    have hi10 : i < 10 := by omega
    have hb := so_pb H hi10
    have h := ih (i + 1) (by omega)
    rw [so_ct] at h
    refine pk_le 10 i (fun z => absurd z (by omega)) (fun _ => ⟨so_in hi10, pk_eq (p i) 0 (fun z => nm_r (nI_1 i) ?_) (fun z => nm_r (nI_1 _) (nm_r (nI_1 i) ?_)) (so_rP V hi10)⟩)
    · rw [if_neg (by omega)] at h
      exact h
    · rw [if_pos (by omega)] at h
      exact h
theorem so_yCt (H : so_ok p c o) (V : so_V p c o aP aL aO) {post : Int32 → Prop} (hp : post (nI (so_ct p 10))) : wpY_count post (aP, aL, aO) :=
  ⟨11, so_yCt_l H V hp 10 0 rfl⟩
theorem so_yTake_l (H : so_ok p c o) (V : so_V p c o aP aL aO) {post : Int32 → SY → Prop} {w : Nat} {x y z : Int32} (hw : so_F (fun i => p i = 0) 10 w) (hw10 : w < 10) (hp : post (nI w) (upd aP w x, upd aL w y, upd aO w z)) : ∀ d i, i + d = 10 → (∀ j, j < i → ¬ p j = 0) → wY_take_3 post x y z aP aL aO (d + 1) (nI i) := by
  intro d
  induction d with
  | zero =>
    intro i hi lo
    have e : i = 10 := by omega
    subst e
    have e : w = 10 := so_F_end hw lo
    omega
  | succ d ih =>
    intro i hi lo
    have hi10 : i < 10 := by omega
    have hin := so_in hi10
    have hb := so_pb H hi10
    refine pk_le 10 i (fun z => absurd z (by omega)) (fun _ => ⟨so_in hi10, pk_eq (p i) 0 (fun z => ?_) (fun z => nm_r (nI_1 i) (ih (i + 1) (by omega) (so_lo_s (f := fun i => p i = 0) lo z))) (so_rP V hi10)⟩)
    have e : w = i := so_F_hit hw hi10 lo z
    subst e
    have e : (nI w).toNatClampNeg = w := nI_clamp (by omega)
    rw [e]
    exact ⟨hin, nm_e ⟨hin, nm_e ⟨hin, nm_e hp⟩⟩⟩
theorem so_yTake (H : so_ok p c o) (V : so_V p c o aP aL aO) {post : Int32 → SY → Prop} {w : Nat} {x y z : Int32} (hw : so_F (fun i => p i = 0) 10 w) (hw10 : w < 10) (hp : post (nI w) (upd aP w x, upd aL w y, upd aO w z)) : wpY_take post (aP, aL, aO) x y z :=
  ⟨11, so_yTake_l H V hw hw10 hp 10 0 rfl so_lo_0⟩
theorem so_yAdm_l (H : so_ok p c o) (V : so_V p c o aP aL aO) {post : Int32 → SY → Prop} {P l m w : Nat} (hP : so_per P) (hl : l ≤ P) (hw : so_F (fun i => p i = 0) 10 w) (hw10 : w < 10) (hm : so_F (fun q => l ≤ so_gl p c o P q 10) P m) (h1 : m < P → post (nI w) (upd aP w (nI P), upd aL w (nI l), upd aO w (nI m))) (h2 : m = P → post (-5) (aP, aL, aO)) : ∀ d i, i + d = P → (∀ j, j < i → ¬ l ≤ so_gl p c o P j 10) → wY_admit_37 post (nI P) (nI l) aP aL aO (d + 1) (nI i) := by
  have hP2 := hP.2.1
  intro d
  induction d with
  | zero =>
    intro i hi lo
    have e : i = P := by omega
    subst e
    exact pk_le i i (fun _ => h2 (so_F_end hm lo)) (fun z => absurd z (by omega))
  | succ d ih =>
    intro i hi lo
    have hg := so_gl_le (p := p) (c := c) (o := o) P i
    refine pk_le P i (fun z => absurd z (by omega)) (fun _ => so_yLong H V hP (by omega) (pk_lt (so_gl p c o P i 10) l (fun z => nm_r (nI_1 i) (ih (i + 1) (by omega) (so_lo_s (f := fun q => l ≤ so_gl p c o P q 10) lo (show ¬ l ≤ so_gl p c o P i 10 by omega)))) (fun z => so_yTake H V hw hw10 ?_)))
    have e : m = i := so_F_hit hm (by omega) lo z
    subst e
    exact h1 (by omega)
end
end
section
section
variable {p c o : Nat → Nat} {aP aL aO : Nat → Int32}
theorem so_yFb76 {post : Int32 → Prop} {J : Int32 → Int32 → Int32 → Prop} {x1 x3 : Int32} {a r t : Nat} (ht : t < 720) (hr : r < 360) (h1 : t < 360 → J (nI a) x3 (nI (t + 1))) (h2 : 360 ≤ t → 360 + r ≤ t → J (nI a) x3 (nI (t + 1))) (h3 : 360 ≤ t → t < 360 + r → J (nI (a + 1)) x3 (nI (t + 1))) : wY_freeBefore_76 post J x1 (nI a) x3 (nI r) (nI t) aP aL aO :=
  pk_lt t 360 (fun z => nm_r (nI_1 t) (h1 z)) (fun z => pk_le (360 + r) t (fun y => nm_r (nI_1 t) (h2 z y)) (fun y => nm_r (nI_1 a) (nm_r (nI_1 t) (h3 z y))) (nI_add 360 r))
theorem so_yFb65 {post : Int32 → Prop} {J : Int32 → Int32 → Int32 → Prop} {x1 : Int32} {a b r t : Nat} (ht : t < 720) (hr : r < 360) (h1 : t < 360 → J (nI a) (nI b) (nI (t + 1))) (h2 : 360 ≤ t → 360 + r ≤ t → J (nI a) (nI (b + 1)) (nI (t + 1))) (h3 : 360 ≤ t → t < 360 + r → J (nI (a + 1)) (nI (b + 1)) (nI (t + 1))) : wY_freeBefore_65 post J x1 (nI a) (nI b) (nI r) (nI t) aP aL aO :=
  pk_lt t 360 (fun z => so_yFb76 ht hr h1 (fun y => absurd y (by omega)) (fun y => absurd y (by omega))) (fun z => nm_r (nI_1 b) (so_yFb76 ht hr (fun y => absurd y (by omega)) h2 h3))
theorem so_yFb_l (H : so_ok p c o) (V : so_V p c o aP aL aO) {post : Int32 → Prop} {N r : Nat} (hN : N ≤ 1000000001) (hr : r < 360) (h1 : N ≤ 360 → post (nI (so_fa p c o N r 720))) (h2 : 360 < N → post (nI (so_fa p c o N r 720 + so_fb p c o 720 * ((N - 360) / 360)))) : ∀ d t, t + d = 720 → wY_freeBefore_29 post (nI N) (nI r) aP aL aO (d + 1) (nI (so_fa p c o N r t)) (nI (so_fb p c o t)) (nI t) := by
  intro d
  induction d with
  | zero =>
    intro t ht
    have e : t = 720 := by omega
    subst e
    refine pk_le 720 720 (fun _ => pk_le N 360 h1 (fun z => ⟨by decide, ?_⟩)) (fun z => absurd z (by omega))
    have e1 : nI N - 360 = nI (N - 360) := pk_sub (b := 360) (by omega)
    have e2 : nI (N - 360) / 360 = nI ((N - 360) / 360) := pk_div (d := 360) (by omega) (by decide) (by decide)
    rw [e1, e2, pk_mul, nI_add]
    exact h2 z
  | succ d ih =>
    intro t ht
    have h := ih (t + 1) (by omega)
    obtain ⟨w, hw⟩ := so_F_ex (fun j => so_hit p c o j t) 10
    obtain ⟨s1, s2, s3, s4, s5⟩ := so_fa_1 H (n := N) (rest := r) hw
    refine pk_le 720 t (fun z => absurd z (by omega)) (fun _ => so_yFree H V (by omega) hw (fun z => nm_r (nI_1 t) ?_) (fun z => pk_le 360 t (fun y => so_yFb65 (by omega) hr (fun x => absurd x (by omega)) (fun _ x => ?_) (fun _ x => ?_)) (fun y => pk_le N t (fun x => so_yFb65 (by omega) hr (fun _ => ?_) (fun x => absurd x (by omega)) (fun x => absurd x (by omega))) (fun x => nm_r (nI_1 _) (so_yFb65 (by omega) hr (fun _ => ?_) (fun x => absurd x (by omega)) (fun x => absurd x (by omega)))))))
    · rw [(s1 z).1, (s1 z).2] at h
      exact h
    · rw [(s5 z y x).1, (s5 z y x).2] at h
      exact h
    · rw [(s4 z y x).1, (s4 z y x).2] at h
      exact h
    · rw [(s3 z y x).1, (s3 z y x).2] at h
      exact h
    · rw [(s2 z y x).1, (s2 z y x).2] at h
      exact h
theorem so_yFb (H : so_ok p c o) (V : so_V p c o aP aL aO) {post : Int32 → Prop} {N : Nat} (hN : N ≤ 1000000001) (hp : post (nI (so_fr p c o N))) : wpY_freeBefore post (aP, aL, aO) (nI N) := by
  have E := so_fa_end H N
  refine pk_le N 360 (fun z => ⟨721, ?_⟩) (fun z => ⟨by decide, nm_r (e' := nI ((N - 360) % 360)) ?_ ⟨721, ?_⟩⟩)
  · have h := so_yFb_l H V (post := post) hN (r := 0) (by decide) (fun y => by rw [E.1 y]; exact hp) (fun y => absurd y (by omega)) 720 0 rfl
    rw [(so_fab_0 (p := p) (c := c) (o := o) N 0).1, (so_fab_0 (p := p) (c := c) (o := o) N 0).2] at h
    exact h
  · have e1 : nI N - 360 = nI (N - 360) := pk_sub (b := 360) (by omega)
    rw [e1]
    exact pk_rem (d := 360) (by omega) (by decide) (by decide)
  · have h := so_yFb_l H V (post := post) hN (r := (N - 360) % 360) (Nat.mod_lt _ (by decide)) (fun y => absurd y (by omega)) (fun y => by rw [E.2 y]; exact hp) 720 0 rfl
    rw [(so_fab_0 (p := p) (c := c) (o := o) N _).1, (so_fab_0 (p := p) (c := c) (o := o) N 0).2] at h
    exact h
theorem so_S_mono (H : so_ok p c o) (a : Nat) : ∀ d, so_S p c o a ≤ so_S p c o (a + d) := by
  intro d
  induction d with
  | zero => exact Nat.le_refl _
  | succ d ih =>
    obtain ⟨w, hw⟩ := so_F_ex (fun i => so_hit p c o i (a + d)) 10
    have s := so_S_step H hw
    have h1 := hw.1
    have e : a + (d + 1) = a + d + 1 := rfl
    rw [e]
    by_cases e : w = 10
    · have := s.1 e
      omega
    · have := s.2 (by omega)
      omega
theorem so_yLoad_l (H : so_ok p c o) (V : so_V p c o aP aL aO) {post : Int32 → Prop} (hp : post (nI (so_C p c))) : ∀ d t, t + d = 720 → 360 ≤ t → wY_load_6 post aP aL aO (d + 1) (nI (so_S p c o t - so_S p c o 360)) (nI t) := by
  intro d
  induction d with
  | zero =>
    intro t ht h3
    have e : t = 720 := by omega
    subst e
    have hC : so_S p c o 720 = so_S p c o 360 + so_C p c := so_S_360 H (Nat.le_refl 360)
    have e : so_S p c o 720 - so_S p c o 360 = so_C p c := by omega
    rw [e]
    exact pk_le 720 720 (fun _ => hp) (fun z => absurd z (by omega))
  | succ d ih =>
    intro t ht h3
    have h := ih (t + 1) (by omega) (by omega)
    obtain ⟨w, hw⟩ := so_F_ex (fun j => so_hit p c o j t) 10
    have s := so_S_step H hw
    have m := so_S_mono H 360 (t - 360)
    have e : 360 + (t - 360) = t := by omega
    rw [e] at m
    refine pk_le 720 t (fun z => absurd z (by omega)) (fun _ => so_yFree H V (by omega) hw (fun z => nm_r (nI_1 _) (nm_r (nI_1 t) ?_)) (fun z => nm_r (nI_1 t) ?_))
    · have e : so_S p c o (t + 1) - so_S p c o 360 = so_S p c o t - so_S p c o 360 + 1 := by
        have := s.2 z
        omega
      rw [e] at h
      exact h
    · rw [s.1 z] at h
      exact h
theorem so_yBeg_l (H : so_ok p c o) (V : so_V p c o aP aL aO) {post : Int32 → Prop} {t : Nat} (ht : t < 2 ^ 31) (h1 : so_beg p o t → post 1) (h0 : ¬ so_beg p o t → post 0) : ∀ d i, i + d = 10 → (∀ j, j < i → ¬ (0 < p j ∧ o j ≤ t ∧ (t - o j) % p j = 0)) → wY_begins_2 post (nI t) aP aL aO (d + 1) (nI i) := by
  intro d
  induction d with
  | zero =>
    intro i hi lo
    have e : i = 10 := by omega
    subst e
    refine pk_le 10 10 (fun _ => h0 ?_) (fun z => absurd z (by omega))
    rintro ⟨j, hj, z⟩
    exact lo j hj z
  | succ d ih =>
    intro i hi lo
    have hi10 : i < 10 := by omega
    have hin := so_in hi10
    have hb := so_pb H hi10
    have next : ¬ (0 < p i ∧ o i ≤ t ∧ (t - o i) % p i = 0) → wY_begins_2 post (nI t) aP aL aO (d + 1) (nI (i + 1)) := fun z => ih (i + 1) (by omega) (so_lo_s (f := fun j => 0 < p j ∧ o j ≤ t ∧ (t - o j) % p j = 0) lo z)
    refine pk_le 10 i (fun z => absurd z (by omega)) (fun _ => ⟨hin, nm_r (so_rP V hi10) (pk_eq (p i) 0 (fun z => nm_r (nI_1 i) (next (fun y => absurd y.1 (by omega)))) (fun z => ?_))⟩)
    have z' : 0 < p i := by omega
    obtain ⟨b1, b2, b3, b4, b5⟩ := so_jb H hi10 z'
    rw [so_rO V hi10 z']
    refine ⟨hin, pk_lt t (o i) (fun y => nm_r (nI_1 i) (next (fun x => absurd x.2.1 (by omega)))) (fun y => ⟨hin, nI_ne0 z' (by omega), ?_⟩)⟩
    rw [pk_sub y, pk_rem (by omega) z' (by omega)]
    have hm := Nat.mod_lt (t - o i) z'
    exact pk_eq ((t - o i) % p i) 0 (fun x => h1 ⟨i, hi10, z', y, x⟩) (fun x => nm_r (nI_1 i) (next (fun v => absurd v.2.2 x)))
theorem so_yBeg (H : so_ok p c o) (V : so_V p c o aP aL aO) {post : Int32 → Prop} {t : Nat} (ht : t < 2 ^ 31) (h1 : so_beg p o t → post 1) (h0 : ¬ so_beg p o t → post 0) : wpY_begins post (aP, aL, aO) (nI t) :=
  ⟨11, so_yBeg_l H V ht h1 h0 10 0 rfl so_lo_0⟩
theorem so_yNs_l (H : so_ok p c o) (V : so_V p c o aP aL aO) {post : Int32 → Prop} {t m : Nat} (ht : t ≤ 1000000000) (hm : so_F (fun k => so_beg p o (t + k)) 720 m) (hp : post (if m < 720 then nI (t + m) else -6)) : ∀ d k, k + d = 720 → (∀ j, j < k → ¬ so_beg p o (t + j)) → wY_nextStart_13 post (nI t) aP aL aO (d + 1) (nI (t + k)) := by
  have e1 : nI t + 720 = nI (t + 720) := nI_add t 720
  intro d
  induction d with
  | zero =>
    intro k hk lo
    have e : k = 720 := by omega
    subst e
    have e : m = 720 := so_F_end hm lo
    rw [if_neg (by omega)] at hp
    exact pk_le (t + 720) (t + 720) (fun _ => hp) (fun z => absurd z (by omega)) e1
  | succ d ih =>
    intro k hk lo
    refine pk_le (t + 720) (t + k) (fun z => absurd z (by omega)) (fun _ => so_yBeg H V (by omega) (fun z => br_f (by decide) ?_) (fun z => br_t rfl (nm_r (nI_1 (t + k)) (ih (k + 1) (by omega) (so_lo_s (f := fun k => so_beg p o (t + k)) lo z))))) e1
    have e : m = k := so_F_hit hm (by omega) lo z
    subst e
    rw [if_pos (by omega)] at hp
    exact hp
theorem so_yRoom_l (H : so_ok p c o) (V : so_V p c o aP aL aO) {post : Int32 → Prop} {P : Nat} (hP : so_per P) (hp : post (nI (so_mx (fun q => so_gl p c o P q 10) P))) : ∀ d i, i + d = P → wY_room_14 post (nI P) aP aL aO (d + 1) (nI (so_mx (fun q => so_gl p c o P q 10) i)) (nI i) := by
  have hP2 := hP.2.1
  intro d
  induction d with
  | zero =>
    intro i hi
    have e : i = P := by omega
    subst e
    exact pk_le i i (fun _ => hp) (fun z => absurd z (by omega))
  | succ d ih =>
    intro i hi
    have hg := so_gl_le (p := p) (c := c) (o := o) P i
    have hx := so_mx_le (f := fun q => so_gl p c o P q 10) (B := P) (fun q => so_gl_le P q) i
    have h := ih (i + 1) (by omega)
    rw [so_mx] at h
    refine pk_le P i (fun z => absurd z (by omega)) (fun _ => so_yLong H V hP (by omega) (pk_le (so_gl p c o P i 10) (so_mx (fun q => so_gl p c o P q 10) i) (fun z => nm_r (nI_1 i) ?_) (fun z => nm_r (nI_1 i) ?_)))
    · rw [if_pos z] at h
      exact h
    · rw [if_neg (by omega)] at h
      exact h
end
end
section
/-- one picture for both -/
def i_Rel (_ : Nat) (u : SX) (v : SY) : Prop := ∃ p c o : Nat → Nat, so_ok p c o ∧ so_V p c o u.1 u.2.1 u.2.2 ∧ so_V p c o v.1 v.2.1 v.2.2
theorem i_up {k : Nat} {u : SX} {v : SY} (h : i_Rel k u v) : i_Rel (k + 4) u v := h
theorem i_vc0 : wpX_init (fun u => wpY_init (fun v => i_Rel 0 u v)) :=
  ⟨fun _ => 0, fun _ => 0, fun _ => 0, ⟨fun _ _ => Or.inl rfl, fun _ _ _ _ _ _ a _ => absurd a.1 (Nat.lt_irrefl 0)⟩,
    fun _ _ => ⟨rfl, fun z => absurd z (Nat.lt_irrefl 0)⟩, fun _ _ => ⟨rfl, fun z => absurd z (Nat.lt_irrefl 0)⟩⟩
theorem i_vc_running {k : Nat} {u : SX} {v : SY} (I : i_Rel k u v) (hk : k + 4 ≤ 2048) (v1 : Int32) : wpX_running (fun r => wpY_running (fun r' => r' = r ∧ i_Rel (k + 4) u v) v v1) u v1 := by
  obtain ⟨aP, aL, aO⟩ := u
  obtain ⟨bP, bL, bO⟩ := v
  obtain ⟨p, c, o, H, VX, VY⟩ := I
  dsimp only at VX VY
  have R : i_Rel (k + 4) (aP, aL, aO) (bP, bL, bO) := ⟨p, c, o, H, VX, VY⟩
  by_cases ht : ∃ t, t ≤ 1000000000 ∧ v1 = nI t
  · obtain ⟨t, ht, rfl⟩ := ht
    obtain ⟨w, hw⟩ := so_F_ex (fun i => so_hit p c o i t) 10
    exact so_xRun H VX ht hw (fun z => so_yRun H VY ht hw (fun _ => ⟨rfl, R⟩) (fun y => absurd y (by omega))) (fun z => so_yRun H VY ht hw (fun y => absurd y (by omega)) (fun _ => ⟨rfl, R⟩))
  · unfold wpX_running
    dsimp only
    refine so_xTime0 ht (br_t rfl ?_)
    unfold wpY_running
    dsimp only
    exact so_yTime0 ht (br_f (by decide) ⟨rfl, R⟩)
theorem i_vc_offset {k : Nat} {u : SX} {v : SY} (I : i_Rel k u v) (hk : k + 4 ≤ 2048) (v1 : Int32) : wpX_offset (fun r => wpY_offset (fun r' => r' = r ∧ i_Rel (k + 4) u v) v v1) u v1 := by
  obtain ⟨aP, aL, aO⟩ := u
  obtain ⟨bP, bL, bO⟩ := v
  obtain ⟨p, c, o, H, VX, VY⟩ := I
  dsimp only at VX VY
  have R : i_Rel (k + 4) (aP, aL, aO) (bP, bL, bO) := ⟨p, c, o, H, VX, VY⟩
  by_cases hj : ∃ j, j < 10 ∧ 0 < p j ∧ v1 = nI j
  · obtain ⟨j, hj, hp, rfl⟩ := hj
    unfold wpX_offset
    dsimp only
    refine so_xJob1 H VX hj hp (br_f (by decide) ⟨so_in hj, ?_⟩)
    unfold wpY_offset
    dsimp only
    refine so_yJob1 H VY hj hp (br_t rfl ⟨so_in hj, ?_, R⟩)
    rw [so_rO VX hj hp, so_rO VY hj hp]
  · unfold wpX_offset
    dsimp only
    refine so_xJob0 H VX hj (br_t rfl ?_)
    unfold wpY_offset
    dsimp only
    exact so_yJob0 H VY hj (br_f (by decide) ⟨rfl, R⟩)
theorem i_vc_remove {k : Nat} {u : SX} {v : SY} (I : i_Rel k u v) (hk : k + 4 ≤ 2048) (v1 : Int32) : wpX_remove (fun r u' => wpY_remove (fun r' v' => r' = r ∧ i_Rel (k + 4) u' v') v v1) u v1 := by
  obtain ⟨aP, aL, aO⟩ := u
  obtain ⟨bP, bL, bO⟩ := v
  obtain ⟨p, c, o, H, VX, VY⟩ := I
  dsimp only at VX VY
  have R : i_Rel (k + 4) (aP, aL, aO) (bP, bL, bO) := ⟨p, c, o, H, VX, VY⟩
  by_cases hj : ∃ j, j < 10 ∧ 0 < p j ∧ v1 = nI j
  · obtain ⟨j, hj, hp, rfl⟩ := hj
    have ej : (nI j).toNatClampNeg = j := nI_clamp (by omega)
    have hin := so_in hj
    have H' := so_rem H j
    have VX' := so_V_remX VX j
    have VY' := so_V_remY VY j
    unfold wpX_remove
    dsimp only
    refine so_xJob1 H VX hj hp ?_
    rw [ej]
    refine br_f (by decide) ⟨hin, nm_e ⟨hin, nm_e ⟨hin, nm_e (so_xCt H' VX' ?_)⟩⟩⟩
    unfold wpY_remove
    dsimp only
    rw [ej]
    exact so_yJob1 H VY hj hp (br_t rfl ⟨hin, nm_e (so_yCt H' VY' ⟨rfl, so_set p j 0, c, o, H', VX', VY'⟩)⟩)
  · unfold wpX_remove
    dsimp only
    refine so_xJob0 H VX hj (br_t rfl ?_)
    unfold wpY_remove
    dsimp only
    exact so_yJob0 H VY hj (br_f (by decide) ⟨rfl, R⟩)
theorem i_vc_load {k : Nat} {u : SX} {v : SY} (I : i_Rel k u v) (hk : k + 4 ≤ 2048) : wpX_load (fun r => wpY_load (fun r' => r' = r ∧ i_Rel (k + 4) u v) v) u := by
  obtain ⟨aP, aL, aO⟩ := u
  obtain ⟨bP, bL, bO⟩ := v
  obtain ⟨p, c, o, H, VX, VY⟩ := I
  dsimp only at VX VY
  have R : i_Rel (k + 4) (aP, aL, aO) (bP, bL, bO) := ⟨p, c, o, H, VX, VY⟩
  refine ⟨11, so_xLoad_l H VX ?_ 10 0 rfl⟩
  have h := so_yLoad_l H VY (post := fun r' => r' = nI (so_C p c) ∧ i_Rel (k + 4) (aP, aL, aO) (bP, bL, bO)) ⟨rfl, R⟩ 360 360 rfl (Nat.le_refl _)
  rw [Nat.sub_self] at h
  exact ⟨361, h⟩
theorem i_vc_room {k : Nat} {u : SX} {v : SY} (I : i_Rel k u v) (hk : k + 4 ≤ 2048) (v1 : Int32) : wpX_room (fun r => wpY_room (fun r' => r' = r ∧ i_Rel (k + 4) u v) v v1) u v1 := by
  obtain ⟨aP, aL, aO⟩ := u
  obtain ⟨bP, bL, bO⟩ := v
  obtain ⟨p, c, o, H, VX, VY⟩ := I
  dsimp only at VX VY
  have R : i_Rel (k + 4) (aP, aL, aO) (bP, bL, bO) := ⟨p, c, o, H, VX, VY⟩
  by_cases hP : ∃ P, so_per P ∧ v1 = nI P
  · obtain ⟨P, hP, rfl⟩ := hP
    unfold wpX_room
    dsimp only
    refine so_xPer1 hP (br_f (by decide) ⟨P + 1, so_xRoom_l H VX hP ?_ P 0 (by omega)⟩)
    unfold wpY_room
    dsimp only
    exact so_yPer1 hP (br_t rfl ⟨P + 1, so_yRoom_l H VY hP ⟨rfl, R⟩ P 0 (by omega)⟩)
  · unfold wpX_room
    dsimp only
    refine so_xPer0 hP (br_t rfl ?_)
    unfold wpY_room
    dsimp only
    exact so_yPer0 hP (br_f (by decide) ⟨rfl, R⟩)
theorem i_vc_nextStart {k : Nat} {u : SX} {v : SY} (I : i_Rel k u v) (hk : k + 4 ≤ 2048) (v1 : Int32) : wpX_nextStart (fun r => wpY_nextStart (fun r' => r' = r ∧ i_Rel (k + 4) u v) v v1) u v1 := by
  obtain ⟨aP, aL, aO⟩ := u
  obtain ⟨bP, bL, bO⟩ := v
  obtain ⟨p, c, o, H, VX, VY⟩ := I
  dsimp only at VX VY
  have R : i_Rel (k + 4) (aP, aL, aO) (bP, bL, bO) := ⟨p, c, o, H, VX, VY⟩
  by_cases ht : ∃ t, t ≤ 1000000000 ∧ v1 = nI t
  · obtain ⟨t, ht, rfl⟩ := ht
    obtain ⟨m, hm⟩ := so_F_ex (fun k => so_beg p o (t + k)) 720
    unfold wpX_nextStart
    dsimp only
    refine so_xTime1 ht (br_f (by decide) ⟨11, so_xNs_l H VX ht (fun x hx => ?_) 10 0 (-6) rfl (Or.inl ⟨fun i hi => absurd hi (Nat.not_lt_zero i), rfl⟩)⟩)
    unfold wpY_nextStart
    dsimp only
    exact so_yTime1 ht (br_t rfl ⟨721, so_yNs_l H VY ht hm ⟨(so_ns_end H hx hm).symm, R⟩ 720 0 rfl so_lo_0⟩)
  · unfold wpX_nextStart
    dsimp only
    refine so_xTime0 ht (br_t rfl ?_)
    unfold wpY_nextStart
    dsimp only
    exact so_yTime0 ht (br_f (by decide) ⟨rfl, R⟩)
theorem so_fr_nI {p c o : Nat → Nat} (H : so_ok p c o) (n : Nat) : nI (so_fr p c o n) = nI n - nI (so_S p c o n) := (pk_sub (so_S_le H n)).symm
theorem i_vc_free {k : Nat} {u : SX} {v : SY} (I : i_Rel k u v) (hk : k + 4 ≤ 2048) (v1 : Int32) (v2 : Int32) : wpX_free (fun r => wpY_free (fun r' => r' = r ∧ i_Rel (k + 4) u v) v v1 v2) u v1 v2 := by
  obtain ⟨aP, aL, aO⟩ := u
  obtain ⟨bP, bL, bO⟩ := v
  obtain ⟨p, c, o, H, VX, VY⟩ := I
  dsimp only at VX VY
  have R : i_Rel (k + 4) (aP, aL, aO) (bP, bL, bO) := ⟨p, c, o, H, VX, VY⟩
  by_cases ha : ∃ t, t ≤ 1000000000 ∧ v1 = nI t
  · obtain ⟨a, ha, rfl⟩ := ha
    by_cases hb : ∃ t, t ≤ 1000000000 ∧ v2 = nI t
    · obtain ⟨b, hb, rfl⟩ := hb
      unfold wpX_free
      dsimp only
      refine so_xTime1 ha (br_f (by decide) (so_xTime1 hb (br_f (by decide) (pk_le a b (fun z => nm_r (e' := nI b - nI a + 1 - (nI 0 - nI 0)) ?_ ⟨11, so_xFr_l H VX ha hb (nI b - nI a + 1) ?_ 10 0 rfl⟩) (fun z => ?_)))))
      · rw [nI_0]
        grind
      · unfold wpY_free
        dsimp only
        refine so_yTime1 ha (br_t rfl (so_yTime1 hb (br_t rfl (pk_le a b (fun _ => ?_) (fun y => absurd y (by omega))))))
        rw [nI_1 b]
        refine so_yFb H VY (by omega) (so_yFb H VY (by omega) ⟨?_, R⟩)
        rw [so_fr_nI H, so_fr_nI H, ← nI_1 b]
        generalize nI (so_S p c o (b + 1)) = s1
        generalize nI (so_S p c o a) = s2
        grind
      · unfold wpY_free
        dsimp only
        exact so_yTime1 ha (br_t rfl (so_yTime1 hb (br_t rfl (pk_le a b (fun y => absurd y (by omega)) (fun _ => ⟨rfl, R⟩)))))
    · unfold wpX_free
      dsimp only
      refine so_xTime1 ha (br_f (by decide) (so_xTime0 hb (br_t rfl ?_)))
      unfold wpY_free
      dsimp only
      exact so_yTime1 ha (br_t rfl (so_yTime0 hb (br_f (by decide) ⟨rfl, R⟩)))
  · unfold wpX_free
    dsimp only
    refine so_xTime0 ha (br_t rfl ?_)
    unfold wpY_free
    dsimp only
    exact so_yTime0 ha (br_f (by decide) ⟨rfl, R⟩)
end
section
theorem so_yStarts {p c o : Nat → Nat} {aP aL aO : Nat → Int32} (H : so_ok p c o) (V : so_V p c o aP aL aO) {post : Int32 → Prop} {j a b : Nat} (hj : j < 10) (hp : 0 < p j) (ha : a ≤ 1000000000) (hb : b ≤ 1000000000) (hab : a ≤ b) (h : post (nI (so_nb (p j) (o j) (b + 1)) - nI (so_nb (p j) (o j) a))) : wpY_starts post (aP, aL, aO) (nI j) (nI a) (nI b) := by
  have hin := so_in hj
  obtain ⟨b1, b2, b3, b4, b5⟩ := so_jb H hj hp
  have hne : ¬ nI (p j) = 0 := nI_ne0 hp (by omega)
  unfold wpY_starts
  dsimp only
  refine so_yJob1 H V hj hp (br_t rfl (so_yTime1 ha (br_t rfl (so_yTime1 hb (br_t rfl ?_)))))
  rw [so_rO V hj hp]
  refine ⟨hin, nm_r (so_rP V hj) (pk_lt b a (fun z => absurd z (by omega)) (fun _ => ⟨hin, pk_lt b (o j) (fun y => ?_) (fun y => br_f hne ⟨hin, hne, nm_r (e' := nI ((b - o j) / p j + 1)) ?_ ⟨hin, pk_lt (o j) a (fun x => ⟨hin, hne, nm_r (e' := nI ((a - o j - 1) / p j + 1)) ?_ ?_⟩) (fun x => ?_)⟩⟩)⟩))⟩
  · rw [so_nb, so_nb, if_pos (by omega), if_pos (by omega)] at h
    exact h
  · rw [pk_sub y, pk_div (by omega) hp (by omega), nI_1]
  · have e : a - 1 - o j = a - o j - 1 := by omega
    rw [show nI a - 1 = nI (a - 1) from pk_sub (b := 1) (by omega), pk_sub (by omega), pk_div (by omega) hp (by omega), nI_1, e]
  · have e : b + 1 - o j - 1 = b - o j := by omega
    rw [so_nb, so_nb, if_neg (by omega), if_neg (by omega), e] at h
    exact h
  · have e : b + 1 - o j - 1 = b - o j := by omega
    rw [so_nb, so_nb, if_neg (by omega), if_pos (by omega), e] at h
    exact h
theorem i_vc_starts {k : Nat} {u : SX} {v : SY} (I : i_Rel k u v) (hk : k + 4 ≤ 2048) (v1 : Int32) (v2 : Int32) (v3 : Int32) : wpX_starts (fun r => wpY_starts (fun r' => r' = r ∧ i_Rel (k + 4) u v) v v1 v2 v3) u v1 v2 v3 := by
  obtain ⟨aP, aL, aO⟩ := u
  obtain ⟨bP, bL, bO⟩ := v
  obtain ⟨p, c, o, H, VX, VY⟩ := I
  dsimp only at VX VY
  have R : i_Rel (k + 4) (aP, aL, aO) (bP, bL, bO) := ⟨p, c, o, H, VX, VY⟩
  unfold wpX_starts
  dsimp only
  by_cases hj : ∃ j, j < 10 ∧ 0 < p j ∧ v1 = nI j
  · obtain ⟨j, hj, hp, rfl⟩ := hj
    refine so_xJob1 H VX hj hp (br_f (by decide) ?_)
    by_cases ha : ∃ t, t ≤ 1000000000 ∧ v2 = nI t
    · obtain ⟨a, ha, rfl⟩ := ha
      refine so_xTime1 ha (br_f (by decide) ?_)
      by_cases hb : ∃ t, t ≤ 1000000000 ∧ v3 = nI t
      · obtain ⟨b, hb, rfl⟩ := hb
        refine so_xTime1 hb (br_f (by decide) (pk_le a b (fun z => ?_) (fun z => ?_)))
        · rw [nI_1 b]
          exact so_xNb H VX hj hp (by omega) (so_xNb H VX hj hp (by omega) (so_yStarts H VY hj hp ha hb z ⟨rfl, R⟩))
        · unfold wpY_starts
          dsimp only
          exact so_yJob1 H VY hj hp (br_t rfl (so_yTime1 ha (br_t rfl (so_yTime1 hb (br_t rfl ⟨so_in hj, nm_e (pk_lt b a (fun _ => ⟨rfl, R⟩) (fun y => absurd y (by omega)))⟩)))))
      · refine so_xTime0 hb (br_t rfl ?_)
        unfold wpY_starts
        dsimp only
        exact so_yJob1 H VY hj hp (br_t rfl (so_yTime1 ha (br_t rfl (so_yTime0 hb (br_f (by decide) ⟨rfl, R⟩)))))
    · refine so_xTime0 ha (br_t rfl ?_)
      unfold wpY_starts
      dsimp only
      exact so_yJob1 H VY hj hp (br_t rfl (so_yTime0 ha (br_f (by decide) ⟨rfl, R⟩)))
  · refine so_xJob0 H VX hj (br_t rfl ?_)
    unfold wpY_starts
    dsimp only
    exact so_yJob0 H VY hj (br_f (by decide) ⟨rfl, R⟩)
section
variable {p c o : Nat → Nat} {aP aL aO : Nat → Int32}
theorem so_yAdm (H : so_ok p c o) (V : so_V p c o aP aL aO) {post : Int32 → SY → Prop} {P l m w : Nat} (hP : so_per P) (hl1 : 1 ≤ l) (hl : l ≤ P) (hw : so_F (fun i => p i = 0) 10 w) (hm : so_F (fun q => l ≤ so_gl p c o P q 10) P m) (h0 : w = 10 → post (-4) (aP, aL, aO)) (h1 : w < 10 → m < P → post (nI w) (upd aP w (nI P), upd aL w (nI l), upd aO w (nI m))) (h2 : w < 10 → m = P → post (-5) (aP, aL, aO)) : wpY_admit post (aP, aL, aO) (nI P) (nI l) := by
  have hP2 := hP.2.1
  have hct := (so_ct_p (p := p) 10).1
  have hcw := so_ct_w hw
  have hw1 := hw.1
  unfold wpY_admit
  dsimp only
  refine so_yPer1 hP (br_t rfl (pk_lt l 1 (fun z => absurd z (by omega)) (fun _ => pk_le l P (fun _ => so_yCt H V (pk_eq (so_ct p 10) 10 (fun z => h0 (hcw.mp z)) (fun z => ?_))) (fun z => absurd z (by omega)))))
  have hw10 : w < 10 := by
    by_cases e : w = 10
    · exact absurd (hcw.mpr e) z
    · omega
  exact ⟨P + 1, so_yAdm_l H V hP hl hw hw10 hm (h1 hw10) (h2 hw10) P 0 (by omega) so_lo_0⟩
theorem so_yAdmL (H : so_ok p c o) (V : so_V p c o aP aL aO) {post : Int32 → SY → Prop} {P : Nat} {x : Int32} (hP : so_per P) (hl : ¬ ∃ l, 1 ≤ l ∧ l ≤ P ∧ x = nI l) (h : post (-2) (aP, aL, aO)) : wpY_admit post (aP, aL, aO) (nI P) x := by
  unfold wpY_admit
  dsimp only
  exact so_yPer1 hP (br_t rfl (br_c (fun _ => h) (fun a => br_f (so_len_of hP hl a) h)))
theorem so_yAdmP {post : Int32 → SY → Prop} {x y : Int32} (hP : ¬ ∃ P, so_per P ∧ x = nI P) (h : post (-1) (aP, aL, aO)) : wpY_admit post (aP, aL, aO) x y := by
  unfold wpY_admit
  dsimp only
  exact so_yPer0 hP (br_f (by decide) h)
end
theorem i_vc_admit {k : Nat} {u : SX} {v : SY} (I : i_Rel k u v) (hk : k + 4 ≤ 2048) (v1 : Int32) (v2 : Int32) : wpX_admit (fun r u' => wpY_admit (fun r' v' => r' = r ∧ i_Rel (k + 4) u' v') v v1 v2) u v1 v2 := by
  obtain ⟨aP, aL, aO⟩ := u
  obtain ⟨bP, bL, bO⟩ := v
  obtain ⟨p, c, o, H, VX, VY⟩ := I
  dsimp only at VX VY
  have R : i_Rel (k + 4) (aP, aL, aO) (bP, bL, bO) := ⟨p, c, o, H, VX, VY⟩
  unfold wpX_admit
  dsimp only
  by_cases hP : ∃ P, so_per P ∧ v1 = nI P
  · obtain ⟨P, hP, rfl⟩ := hP
    by_cases hl : ∃ l, 1 ≤ l ∧ l ≤ P ∧ v2 = nI l
    · obtain ⟨l, hl1, hl, rfl⟩ := hl
      obtain ⟨w, hw⟩ := so_F_ex (fun i => p i = 0) 10
      obtain ⟨m, hm⟩ := so_F_ex (fun q => l ≤ so_gl p c o P q 10) P
      have hw1 := hw.1
      refine so_xFault0 hP hl1 hl (br_t rfl (so_xFree H VX hw (pk_eq w 10 (fun z => ?_) (fun z => ⟨P + 1, so_xAdm_l H VX hP hl (by omega) hm (fun y => ?_) (fun y => ?_) P 0 (by omega) so_lo_0⟩))))
      · exact so_yAdm H VY hP hl1 hl hw hm (fun _ => ⟨rfl, R⟩) (fun y => absurd y (by omega)) (fun y => absurd y (by omega))
      · exact so_yAdm H VY hP hl1 hl hw hm (fun x => absurd x z) (fun x _ => ⟨rfl, so_set p w P, so_set c w l, so_set o w m, so_new H hP hl1 hl y x (hm.2.2 y), so_V_set VX w P l m, so_V_set VY w P l m⟩) (fun _ x => absurd x (by omega))
      · exact so_yAdm H VY hP hl1 hl hw hm (fun x => absurd x z) (fun _ x => absurd x (by omega)) (fun _ _ => ⟨rfl, R⟩)
    · exact so_xFaultL hP hl (br_f (by decide) (so_yAdmL H VY hP hl ⟨rfl, R⟩))
  · exact so_xFaultP hP (br_f (by decide) (so_yAdmP hP ⟨rfl, R⟩))
section
variable {p c o : Nat → Nat} {aP aL aO : Nat → Int32}
theorem so_off_of {P : Nat} {x : Int32} (hP : so_per P) (h : ¬ ∃ q, q < P ∧ x = nI q) (a : ¬ x < 0) : ¬ x < nI P := by
  obtain ⟨q, hq, rfl⟩ := nI_of a
  intro b
  have h3 := hP.2.1
  rw [nI_ltI hq (by omega)] at b
  exact h ⟨q, b, rfl⟩
theorem so_yAt (H : so_ok p c o) (V : so_V p c o aP aL aO) {post : Int32 → SY → Prop} {P l q w : Nat} (hP : so_per P) (hl1 : 1 ≤ l) (hl : l ≤ P) (hq : q < P) (hw : so_F (fun i => p i = 0) 10 w) (h0 : w = 10 → post (-4) (aP, aL, aO)) (h1 : w < 10 → l ≤ so_gl p c o P q 10 → post (nI w) (upd aP w (nI P), upd aL w (nI l), upd aO w (nI q))) (h2 : w < 10 → ¬ l ≤ so_gl p c o P q 10 → post (-5) (aP, aL, aO)) : wpY_admitAt post (aP, aL, aO) (nI P) (nI l) (nI q) := by
  have hP2 := hP.2.1
  have hct := (so_ct_p (p := p) 10).1
  have hcw := so_ct_w hw
  have hw1 := hw.1
  have hg := so_gl_le (p := p) (c := c) (o := o) P q
  unfold wpY_admitAt
  dsimp only
  refine so_yPer1 hP (br_t rfl (pk_lt l 1 (fun z => absurd z (by omega)) (fun _ => pk_le l P (fun _ => pk_lt q 0 (fun z => absurd z (by omega)) (fun _ => pk_lt q P (fun _ => so_yCt H V (pk_eq (so_ct p 10) 10 (fun z => h0 (hcw.mp z)) (fun z => ?_))) (fun z => absurd z (by omega)))) (fun z => absurd z (by omega)))))
  have hw10 : w < 10 := by
    by_cases e : w = 10
    · exact absurd (hcw.mpr e) z
    · omega
  exact so_yLong H V hP hq (pk_le l (so_gl p c o P q 10) (fun y => so_yTake H V hw hw10 (h1 hw10 y)) (fun y => h2 hw10 (by omega)))
theorem so_yAtO {post : Int32 → SY → Prop} {P l : Nat} {x : Int32} (hP : so_per P) (hl1 : 1 ≤ l) (hl : l ≤ P) (hx : ¬ ∃ q, q < P ∧ x = nI q) (h : post (-3) (aP, aL, aO)) : wpY_admitAt post (aP, aL, aO) (nI P) (nI l) x := by
  have hP2 := hP.2.1
  unfold wpY_admitAt
  dsimp only
  exact so_yPer1 hP (br_t rfl (pk_lt l 1 (fun z => absurd z (by omega)) (fun _ => pk_le l P (fun _ => br_c (fun _ => h) (fun a => br_f (so_off_of hP hx a) h)) (fun z => absurd z (by omega)))))
theorem so_yAtL {post : Int32 → SY → Prop} {P : Nat} {x y : Int32} (hP : so_per P) (hl : ¬ ∃ l, 1 ≤ l ∧ l ≤ P ∧ x = nI l) (h : post (-2) (aP, aL, aO)) : wpY_admitAt post (aP, aL, aO) (nI P) x y := by
  unfold wpY_admitAt
  dsimp only
  exact so_yPer1 hP (br_t rfl (br_c (fun _ => h) (fun a => br_f (so_len_of hP hl a) h)))
theorem so_yAtP {post : Int32 → SY → Prop} {x y z : Int32} (hP : ¬ ∃ P, so_per P ∧ x = nI P) (h : post (-1) (aP, aL, aO)) : wpY_admitAt post (aP, aL, aO) x y z := by
  unfold wpY_admitAt
  dsimp only
  exact so_yPer0 hP (br_f (by decide) h)
end
theorem i_vc_admitAt {k : Nat} {u : SX} {v : SY} (I : i_Rel k u v) (hk : k + 4 ≤ 2048) (v1 : Int32) (v2 : Int32) (v3 : Int32) : wpX_admitAt (fun r u' => wpY_admitAt (fun r' v' => r' = r ∧ i_Rel (k + 4) u' v') v v1 v2 v3) u v1 v2 v3 := by
  obtain ⟨aP, aL, aO⟩ := u
  obtain ⟨bP, bL, bO⟩ := v
  obtain ⟨p, c, o, H, VX, VY⟩ := I
  dsimp only at VX VY
  have R : i_Rel (k + 4) (aP, aL, aO) (bP, bL, bO) := ⟨p, c, o, H, VX, VY⟩
  unfold wpX_admitAt
  dsimp only
  by_cases hP : ∃ P, so_per P ∧ v1 = nI P
  · obtain ⟨P, hP, rfl⟩ := hP
    have hP2 := hP.2.1
    by_cases hl : ∃ l, 1 ≤ l ∧ l ≤ P ∧ v2 = nI l
    · obtain ⟨l, hl1, hl, rfl⟩ := hl
      refine so_xFault0 hP hl1 hl (br_t rfl ?_)
      by_cases hq : ∃ q, q < P ∧ v3 = nI q
      · obtain ⟨q, hq, rfl⟩ := hq
        obtain ⟨w, hw⟩ := so_F_ex (fun i => p i = 0) 10
        have hw1 := hw.1
        have hg := so_gl_le (p := p) (c := c) (o := o) P q
        refine pk_lt q 0 (fun z => absurd z (by omega)) (fun _ => pk_lt q P (fun _ => so_xFree H VX hw (pk_eq w 10 (fun z => ?_) (fun z => so_xGl H VX hP hq (pk_le l (so_gl p c o P q 10) (fun y => so_xPlace (by omega) ?_) (fun y => ?_))))) (fun z => absurd z (by omega)))
        · exact so_yAt H VY hP hl1 hl hq hw (fun _ => ⟨rfl, R⟩) (fun y => absurd y (by omega)) (fun y => absurd y (by omega))
        · exact so_yAt H VY hP hl1 hl hq hw (fun x => absurd x z) (fun x _ => ⟨rfl, so_set p w P, so_set c w l, so_set o w q, so_new H hP hl1 hl hq x y, so_V_set VX w P l q, so_V_set VY w P l q⟩) (fun _ x => absurd y x)
        · exact so_yAt H VY hP hl1 hl hq hw (fun x => absurd x z) (fun _ x => absurd x (by omega)) (fun _ _ => ⟨rfl, R⟩)
      · exact br_c (fun _ => so_yAtO hP hl1 hl hq ⟨rfl, R⟩) (fun a => br_f (so_off_of hP hq a) (so_yAtO hP hl1 hl hq ⟨rfl, R⟩))
    · exact so_xFaultL hP hl (br_f (by decide) (so_yAtL hP hl ⟨rfl, R⟩))
  · exact so_xFaultP hP (br_f (by decide) (so_yAtP hP ⟨rfl, R⟩))
end
