/-! the pure picture: p, c, o give for each id its period (0: no job), length, offset -/
def so_hit (p c o : Nat → Nat) (i t : Nat) : Prop := 0 < p i ∧ o i ≤ t ∧ (t - o i) % p i < c i
def so_set (f : Nat → Nat) (k x : Nat) : Nat → Nat := fun i => if i = k then x else f i
theorem so_set_s (f : Nat → Nat) (k x : Nat) : so_set f k x k = x := if_pos rfl
theorem so_set_n {f : Nat → Nat} {k x i : Nat} (h : i ≠ k) : so_set f k x i = f i := if_neg h
def so_per (P : Nat) : Prop := 2 ≤ P ∧ P ≤ 360 ∧ 360 % P = 0
def so_job (p c o : Nat) : Prop := so_per p ∧ 1 ≤ c ∧ c ≤ p ∧ o < p
def so_ok (p c o : Nat → Nat) : Prop :=
  (∀ i, i < 10 → p i = 0 ∨ so_job (p i) (c i) (o i)) ∧
  (∀ i j, i < 10 → j < 10 → i ≠ j → ∀ t, so_hit p c o i t → so_hit p c o j t → False)
theorem so_live {p c o : Nat → Nat} (H : so_ok p c o) {i : Nat} (hi : i < 10) (h : 0 < p i) : so_job (p i) (c i) (o i) := by
  rcases H.1 i hi with h0 | h1
  · omega
  · exact h1
/-- m is the least i below n with f i, or n -/
def so_F (f : Nat → Prop) (n m : Nat) : Prop := m ≤ n ∧ (∀ i, i < m → ¬ f i) ∧ (m < n → f m)
theorem so_F_u {f : Nat → Prop} {n a b : Nat} (ha : so_F f n a) (hb : so_F f n b) : a = b := by
  obtain ⟨a1, a2, a3⟩ := ha
  obtain ⟨b1, b2, b3⟩ := hb
  by_cases h : a < b
  · exact absurd (a3 (by omega)) (b2 a h)
  · by_cases h2 : b < a
    · exact absurd (b3 (by omega)) (a2 b h2)
    · omega
theorem so_F_ex (f : Nat → Prop) (n : Nat) : ∃ m, so_F f n m := by
  induction n with
  | zero => exact ⟨0, Nat.le_refl 0, fun i h => absurd h (Nat.not_lt_zero i), fun h => absurd h (Nat.not_lt_zero 0)⟩
  | succ n ih =>
    obtain ⟨m, h1, h2, h3⟩ := ih
    by_cases h : m < n
    · exact ⟨m, by omega, h2, fun _ => h3 h⟩
    · have e : m = n := by omega
      subst e
      by_cases hf : f m
      · exact ⟨m, by omega, h2, fun _ => hf⟩
      · refine ⟨m + 1, by omega, fun i hi => ?_, fun h => absurd h (by omega)⟩
        by_cases e : i = m
        · rw [e]; exact hf
        · exact h2 i (by omega)
theorem so_F_hit {f : Nat → Prop} {n m i : Nat} (h : so_F f n m) (hi : i < n) (hlo : ∀ j, j < i → ¬ f j) (hf : f i) : m = i := by
  obtain ⟨h1, h2, h3⟩ := h
  by_cases a : m < i
  · exact absurd (h3 (by omega)) (hlo m a)
  · by_cases b : i < m
    · exact absurd hf (h2 i b)
    · omega
theorem so_F_end {f : Nat → Prop} {n m : Nat} (h : so_F f n m) (hlo : ∀ j, j < n → ¬ f j) : m = n := by
  obtain ⟨h1, h2, h3⟩ := h
  by_cases a : m < n
  · exact absurd (h3 a) (hlo m a)
  · omega
theorem so_lo_s {f : Nat → Prop} {i : Nat} (h : ∀ j, j < i → ¬ f j) (hf : ¬ f i) : ∀ j, j < i + 1 → ¬ f j := fun j hj => by
  by_cases e : j = i
  · rw [e]; exact hf
  · exact h j (by omega)
theorem so_lo_0 {f : Nat → Prop} : ∀ j, j < 0 → ¬ f j := fun j h => absurd h (Nat.not_lt_zero j)
/-! divisors of 360 -/
def so_divs : List Nat := [2, 3, 4, 5, 6, 8, 9, 10, 12, 15, 18, 20, 24, 30, 36, 40, 45, 60, 72, 90, 120, 180, 360]
theorem so_divs_tab : ((List.range 361).all fun P => !(decide (2 ≤ P) && decide (360 % P = 0)) || so_divs.contains P) = true := by decide +kernel
theorem so_divs_in {P : Nat} (h : so_per P) : P ∈ so_divs := by
  obtain ⟨h2, h3, h4⟩ := h
  have := List.all_eq_true.mp so_divs_tab P (List.mem_range.mpr (by omega))
  simpa [h2, h4] using this
theorem so_bez_tab : (so_divs.all fun P => so_divs.all fun q => (List.range 361).any fun k => decide ((k * P + Nat.gcd P q) % q = 0)) = true := by decide +kernel
theorem so_bez {P q : Nat} (hP : so_per P) (hq : so_per q) : ∃ k, (k * P + Nat.gcd P q) % q = 0 := by
  have h1 := List.all_eq_true.mp so_bez_tab P (so_divs_in hP)
  have h2 := List.all_eq_true.mp h1 q (so_divs_in hq)
  obtain ⟨k, _, hk⟩ := List.any_eq_true.mp h2
  exact ⟨k, of_decide_eq_true hk⟩
theorem so_360 {P : Nat} (h : so_per P) : P * (360 / P) = 360 := by
  have := Nat.div_add_mod 360 P
  rw [h.2.2] at this
  exact this
theorem so_reach {P q : Nat} (hP : so_per P) (hq : so_per q) (x : Nat) : ∃ k, k < 360 / P ∧ (x + k * P) % q = x % Nat.gcd P q := by
  obtain ⟨k0, hk0⟩ := so_bez hP hq
  have hg : 0 < Nat.gcd P q := Nat.gcd_pos_of_pos_left q (by have := hP.1; omega)
  have hgq : Nat.gcd P q ≤ q := Nat.gcd_le_right P (by have := hq.1; omega)
  obtain ⟨s, hs⟩ := Nat.dvd_of_mod_eq_zero hk0
  have hx := Nat.div_add_mod x (Nat.gcd P q)
  have hr : x % Nat.gcd P q < Nat.gcd P q := Nat.mod_lt _ hg
  generalize Nat.gcd P q = g at *
  generalize x % g = r at *
  generalize x / g = m at *
  have e360 := so_360 hP
  have eq360 := so_360 hq
  generalize hd : 360 / P = d at *
  generalize 360 / q = d' at *
  have dpos : 0 < d := by
    rcases Nat.eq_zero_or_pos d with h | h
    · rw [h] at e360; omega
    · exact h
  have e1 : x + k0 * m * P = r + q * (m * s) := by
    have a1 : k0 * m * P + g * m = m * (k0 * P + g) := by
      rw [Nat.mul_add, Nat.mul_comm g m]
      congr 1
      rw [Nat.mul_comm k0 m, Nat.mul_assoc]
    have a2 : m * (k0 * P + g) = q * (m * s) := by
      rw [hs, ← Nat.mul_assoc, Nat.mul_comm m q, Nat.mul_assoc]
    omega
  refine ⟨k0 * m % d, Nat.mod_lt _ dpos, ?_⟩
  have e2 := Nat.div_add_mod (k0 * m) d
  generalize k0 * m % d = k at *
  generalize k0 * m / d = z at *
  have e3 : k0 * m * P = k * P + q * (d' * z) := by
    rw [← e2, Nat.add_mul]
    have : d * z * P = q * (d' * z) := by
      rw [← Nat.mul_assoc, eq360, ← e360, Nat.mul_assoc, Nat.mul_comm z P, ← Nat.mul_assoc, Nat.mul_comm d P]
    omega
  have e4 : (x + k * P + q * (d' * z)) % q = (r + q * (m * s)) % q := by
    rw [← e1, e3, Nat.add_assoc]
  rw [Nat.add_mul_mod_self_left, Nat.add_mul_mod_self_left, Nat.mod_eq_of_lt (show r < q by omega)] at e4
  exact e4
theorem so_modg {g : Nat} (x : Nat) {y : Nat} (h : g ∣ y) : (x + y) % g = x % g := by
  obtain ⟨s, rfl⟩ := h
  exact Nat.add_mul_mod_self_left x g s
theorem so_meet {P q : Nat} (hP : so_per P) (hq : so_per q) (c x : Nat) : (∃ k, k < 360 / P ∧ (x + k * P) % q < c) ↔ x % Nat.gcd P q < c := by
  constructor
  · rintro ⟨k, _, hk⟩
    have e1 : (x + k * P) % q % Nat.gcd P q = (x + k * P) % Nat.gcd P q := Nat.mod_mod_of_dvd _ (Nat.gcd_dvd_right P q)
    have e2 : (x + k * P) % Nat.gcd P q = x % Nat.gcd P q := so_modg x (Nat.dvd_trans (Nat.gcd_dvd_left P q) (Nat.dvd_mul_left P k))
    have e3 : (x + k * P) % q % Nat.gcd P q ≤ (x + k * P) % q := Nat.mod_le _ _
    omega
  · intro h
    obtain ⟨k, hk, e⟩ := so_reach hP hq x
    exact ⟨k, hk, by omega⟩
/-- slots until the meeting -/
def so_sm (g c D : Nat) : Nat := if D % g < c then 0 else g - D % g
theorem so_sm_lt {g c D i : Nat} (hg : 0 < g) (h : i < so_sm g c D) : ¬ (D + i) % g < c := by
  unfold so_sm at h
  split at h
  · omega
  · have hr := Nat.mod_lt D hg
    have e : (D + i) % g = D % g + i := by
      rw [Nat.add_mod, Nat.mod_eq_of_lt (show i < g by omega), Nat.mod_eq_of_lt (show D % g + i < g by omega)]
    omega
theorem so_sm_hit {g c D : Nat} (hg : 0 < g) (hc : 1 ≤ c) : (D + so_sm g c D) % g < c := by
  unfold so_sm
  split
  · assumption
  · have hr := Nat.mod_lt D hg
    have e := Nat.div_add_mod D g
    have e2 : D + (g - D % g) = g * (D / g + 1) := by rw [Nat.mul_add]; omega
    rw [e2, Nat.mul_mod_right]
    omega
def so_gl (p c o : Nat → Nat) (P off : Nat) : Nat → Nat
  | 0 => P
  | n + 1 => if 0 < p n then (if so_sm (Nat.gcd P (p n)) (c n) (off + 360 - o n) < so_gl p c o P off n then so_sm (Nat.gcd P (p n)) (c n) (off + 360 - o n) else so_gl p c o P off n) else so_gl p c o P off n
theorem so_gl_p {p c o : Nat → Nat} {P off : Nat} : ∀ n, so_gl p c o P off n ≤ P ∧ (∀ i, i < n → 0 < p i → so_gl p c o P off n ≤ so_sm (Nat.gcd P (p i)) (c i) (off + 360 - o i)) ∧ (so_gl p c o P off n = P ∨ ∃ i, i < n ∧ 0 < p i ∧ so_gl p c o P off n = so_sm (Nat.gcd P (p i)) (c i) (off + 360 - o i)) := by
  intro n
  induction n with
  | zero => exact ⟨Nat.le_refl _, fun i h => absurd h (Nat.not_lt_zero i), Or.inl rfl⟩
  | succ n ih =>
    obtain ⟨h1, h2, h3⟩ := ih
    by_cases hp : 0 < p n
    · by_cases hs : so_sm (Nat.gcd P (p n)) (c n) (off + 360 - o n) < so_gl p c o P off n
      · have e : so_gl p c o P off (n + 1) = so_sm (Nat.gcd P (p n)) (c n) (off + 360 - o n) := by rw [so_gl, if_pos hp, if_pos hs]
        refine ⟨by omega, fun i hi hpi => ?_, Or.inr ⟨n, by omega, hp, e⟩⟩
        by_cases ei : i = n
        · rw [ei]; omega
        · have := h2 i (by omega) hpi
          omega
      · have e : so_gl p c o P off (n + 1) = so_gl p c o P off n := by rw [so_gl, if_pos hp, if_neg hs]
        rw [e]
        refine ⟨h1, fun i hi hpi => ?_, ?_⟩
        · by_cases ei : i = n
          · rw [ei]; omega
          · exact h2 i (by omega) hpi
        · rcases h3 with h3 | ⟨i, a, b, d⟩
          · exact Or.inl h3
          · exact Or.inr ⟨i, by omega, b, d⟩
    · have e : so_gl p c o P off (n + 1) = so_gl p c o P off n := by rw [so_gl, if_neg hp]
      rw [e]
      refine ⟨h1, fun i hi hpi => ?_, ?_⟩
      · by_cases ei : i = n
        · rw [ei] at hpi; omega
        · exact h2 i (by omega) hpi
      · rcases h3 with h3 | ⟨i, a, b, d⟩
        · exact Or.inl h3
        · exact Or.inr ⟨i, by omega, b, d⟩
/-- slot i of a run at off is taken in some period -/
def so_blk (p c o : Nat → Nat) (P off i : Nat) : Prop := ∃ k, k < 360 / P ∧ ∃ j, j < 10 ∧ so_hit p c o j (360 + (off + i + k * P))
theorem so_blk_iff {p c o : Nat → Nat} (H : so_ok p c o) {P off i : Nat} (hP : so_per P) : so_blk p c o P off i ↔ ∃ j, j < 10 ∧ 0 < p j ∧ (off + 360 - o j + i) % Nat.gcd P (p j) < c j := by
  constructor
  · rintro ⟨k, hk, j, hj, h1, h2, h3⟩
    have J := so_live H hj h1
    have ho : o j < 360 := by have := J.2.2.2; have := J.1.2.1; omega
    refine ⟨j, hj, h1, (so_meet hP J.1 (c j) _).mp ⟨k, hk, ?_⟩⟩
    have e : off + 360 - o j + i + k * P = 360 + (off + i + k * P) - o j := by omega
    rw [e]
    exact h3
  · rintro ⟨j, hj, h1, h2⟩
    have J := so_live H hj h1
    have ho : o j < 360 := by have := J.2.2.2; have := J.1.2.1; omega
    obtain ⟨k, hk, h3⟩ := (so_meet hP J.1 (c j) _).mpr h2
    refine ⟨k, hk, j, hj, h1, by omega, ?_⟩
    have e : off + 360 - o j + i + k * P = 360 + (off + i + k * P) - o j := by omega
    rw [e] at h3
    exact h3
theorem so_gl_F {p c o : Nat → Nat} (H : so_ok p c o) {P : Nat} (hP : so_per P) (off : Nat) : so_F (so_blk p c o P off) P (so_gl p c o P off 10) := by
  obtain ⟨h1, h2, h3⟩ := so_gl_p (p := p) (c := c) (o := o) (P := P) (off := off) 10
  refine ⟨h1, fun i hi hb => ?_, fun hm => ?_⟩
  · obtain ⟨j, hj, hpj, hc⟩ := (so_blk_iff H hP).mp hb
    have := h2 j hj hpj
    exact so_sm_lt (Nat.gcd_pos_of_pos_left _ (by have := hP.1; omega)) (show i < so_sm (Nat.gcd P (p j)) (c j) (off + 360 - o j) by omega) hc
  · rcases h3 with h3 | ⟨j, hj, hpj, e⟩
    · omega
    · refine (so_blk_iff H hP).mpr ⟨j, hj, hpj, ?_⟩
      rw [e]
      exact so_sm_hit (Nat.gcd_pos_of_pos_left _ (by have := hP.1; omega)) (so_live H hj hpj).2.1
/-! a job that is taken in meets no other -/
theorem so_apart {P q len off c o t : Nat} (hP : so_per P) (hq : so_per q) (ho : o < 360) (h : len ≤ so_sm (Nat.gcd P q) c (off + 360 - o)) (t1 : off ≤ t) (t2 : (t - off) % P < len) (t3 : o ≤ t) (t4 : (t - o) % q < c) : False := by
  have hg : 0 < Nat.gcd P q := Nat.gcd_pos_of_pos_left q (by have := hP.1; omega)
  have n1 := so_sm_lt hg (show (t - off) % P < so_sm (Nat.gcd P q) c (off + 360 - o) by omega)
  have d1 : Nat.gcd P q ∣ P * ((t - off) / P) := Nat.dvd_trans (Nat.gcd_dvd_left P q) (Nat.dvd_mul_right P _)
  have d2 : Nat.gcd P q ∣ 360 := Nat.dvd_trans (Nat.gcd_dvd_left P q) (Nat.dvd_of_mod_eq_zero hP.2.2)
  have e0 := Nat.div_add_mod (t - off) P
  have e1 := so_modg (off + 360 - o + (t - off) % P) d1
  have e2 := so_modg (t - o) d2
  have e3 : (t - o) % q % Nat.gcd P q = (t - o) % Nat.gcd P q := Nat.mod_mod_of_dvd _ (Nat.gcd_dvd_right P q)
  have e4 : (t - o) % q % Nat.gcd P q ≤ (t - o) % q := Nat.mod_le _ _
  have e5 : off + 360 - o + (t - off) % P + P * ((t - off) / P) = t - o + 360 := by omega
  rw [e5] at e1
  omega
theorem so_new {p c o : Nat → Nat} (H : so_ok p c o) {P len off w : Nat} (hP : so_per P) (h1 : 1 ≤ len) (h2 : len ≤ P) (h3 : off < P) (hw : w < 10) (h : len ≤ so_gl p c o P off 10) : so_ok (so_set p w P) (so_set c w len) (so_set o w off) := by
  have key : ∀ j, j < 10 → j ≠ w → ∀ t, so_hit (so_set p w P) (so_set c w len) (so_set o w off) w t → so_hit (so_set p w P) (so_set c w len) (so_set o w off) j t → False := by
    intro j hj hjw t a b
    unfold so_hit at a b
    rw [so_set_s, so_set_s, so_set_s] at a
    rw [so_set_n hjw, so_set_n hjw, so_set_n hjw] at b
    have J := so_live H hj b.1
    have hs := (so_gl_p (p := p) (c := c) (o := o) (P := P) (off := off) 10).2.1 j hj b.1
    exact so_apart (c := c j) (o := o j) hP J.1 (by have := J.2.2.2; have := J.1.2.1; omega) (Nat.le_trans h hs) a.2.1 a.2.2 b.2.1 b.2.2
  refine ⟨fun i hi => ?_, fun i j hi hj hij t a b => ?_⟩
  · by_cases e : i = w
    · subst e
      rw [so_set_s, so_set_s, so_set_s]
      exact Or.inr ⟨hP, h1, h2, h3⟩
    · rw [so_set_n e, so_set_n e, so_set_n e]
      exact H.1 i hi
  · by_cases e : i = w
    · subst e
      exact key j hj (fun z => hij z.symm) t a b
    · by_cases e2 : j = w
      · subst e2
        exact key i hi e t b a
      · unfold so_hit at a b
        rw [so_set_n e, so_set_n e, so_set_n e] at a
        rw [so_set_n e2, so_set_n e2, so_set_n e2] at b
        exact H.2 i j hi hj hij t a b
theorem so_rem {p c o : Nat → Nat} (H : so_ok p c o) (w : Nat) : so_ok (so_set p w 0) c o := by
  have key : ∀ i t, so_hit (so_set p w 0) c o i t → so_hit p c o i t := by
    intro i t a
    unfold so_hit at a ⊢
    by_cases e : i = w
    · subst e
      rw [so_set_s] at a
      omega
    · rw [so_set_n e] at a
      exact a
  refine ⟨fun i hi => ?_, fun i j hi hj hij t a b => H.2 i j hi hj hij t (key i t a) (key j t b)⟩
  by_cases e : i = w
  · subst e
    exact Or.inl (so_set_s _ _ _)
  · rw [so_set_n e]
    exact H.1 i hi
/-! how many jobs -/
def so_ct (p : Nat → Nat) : Nat → Nat
  | 0 => 0
  | n + 1 => if 0 < p n then so_ct p n + 1 else so_ct p n
theorem so_ct_p {p : Nat → Nat} : ∀ n, so_ct p n ≤ n ∧ (so_ct p n = n ↔ ∀ i, i < n → ¬ p i = 0) := by
  intro n
  induction n with
  | zero => exact ⟨Nat.le_refl _, fun _ i h => absurd h (Nat.not_lt_zero i), fun _ => rfl⟩
  | succ n ih =>
    obtain ⟨h1, h2⟩ := ih
    by_cases hp : 0 < p n
    · have e : so_ct p (n + 1) = so_ct p n + 1 := by rw [so_ct, if_pos hp]
      rw [e]
      refine ⟨by omega, fun z => ?_, fun z => ?_⟩
      · exact so_lo_s (f := fun i => p i = 0) (h2.mp (by omega)) (show ¬ p n = 0 by omega)
      · have := h2.mpr (fun i hi => z i (by omega))
        omega
    · have e : so_ct p (n + 1) = so_ct p n := by rw [so_ct, if_neg hp]
      rw [e]
      refine ⟨by omega, fun z => by omega, fun z => absurd (z n (by omega)) (by omega)⟩
theorem so_ct_w {p : Nat → Nat} {w : Nat} (h : so_F (fun i => p i = 0) 10 w) : so_ct p 10 = 10 ↔ w = 10 := by
  rw [(so_ct_p 10).2]
  constructor
  · exact fun z => so_F_end h z
  · intro e
    rw [← e]
    exact h.2.1
