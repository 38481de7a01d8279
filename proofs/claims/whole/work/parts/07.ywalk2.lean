section
variable {p c o : Nat → Nat} {aP aL aO : Nat → Int32}
theorem so_yFb76 {post : Int32 → Prop} {J : Int32 → Int32 → Int32 → Prop} {x1 x3 : Int32} {a r t : Nat} (ht : t < 720) (hr : r < 360) (h1 : t < 360 → J (nI a) x3 (nI (t + 1))) (h2 : 360 ≤ t → 360 + r ≤ t → J (nI a) x3 (nI (t + 1))) (h3 : 360 ≤ t → t < 360 + r → J (nI (a + 1)) x3 (nI (t + 1))) : wY_freeBefore_76 post J x1 (nI a) x3 (nI r) (nI t) aP aL aO :=
  pk_lt t 360 (fun z => nm_r (nI_1 t) (h1 z)) (fun z => pk_le (360 + r) t (fun y => nm_r (nI_1 t) (h2 z y)) (fun y => nm_r (nI_1 a) (nm_r (nI_1 t) (h3 z y))) (nI_add 360 r))
theorem so_yFb65 {post : Int32 → Prop} {J : Int32 → Int32 → Int32 → Prop} {x1 : Int32} {a b r t : Nat} (ht : t < 720) (hr : r < 360) (h1 : t < 360 → J (nI a) (nI b) (nI (t + 1))) (h2 : 360 ≤ t → 360 + r ≤ t → J (nI a) (nI (b + 1)) (nI (t + 1))) (h3 : 360 ≤ t → t < 360 + r → J (nI (a + 1)) (nI (b + 1)) (nI (t + 1))) : wY_freeBefore_65 post J x1 (nI a) (nI b) (nI r) (nI t) aP aL aO :=
  pk_lt t 360 (fun z => so_yFb76 ht hr h1 (fun y => absurd y (by omega)) (fun y => absurd y (by omega))) (fun z => nm_r (nI_1 b) (so_yFb76 ht hr (fun y => absurd y (by omega)) h2 h3))
theorem so_yFb_l (H : so_ok p c o) (V : so_V p c o aP aL aO) {post : Int32 → Prop} {N r : Nat} (hN : N ≤ 1000000001) (hr : r < 360) (h1 : N ≤ 360 → post (nI (so_fa p c o N r 720))) (h2 : 360 < N → post (nI (so_fa p c o N r 720 + so_fb p c o 720 * ((N - 360) / 360)))) : ∀ d t, t + d = 720 → wY_freeBefore_29 post (nI N) (nI r) aP aL aO (d + 1) (nI (so_fa p c o N r t)) (nI (so_fb p c o t)) (nI t) := by
  intro d
  induction d with
  | zero =>
    intro t ht
    have e : t = 720 := by omega
    subst e
    refine pk_le 720 720 (fun _ => pk_le N 360 h1 (fun z => ⟨by decide, ?_⟩)) (fun z => absurd z (by omega))
    have e1 : nI N - 360 = nI (N - 360) := pk_sub (b := 360) (by omega)
    have e2 : nI (N - 360) / 360 = nI ((N - 360) / 360) := pk_div (d := 360) (by omega) (by decide) (by decide)
    rw [e1, e2, pk_mul, nI_add]
    exact h2 z
  | succ d ih =>
    intro t ht
    have h := ih (t + 1) (by omega)
    obtain ⟨w, hw⟩ := so_F_ex (fun j => so_hit p c o j t) 10
    obtain ⟨s1, s2, s3, s4, s5⟩ := so_fa_1 H (n := N) (rest := r) hw
    refine pk_le 720 t (fun z => absurd z (by omega)) (fun _ => so_yFree H V (by omega) hw (fun z => nm_r (nI_1 t) ?_) (fun z => pk_le 360 t (fun y => so_yFb65 (by omega) hr (fun x => absurd x (by omega)) (fun _ x => ?_) (fun _ x => ?_)) (fun y => pk_le N t (fun x => so_yFb65 (by omega) hr (fun _ => ?_) (fun x => absurd x (by omega)) (fun x => absurd x (by omega))) (fun x => nm_r (nI_1 _) (so_yFb65 (by omega) hr (fun _ => ?_) (fun x => absurd x (by omega)) (fun x => absurd x (by omega)))))))
    · rw [(s1 z).1, (s1 z).2] at h
      exact h
    · rw [(s5 z y x).1, (s5 z y x).2] at h
      exact h
    · rw [(s4 z y x).1, (s4 z y x).2] at h
      exact h
    · rw [(s3 z y x).1, (s3 z y x).2] at h
      exact h
    · rw [(s2 z y x).1, (s2 z y x).2] at h
      exact h
theorem so_yFb (H : so_ok p c o) (V : so_V p c o aP aL aO) {post : Int32 → Prop} {N : Nat} (hN : N ≤ 1000000001) (hp : post (nI (so_fr p c o N))) : wpY_freeBefore post (aP, aL, aO) (nI N) := by
  have E := so_fa_end H N
  refine pk_le N 360 (fun z => ⟨721, ?_⟩) (fun z => ⟨by decide, nm_r (e' := nI ((N - 360) % 360)) ?_ ⟨721, ?_⟩⟩)
  · have h := so_yFb_l H V (post := post) hN (r := 0) (by decide) (fun y => by rw [E.1 y]; exact hp) (fun y => absurd y (by omega)) 720 0 rfl
    rw [(so_fab_0 (p := p) (c := c) (o := o) N 0).1, (so_fab_0 (p := p) (c := c) (o := o) N 0).2] at h
    exact h
  · have e1 : nI N - 360 = nI (N - 360) := pk_sub (b := 360) (by omega)
    rw [e1]
    exact pk_rem (d := 360) (by omega) (by decide) (by decide)
  · have h := so_yFb_l H V (post := post) hN (r := (N - 360) % 360) (Nat.mod_lt _ (by decide)) (fun y => absurd y (by omega)) (fun y => by rw [E.2 y]; exact hp) 720 0 rfl
    rw [(so_fab_0 (p := p) (c := c) (o := o) N _).1, (so_fab_0 (p := p) (c := c) (o := o) N 0).2] at h
    exact h
theorem so_S_mono (H : so_ok p c o) (a : Nat) : ∀ d, so_S p c o a ≤ so_S p c o (a + d) := by
  intro d
  induction d with
  | zero => exact Nat.le_refl _
  | succ d ih =>
    obtain ⟨w, hw⟩ := so_F_ex (fun i => so_hit p c o i (a + d)) 10
    have s := so_S_step H hw
    have h1 := hw.1
    have e : a + (d + 1) = a + d + 1 := rfl
    rw [e]
    by_cases e : w = 10
    · have := s.1 e
      omega
    · have := s.2 (by omega)
      omega
theorem so_yLoad_l (H : so_ok p c o) (V : so_V p c o aP aL aO) {post : Int32 → Prop} (hp : post (nI (so_C p c))) : ∀ d t, t + d = 720 → 360 ≤ t → wY_load_6 post aP aL aO (d + 1) (nI (so_S p c o t - so_S p c o 360)) (nI t) := by
  intro d
  induction d with
  | zero =>
    intro t ht h3
    have e : t = 720 := by omega
    subst e
    have hC : so_S p c o 720 = so_S p c o 360 + so_C p c := so_S_360 H (Nat.le_refl 360)
    have e : so_S p c o 720 - so_S p c o 360 = so_C p c := by omega
    rw [e]
    exact pk_le 720 720 (fun _ => hp) (fun z => absurd z (by omega))
  | succ d ih =>
    intro t ht h3
    have h := ih (t + 1) (by omega) (by omega)
    obtain ⟨w, hw⟩ := so_F_ex (fun j => so_hit p c o j t) 10
    have s := so_S_step H hw
    have m := so_S_mono H 360 (t - 360)
    have e : 360 + (t - 360) = t := by omega
    rw [e] at m
    refine pk_le 720 t (fun z => absurd z (by omega)) (fun _ => so_yFree H V (by omega) hw (fun z => nm_r (nI_1 _) (nm_r (nI_1 t) ?_)) (fun z => nm_r (nI_1 t) ?_))
    · have e : so_S p c o (t + 1) - so_S p c o 360 = so_S p c o t - so_S p c o 360 + 1 := by
        have := s.2 z
        omega
      rw [e] at h
      exact h
    · rw [s.1 z] at h
      exact h
theorem so_yBeg_l (H : so_ok p c o) (V : so_V p c o aP aL aO) {post : Int32 → Prop} {t : Nat} (ht : t < 2 ^ 31) (h1 : so_beg p o t → post 1) (h0 : ¬ so_beg p o t → post 0) : ∀ d i, i + d = 10 → (∀ j, j < i → ¬ (0 < p j ∧ o j ≤ t ∧ (t - o j) % p j = 0)) → wY_begins_2 post (nI t) aP aL aO (d + 1) (nI i) := by
  intro d
  induction d with
  | zero =>
    intro i hi lo
    have e : i = 10 := by omega
    subst e
    refine pk_le 10 10 (fun _ => h0 ?_) (fun z => absurd z (by omega))
    rintro ⟨j, hj, z⟩
    exact lo j hj z
  | succ d ih =>
    intro i hi lo
    have hi10 : i < 10 := by omega
    have hin := so_in hi10
    have hb := so_pb H hi10
    have next : ¬ (0 < p i ∧ o i ≤ t ∧ (t - o i) % p i = 0) → wY_begins_2 post (nI t) aP aL aO (d + 1) (nI (i + 1)) := fun z => ih (i + 1) (by omega) (so_lo_s (f := fun j => 0 < p j ∧ o j ≤ t ∧ (t - o j) % p j = 0) lo z)
    refine pk_le 10 i (fun z => absurd z (by omega)) (fun _ => ⟨hin, nm_r (so_rP V hi10) (pk_eq (p i) 0 (fun z => nm_r (nI_1 i) (next (fun y => absurd y.1 (by omega)))) (fun z => ?_))⟩)
    have z' : 0 < p i := by omega
    obtain ⟨b1, b2, b3, b4, b5⟩ := so_jb H hi10 z'
    rw [so_rO V hi10 z']
    refine ⟨hin, pk_lt t (o i) (fun y => nm_r (nI_1 i) (next (fun x => absurd x.2.1 (by omega)))) (fun y => ⟨hin, nI_ne0 z' (by omega), ?_⟩)⟩
    rw [pk_sub y, pk_rem (by omega) z' (by omega)]
    have hm := Nat.mod_lt (t - o i) z'
    exact pk_eq ((t - o i) % p i) 0 (fun x => h1 ⟨i, hi10, z', y, x⟩) (fun x => nm_r (nI_1 i) (next (fun v => absurd v.2.2 x)))
theorem so_yBeg (H : so_ok p c o) (V : so_V p c o aP aL aO) {post : Int32 → Prop} {t : Nat} (ht : t < 2 ^ 31) (h1 : so_beg p o t → post 1) (h0 : ¬ so_beg p o t → post 0) : wpY_begins post (aP, aL, aO) (nI t) :=
  ⟨11, so_yBeg_l H V ht h1 h0 10 0 rfl so_lo_0⟩
theorem so_yNs_l (H : so_ok p c o) (V : so_V p c o aP aL aO) {post : Int32 → Prop} {t m : Nat} (ht : t ≤ 1000000000) (hm : so_F (fun k => so_beg p o (t + k)) 720 m) (hp : post (if m < 720 then nI (t + m) else -6)) : ∀ d k, k + d = 720 → (∀ j, j < k → ¬ so_beg p o (t + j)) → wY_nextStart_13 post (nI t) aP aL aO (d + 1) (nI (t + k)) := by
  have e1 : nI t + 720 = nI (t + 720) := nI_add t 720
  intro d
  induction d with
  | zero =>
    intro k hk lo
    have e : k = 720 := by omega
    subst e
    have e : m = 720 := so_F_end hm lo
    rw [if_neg (by omega)] at hp
    exact pk_le (t + 720) (t + 720) (fun _ => hp) (fun z => absurd z (by omega)) e1
  | succ d ih =>
    intro k hk lo
    refine pk_le (t + 720) (t + k) (fun z => absurd z (by omega)) (fun _ => so_yBeg H V (by omega) (fun z => br_f (by decide) ?_) (fun z => br_t rfl (nm_r (nI_1 (t + k)) (ih (k + 1) (by omega) (so_lo_s (f := fun k => so_beg p o (t + k)) lo z))))) e1
    have e : m = k := so_F_hit hm (by omega) lo z
    subst e
    rw [if_pos (by omega)] at hp
    exact hp
theorem so_yRoom_l (H : so_ok p c o) (V : so_V p c o aP aL aO) {post : Int32 → Prop} {P : Nat} (hP : so_per P) (hp : post (nI (so_mx (fun q => so_gl p c o P q 10) P))) : ∀ d i, i + d = P → wY_room_14 post (nI P) aP aL aO (d + 1) (nI (so_mx (fun q => so_gl p c o P q 10) i)) (nI i) := by
  have hP2 := hP.2.1
  intro d
  induction d with
  | zero =>
    intro i hi
    have e : i = P := by omega
    subst e
    exact pk_le i i (fun _ => hp) (fun z => absurd z (by omega))
  | succ d ih =>
    intro i hi
    have hg := so_gl_le (p := p) (c := c) (o := o) P i
    have hx := so_mx_le (f := fun q => so_gl p c o P q 10) (B := P) (fun q => so_gl_le P q) i
    have h := ih (i + 1) (by omega)
    rw [so_mx] at h
    refine pk_le P i (fun z => absurd z (by omega)) (fun _ => so_yLong H V hP (by omega) (pk_le (so_gl p c o P i 10) (so_mx (fun q => so_gl p c o P q 10) i) (fun z => nm_r (nI_1 i) ?_) (fun z => nm_r (nI_1 i) ?_)))
    · rw [if_pos z] at h
      exact h
    · rw [if_neg (by omega)] at h
      exact h
end
