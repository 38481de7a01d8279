section
variable {p c o : Nat → Nat} {aP aL aO : Nat → Int32}
theorem so_yHit (H : so_ok p c o) (V : so_V p c o aP aL aO) {post : Int32 → Prop} {i t : Nat} (hi : i < 10) (ht : t ≤ 1000000000) (h1 : so_hit p c o i t → post 1) (h0 : ¬ so_hit p c o i t → post 0) : wpY_runs post (aP, aL, aO) (nI i) (nI t) := by
  have hin := so_in hi
  have hb := so_pb H hi
  refine ⟨hin, nm_r (so_rP V hi) (pk_eq (p i) 0 (fun z => h0 (fun y => absurd y.1 (by omega))) (fun z => ?_))⟩
  have z' : 0 < p i := by omega
  obtain ⟨b1, b2, b3, b4, b5⟩ := so_jb H hi z'
  rw [so_rL V hi z', so_rO V hi z']
  refine ⟨hin, pk_le (o i) t (fun y => ⟨hin, nI_ne0 z' (by omega), hin, ?_⟩) (fun y => h0 (fun x => absurd x.2.1 (by omega)))⟩
  rw [pk_sub y, pk_rem (by omega) z' (by omega)]
  have hm := Nat.mod_lt (t - o i) z'
  exact pk_le (c i) ((t - o i) % p i) (fun x => h0 (fun v => absurd v.2.2 (by omega))) (fun x => h1 ⟨z', y, x⟩)
theorem so_yRun_l (H : so_ok p c o) (V : so_V p c o aP aL aO) {post : Int32 → Prop} {t w : Nat} (ht : t ≤ 1000000000) (hw : so_F (fun i => so_hit p c o i t) 10 w) (h1 : w < 10 → post (nI w)) (h2 : w = 10 → post (-6)) : ∀ d i, i + d = 10 → (∀ j, j < i → ¬ so_hit p c o j t) → wY_running_13 post (nI t) aP aL aO (d + 1) (nI i) := by
  intro d
  induction d with
  | zero =>
    intro i hi lo
    have e : i = 10 := by omega
    subst e
    exact pk_le 10 10 (fun _ => h2 (so_F_end hw lo)) (fun z => absurd z (by omega))
  | succ d ih =>
    intro i hi lo
    have hi10 : i < 10 := by omega
    refine pk_le 10 i (fun z => absurd z (by omega)) (fun _ => so_yHit H V hi10 ht (fun z => br_f (by decide) ?_) (fun z => br_t rfl (nm_r (nI_1 i) (ih (i + 1) (by omega) (so_lo_s (f := fun i => so_hit p c o i t) lo z)))))
    have e : w = i := so_F_hit hw hi10 lo z
    subst e
    exact h1 hi10
theorem so_yRun (H : so_ok p c o) (V : so_V p c o aP aL aO) {post : Int32 → Prop} {t w : Nat} (ht : t ≤ 1000000000) (hw : so_F (fun i => so_hit p c o i t) 10 w) (h1 : w < 10 → post (nI w)) (h2 : w = 10 → post (-6)) : wpY_running post (aP, aL, aO) (nI t) := by
  unfold wpY_running
  dsimp only
  refine so_yTime1 ht ?_
  exact br_t rfl ⟨11, so_yRun_l H V ht hw h1 h2 10 0 rfl so_lo_0⟩
/-- running compared with NO_JOB -/
theorem so_yFree (H : so_ok p c o) (V : so_V p c o aP aL aO) {A B : Prop} {t w : Nat} (ht : t ≤ 1000000000) (hw : so_F (fun i => so_hit p c o i t) 10 w) (h1 : w < 10 → B) (h2 : w = 10 → A) : wpY_running (fun r => (r = (-6) → A) ∧ (¬ r = (-6) → B)) (aP, aL, aO) (nI t) :=
  so_yRun H V ht hw (fun z => br_f (so_m6 (by omega)) (h1 z)) (fun z => br_t rfl (h2 z))
theorem so_yL0 {post : Int32 → Prop} {J5 : Int32 → Int32 → Prop} {n i : Nat} {x1 x2 x3 : Int32} (x6 : Int32) (h : J5 x3 (nI (i + 1))) : wY_longest_30 post J5 x1 x2 x3 (nI i) aP aL aO (n + 1) 0 x6 :=
  br_c (fun _ => br_t rfl (nm_r (nI_1 i) h)) (fun _ => br_t rfl (br_t rfl (nm_r (nI_1 i) h)))
theorem so_yL1 (H : so_ok p c o) (V : so_V p c o aP aL aO) {post : Int32 → Prop} {J5 : Int32 → Int32 → Prop} {P off i : Nat} (hP : so_per P) (ho : off < P) (hi : i < P) (hf : ¬ so_blk p c o P off i → J5 (nI (i + 1)) (nI (i + 1))) (hb : so_blk p c o P off i → J5 (nI i) (nI (i + 1))) :
    ∀ d k, k + d = 360 / P → (∀ k', k' < k → ¬ ∃ j, j < 10 ∧ so_hit p c o j (360 + (off + i + k' * P))) → wY_longest_30 post J5 (nI P) (nI off) (nI i) (nI i) aP aL aO (d + 2) 1 (nI (off + i + k * P)) := by
  have hP2 := hP.2.1
  have e360 : 360 / P * P = 360 := by rw [Nat.mul_comm]; exact so_360 hP
  have e1 : nI off + nI i + 360 = nI (off + i + 360) := by
    rw [nI_add]
    exact nI_add (off + i) 360
  intro d
  induction d with
  | zero =>
    intro k hk lo
    have e : k = 360 / P := by omega
    rw [e, e360]
    refine pk_le (off + i + 360) (off + i + 360) (fun _ => br_f (by decide) (nm_r (nI_1 i) (nm_r (nI_1 i) (hf ?_)))) (fun z => absurd z (by omega)) e1
    rintro ⟨k', hk', z⟩
    exact lo k' (by omega) z
  | succ d ih =>
    intro k hk lo
    have hk1 : (k + 1) * P ≤ 360 / P * P := Nat.mul_le_mul_right P (by omega)
    rw [e360, Nat.add_mul] at hk1
    have hP1 := hP.1
    obtain ⟨w, hw⟩ := so_F_ex (fun j => so_hit p c o j (360 + (off + i + k * P))) 10
    have e2 : nI (off + i + k * P) + nI P = nI (off + i + (k + 1) * P) := by
      rw [nI_add, Nat.add_mul, Nat.one_mul, Nat.add_assoc (off + i)]
    refine pk_le (off + i + 360) (off + i + k * P) (fun z => absurd z (by omega)) (fun _ => br_f (by decide) ?_) e1
    rw [show (360 : Int32) + nI (off + i + k * P) = nI (360 + (off + i + k * P)) from nI_add 360 _]
    refine so_yFree H V (by omega) hw (fun z => nm_r e2 (so_yL0 _ (hb ⟨k, by omega, w, z, hw.2.2 z⟩))) (fun z => nm_r e2 (ih (k + 1) (by omega) (so_lo_s (f := fun k => ∃ j, j < 10 ∧ so_hit p c o j (360 + (off + i + k * P))) lo ?_)))
    rintro ⟨j, hj, y⟩
    exact hw.2.1 j (by omega) y
theorem so_yLong_l (H : so_ok p c o) (V : so_V p c o aP aL aO) {post : Int32 → Prop} {P off m : Nat} (hP : so_per P) (ho : off < P) (hm : so_F (so_blk p c o P off) P m) (hp : post (nI m)) : ∀ d i, i + d = P → wY_longest_5 post (nI P) (nI off) aP aL aO (d + 1) (nI (min i m)) (nI i) := by
  have hP2 := hP.2.1
  obtain ⟨m1, m2, m3⟩ := hm
  intro d
  induction d with
  | zero =>
    intro i hi
    have e : i = P := by omega
    subst e
    have e2 : min i m = m := by omega
    rw [e2]
    exact pk_le i i (fun _ => hp) (fun z => absurd z (by omega))
  | succ d ih =>
    intro i hi
    have h := ih (i + 1) (by omega)
    refine pk_le P i (fun z => absurd z (by omega)) (fun _ => pk_eq (min i m) i (fun z => nm_r (nI_add off i) ⟨360 / P + 2, ?_⟩) (fun z => nm_r (nI_add off i) ⟨1, ?_⟩))
    · have g := so_yL1 (post := post) (J5 := wY_longest_5 post (nI P) (nI off) aP aL aO (d + 1)) H V (P := P) (off := off) (i := i) hP ho (by omega) (fun nb => by
        have e : min (i + 1) m = i + 1 := by
          by_cases e : i = m
          · subst e
            exact absurd (m3 (by omega)) nb
          · omega
        rw [e] at h
        exact h) (fun b => by
        have e : min (i + 1) m = i := by
          by_cases e : i < m
          · exact absurd b (m2 i e)
          · omega
        rw [e] at h
        exact h) (360 / P) 0 (by omega) (fun k' hk' => absurd hk' (Nat.not_lt_zero k'))
      rw [Nat.zero_mul, Nat.add_zero] at g
      rw [z]
      exact g
    · have e : min (i + 1) m = min i m := by omega
      rw [e] at h
      exact so_yL0 _ h
theorem so_yLong (H : so_ok p c o) (V : so_V p c o aP aL aO) {post : Int32 → Prop} {P off : Nat} (hP : so_per P) (ho : off < P) (hp : post (nI (so_gl p c o P off 10))) : wpY_longest post (aP, aL, aO) (nI P) (nI off) := by
  have h := so_yLong_l H V hP ho (so_gl_F H hP off) hp P 0 (by omega)
  have e : min 0 (so_gl p c o P off 10) = 0 := by omega
  rw [e] at h
  exact ⟨P + 1, h⟩
theorem so_yCt_l (H : so_ok p c o) (V : so_V p c o aP aL aO) {post : Int32 → Prop} (hp : post (nI (so_ct p 10))) : ∀ d i, i + d = 10 → wY_count_4 post aP aL aO (d + 1) (nI (so_ct p i)) (nI i) := by
  intro d
  induction d with
  | zero =>
    intro i hi
    have e : i = 10 := by omega
    subst e
    exact pk_le 10 10 (fun _ => hp) (fun z => absurd z (by omega))
  | succ d ih =>
    intro i hi
    have hi10 : i < 10 := by omega
    have hb := so_pb H hi10
    have h := ih (i + 1) (by omega)
    rw [so_ct] at h
    refine pk_le 10 i (fun z => absurd z (by omega)) (fun _ => ⟨so_in hi10, pk_eq (p i) 0 (fun z => nm_r (nI_1 i) ?_) (fun z => nm_r (nI_1 _) (nm_r (nI_1 i) ?_)) (so_rP V hi10)⟩)
    · rw [if_neg (by omega)] at h
      exact h
    · rw [if_pos (by omega)] at h
      exact h
theorem so_yCt (H : so_ok p c o) (V : so_V p c o aP aL aO) {post : Int32 → Prop} (hp : post (nI (so_ct p 10))) : wpY_count post (aP, aL, aO) :=
  ⟨11, so_yCt_l H V hp 10 0 rfl⟩
theorem so_yTake_l (H : so_ok p c o) (V : so_V p c o aP aL aO) {post : Int32 → SY → Prop} {w : Nat} {x y z : Int32} (hw : so_F (fun i => p i = 0) 10 w) (hw10 : w < 10) (hp : post (nI w) (upd aP w x, upd aL w y, upd aO w z)) : ∀ d i, i + d = 10 → (∀ j, j < i → ¬ p j = 0) → wY_take_3 post x y z aP aL aO (d + 1) (nI i) := by
  intro d
  induction d with
  | zero =>
    intro i hi lo
    have e : i = 10 := by omega
    subst e
    have e : w = 10 := so_F_end hw lo
    omega
  | succ d ih =>
    intro i hi lo
    have hi10 : i < 10 := by omega
    have hin := so_in hi10
    have hb := so_pb H hi10
    refine pk_le 10 i (fun z => absurd z (by omega)) (fun _ => ⟨so_in hi10, pk_eq (p i) 0 (fun z => ?_) (fun z => nm_r (nI_1 i) (ih (i + 1) (by omega) (so_lo_s (f := fun i => p i = 0) lo z))) (so_rP V hi10)⟩)
    have e : w = i := so_F_hit hw hi10 lo z
    subst e
    have e : (nI w).toNatClampNeg = w := nI_clamp (by omega)
    rw [e]
    exact ⟨hin, nm_e ⟨hin, nm_e ⟨hin, nm_e hp⟩⟩⟩
theorem so_yTake (H : so_ok p c o) (V : so_V p c o aP aL aO) {post : Int32 → SY → Prop} {w : Nat} {x y z : Int32} (hw : so_F (fun i => p i = 0) 10 w) (hw10 : w < 10) (hp : post (nI w) (upd aP w x, upd aL w y, upd aO w z)) : wpY_take post (aP, aL, aO) x y z :=
  ⟨11, so_yTake_l H V hw hw10 hp 10 0 rfl so_lo_0⟩
theorem so_yAdm_l (H : so_ok p c o) (V : so_V p c o aP aL aO) {post : Int32 → SY → Prop} {P l m w : Nat} (hP : so_per P) (hl : l ≤ P) (hw : so_F (fun i => p i = 0) 10 w) (hw10 : w < 10) (hm : so_F (fun q => l ≤ so_gl p c o P q 10) P m) (h1 : m < P → post (nI w) (upd aP w (nI P), upd aL w (nI l), upd aO w (nI m))) (h2 : m = P → post (-5) (aP, aL, aO)) : ∀ d i, i + d = P → (∀ j, j < i → ¬ l ≤ so_gl p c o P j 10) → wY_admit_37 post (nI P) (nI l) aP aL aO (d + 1) (nI i) := by
  have hP2 := hP.2.1
  intro d
  induction d with
  | zero =>
    intro i hi lo
    have e : i = P := by omega
    subst e
    exact pk_le i i (fun _ => h2 (so_F_end hm lo)) (fun z => absurd z (by omega))
  | succ d ih =>
    intro i hi lo
    have hg := so_gl_le (p := p) (c := c) (o := o) P i
    refine pk_le P i (fun z => absurd z (by omega)) (fun _ => so_yLong H V hP (by omega) (pk_lt (so_gl p c o P i 10) l (fun z => nm_r (nI_1 i) (ih (i + 1) (by omega) (so_lo_s (f := fun q => l ≤ so_gl p c o P q 10) lo (show ¬ l ≤ so_gl p c o P i 10 by omega)))) (fun z => so_yTake H V hw hw10 ?_)))
    have e : m = i := so_F_hit hm (by omega) lo z
    subst e
    exact h1 (by omega)
end
