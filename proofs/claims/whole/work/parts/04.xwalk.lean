section
variable {p c o : Nat → Nat} {aP aL aO : Nat → Int32}
theorem so_xFree_l (H : so_ok p c o) (V : so_V p c o aP aL aO) {post : Int32 → Prop} {w : Nat} (hw : so_F (fun i => p i = 0) 10 w) (hp : post (nI w)) : ∀ d i, i + d = 10 → (∀ j, j < i → ¬ p j = 0) → wX_smallestFreeId_2 post aP aL aO (d + 1) (nI i) := by
  intro d
  induction d with
  | zero =>
    intro i hi lo
    have e : i = 10 := by omega
    subst e
    have e : w = 10 := so_F_end hw lo
    subst e
    exact pk_le 10 10 (fun _ => hp) (fun z => absurd z (by omega))
  | succ d ih =>
    intro i hi lo
    have hi10 : i < 10 := by omega
    have hb := so_pb H hi10
    refine pk_le 10 i (fun z => absurd z (by omega)) (fun _ => ⟨so_in hi10, pk_eq (p i) 0 (fun z => ?_) (fun z => nm_r (nI_1 i) (ih (i + 1) (by omega) (so_lo_s (f := fun i => p i = 0) lo z))) (so_rP V hi10)⟩)
    have e : w = i := so_F_hit hw hi10 lo z
    rw [← e]
    exact hp
theorem so_xFree (H : so_ok p c o) (V : so_V p c o aP aL aO) {post : Int32 → Prop} {w : Nat} (hw : so_F (fun i => p i = 0) 10 w) (hp : post (nI w)) : wpX_smallestFreeId post (aP, aL, aO) :=
  ⟨11, so_xFree_l H V hw hp 10 0 rfl so_lo_0⟩
theorem so_xGcd_l {post : Int32 → Prop} : ∀ n a b s, b < n → a < 2 ^ 31 → b + s ≤ 360 → post (nI (Nat.gcd a b)) → wX_commonDivisor_7 post n (nI a) (nI b) (nI s) := by
  intro n
  induction n with
  | zero => intro a b s h; exact absurd h (Nat.not_lt_zero b)
  | succ n ih =>
    intro a b s h1 h2 h3 hp
    refine pk_lt 360 s (fun z => absurd z (by omega)) (fun _ => pk_le b 0 (fun z => ?_) (fun z => ⟨nI_ne0 z (by omega), nm_r (pk_rem h2 z (by omega)) (nm_r (nI_1 s) (ih b (a % b) (s + 1) ?_ (by omega) ?_ ?_))⟩))
    · have e : b = 0 := by omega
      rw [e, Nat.gcd_zero_right] at hp
      exact hp
    · have := Nat.mod_lt a z
      omega
    · have := Nat.mod_lt a z
      omega
    · have e : Nat.gcd a b = Nat.gcd b (a % b) := (Nat.gcd_comm a b).trans ((Nat.gcd_rec b a).trans (Nat.gcd_comm _ _))
      rw [← e]
      exact hp
theorem so_xGcd {post : Int32 → Prop} {a b : Nat} (ha : a < 2 ^ 31) (hb : b ≤ 360) (hp : post (nI (Nat.gcd a b))) : wpX_commonDivisor post (nI a) (nI b) :=
  ⟨b + 1, so_xGcd_l (b + 1) a b 0 (by omega) ha (by omega) hp⟩
theorem so_sm_le (g c D : Nat) : so_sm g c D ≤ g := by
  unfold so_sm
  split <;> omega
theorem so_xMeet (H : so_ok p c o) (V : so_V p c o aP aL aO) {post : Int32 → Prop} {i P off : Nat} (hi : i < 10) (hpi : 0 < p i) (hP : so_per P) (ho : off < P) (hp : post (nI (so_sm (Nat.gcd P (p i)) (c i) (off + 360 - o i)))) : wpX_slotsUntilMeeting post (aP, aL, aO) (nI i) (nI P) (nI off) := by
  obtain ⟨b1, b2, b3, b4, b5⟩ := so_jb H hi hpi
  have hP2 := hP.2.1
  have hP1 := hP.1
  have eP := so_rP V hi
  have eL := so_rL V hi hpi
  have eO := so_rO V hi hpi
  have hin := so_in hi
  unfold wpX_slotsUntilMeeting
  dsimp only
  rw [eP, eL, eO]
  have hg : 0 < Nat.gcd P (p i) := Nat.gcd_pos_of_pos_left _ (by omega)
  have hg2 : Nat.gcd P (p i) ≤ P := Nat.gcd_le_left _ (by omega)
  have hm : (off + 360 - o i) % Nat.gcd P (p i) < Nat.gcd P (p i) := Nat.mod_lt _ hg
  have e1 : nI off + 360 - nI (o i) = nI (off + 360 - o i) := by
    rw [show nI off + 360 = nI (off + 360) from nI_add off 360]
    exact pk_sub (by omega)
  have e2 : nI off + 360 - nI (o i) - (nI off + 360 - nI (o i)) / nI (Nat.gcd P (p i)) * nI (Nat.gcd P (p i)) = nI ((off + 360 - o i) % Nat.gcd P (p i)) := by
    rw [e1]
    exact pk_rem (by omega) hg (by omega)
  refine ⟨hin, so_xGcd (by omega) (by omega) ?_⟩
  generalize Nat.gcd P (p i) = g at *
  refine pk_le 1 g (fun _ => ⟨hin, nI_ne0 hg (by omega), nm_r e2 ⟨hin, pk_le (c i) ((off + 360 - o i) % g) (fun z => ?_) (fun z => ?_)⟩⟩) (fun z => absurd z (by omega))
  · rw [pk_sub (by omega)]
    rw [so_sm, if_neg (by omega)] at hp
    exact hp
  · rw [so_sm, if_pos z] at hp
    exact hp
theorem so_xGl_l (H : so_ok p c o) (V : so_V p c o aP aL aO) {post : Int32 → Prop} {P off : Nat} (hP : so_per P) (ho : off < P) (hp : post (nI (so_gl p c o P off 10))) : ∀ d i, i + d = 10 → wX_greatestLengthAt_5 post (nI P) (nI off) aP aL aO (d + 1) (nI (so_gl p c o P off i)) (nI i) := by
  intro d
  induction d with
  | zero =>
    intro i hi
    have e : i = 10 := by omega
    subst e
    exact pk_le 10 10 (fun _ => hp) (fun z => absurd z (by omega))
  | succ d ih =>
    intro i hi
    have hi10 : i < 10 := by omega
    have hb := so_pb H hi10
    have hP2 := hP.2.1
    have hP1 := hP.1
    have hl := (so_gl_p (p := p) (c := c) (o := o) (P := P) (off := off) i).1
    have hs := so_sm_le (Nat.gcd P (p i)) (c i) (off + 360 - o i)
    have hg2 : Nat.gcd P (p i) ≤ P := Nat.gcd_le_left _ (by omega)
    have h := ih (i + 1) (by omega)
    rw [so_gl] at h
    refine pk_le 10 i (fun z => absurd z (by omega)) (fun _ => ⟨so_in hi10, pk_le (p i) 0 (fun z => nm_r (nI_1 i) ?_) (fun z => so_xMeet H V hi10 z hP ho (pk_le (so_gl p c o P off i) (so_sm (Nat.gcd P (p i)) (c i) (off + 360 - o i)) (fun y => nm_r (nI_1 i) ?_) (fun y => nm_r (nI_1 i) ?_))) (so_rP V hi10)⟩)
    · rw [if_neg (by omega)] at h
      exact h
    · rw [if_pos z, if_neg (by omega)] at h
      exact h
    · rw [if_pos z, if_pos y] at h
      exact h
theorem so_xGl (H : so_ok p c o) (V : so_V p c o aP aL aO) {post : Int32 → Prop} {P off : Nat} (hP : so_per P) (ho : off < P) (hp : post (nI (so_gl p c o P off 10))) : wpX_greatestLengthAt post (aP, aL, aO) (nI P) (nI off) :=
  ⟨11, so_xGl_l H V hP ho hp 10 0 rfl⟩
theorem so_xPlace {post : Int32 → SX → Prop} {w : Nat} (hw : w < 10) {x y z : Int32} (hp : post (nI w) (upd aP w x, upd aL w y, upd aO w z)) : wpX_place post (aP, aL, aO) (nI w) x y z := by
  have e : (nI w).toNatClampNeg = w := nI_clamp (by omega)
  unfold wpX_place
  dsimp only
  rw [e]
  exact ⟨so_in hw, nm_e ⟨so_in hw, nm_e ⟨so_in hw, nm_e hp⟩⟩⟩
theorem so_xAdm_l (H : so_ok p c o) (V : so_V p c o aP aL aO) {post : Int32 → SX → Prop} {P l m w : Nat} (hP : so_per P) (hl : l ≤ P) (hw : w < 10) (hm : so_F (fun q => l ≤ so_gl p c o P q 10) P m) (h1 : m < P → post (nI w) (upd aP w (nI P), upd aL w (nI l), upd aO w (nI m))) (h2 : m = P → post (-5) (aP, aL, aO)) : ∀ d i, i + d = P → (∀ j, j < i → ¬ l ≤ so_gl p c o P j 10) → wX_admit_31 post (nI P) (nI l) (nI w) aP aL aO (d + 1) (nI i) := by
  have hP2 := hP.2.1
  intro d
  induction d with
  | zero =>
    intro i hi lo
    have e : i = P := by omega
    subst e
    exact pk_le i i (fun _ => h2 (so_F_end hm lo)) (fun z => absurd z (by omega))
  | succ d ih =>
    intro i hi lo
    have hg := (so_gl_p (p := p) (c := c) (o := o) (P := P) (off := i) 10).1
    refine pk_le P i (fun z => absurd z (by omega)) (fun _ => so_xGl H V hP (by omega) (pk_lt (so_gl p c o P i 10) l (fun z => nm_r (nI_1 i) (ih (i + 1) (by omega) (so_lo_s (f := fun q => l ≤ so_gl p c o P q 10) lo (show ¬ l ≤ so_gl p c o P i 10 by omega)))) (fun z => so_xPlace hw ?_)))
    have e : m = i := so_F_hit hm (by omega) lo z
    subst e
    exact h1 (by omega)
theorem so_xCt_l (H : so_ok p c o) (V : so_V p c o aP aL aO) {post : Int32 → Prop} (hp : post (nI (so_ct p 10))) : ∀ d i, i + d = 10 → wX_countJobs_4 post aP aL aO (d + 1) (nI (so_ct p i)) (nI i) := by
  intro d
  induction d with
  | zero =>
    intro i hi
    have e : i = 10 := by omega
    subst e
    exact pk_le 10 10 (fun _ => hp) (fun z => absurd z (by omega))
  | succ d ih =>
    intro i hi
    have hi10 : i < 10 := by omega
    have hb := so_pb H hi10
    have h := ih (i + 1) (by omega)
    rw [so_ct] at h
    refine pk_le 10 i (fun z => absurd z (by omega)) (fun _ => ⟨so_in hi10, pk_le (p i) 0 (fun z => nm_r (nI_1 i) ?_) (fun z => nm_r (nI_1 _) (nm_r (nI_1 i) ?_)) (so_rP V hi10)⟩)
    · rw [if_neg (by omega)] at h
      exact h
    · rw [if_pos z] at h
      exact h
theorem so_xCt (H : so_ok p c o) (V : so_V p c o aP aL aO) {post : Int32 → Prop} (hp : post (nI (so_ct p 10))) : wpX_countJobs post (aP, aL, aO) :=
  ⟨11, so_xCt_l H V hp 10 0 rfl⟩
theorem so_xRun_l (H : so_ok p c o) (V : so_V p c o aP aL aO) {post : Int32 → Prop} {t w : Nat} (ht : t ≤ 1000000000) (hw : so_F (fun i => so_hit p c o i t) 10 w) (h1 : w < 10 → post (nI w)) (h2 : w = 10 → post (-6)) : ∀ d i, i + d = 10 → (∀ j, j < i → ¬ so_hit p c o j t) → wX_running_12 post (nI t) aP aL aO (d + 1) (nI i) := by
  intro d
  induction d with
  | zero =>
    intro i hi lo
    have e : i = 10 := by omega
    subst e
    exact pk_le 10 10 (fun _ => h2 (so_F_end hw lo)) (fun z => absurd z (by omega))
  | succ d ih =>
    intro i hi lo
    have hi10 : i < 10 := by omega
    have hin := so_in hi10
    have hb := so_pb H hi10
    have next : ¬ so_hit p c o i t → wX_running_12 post (nI t) aP aL aO (d + 1) (nI (i + 1)) := fun z => ih (i + 1) (by omega) (so_lo_s (f := fun i => so_hit p c o i t) lo z)
    refine pk_le 10 i (fun z => absurd z (by omega)) (fun _ => ⟨hin, pk_le (p i) 0 (fun z => nm_r (nI_1 i) (next (fun y => absurd y.1 (by omega)))) (fun z => ?_) (so_rP V hi10)⟩)
    obtain ⟨b1, b2, b3, b4, b5⟩ := so_jb H hi10 z
    rw [so_rP V hi10, so_rL V hi10 z, so_rO V hi10 z]
    refine ⟨hin, pk_lt t (o i) (fun y => nm_r (nI_1 i) (next (fun x => absurd x.2.1 (by omega)))) (fun y => ⟨hin, hin, nI_ne0 z (by omega), hin, ?_⟩)⟩
    rw [pk_sub y, pk_rem (by omega) z (by omega)]
    have hm := Nat.mod_lt (t - o i) z
    refine pk_le (c i) ((t - o i) % p i) (fun x => nm_r (nI_1 i) (next (fun v => absurd v.2.2 (by omega)))) (fun x => ?_)
    have e : w = i := so_F_hit hw hi10 lo ⟨z, y, x⟩
    subst e
    exact h1 hi10
theorem so_xRun (H : so_ok p c o) (V : so_V p c o aP aL aO) {post : Int32 → Prop} {t w : Nat} (ht : t ≤ 1000000000) (hw : so_F (fun i => so_hit p c o i t) 10 w) (h1 : w < 10 → post (nI w)) (h2 : w = 10 → post (-6)) : wpX_running post (aP, aL, aO) (nI t) := by
  unfold wpX_running
  dsimp only
  refine so_xTime1 ht ?_
  exact br_f (by decide) ⟨11, so_xRun_l H V ht hw h1 h2 10 0 rfl so_lo_0⟩
end
