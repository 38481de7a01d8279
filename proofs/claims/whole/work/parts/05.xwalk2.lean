section
variable {p c o : Nat → Nat} {aP aL aO : Nat → Int32}
theorem so_sb_le0 {p c o t : Nat} (h : t ≤ o) : so_sb p c o t = 0 := by
  have e : t - o = 0 := by omega
  have e2 : so_sb p c o t = so_sb p c 0 0 := by
    unfold so_sb
    rw [e]
  rw [e2]
  exact so_sb_0 p c 0
theorem so_xSb (H : so_ok p c o) (V : so_V p c o aP aL aO) {post : Int32 → Prop} {i t : Nat} (hi : i < 10) (ht : t < 2 ^ 31) (hp : post (nI (so_one p c o t i))) : wpX_slotsBefore post (aP, aL, aO) (nI i) (nI t) := by
  have hin := so_in hi
  unfold wpX_slotsBefore
  dsimp only
  by_cases z : 0 < p i
  · obtain ⟨b1, b2, b3, b4, b5⟩ := so_jb H hi z
    rw [so_one, if_pos z] at hp
    refine so_xJob1 H V hi z ?_
    rw [so_rP V hi, so_rL V hi z, so_rO V hi z]
    have hm := Nat.mod_lt (t - o i) z
    refine br_f (by decide) ⟨hin, pk_lt (o i) t (fun y => ⟨hin, hin, nI_ne0 z (by omega), nm_r (e' := nI ((t - o i) / p i)) ?_ ⟨hin, hin, nI_ne0 z (by omega), nm_r (e' := nI ((t - o i) % p i)) ?_ ⟨hin, hin, pk_le (c i) ((t - o i) % p i) (fun x => ⟨hin, ?_⟩) (fun x => ?_)⟩⟩⟩) (fun y => ?_)⟩
    · rw [pk_sub (by omega), pk_div (by omega) z (by omega)]
    · rw [pk_sub (by omega), pk_rem (by omega) z (by omega)]
    · rw [pk_mul, nI_add]
      rw [so_sb, if_neg (by omega)] at hp
      exact hp
    · rw [pk_mul, nI_add]
      rw [so_sb, if_pos x] at hp
      exact hp
    · rw [so_sb_le0 y] at hp
      exact hp
  · rw [so_one, if_neg z] at hp
    refine so_xJob0 H V ?_ (br_t rfl hp)
    rintro ⟨j, hj, hz, e⟩
    rw [nI_eq (by omega) (by omega)] at e
    subst e
    exact z hz
theorem so_xFr_l (H : so_ok p c o) (V : so_V p c o aP aL aO) {post : Int32 → Prop} {a b : Nat} (ha : a ≤ 1000000000) (hb : b ≤ 1000000000) (z : Int32) (hp : post (z - (nI (so_S p c o (b + 1)) - nI (so_S p c o a)))) : ∀ d i, i + d = 10 → wX_free_33 post (nI a) (nI b) aP aL aO (d + 1) (z - (nI (so_sum (so_one p c o (b + 1)) i) - nI (so_sum (so_one p c o a) i))) (nI i) := by
  intro d
  induction d with
  | zero =>
    intro i hi
    have e : i = 10 := by omega
    subst e
    exact pk_le 10 10 (fun _ => hp) (fun z => absurd z (by omega))
  | succ d ih =>
    intro i hi
    have hi10 : i < 10 := by omega
    have h := ih (i + 1) (by omega)
    rw [so_sum, so_sum, ← nI_add, ← nI_add] at h
    refine pk_le 10 i (fun z => absurd z (by omega)) (fun _ => ?_)
    rw [nI_1 b]
    refine so_xSb H V hi10 (by omega) (so_xSb H V hi10 (by omega) (nm_r ?_ (nm_r (nI_1 i) h)))
    generalize nI (so_sum (so_one p c o (b + 1)) i) = s1
    generalize nI (so_sum (so_one p c o a) i) = s2
    generalize nI (so_one p c o (b + 1) i) = s3
    generalize nI (so_one p c o a i) = s4
    grind
theorem so_xNb (H : so_ok p c o) (V : so_V p c o aP aL aO) {post : Int32 → Prop} {i t : Nat} (hi : i < 10) (z : 0 < p i) (ht : t < 2 ^ 31) (hp : post (nI (so_nb (p i) (o i) t))) : wpX_startsBefore post (aP, aL, aO) (nI i) (nI t) := by
  have hin := so_in hi
  obtain ⟨b1, b2, b3, b4, b5⟩ := so_jb H hi z
  unfold wpX_startsBefore
  dsimp only
  refine so_xJob1 H V hi z ?_
  rw [so_rP V hi, so_rO V hi z]
  refine br_f (by decide) ⟨hin, pk_lt (o i) t (fun y => ⟨hin, hin, nI_ne0 z (by omega), ?_⟩) (fun y => ?_)⟩
  · rw [pk_sub (by omega), show nI (t - o i) - 1 = nI (t - o i - 1) from pk_sub (b := 1) (by omega), pk_div (by omega) z (by omega), nI_1]
    rw [so_nb, if_neg (by omega)] at hp
    exact hp
  · rw [so_nb, if_pos y] at hp
    exact hp
theorem so_m6 {m : Nat} (h : m < 2 ^ 31) : ¬ nI m = -6 := fun e => nI_pos h (by rw [e]; decide)
theorem so_xNs_l (H : so_ok p c o) (V : so_V p c o aP aL aO) {post : Int32 → Prop} {t : Nat} (ht : t ≤ 1000000000) (hp : ∀ x, so_ns p o t 10 x → post x) : ∀ d i x, i + d = 10 → so_ns p o t i x → wX_nextStart_15 post (nI t) aP aL aO (d + 1) x (nI i) := by
  intro d
  induction d with
  | zero =>
    intro i x hi hx
    have e : i = 10 := by omega
    subst e
    exact pk_le 10 10 (fun _ => hp x hx) (fun z => absurd z (by omega))
  | succ d ih =>
    intro i x hi hx
    have hi10 : i < 10 := by omega
    have hin := so_in hi10
    have hb := so_pb H hi10
    refine pk_le 10 i (fun z => absurd z (by omega)) (fun _ => ⟨hin, pk_le (p i) 0 (fun z => nm_r (nI_1 i) (ih (i + 1) x (by omega) ?_)) (fun z => ?_) (so_rP V hi10)⟩)
    · rcases hx with ⟨h1, h2⟩ | ⟨m, h1, h2, ⟨j, h3, h4, h5⟩, h6⟩
      · exact Or.inl ⟨so_lo_s (f := fun i => 0 < p i) h1 (show ¬ 0 < p i by omega), h2⟩
      · refine Or.inr ⟨m, h1, h2, ⟨j, by omega, h4, h5⟩, fun k hk hpk => ?_⟩
        by_cases e : k = i
        · rw [e] at hpk; omega
        · exact h6 k (by omega) hpk
    · obtain ⟨b1, b2, b3, b4, b5⟩ := so_jb H hi10 z
      have N := so_nx_p (p := p i) (o := o i) (t := t) z (by omega) b5
      have N4 := N.2.2.2.1
      rw [so_rP V hi10, so_rO V hi10 z]
      refine ⟨hin, so_xNb H V hi10 z (by omega) ⟨hin, nm_r (e' := nI (so_nx (p i) (o i) t)) ?_ ?_⟩⟩
      · rw [pk_mul, nI_add]
        rfl
      · rcases hx with ⟨h1, h2⟩ | ⟨m, h1, h2, ⟨j, h3, h4, h5⟩, h6⟩
        · refine br_t h2 (nm_r (nI_1 i) (ih (i + 1) _ (by omega) (Or.inr ⟨_, rfl, N4, ⟨i, by omega, z, rfl⟩, fun k hk hpk => ?_⟩)))
          by_cases e : k = i
          · rw [e]; exact Nat.le_refl _
          · exact absurd hpk (h1 k (by omega))
        · subst h1
          refine br_f (so_m6 (by omega)) (pk_le m (so_nx (p i) (o i) t) (fun y => nm_r (nI_1 i) (ih (i + 1) _ (by omega) (Or.inr ⟨m, rfl, h2, ⟨j, by omega, h4, h5⟩, fun k hk hpk => ?_⟩))) (fun y => nm_r (nI_1 i) (ih (i + 1) _ (by omega) (Or.inr ⟨_, rfl, N4, ⟨i, by omega, z, rfl⟩, fun k hk hpk => ?_⟩))))
          · by_cases e : k = i
            · rw [e]; exact y
            · exact h6 k (by omega) hpk
          · by_cases e : k = i
            · rw [e]; exact Nat.le_refl _
            · have := h6 k (by omega) hpk
              omega
def so_mx (f : Nat → Nat) : Nat → Nat
  | 0 => 0
  | n + 1 => if f n ≤ so_mx f n then so_mx f n else f n
theorem so_mx_le {f : Nat → Nat} {B : Nat} (h : ∀ i, f i ≤ B) : ∀ n, so_mx f n ≤ B := by
  intro n
  induction n with
  | zero => exact Nat.zero_le _
  | succ n ih =>
    rw [so_mx]
    split
    · exact ih
    · exact h n
theorem so_gl_le (P q : Nat) : so_gl p c o P q 10 ≤ P := (so_gl_p (p := p) (c := c) (o := o) (P := P) (off := q) 10).1
theorem so_xRoom_l (H : so_ok p c o) (V : so_V p c o aP aL aO) {post : Int32 → Prop} {P : Nat} (hP : so_per P) (hp : post (nI (so_mx (fun q => so_gl p c o P q 10) P))) : ∀ d i, i + d = P → wX_room_13 post (nI P) aP aL aO (d + 1) (nI (so_mx (fun q => so_gl p c o P q 10) i)) (nI i) := by
  have hP2 := hP.2.1
  intro d
  induction d with
  | zero =>
    intro i hi
    have e : i = P := by omega
    subst e
    exact pk_le i i (fun _ => hp) (fun z => absurd z (by omega))
  | succ d ih =>
    intro i hi
    have hg := so_gl_le (p := p) (c := c) (o := o) P i
    have hx := so_mx_le (f := fun q => so_gl p c o P q 10) (B := P) (fun q => so_gl_le P q) i
    have h := ih (i + 1) (by omega)
    rw [so_mx] at h
    refine pk_le P i (fun z => absurd z (by omega)) (fun _ => so_xGl H V hP (by omega) (pk_le (so_gl p c o P i 10) (so_mx (fun q => so_gl p c o P q 10) i) (fun z => nm_r (nI_1 i) ?_) (fun z => nm_r (nI_1 i) ?_)))
    · rw [if_pos z] at h
      exact h
    · rw [if_neg (by omega)] at h
      exact h
theorem so_xLoad_l (H : so_ok p c o) (V : so_V p c o aP aL aO) {post : Int32 → Prop} (hp : post (nI (so_C p c))) : ∀ d i, i + d = 10 → wX_load_4 post aP aL aO (d + 1) (nI (so_sum (so_cy p c) i)) (nI i) := by
  intro d
  induction d with
  | zero =>
    intro i hi
    have e : i = 10 := by omega
    subst e
    exact pk_le 10 10 (fun _ => hp) (fun z => absurd z (by omega))
  | succ d ih =>
    intro i hi
    have hi10 : i < 10 := by omega
    have hin := so_in hi10
    have hb := so_pb H hi10
    have h := ih (i + 1) (by omega)
    rw [so_sum, so_cy] at h
    refine pk_le 10 i (fun z => absurd z (by omega)) (fun _ => ⟨hin, pk_le (p i) 0 (fun z => nm_r (nI_1 i) ?_) (fun z => ?_) (so_rP V hi10)⟩)
    · rw [if_neg (by omega)] at h
      exact h
    · rw [if_pos z] at h
      rw [so_rP V hi10, so_rL V hi10 z]
      refine ⟨hin, nI_ne0 z (by omega), hin, nm_r ?_ (nm_r (nI_1 i) h)⟩
      rw [show (360 : Int32) / nI (p i) = nI (360 / p i) from pk_div (by decide) z (by omega), pk_mul, nI_add]
end
