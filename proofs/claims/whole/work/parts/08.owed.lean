/-- one picture for both -/
def i_Rel (_ : Nat) (u : SX) (v : SY) : Prop := ∃ p c o : Nat → Nat, so_ok p c o ∧ so_V p c o u.1 u.2.1 u.2.2 ∧ so_V p c o v.1 v.2.1 v.2.2
theorem i_up {k : Nat} {u : SX} {v : SY} (h : i_Rel k u v) : i_Rel (k + 4) u v := h
theorem i_vc0 : wpX_init (fun u => wpY_init (fun v => i_Rel 0 u v)) :=
  ⟨fun _ => 0, fun _ => 0, fun _ => 0, ⟨fun _ _ => Or.inl rfl, fun _ _ _ _ _ _ a _ => absurd a.1 (Nat.lt_irrefl 0)⟩,
    fun _ _ => ⟨rfl, fun z => absurd z (Nat.lt_irrefl 0)⟩, fun _ _ => ⟨rfl, fun z => absurd z (Nat.lt_irrefl 0)⟩⟩
theorem i_vc_running {k : Nat} {u : SX} {v : SY} (I : i_Rel k u v) (hk : k + 4 ≤ 2048) (v1 : Int32) : wpX_running (fun r => wpY_running (fun r' => r' = r ∧ i_Rel (k + 4) u v) v v1) u v1 := by
  obtain ⟨aP, aL, aO⟩ := u
  obtain ⟨bP, bL, bO⟩ := v
  obtain ⟨p, c, o, H, VX, VY⟩ := I
  dsimp only at VX VY
  have R : i_Rel (k + 4) (aP, aL, aO) (bP, bL, bO) := ⟨p, c, o, H, VX, VY⟩
  by_cases ht : ∃ t, t ≤ 1000000000 ∧ v1 = nI t
  · obtain ⟨t, ht, rfl⟩ := ht
    obtain ⟨w, hw⟩ := so_F_ex (fun i => so_hit p c o i t) 10
    exact so_xRun H VX ht hw (fun z => so_yRun H VY ht hw (fun _ => ⟨rfl, R⟩) (fun y => absurd y (by omega))) (fun z => so_yRun H VY ht hw (fun y => absurd y (by omega)) (fun _ => ⟨rfl, R⟩))
  · unfold wpX_running
    dsimp only
    refine so_xTime0 ht (br_t rfl ?_)
    unfold wpY_running
    dsimp only
    exact so_yTime0 ht (br_f (by decide) ⟨rfl, R⟩)
theorem i_vc_offset {k : Nat} {u : SX} {v : SY} (I : i_Rel k u v) (hk : k + 4 ≤ 2048) (v1 : Int32) : wpX_offset (fun r => wpY_offset (fun r' => r' = r ∧ i_Rel (k + 4) u v) v v1) u v1 := by
  obtain ⟨aP, aL, aO⟩ := u
  obtain ⟨bP, bL, bO⟩ := v
  obtain ⟨p, c, o, H, VX, VY⟩ := I
  dsimp only at VX VY
  have R : i_Rel (k + 4) (aP, aL, aO) (bP, bL, bO) := ⟨p, c, o, H, VX, VY⟩
  by_cases hj : ∃ j, j < 10 ∧ 0 < p j ∧ v1 = nI j
  · obtain ⟨j, hj, hp, rfl⟩ := hj
    unfold wpX_offset
    dsimp only
    refine so_xJob1 H VX hj hp (br_f (by decide) ⟨so_in hj, ?_⟩)
    unfold wpY_offset
    dsimp only
    refine so_yJob1 H VY hj hp (br_t rfl ⟨so_in hj, ?_, R⟩)
    rw [so_rO VX hj hp, so_rO VY hj hp]
  · unfold wpX_offset
    dsimp only
    refine so_xJob0 H VX hj (br_t rfl ?_)
    unfold wpY_offset
    dsimp only
    exact so_yJob0 H VY hj (br_f (by decide) ⟨rfl, R⟩)
theorem i_vc_remove {k : Nat} {u : SX} {v : SY} (I : i_Rel k u v) (hk : k + 4 ≤ 2048) (v1 : Int32) : wpX_remove (fun r u' => wpY_remove (fun r' v' => r' = r ∧ i_Rel (k + 4) u' v') v v1) u v1 := by
  obtain ⟨aP, aL, aO⟩ := u
  obtain ⟨bP, bL, bO⟩ := v
  obtain ⟨p, c, o, H, VX, VY⟩ := I
  dsimp only at VX VY
  have R : i_Rel (k + 4) (aP, aL, aO) (bP, bL, bO) := ⟨p, c, o, H, VX, VY⟩
  by_cases hj : ∃ j, j < 10 ∧ 0 < p j ∧ v1 = nI j
  · obtain ⟨j, hj, hp, rfl⟩ := hj
    have ej : (nI j).toNatClampNeg = j := nI_clamp (by omega)
    have hin := so_in hj
    have H' := so_rem H j
    have VX' := so_V_remX VX j
    have VY' := so_V_remY VY j
    unfold wpX_remove
    dsimp only
    refine so_xJob1 H VX hj hp ?_
    rw [ej]
    refine br_f (by decide) ⟨hin, nm_e ⟨hin, nm_e ⟨hin, nm_e (so_xCt H' VX' ?_)⟩⟩⟩
    unfold wpY_remove
    dsimp only
    rw [ej]
    exact so_yJob1 H VY hj hp (br_t rfl ⟨hin, nm_e (so_yCt H' VY' ⟨rfl, so_set p j 0, c, o, H', VX', VY'⟩)⟩)
  · unfold wpX_remove
    dsimp only
    refine so_xJob0 H VX hj (br_t rfl ?_)
    unfold wpY_remove
    dsimp only
    exact so_yJob0 H VY hj (br_f (by decide) ⟨rfl, R⟩)
theorem i_vc_load {k : Nat} {u : SX} {v : SY} (I : i_Rel k u v) (hk : k + 4 ≤ 2048) : wpX_load (fun r => wpY_load (fun r' => r' = r ∧ i_Rel (k + 4) u v) v) u := by
  obtain ⟨aP, aL, aO⟩ := u
  obtain ⟨bP, bL, bO⟩ := v
  obtain ⟨p, c, o, H, VX, VY⟩ := I
  dsimp only at VX VY
  have R : i_Rel (k + 4) (aP, aL, aO) (bP, bL, bO) := ⟨p, c, o, H, VX, VY⟩
  refine ⟨11, so_xLoad_l H VX ?_ 10 0 rfl⟩
  have h := so_yLoad_l H VY (post := fun r' => r' = nI (so_C p c) ∧ i_Rel (k + 4) (aP, aL, aO) (bP, bL, bO)) ⟨rfl, R⟩ 360 360 rfl (Nat.le_refl _)
  rw [Nat.sub_self] at h
  exact ⟨361, h⟩
theorem i_vc_room {k : Nat} {u : SX} {v : SY} (I : i_Rel k u v) (hk : k + 4 ≤ 2048) (v1 : Int32) : wpX_room (fun r => wpY_room (fun r' => r' = r ∧ i_Rel (k + 4) u v) v v1) u v1 := by
  obtain ⟨aP, aL, aO⟩ := u
  obtain ⟨bP, bL, bO⟩ := v
  obtain ⟨p, c, o, H, VX, VY⟩ := I
  dsimp only at VX VY
  have R : i_Rel (k + 4) (aP, aL, aO) (bP, bL, bO) := ⟨p, c, o, H, VX, VY⟩
  by_cases hP : ∃ P, so_per P ∧ v1 = nI P
  · obtain ⟨P, hP, rfl⟩ := hP
    unfold wpX_room
    dsimp only
    refine so_xPer1 hP (br_f (by decide) ⟨P + 1, so_xRoom_l H VX hP ?_ P 0 (by omega)⟩)
    unfold wpY_room
    dsimp only
    exact so_yPer1 hP (br_t rfl ⟨P + 1, so_yRoom_l H VY hP ⟨rfl, R⟩ P 0 (by omega)⟩)
  · unfold wpX_room
    dsimp only
    refine so_xPer0 hP (br_t rfl ?_)
    unfold wpY_room
    dsimp only
    exact so_yPer0 hP (br_f (by decide) ⟨rfl, R⟩)
theorem i_vc_nextStart {k : Nat} {u : SX} {v : SY} (I : i_Rel k u v) (hk : k + 4 ≤ 2048) (v1 : Int32) : wpX_nextStart (fun r => wpY_nextStart (fun r' => r' = r ∧ i_Rel (k + 4) u v) v v1) u v1 := by
  obtain ⟨aP, aL, aO⟩ := u
  obtain ⟨bP, bL, bO⟩ := v
  obtain ⟨p, c, o, H, VX, VY⟩ := I
  dsimp only at VX VY
  have R : i_Rel (k + 4) (aP, aL, aO) (bP, bL, bO) := ⟨p, c, o, H, VX, VY⟩
  by_cases ht : ∃ t, t ≤ 1000000000 ∧ v1 = nI t
  · obtain ⟨t, ht, rfl⟩ := ht
    obtain ⟨m, hm⟩ := so_F_ex (fun k => so_beg p o (t + k)) 720
    unfold wpX_nextStart
    dsimp only
    refine so_xTime1 ht (br_f (by decide) ⟨11, so_xNs_l H VX ht (fun x hx => ?_) 10 0 (-6) rfl (Or.inl ⟨fun i hi => absurd hi (Nat.not_lt_zero i), rfl⟩)⟩)
    unfold wpY_nextStart
    dsimp only
    exact so_yTime1 ht (br_t rfl ⟨721, so_yNs_l H VY ht hm ⟨(so_ns_end H hx hm).symm, R⟩ 720 0 rfl so_lo_0⟩)
  · unfold wpX_nextStart
    dsimp only
    refine so_xTime0 ht (br_t rfl ?_)
    unfold wpY_nextStart
    dsimp only
    exact so_yTime0 ht (br_f (by decide) ⟨rfl, R⟩)
theorem so_fr_nI {p c o : Nat → Nat} (H : so_ok p c o) (n : Nat) : nI (so_fr p c o n) = nI n - nI (so_S p c o n) := (pk_sub (so_S_le H n)).symm
theorem i_vc_free {k : Nat} {u : SX} {v : SY} (I : i_Rel k u v) (hk : k + 4 ≤ 2048) (v1 : Int32) (v2 : Int32) : wpX_free (fun r => wpY_free (fun r' => r' = r ∧ i_Rel (k + 4) u v) v v1 v2) u v1 v2 := by
  obtain ⟨aP, aL, aO⟩ := u
  obtain ⟨bP, bL, bO⟩ := v
  obtain ⟨p, c, o, H, VX, VY⟩ := I
  dsimp only at VX VY
  have R : i_Rel (k + 4) (aP, aL, aO) (bP, bL, bO) := ⟨p, c, o, H, VX, VY⟩
  by_cases ha : ∃ t, t ≤ 1000000000 ∧ v1 = nI t
  · obtain ⟨a, ha, rfl⟩ := ha
    by_cases hb : ∃ t, t ≤ 1000000000 ∧ v2 = nI t
    · obtain ⟨b, hb, rfl⟩ := hb
      unfold wpX_free
      dsimp only
      refine so_xTime1 ha (br_f (by decide) (so_xTime1 hb (br_f (by decide) (pk_le a b (fun z => nm_r (e' := nI b - nI a + 1 - (nI 0 - nI 0)) ?_ ⟨11, so_xFr_l H VX ha hb (nI b - nI a + 1) ?_ 10 0 rfl⟩) (fun z => ?_)))))
      · rw [nI_0]
        grind
      · unfold wpY_free
        dsimp only
        refine so_yTime1 ha (br_t rfl (so_yTime1 hb (br_t rfl (pk_le a b (fun _ => ?_) (fun y => absurd y (by omega))))))
        rw [nI_1 b]
        refine so_yFb H VY (by omega) (so_yFb H VY (by omega) ⟨?_, R⟩)
        rw [so_fr_nI H, so_fr_nI H, ← nI_1 b]
        generalize nI (so_S p c o (b + 1)) = s1
        generalize nI (so_S p c o a) = s2
        grind
      · unfold wpY_free
        dsimp only
        exact so_yTime1 ha (br_t rfl (so_yTime1 hb (br_t rfl (pk_le a b (fun y => absurd y (by omega)) (fun _ => ⟨rfl, R⟩)))))
    · unfold wpX_free
      dsimp only
      refine so_xTime1 ha (br_f (by decide) (so_xTime0 hb (br_t rfl ?_)))
      unfold wpY_free
      dsimp only
      exact so_yTime1 ha (br_t rfl (so_yTime0 hb (br_f (by decide) ⟨rfl, R⟩)))
  · unfold wpX_free
    dsimp only
    refine so_xTime0 ha (br_t rfl ?_)
    unfold wpY_free
    dsimp only
    exact so_yTime0 ha (br_f (by decide) ⟨rfl, R⟩)
