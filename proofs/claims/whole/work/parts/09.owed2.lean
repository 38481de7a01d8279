theorem so_yStarts {p c o : Nat → Nat} {aP aL aO : Nat → Int32} (H : so_ok p c o) (V : so_V p c o aP aL aO) {post : Int32 → Prop} {j a b : Nat} (hj : j < 10) (hp : 0 < p j) (ha : a ≤ 1000000000) (hb : b ≤ 1000000000) (hab : a ≤ b) (h : post (nI (so_nb (p j) (o j) (b + 1)) - nI (so_nb (p j) (o j) a))) : wpY_starts post (aP, aL, aO) (nI j) (nI a) (nI b) := by
  have hin := so_in hj
  obtain ⟨b1, b2, b3, b4, b5⟩ := so_jb H hj hp
  have hne : ¬ nI (p j) = 0 := nI_ne0 hp (by omega)
  unfold wpY_starts
  dsimp only
  refine so_yJob1 H V hj hp (br_t rfl (so_yTime1 ha (br_t rfl (so_yTime1 hb (br_t rfl ?_)))))
  rw [so_rO V hj hp]
  refine ⟨hin, nm_r (so_rP V hj) (pk_lt b a (fun z => absurd z (by omega)) (fun _ => ⟨hin, pk_lt b (o j) (fun y => ?_) (fun y => br_f hne ⟨hin, hne, nm_r (e' := nI ((b - o j) / p j + 1)) ?_ ⟨hin, pk_lt (o j) a (fun x => ⟨hin, hne, nm_r (e' := nI ((a - o j - 1) / p j + 1)) ?_ ?_⟩) (fun x => ?_)⟩⟩)⟩))⟩
  · rw [so_nb, so_nb, if_pos (by omega), if_pos (by omega)] at h
    exact h
  · rw [pk_sub y, pk_div (by omega) hp (by omega), nI_1]
  · have e : a - 1 - o j = a - o j - 1 := by omega
    rw [show nI a - 1 = nI (a - 1) from pk_sub (b := 1) (by omega), pk_sub (by omega), pk_div (by omega) hp (by omega), nI_1, e]
  · have e : b + 1 - o j - 1 = b - o j := by omega
    rw [so_nb, so_nb, if_neg (by omega), if_neg (by omega), e] at h
    exact h
  · have e : b + 1 - o j - 1 = b - o j := by omega
    rw [so_nb, so_nb, if_neg (by omega), if_pos (by omega), e] at h
    exact h
theorem i_vc_starts {k : Nat} {u : SX} {v : SY} (I : i_Rel k u v) (hk : k + 4 ≤ 2048) (v1 : Int32) (v2 : Int32) (v3 : Int32) : wpX_starts (fun r => wpY_starts (fun r' => r' = r ∧ i_Rel (k + 4) u v) v v1 v2 v3) u v1 v2 v3 := by
  obtain ⟨aP, aL, aO⟩ := u
  obtain ⟨bP, bL, bO⟩ := v
  obtain ⟨p, c, o, H, VX, VY⟩ := I
  dsimp only at VX VY
  have R : i_Rel (k + 4) (aP, aL, aO) (bP, bL, bO) := ⟨p, c, o, H, VX, VY⟩
  unfold wpX_starts
  dsimp only
  by_cases hj : ∃ j, j < 10 ∧ 0 < p j ∧ v1 = nI j
  · obtain ⟨j, hj, hp, rfl⟩ := hj
    refine so_xJob1 H VX hj hp (br_f (by decide) ?_)
    by_cases ha : ∃ t, t ≤ 1000000000 ∧ v2 = nI t
    · obtain ⟨a, ha, rfl⟩ := ha
      refine so_xTime1 ha (br_f (by decide) ?_)
      by_cases hb : ∃ t, t ≤ 1000000000 ∧ v3 = nI t
      · obtain ⟨b, hb, rfl⟩ := hb
        refine so_xTime1 hb (br_f (by decide) (pk_le a b (fun z => ?_) (fun z => ?_)))
        · rw [nI_1 b]
          exact so_xNb H VX hj hp (by omega) (so_xNb H VX hj hp (by omega) (so_yStarts H VY hj hp ha hb z ⟨rfl, R⟩))
        · unfold wpY_starts
          dsimp only
          exact so_yJob1 H VY hj hp (br_t rfl (so_yTime1 ha (br_t rfl (so_yTime1 hb (br_t rfl ⟨so_in hj, nm_e (pk_lt b a (fun _ => ⟨rfl, R⟩) (fun y => absurd y (by omega)))⟩)))))
      · refine so_xTime0 hb (br_t rfl ?_)
        unfold wpY_starts
        dsimp only
        exact so_yJob1 H VY hj hp (br_t rfl (so_yTime1 ha (br_t rfl (so_yTime0 hb (br_f (by decide) ⟨rfl, R⟩)))))
    · refine so_xTime0 ha (br_t rfl ?_)
      unfold wpY_starts
      dsimp only
      exact so_yJob1 H VY hj hp (br_t rfl (so_yTime0 ha (br_f (by decide) ⟨rfl, R⟩)))
  · refine so_xJob0 H VX hj (br_t rfl ?_)
    unfold wpY_starts
    dsimp only
    exact so_yJob0 H VY hj (br_f (by decide) ⟨rfl, R⟩)
section
variable {p c o : Nat → Nat} {aP aL aO : Nat → Int32}
theorem so_yAdm (H : so_ok p c o) (V : so_V p c o aP aL aO) {post : Int32 → SY → Prop} {P l m w : Nat} (hP : so_per P) (hl1 : 1 ≤ l) (hl : l ≤ P) (hw : so_F (fun i => p i = 0) 10 w) (hm : so_F (fun q => l ≤ so_gl p c o P q 10) P m) (h0 : w = 10 → post (-4) (aP, aL, aO)) (h1 : w < 10 → m < P → post (nI w) (upd aP w (nI P), upd aL w (nI l), upd aO w (nI m))) (h2 : w < 10 → m = P → post (-5) (aP, aL, aO)) : wpY_admit post (aP, aL, aO) (nI P) (nI l) := by
  have hP2 := hP.2.1
  have hct := (so_ct_p (p := p) 10).1
  have hcw := so_ct_w hw
  have hw1 := hw.1
  unfold wpY_admit
  dsimp only
  refine so_yPer1 hP (br_t rfl (pk_lt l 1 (fun z => absurd z (by omega)) (fun _ => pk_le l P (fun _ => so_yCt H V (pk_eq (so_ct p 10) 10 (fun z => h0 (hcw.mp z)) (fun z => ?_))) (fun z => absurd z (by omega)))))
  have hw10 : w < 10 := by
    by_cases e : w = 10
    · exact absurd (hcw.mpr e) z
    · omega
  exact ⟨P + 1, so_yAdm_l H V hP hl hw hw10 hm (h1 hw10) (h2 hw10) P 0 (by omega) so_lo_0⟩
theorem so_yAdmL (H : so_ok p c o) (V : so_V p c o aP aL aO) {post : Int32 → SY → Prop} {P : Nat} {x : Int32} (hP : so_per P) (hl : ¬ ∃ l, 1 ≤ l ∧ l ≤ P ∧ x = nI l) (h : post (-2) (aP, aL, aO)) : wpY_admit post (aP, aL, aO) (nI P) x := by
  unfold wpY_admit
  dsimp only
  exact so_yPer1 hP (br_t rfl (br_c (fun _ => h) (fun a => br_f (so_len_of hP hl a) h)))
theorem so_yAdmP {post : Int32 → SY → Prop} {x y : Int32} (hP : ¬ ∃ P, so_per P ∧ x = nI P) (h : post (-1) (aP, aL, aO)) : wpY_admit post (aP, aL, aO) x y := by
  unfold wpY_admit
  dsimp only
  exact so_yPer0 hP (br_f (by decide) h)
end
theorem i_vc_admit {k : Nat} {u : SX} {v : SY} (I : i_Rel k u v) (hk : k + 4 ≤ 2048) (v1 : Int32) (v2 : Int32) : wpX_admit (fun r u' => wpY_admit (fun r' v' => r' = r ∧ i_Rel (k + 4) u' v') v v1 v2) u v1 v2 := by
  obtain ⟨aP, aL, aO⟩ := u
  obtain ⟨bP, bL, bO⟩ := v
  obtain ⟨p, c, o, H, VX, VY⟩ := I
  dsimp only at VX VY
  have R : i_Rel (k + 4) (aP, aL, aO) (bP, bL, bO) := ⟨p, c, o, H, VX, VY⟩
  unfold wpX_admit
  dsimp only
  by_cases hP : ∃ P, so_per P ∧ v1 = nI P
  · obtain ⟨P, hP, rfl⟩ := hP
    by_cases hl : ∃ l, 1 ≤ l ∧ l ≤ P ∧ v2 = nI l
    · obtain ⟨l, hl1, hl, rfl⟩ := hl
      obtain ⟨w, hw⟩ := so_F_ex (fun i => p i = 0) 10
      obtain ⟨m, hm⟩ := so_F_ex (fun q => l ≤ so_gl p c o P q 10) P
      have hw1 := hw.1
      refine so_xFault0 hP hl1 hl (br_t rfl (so_xFree H VX hw (pk_eq w 10 (fun z => ?_) (fun z => ⟨P + 1, so_xAdm_l H VX hP hl (by omega) hm (fun y => ?_) (fun y => ?_) P 0 (by omega) so_lo_0⟩))))
      · exact so_yAdm H VY hP hl1 hl hw hm (fun _ => ⟨rfl, R⟩) (fun y => absurd y (by omega)) (fun y => absurd y (by omega))
      · exact so_yAdm H VY hP hl1 hl hw hm (fun x => absurd x z) (fun x _ => ⟨rfl, so_set p w P, so_set c w l, so_set o w m, so_new H hP hl1 hl y x (hm.2.2 y), so_V_set VX w P l m, so_V_set VY w P l m⟩) (fun _ x => absurd x (by omega))
      · exact so_yAdm H VY hP hl1 hl hw hm (fun x => absurd x z) (fun _ x => absurd x (by omega)) (fun _ _ => ⟨rfl, R⟩)
    · exact so_xFaultL hP hl (br_f (by decide) (so_yAdmL H VY hP hl ⟨rfl, R⟩))
  · exact so_xFaultP hP (br_f (by decide) (so_yAdmP hP ⟨rfl, R⟩))
section
variable {p c o : Nat → Nat} {aP aL aO : Nat → Int32}
theorem so_off_of {P : Nat} {x : Int32} (hP : so_per P) (h : ¬ ∃ q, q < P ∧ x = nI q) (a : ¬ x < 0) : ¬ x < nI P := by
  obtain ⟨q, hq, rfl⟩ := nI_of a
  intro b
  have h3 := hP.2.1
  rw [nI_ltI hq (by omega)] at b
  exact h ⟨q, b, rfl⟩
theorem so_yAt (H : so_ok p c o) (V : so_V p c o aP aL aO) {post : Int32 → SY → Prop} {P l q w : Nat} (hP : so_per P) (hl1 : 1 ≤ l) (hl : l ≤ P) (hq : q < P) (hw : so_F (fun i => p i = 0) 10 w) (h0 : w = 10 → post (-4) (aP, aL, aO)) (h1 : w < 10 → l ≤ so_gl p c o P q 10 → post (nI w) (upd aP w (nI P), upd aL w (nI l), upd aO w (nI q))) (h2 : w < 10 → ¬ l ≤ so_gl p c o P q 10 → post (-5) (aP, aL, aO)) : wpY_admitAt post (aP, aL, aO) (nI P) (nI l) (nI q) := by
  have hP2 := hP.2.1
  have hct := (so_ct_p (p := p) 10).1
  have hcw := so_ct_w hw
  have hw1 := hw.1
  have hg := so_gl_le (p := p) (c := c) (o := o) P q
  unfold wpY_admitAt
  dsimp only
  refine so_yPer1 hP (br_t rfl (pk_lt l 1 (fun z => absurd z (by omega)) (fun _ => pk_le l P (fun _ => pk_lt q 0 (fun z => absurd z (by omega)) (fun _ => pk_lt q P (fun _ => so_yCt H V (pk_eq (so_ct p 10) 10 (fun z => h0 (hcw.mp z)) (fun z => ?_))) (fun z => absurd z (by omega)))) (fun z => absurd z (by omega)))))
  have hw10 : w < 10 := by
    by_cases e : w = 10
    · exact absurd (hcw.mpr e) z
    · omega
  exact so_yLong H V hP hq (pk_le l (so_gl p c o P q 10) (fun y => so_yTake H V hw hw10 (h1 hw10 y)) (fun y => h2 hw10 (by omega)))
theorem so_yAtO {post : Int32 → SY → Prop} {P l : Nat} {x : Int32} (hP : so_per P) (hl1 : 1 ≤ l) (hl : l ≤ P) (hx : ¬ ∃ q, q < P ∧ x = nI q) (h : post (-3) (aP, aL, aO)) : wpY_admitAt post (aP, aL, aO) (nI P) (nI l) x := by
  have hP2 := hP.2.1
  unfold wpY_admitAt
  dsimp only
  exact so_yPer1 hP (br_t rfl (pk_lt l 1 (fun z => absurd z (by omega)) (fun _ => pk_le l P (fun _ => br_c (fun _ => h) (fun a => br_f (so_off_of hP hx a) h)) (fun z => absurd z (by omega)))))
theorem so_yAtL {post : Int32 → SY → Prop} {P : Nat} {x y : Int32} (hP : so_per P) (hl : ¬ ∃ l, 1 ≤ l ∧ l ≤ P ∧ x = nI l) (h : post (-2) (aP, aL, aO)) : wpY_admitAt post (aP, aL, aO) (nI P) x y := by
  unfold wpY_admitAt
  dsimp only
  exact so_yPer1 hP (br_t rfl (br_c (fun _ => h) (fun a => br_f (so_len_of hP hl a) h)))
theorem so_yAtP {post : Int32 → SY → Prop} {x y z : Int32} (hP : ¬ ∃ P, so_per P ∧ x = nI P) (h : post (-1) (aP, aL, aO)) : wpY_admitAt post (aP, aL, aO) x y z := by
  unfold wpY_admitAt
  dsimp only
  exact so_yPer0 hP (br_f (by decide) h)
end
theorem i_vc_admitAt {k : Nat} {u : SX} {v : SY} (I : i_Rel k u v) (hk : k + 4 ≤ 2048) (v1 : Int32) (v2 : Int32) (v3 : Int32) : wpX_admitAt (fun r u' => wpY_admitAt (fun r' v' => r' = r ∧ i_Rel (k + 4) u' v') v v1 v2 v3) u v1 v2 v3 := by
  obtain ⟨aP, aL, aO⟩ := u
  obtain ⟨bP, bL, bO⟩ := v
  obtain ⟨p, c, o, H, VX, VY⟩ := I
  dsimp only at VX VY
  have R : i_Rel (k + 4) (aP, aL, aO) (bP, bL, bO) := ⟨p, c, o, H, VX, VY⟩
  unfold wpX_admitAt
  dsimp only
  by_cases hP : ∃ P, so_per P ∧ v1 = nI P
  · obtain ⟨P, hP, rfl⟩ := hP
    have hP2 := hP.2.1
    by_cases hl : ∃ l, 1 ≤ l ∧ l ≤ P ∧ v2 = nI l
    · obtain ⟨l, hl1, hl, rfl⟩ := hl
      refine so_xFault0 hP hl1 hl (br_t rfl ?_)
      by_cases hq : ∃ q, q < P ∧ v3 = nI q
      · obtain ⟨q, hq, rfl⟩ := hq
        obtain ⟨w, hw⟩ := so_F_ex (fun i => p i = 0) 10
        have hw1 := hw.1
        have hg := so_gl_le (p := p) (c := c) (o := o) P q
        refine pk_lt q 0 (fun z => absurd z (by omega)) (fun _ => pk_lt q P (fun _ => so_xFree H VX hw (pk_eq w 10 (fun z => ?_) (fun z => so_xGl H VX hP hq (pk_le l (so_gl p c o P q 10) (fun y => so_xPlace (by omega) ?_) (fun y => ?_))))) (fun z => absurd z (by omega)))
        · exact so_yAt H VY hP hl1 hl hq hw (fun _ => ⟨rfl, R⟩) (fun y => absurd y (by omega)) (fun y => absurd y (by omega))
        · exact so_yAt H VY hP hl1 hl hq hw (fun x => absurd x z) (fun x _ => ⟨rfl, so_set p w P, so_set c w l, so_set o w q, so_new H hP hl1 hl hq x y, so_V_set VX w P l q, so_V_set VY w P l q⟩) (fun _ x => absurd y x)
        · exact so_yAt H VY hP hl1 hl hq hw (fun x => absurd x z) (fun _ x => absurd x (by omega)) (fun _ _ => ⟨rfl, R⟩)
      · exact br_c (fun _ => so_yAtO hP hl1 hl hq ⟨rfl, R⟩) (fun a => br_f (so_off_of hP hq a) (so_yAtO hP hl1 hl hq ⟨rfl, R⟩))
    · exact so_xFaultL hP hl (br_f (by decide) (so_yAtL hP hl ⟨rfl, R⟩))
  · exact so_xFaultP hP (br_f (by decide) (so_yAtP hP ⟨rfl, R⟩))
