/-! rows of kit/rows -/
theorem pk_us {f : Nat → Int32} {k : Nat} {x : Int32} : upd f k x k = x := if_pos rfl
theorem pk_un {f : Nat → Int32} {k j : Nat} {x : Int32} (h : j ≠ k) : upd f k x j = f j := if_neg h
theorem pk_sub {a b : Nat} (h : b ≤ a) : nI a - nI b = nI (a - b) := by
  obtain ⟨c, rfl⟩ : ∃ c, a = c + b := ⟨a - b, by omega⟩
  rw [← nI_add, Int32.add_sub_cancel, Nat.add_sub_cancel]
theorem pk_mul (a b : Nat) : nI a * nI b = nI (a * b) := (Int32.ofNat_mul a b).symm
theorem pk_div {a d : Nat} (ha : a < 2 ^ 31) (h0 : 0 < d) (hd : d < 2 ^ 31) : nI a / nI d = nI (a / d) := by
  apply Int32.toInt_inj.mp
  rw [lg_idiv_nonneg (by rw [nI_toInt ha]; omega) (by rw [nI_toInt hd]; omega), nI_toInt ha, nI_toInt hd, nI_toInt (Nat.lt_of_le_of_lt (Nat.div_le_self a d) ha)]
  first | rfl | exact (Int.natCast_ediv _ _).symm
theorem pk_rem {a d : Nat} (ha : a < 2 ^ 31) (h0 : 0 < d) (hd : d < 2 ^ 31) : nI a - nI a / nI d * nI d = nI (a % d) := by
  rw [pk_div ha h0 hd, pk_mul, pk_sub (Nat.div_mul_le_self a d)]
  exact congrArg nI (by have := Nat.div_add_mod' a d; omega)
theorem pk_ix (x : Int32) {n : Nat} (hn : n < 2 ^ 31) : x < 0 ∨ nI n ≤ x ∨ ∃ j : Nat, j < n ∧ x = nI j := by
  by_cases h : x < 0
  · exact Or.inl h
  · obtain ⟨j, hj, rfl⟩ := nI_of h
    by_cases h2 : j < n
    · exact Or.inr (Or.inr ⟨j, h2, rfl⟩)
    · exact Or.inr (Or.inl (nI_le (by omega) hj))
theorem pk_le {x y : Int32} {A B : Prop} (a b : Nat) (f : a ≤ b → A) (g : b < a → B) (hx : x = nI a := by rfl) (hy : y = nI b := by rfl) (ha : a < 2 ^ 31 := by omega) (hb : b < 2 ^ 31 := by omega) : (x ≤ y → A) ∧ (¬ x ≤ y → B) := by
  subst hx hy
  rw [nI_leI ha hb]
  exact ⟨f, fun z => g (by omega)⟩
theorem pk_lt {x y : Int32} {A B : Prop} (a b : Nat) (f : a < b → A) (g : b ≤ a → B) (hx : x = nI a := by rfl) (hy : y = nI b := by rfl) (ha : a < 2 ^ 31 := by omega) (hb : b < 2 ^ 31 := by omega) : (x < y → A) ∧ (¬ x < y → B) := by
  subst hx hy
  rw [nI_ltI ha hb]
  exact ⟨f, fun z => g (by omega)⟩
theorem pk_eq {x y : Int32} {A B : Prop} (a b : Nat) (f : a = b → A) (g : a ≠ b → B) (hx : x = nI a := by rfl) (hy : y = nI b := by rfl) (ha : a < 2 ^ 31 := by omega) (hb : b < 2 ^ 31 := by omega) : (x = y → A) ∧ (¬ x = y → B) := by
  subst hx hy
  rw [nI_eq ha hb]
  exact ⟨f, g⟩
/-! the arrays hold the picture -/
def so_V (p c o : Nat → Nat) (aP aL aO : Nat → Int32) : Prop := ∀ i, i < 10 → aP i = nI (p i) ∧ (0 < p i → aL i = nI (c i) ∧ aO i = nI (o i))
section
variable {p c o : Nat → Nat} {aP aL aO : Nat → Int32}
theorem so_rP (V : so_V p c o aP aL aO) {i : Nat} (hi : i < 10) : aP (nI i).toNatClampNeg = nI (p i) := by
  rw [nI_clamp (by omega)]; exact (V i hi).1
theorem so_rL (V : so_V p c o aP aL aO) {i : Nat} (hi : i < 10) (hp : 0 < p i) : aL (nI i).toNatClampNeg = nI (c i) := by
  rw [nI_clamp (by omega)]; exact ((V i hi).2 hp).1
theorem so_rO (V : so_V p c o aP aL aO) {i : Nat} (hi : i < 10) (hp : 0 < p i) : aO (nI i).toNatClampNeg = nI (o i) := by
  rw [nI_clamp (by omega)]; exact ((V i hi).2 hp).2
theorem so_pb (H : so_ok p c o) {i : Nat} (hi : i < 10) : p i < 361 := by
  rcases H.1 i hi with h | h
  · omega
  · have := h.1.2.1
    omega
theorem so_jb (H : so_ok p c o) {i : Nat} (hi : i < 10) (hp : 0 < p i) : 2 ≤ p i ∧ p i < 361 ∧ 1 ≤ c i ∧ c i < 361 ∧ o i < 360 := by
  have J := so_live H hi hp
  have h1 := J.1.1
  have h2 := J.1.2.1
  have h3 := J.2.1
  have h4 := J.2.2.1
  have h5 := J.2.2.2
  omega
theorem so_in {i : Nat} (hi : i < 10) : vp_in (nI i) 10 := vp_in_nI hi (by decide)
theorem so_V_set (V : so_V p c o aP aL aO) (w x y z : Nat) : so_V (so_set p w x) (so_set c w y) (so_set o w z) (upd aP w (nI x)) (upd aL w (nI y)) (upd aO w (nI z)) := by
  intro i hi
  by_cases e : i = w
  · subst e
    rw [pk_us, pk_us, pk_us, so_set_s, so_set_s, so_set_s]
    exact ⟨rfl, fun _ => ⟨rfl, rfl⟩⟩
  · rw [pk_un e, pk_un e, pk_un e, so_set_n e, so_set_n e, so_set_n e]
    exact V i hi
theorem so_V_remX (V : so_V p c o aP aL aO) (w : Nat) : so_V (so_set p w 0) c o (upd aP w 0) (upd aL w 0) (upd aO w 0) := by
  intro i hi
  by_cases e : i = w
  · subst e
    rw [pk_us, so_set_s]
    exact ⟨rfl, fun z => absurd z (by omega)⟩
  · rw [pk_un e, pk_un e, pk_un e, so_set_n e]
    exact V i hi
theorem so_V_remY (V : so_V p c o aP aL aO) (w : Nat) : so_V (so_set p w 0) c o (upd aP w 0) aL aO := by
  intro i hi
  by_cases e : i = w
  · subst e
    rw [pk_us, so_set_s]
    exact ⟨rfl, fun z => absurd z (by omega)⟩
  · rw [pk_un e, so_set_n e]
    exact V i hi
end
/-! the small tests -/
theorem so_r360 {P : Nat} (h0 : 0 < P) (h : P < 2 ^ 31) : (360 : Int32) - 360 / nI P * nI P = nI (360 % P) := pk_rem (a := 360) (by decide) h0 h
theorem so_xPer1 {post : Int32 → Prop} {P : Nat} (h : so_per P) (hp : post 1) : wpX_isPeriod post (nI P) := by
  obtain ⟨h2, h3, h4⟩ := h
  refine pk_lt P 2 (fun z => absurd z (by omega)) (fun _ => pk_lt 360 P (fun z => absurd z (by omega)) (fun _ => ⟨nI_ne0 (by omega) (by omega), ?_⟩))
  rw [so_r360 (by omega) (by omega), h4]
  exact br_t nI_0 hp
theorem so_per_of {x : Int32} (h : ¬ ∃ P, so_per P ∧ x = nI P) (a : ¬ x < 2) (b : ¬ 360 < x) : ¬ x = 0 ∧ ¬ (360 - 360 / x * x) = 0 := by
  obtain ⟨P, hP, rfl⟩ := nI_of (x := x) (fun z => a (Int32.lt_trans z (by decide)))
  have a' : ¬ P < 2 := fun z => a ((nI_ltI hP (by decide)).mpr z)
  have b' : ¬ 360 < P := fun z => b ((nI_ltI (by decide) hP).mpr z)
  have h4 : ¬ 360 % P = 0 := fun z => h ⟨P, ⟨by omega, by omega, z⟩, rfl⟩
  refine ⟨nI_ne0 (by omega) hP, ?_⟩
  rw [so_r360 (by omega) hP]
  exact nI_ne0 (by omega) (Nat.lt_of_le_of_lt (Nat.mod_le 360 P) (by decide))
theorem so_xPer0 {post : Int32 → Prop} {x : Int32} (h : ¬ ∃ P, so_per P ∧ x = nI P) (hp : post 0) : wpX_isPeriod post x :=
  br_c (fun _ => hp) (fun a => br_c (fun _ => hp) (fun b => ⟨(so_per_of h a b).1, br_f (so_per_of h a b).2 hp⟩))
theorem so_yPer1 {post : Int32 → Prop} {aP aL aO : Nat → Int32} {P : Nat} (h : so_per P) (hp : post 0) : wpY_badPeriod post (aP, aL, aO) (nI P) := by
  obtain ⟨h2, h3, h4⟩ := h
  refine pk_lt P 2 (fun z => absurd z (by omega)) (fun _ => pk_le P 360 (fun _ => ⟨nI_ne0 (by omega) (by omega), ?_⟩) (fun z => absurd z (by omega)))
  rw [so_r360 (by omega) (by omega), h4]
  exact br_t nI_0 hp
theorem so_yPer0 {post : Int32 → Prop} {aP aL aO : Nat → Int32} {x : Int32} (h : ¬ ∃ P, so_per P ∧ x = nI P) (hp : post 1) : wpY_badPeriod post (aP, aL, aO) x :=
  br_c (fun _ => hp) (fun a => br_c (fun b => ⟨(so_per_of h a (Int32.not_lt.mpr b)).1, br_f (so_per_of h a (Int32.not_lt.mpr b)).2 hp⟩) (fun _ => hp))
theorem so_xFault0 {post : Int32 → Prop} {P l : Nat} (h : so_per P) (h1 : 1 ≤ l) (h2 : l ≤ P) (hp : post 0) : wpX_faultOf post (nI P) (nI l) := by
  have h3 := h.2.1
  exact so_xPer1 h (br_f (by decide) (pk_lt l 1 (fun z => absurd z (by omega)) (fun _ => pk_le l P (fun _ => hp) (fun z => absurd z (by omega)))))
theorem so_len_of {P : Nat} {x : Int32} (hP : so_per P) (h : ¬ ∃ l, 1 ≤ l ∧ l ≤ P ∧ x = nI l) (a : ¬ x < 1) : ¬ x ≤ nI P := by
  obtain ⟨l, hl, rfl⟩ := nI_of (x := x) (fun z => a (Int32.lt_trans z (by decide)))
  have a' : ¬ l < 1 := fun z => a ((nI_ltI hl (by decide)).mpr z)
  intro b
  have h3 := hP.2.1
  rw [nI_leI hl (by omega)] at b
  exact h ⟨l, by omega, b, rfl⟩
theorem so_xFaultL {post : Int32 → Prop} {P : Nat} {x : Int32} (hP : so_per P) (h : ¬ ∃ l, 1 ≤ l ∧ l ≤ P ∧ x = nI l) (hp : post (-2)) : wpX_faultOf post (nI P) x :=
  so_xPer1 hP (br_f (by decide) (br_c (fun _ => hp) (fun a => br_f (so_len_of hP h a) hp)))
theorem so_xFaultP {post : Int32 → Prop} {x y : Int32} (h : ¬ ∃ P, so_per P ∧ x = nI P) (hp : post (-1)) : wpX_faultOf post x y :=
  so_xPer0 h (br_t rfl hp)
theorem so_xTime1 {post : Int32 → Prop} {t : Nat} (h : t ≤ 1000000000) (hp : post 1) : wpX_isTime post (nI t) :=
  pk_lt t 0 (fun z => absurd z (by omega)) (fun _ => pk_lt 1000000000 t (fun z => absurd z (by omega)) (fun _ => hp))
theorem so_time_of {x : Int32} (h : ¬ ∃ t, t ≤ 1000000000 ∧ x = nI t) (a : ¬ x < 0) : ¬ x ≤ 1000000000 := by
  obtain ⟨t, ht, rfl⟩ := nI_of a
  intro b
  exact h ⟨t, (nI_leI (b := 1000000000) ht (by decide)).mp b, rfl⟩
theorem so_xTime0 {post : Int32 → Prop} {x : Int32} (h : ¬ ∃ t, t ≤ 1000000000 ∧ x = nI t) (hp : post 0) : wpX_isTime post x :=
  br_c (fun _ => hp) (fun a => br_c (fun _ => hp) (fun b => absurd (Int32.not_lt.mp b) (so_time_of h a)))
theorem so_yTime1 {post : Int32 → Prop} {aP aL aO : Nat → Int32} {t : Nat} (h : t ≤ 1000000000) (hp : post 0) : wpY_badTime post (aP, aL, aO) (nI t) :=
  pk_lt t 0 (fun z => absurd z (by omega)) (fun _ => pk_le t 1000000000 (fun _ => hp) (fun z => absurd z (by omega)))
theorem so_yTime0 {post : Int32 → Prop} {aP aL aO : Nat → Int32} {x : Int32} (h : ¬ ∃ t, t ≤ 1000000000 ∧ x = nI t) (hp : post 1) : wpY_badTime post (aP, aL, aO) x :=
  br_c (fun _ => hp) (fun a => br_c (fun b => absurd b (so_time_of h a)) (fun _ => hp))
section
variable {p c o : Nat → Nat} {aP aL aO : Nat → Int32}
theorem so_xJob1 (H : so_ok p c o) (V : so_V p c o aP aL aO) {post : Int32 → Prop} {j : Nat} (hj : j < 10) (h : 0 < p j) (hp : post 1) : wpX_isJob post (aP, aL, aO) (nI j) := by
  have hb := so_pb H hj
  exact pk_lt j 0 (fun z => absurd z (by omega)) (fun _ => pk_le 10 j (fun z => absurd z (by omega)) (fun _ => ⟨so_in hj, pk_le (p j) 0 (fun z => absurd z (by omega)) (fun _ => hp) (so_rP V hj)⟩))
theorem so_xJob0 (H : so_ok p c o) (V : so_V p c o aP aL aO) {post : Int32 → Prop} {x : Int32} (h : ¬ ∃ j, j < 10 ∧ 0 < p j ∧ x = nI j) (hp : post 0) : wpX_isJob post (aP, aL, aO) x := by
  rcases pk_ix x (n := 10) (by decide) with a | a | ⟨j, hj, rfl⟩
  · exact br_t a hp
  · exact br_c (fun _ => hp) (fun _ => br_t a hp)
  · have hb := so_pb H hj
    have h0 : ¬ 0 < p j := fun z => h ⟨j, hj, z, rfl⟩
    exact pk_lt j 0 (fun z => absurd z (by omega)) (fun _ => pk_le 10 j (fun z => absurd z (by omega)) (fun _ => ⟨so_in hj, pk_le (p j) 0 (fun _ => hp) (fun z => absurd z h0) (so_rP V hj)⟩))
theorem so_yJob1 (H : so_ok p c o) (V : so_V p c o aP aL aO) {post : Int32 → Prop} {j : Nat} (hj : j < 10) (h : 0 < p j) (hp : post 0) : wpY_none post (aP, aL, aO) (nI j) := by
  have hb := so_pb H hj
  exact pk_lt j 0 (fun z => absurd z (by omega)) (fun _ => pk_lt 9 j (fun z => absurd z (by omega)) (fun _ => ⟨so_in hj, pk_eq (p j) 0 (fun z => absurd z (by omega)) (fun _ => hp) (so_rP V hj)⟩))
theorem so_yJob0 (H : so_ok p c o) (V : so_V p c o aP aL aO) {post : Int32 → Prop} {x : Int32} (h : ¬ ∃ j, j < 10 ∧ 0 < p j ∧ x = nI j) (hp : post 1) : wpY_none post (aP, aL, aO) x := by
  rcases pk_ix x (n := 10) (by decide) with a | a | ⟨j, hj, rfl⟩
  · exact br_t a hp
  · exact br_c (fun _ => hp) (fun _ => br_t (Int32.lt_of_lt_of_le (show (9 : Int32) < nI 10 by decide) a) hp)
  · have hb := so_pb H hj
    have h0 : ¬ 0 < p j := fun z => h ⟨j, hj, z, rfl⟩
    exact pk_lt j 0 (fun z => absurd z (by omega)) (fun _ => pk_lt 9 j (fun z => absurd z (by omega)) (fun _ => ⟨so_in hj, pk_eq (p j) 0 (fun _ => hp) (fun z => absurd z (by omega)) (so_rP V hj)⟩))
end
