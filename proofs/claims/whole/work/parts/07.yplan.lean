theorem qy_Is_and {r s : Int32} {P Q : Nat → Prop} (h : qb_Is r P) (h' : qb_Is s Q) : qb_Is (r &&& s) (fun i => P i ∧ Q i) := by
  intro i hi
  rw [b_and, Bool.and_eq_true, h i hi, h' i hi]
  exact ⟨fun z => ⟨z.1.1, z.1.2, z.2.2⟩, fun z => ⟨⟨z.1, z.2.1⟩, z.1, z.2.2⟩⟩
theorem qy_90 {post : SY → Prop} {J3 : Int32 → (Nat → Int32) → (Nat → Int32) → (Nat → Int32) → (Nat → Int32) → (Nat → Int32) → Prop} {x1 x2 x7 kn wi : Int32} {ow c f s r : Nat → Int32} {i k : Nat} {P : Nat → Prop}
    (hc : qx_Rg c 6) (hi : i < 8) (hk : k < 6) (h7 : qb_Is x7 P)
    (h : ∀ v, qb_Is v (fun q => P q ∧ qx_N c i ≤ k ∧ qx_N c q ≤ k) → J3 (nI (i + 1)) ow c f s (upd r i v)) : ∃ n, wY_close_90 post J3 x1 x2 (nI k) (nI i) x7 kn wi ow c f s r n 0 0 := by
  have hci : (nI i).toNatClampNeg = i := nI_clamp (by omega)
  have hini : vp_in (nI i) 8 := vp_in_nI hi (by decide)
  refine loop_0 (fun n j x => wY_close_90 post J3 x1 x2 (nI k) (nI i) x7 kn wi ow c f s r n x (nI j)) (fun j x => qb_Is x (fun q => q < j ∧ qx_N c q ≤ k)) 8 0 (qb_Is_0 (fun i _ z => absurd z.1 (Nat.not_lt_zero _))) ?_ ?_
  · intro n x hI
    refine br_t (nI_le (a := 8) (b := 8) (Nat.le_refl _) (by decide)) ⟨hini, ?_⟩
    rw [hci, (hc i hi).1]
    have hcc := (hc i hi).2
    refine br_c (fun e => ⟨hini, nm_e (nm_r (nI_1 i) (h 0 (qb_Is_0 (fun q _ z => ?_))))⟩) (fun e => ⟨hini, nm_e (nm_r (nI_1 i) (h _ (qb_Is_c (qy_Is_and h7 hI) (fun q hq => ?_))))⟩)
    · have := (nI_ltI (by omega) (by omega)).mp e
      omega
    · have : ¬ k < qx_N c i := fun z => e ((nI_ltI (by omega) (by omega)).mpr z)
      exact ⟨fun z => ⟨z.1, by omega, z.2.2⟩, fun z => ⟨z.1, hq, z.2.2⟩⟩
  · intro n j x hj hI ih
    have hcj : (nI j).toNatClampNeg = j := nI_clamp (by omega)
    have hinj : vp_in (nI j) 8 := vp_in_nI hj (by decide)
    have hcc := hc j hj
    refine br_f (nI_ge (b := 8) hj (by decide)) ⟨hinj, ?_⟩
    rw [hcj, hcc.1]
    refine br_c (fun e => nm_r (nI_1 j) (ih _ (qb_Is_c hI (fun q hq => ⟨fun z => ⟨by omega, z.2⟩, fun z => ⟨?_, z.2⟩⟩)))) (fun e => nm_e (nm_r (nI_1 j) (ih _ (qb_Is_c (qb_Is_or hI (qb_Is_1 hj)) (fun q hq => ?_)))))
    · have := (nI_ltI (by omega) (by omega)).mp e
      by_cases eq : q = j
      · subst eq; have := z.2; omega
      · omega
    · have hh : ¬ k < qx_N c j := fun z => e ((nI_ltI (by omega) (by omega)).mpr z)
      constructor
      · rintro (z | z)
        · exact ⟨by omega, z.2⟩
        · subst z; exact ⟨by omega, by omega⟩
      · intro z
        by_cases eq : q = j
        · exact Or.inr eq
        · exact Or.inl ⟨by omega, z.2⟩
theorem qy_169 {post : SY → Prop} {J : Int32 → (Nat → Int32) → (Nat → Int32) → (Nat → Int32) → (Nat → Int32) → (Nat → Int32) → Prop} {kn wi : Int32} {ow c f s r : Nat → Int32} {m : Nat} {Q : Nat → Nat → Prop} (hm : m < 8) (hr : qx_Re r Q)
    (h : ∀ r', qx_Re r' (fun p q => Q p q ∨ (Q p m ∧ Q m q)) → J (nI (m + 1)) ow c f s r') : ∃ n, wY_close_169 post J (nI m) kn wi n 0 ow c f s r := by
  refine loop_0 (fun n i r => wY_close_169 post J (nI m) kn wi n (nI i) ow c f s r) (fun i r => qx_In Q m i r) 8 r (qx_In_0 hr) ?_ ?_
  · intro n r hI
    exact br_t (nI_le (a := 8) (b := 8) (Nat.le_refl _) (by decide)) (nm_r (nI_1 m) (h r (qx_In_8 hI)))
  · intro n i r hi hI ih
    have hc : (nI i).toNatClampNeg = i := nI_clamp (by omega)
    have hcm : (nI m).toNatClampNeg = m := nI_clamp (by omega)
    have hin : vp_in (nI i) 8 := vp_in_nI hi (by decide)
    have hinm : vp_in (nI m) 8 := vp_in_nI hm (by decide)
    refine br_f (nI_ge (b := 8) hi (by decide)) ⟨hin, ?_⟩
    rw [hc, hcm]
    refine br_c (fun z => ⟨hin, hinm, hin, nm_e (nm_r (nI_1 i) (ih _ ?_))⟩) (fun z => nm_r (nI_1 i) (ih _ ?_))
    · exact qx_In_t hm hI ((qx_In_b hm hi hI).mp ((qb_bit1 _ (by omega)).mp z))
    · exact qx_In_f hI (fun y => z ((qb_bit1 _ (by omega)).mpr ((qx_In_b hm hi hI).mpr y)))
theorem qy_159 {post : SY → Prop} {kn wi : Int32} {ow c f s r : Nat → Int32} {E : Nat → Nat → Prop} (hr : qx_Re r E)
    (h : ∀ r', qx_Re r' (qr_R E (fun b => b < 8)) → post (kn, wi, ow, c, f, s, r')) : ∃ n, wY_close_159 post kn wi n 0 ow c f s r := by
  refine loop_0 (fun n i r => wY_close_159 post kn wi n (nI i) ow c f s r) (fun i r => qx_Re r (qr_R E (fun b => b < i))) 8 r ?_ ?_ ?_
  · exact qx_Re_c hr (fun p q _ _ => (qr_none (fun b => Nat.not_lt_zero b) p q).symm)
  · intro n r hI
    exact br_t (nI_le (a := 8) (b := 8) (Nat.le_refl _) (by decide)) (h r hI)
  · intro n i r hi hI ih
    refine br_f (nI_ge (b := 8) hi (by decide)) (qy_169 hi hI (fun r' hr' => ih r' (qx_Re_c hr' (fun p q _ _ => (qr_w (fun b => ?_) p q).symm))))
    omega
theorem qy_plne (b : Bool) (x : Bool) : qx_pl x = qx_pl b ↔ x = b := by cases x <;> cases b <;> decide
theorem qy_close {post : SY → Prop} {kn wi : Int32} {ow c f s r : Nat → Int32} {ch : Int32} (ob : Nat → Bool) (ho : ∀ p, p < 8 → ow p = qx_pl (ob p)) (b : Bool) (k : Nat) (hk : k < 6) (hc : qx_Rg c 6) (hf : qx_Rg f 8) (hs : qx_Rg s 8)
    (h : ∀ r', qx_Re r' (qr_R (fun p q => qg_E ob (qx_N f) (qx_N s) b (bt ch) p q ∧ qx_N c p ≤ k ∧ qx_N c q ≤ k) (fun b => b < 8)) → post (kn, wi, ow, c, f, s, r')) : wpY_close post (kn, wi, ow, c, f, s, r) (qx_pl b) ch (nI k) := by
  refine loop_0 (fun n i r => wY_close_3 post (qx_pl b) ch (nI k) kn wi n (nI i) ow c f s r) (fun i r => ∀ p, p < i → qb_Is (r p) (fun q => qg_E ob (qx_N f) (qx_N s) b (bt ch) p q ∧ qx_N c p ≤ k ∧ qx_N c q ≤ k)) 8 r lt_0 ?_ ?_
  · intro n r hI
    exact br_t (nI_le (a := 8) (b := 8) (Nat.le_refl _) (by decide)) (qy_159 hI h)
  · intro n i r hi hI ih
    have hci : (nI i).toNatClampNeg = i := nI_clamp (by omega)
    have hin : vp_in (nI i) 8 := vp_in_nI hi (by decide)
    have hfi := hf i hi
    have hsi := hs i hi
    have hor : qb_Is (((1 : Int32) <<< (nI (qx_N f i) &&& 31)) ||| ((1 : Int32) <<< (nI (qx_N s i) &&& 31))) (fun q => q = qx_N f i ∨ q = qx_N s i) := qb_Is_or (qb_Is_1 hfi.2) (qb_Is_1 hsi.2)
    refine br_f (nI_ge (b := 8) hi (by decide)) ⟨hin, hin, nm_e ?_⟩
    rw [hci, hfi.1, hsi.1]
    have h62 : ∀ z0 : Int32, qb_Is z0 (fun q => q = qg_mv (qx_N f) (qx_N s) i (bt ch i)) →
        wY_close_62 post (wY_close_3 post (qx_pl b) ch (nI k) kn wi n) (qx_pl b) ch (nI k) (nI i) (((1 : Int32) <<< (nI (qx_N f i) &&& 31)) ||| ((1 : Int32) <<< (nI (qx_N s i) &&& 31))) z0 kn wi ow c f s r := by
      intro z0 hz
      refine ⟨hin, ?_⟩
      rw [hci, ho i hi]
      refine br_c (fun e => qy_90 hc hi hk hz (fun v hv => ih _ (qx_up hI (qb_Is_c hv (fun q hq => ?_))))) (fun e => qy_90 hc hi hk hor (fun v hv => ih _ (qx_up hI (qb_Is_c hv (fun q hq => ?_)))))
      · have e' := (qy_plne b (ob i)).mp e
        refine and_congr ?_ Iff.rfl
        constructor
        · intro y; exact ⟨hi, Or.inl ⟨e', y⟩⟩
        · rintro ⟨_, y | y⟩
          · exact y.2
          · exact absurd e' y.1
      · have e' : ¬ ob i = b := fun y => e ((qy_plne b (ob i)).mpr y)
        refine and_congr ?_ Iff.rfl
        constructor
        · intro y; exact ⟨hi, Or.inr ⟨e', y⟩⟩
        · rintro ⟨_, y | y⟩
          · exact absurd y.1 e'
          · exact y.2
    refine br_c (fun e => ⟨hin, h62 _ ?_⟩) (fun e => ⟨hin, h62 _ ?_⟩)
    · have e' := (qb_bit1 ch (by omega)).mp e
      rw [e']
      exact qb_Is_1 hsi.2
    · have e' : bt ch i = false := by
        cases hb : bt ch i
        · rfl
        · exact absurd ((qb_bit1 ch (by omega)).mpr hb) e
      rw [e']
      exact qb_Is_1 hfi.2
theorem qy_res {E : Nat → Nat → Prop} {col : Nat → Nat} {k p q : Nat} (hp : col p ≤ k) (hq : col q ≤ k) :
    qr_R (fun a b => E a b ∧ col a ≤ k ∧ col b ≤ k) (fun b => b < 8) p q ↔ qr_R E (fun b => b < 8 ∧ col b ≤ k) p q := by
  constructor
  · intro h
    exact (h (fun a b => qr_R E (fun b => b < 8 ∧ col b ≤ k) a b ∧ col a ≤ k ∧ col b ≤ k) (fun a b e => ⟨qr_e e.1, e.2⟩) (fun a b c h1 hb h2 => ⟨qr_c h1.1 ⟨hb, h1.2.2⟩ h2.1, h1.2.1, h2.2.2⟩)).1
  · intro h
    exact qr_mono (fun _ _ e => e) (fun b z => z.1) (qr_res (K := fun b => col b ≤ k) (fun b z => z.2) hp hq h)
def qy_a (b : Bool) : Nat := if b = true then 0 else 1
theorem qy_par (b : Bool) (k : Nat) : (qg_par (qy_a b + 2 * k) ≠ b) ∧ qg_par (qy_a b + 2 * k + 1) = b := by
  unfold qg_par qy_a
  cases b
  · have e1 : (1 + 2 * k) % 2 = 1 := by omega
    have e2 : ¬ (1 + 2 * k + 1) % 2 = 1 := by omega
    simp [e1, e2]
  · have e1 : ¬ (0 + 2 * k) % 2 = 1 := by omega
    have e2 : (0 + 2 * k + 1) % 2 = 1 := by omega
    simp [e2]
theorem qy_a_le (b : Bool) : qy_a b ≤ 1 := by cases b <;> decide
theorem qy_95 {post : Int32 → SY → Prop} {x3 kn wi : Int32} {ow c f s r : Nat → Int32} {L : Nat → Prop} {Q : Nat → Nat → Prop} (hL : qb_Is x3 L) (hr : qx_Re r Q)
    (h : ∀ x, qb_Is x (fun p => ¬ L p ∧ ¬ ∃ q, q < 8 ∧ Q p q ∧ L q) → post x (kn, wi, ow, c, f, s, r)) : ∃ n, wY_plan_95 post x3 kn wi ow c f s r n 0 0 := by
  refine loop_0 (fun n j x => wY_plan_95 post x3 kn wi ow c f s r n x (nI j)) (fun j x => qb_Is x (fun p => p < j ∧ ¬ L p ∧ ¬ ∃ q, q < 8 ∧ Q p q ∧ L q)) 8 0 (qb_Is_0 (fun i _ z => absurd z.1 (Nat.not_lt_zero _))) ?_ ?_
  · intro n x hI
    exact br_t (nI_le (a := 8) (b := 8) (Nat.le_refl _) (by decide)) (h x (qb_Is_c hI (fun p hp => ⟨fun z => z.2, fun z => ⟨hp, z⟩⟩)))
  · intro n j x hj hI ih
    have hcj : (nI j).toNatClampNeg = j := nI_clamp (by omega)
    have hinj : vp_in (nI j) 8 := vp_in_nI hj (by decide)
    have ha := qb_Is_and0 (hr j hj) hL
    have keep : ¬ (¬ L j ∧ ¬ ∃ q, q < 8 ∧ Q j q ∧ L q) → qb_Is x (fun p => p < j + 1 ∧ ¬ L p ∧ ¬ ∃ q, q < 8 ∧ Q p q ∧ L q) := by
      intro hn
      refine qb_Is_c hI (fun p hp => ⟨fun z => ⟨by omega, z.2⟩, fun z => ⟨?_, z.2⟩⟩)
      by_cases e : p = j
      · subst e; exact absurd z.2 hn
      · omega
    refine br_f (nI_ge (b := 8) hj (by decide)) ?_
    refine br_c (fun e => ⟨hinj, ?_⟩) (fun e => nm_r (nI_1 j) (ih _ (keep (fun z => ?_))))
    · rw [hcj]
      have e' := (qb_bit0 x3 (m := j) (by omega)).mp e
      have nL : ¬ L j := by
        intro z
        rw [(hL j (by omega)).mpr ⟨hj, z⟩] at e'
        exact absurd e' (by decide)
      refine br_c (fun y => nm_e (nm_r (nI_1 j) (ih _ (qb_Is_c (qb_Is_or hI (qb_Is_1 hj)) (fun p hp => ?_))))) (fun y => nm_r (nI_1 j) (ih _ (keep (fun z => y (ha.mpr z.2)))))
      constructor
      · rintro (z | z)
        · exact ⟨by omega, z.2⟩
        · subst z; exact ⟨by omega, nL, ha.mp y⟩
      · intro z
        by_cases eq : p = j
        · exact Or.inr eq
        · exact Or.inl ⟨by omega, z.2⟩
    · refine e ((qb_bit0 x3 (m := j) (by omega)).mpr ?_)
      cases hb : bt x3 j
      · rfl
      · exact absurd ((hL j (by omega)).mp hb).2 z.1
theorem qy_25 {post : Int32 → SY → Prop} {J7 : Int32 → Int32 → Int32 → Int32 → (Nat → Int32) → (Nat → Int32) → (Nat → Int32) → (Nat → Int32) → (Nat → Int32) → Prop} {x1 x2 x3 kn wi : Int32} {ow c f s r : Nat → Int32} {L : Nat → Prop} {Q : Nat → Nat → Prop} {k : Nat} (hk : k < 6) (hc : qx_Rg c 6) (hL : qb_Is x3 L) (hr : qx_Re r Q)
    (h : ∀ x, qb_Is x (fun p => L p ∨ (qx_N c p = k ∧ Q p p)) → J7 x (nI (k + 2)) kn wi ow c f s r) : ∃ n, wY_plan_25 post J7 x1 x2 (nI k) kn wi ow c f s r n x3 0 := by
  refine loop_0 (fun n j x => wY_plan_25 post J7 x1 x2 (nI k) kn wi ow c f s r n x (nI j)) (fun j x => qb_Is x (fun p => L p ∨ (p < j ∧ qx_N c p = k ∧ Q p p))) 8 x3 ?_ ?_ ?_
  · exact qb_Is_c hL (fun p hp => ⟨Or.inl, fun z => z.elim id (fun y => absurd y.1 (Nat.not_lt_zero _))⟩)
  · intro n x hI
    exact br_t (nI_le (a := 8) (b := 8) (Nat.le_refl _) (by decide)) (nm_r (nI_add k 2) (h x (qb_Is_c hI (fun p hp => ⟨fun z => z.elim Or.inl (fun y => Or.inr y.2), fun z => z.elim Or.inl (fun y => Or.inr ⟨hp, y⟩)⟩))))
  · intro n j x hj hI ih
    have hcj : (nI j).toNatClampNeg = j := nI_clamp (by omega)
    have hinj : vp_in (nI j) 8 := vp_in_nI hj (by decide)
    have hcc := hc j hj
    have keep : ¬ (qx_N c j = k ∧ Q j j) → qb_Is x (fun p => L p ∨ (p < j + 1 ∧ qx_N c p = k ∧ Q p p)) := by
      intro hn
      refine qb_Is_c hI (fun p hp => ⟨fun z => z.elim Or.inl (fun y => Or.inr ⟨by omega, y.2⟩), fun z => z.elim Or.inl (fun y => Or.inr ⟨?_, y.2⟩)⟩)
      by_cases e : p = j
      · subst e; exact absurd y.2 hn
      · omega
    refine br_f (nI_ge (b := 8) hj (by decide)) ⟨hinj, ?_⟩
    rw [hcj, hcc.1]
    refine br_c (fun e => ⟨hinj, ?_⟩) (fun e => nm_r (nI_1 j) (ih _ (keep (fun z => e (by rw [z.1])))))
    have e' : qx_N c j = k := (nI_eq (by omega) (by omega)).mp e
    have hb : ((r j >>> (nI j &&& 31)) &&& 1) = 1 ↔ Q j j := by
      rw [qb_bit1 _ (by omega), hr j hj j (by omega)]
      exact ⟨fun z => z.2, fun z => ⟨hj, z⟩⟩
    refine br_c (fun y => nm_e (nm_r (nI_1 j) (ih _ (qb_Is_c (qb_Is_or hI (qb_Is_1 hj)) (fun p hp => ?_))))) (fun y => nm_r (nI_1 j) (ih _ (keep (fun z => y (hb.mpr z.2)))))
    constructor
    · rintro ((z | z) | z)
      · exact Or.inl z
      · exact Or.inr ⟨by omega, z.2⟩
      · subst z; exact Or.inr ⟨by omega, e', hb.mp y⟩
    · rintro (z | z)
      · exact Or.inl (Or.inl z)
      · by_cases eq : p = j
        · exact Or.inr eq
        · exact Or.inl (Or.inr ⟨by omega, z.2⟩)
theorem qy_plan {post : Int32 → SY → Prop} {kn wi : Int32} {ow c f s r : Nat → Int32} {ch : Int32} (ob : Nat → Bool) (ho : ∀ p, p < 8 → ow p = qx_pl (ob p)) (b : Bool) (hc : qx_Rg c 6) (hf : qx_Rg f 8) (hs : qx_Rg s 8)
    (h : ∀ x r', qb_Is x (qg_Won ob (qx_N f) (qx_N s) (qx_N c) b (bt ch)) → post x (kn, wi, ow, c, f, s, r')) : wpY_plan post (kn, wi, ow, c, f, s, r) (qx_pl b) ch := by
  have ha : (1 : Int32) - qx_pl b = nI (qy_a b + 2 * 0) := by cases b <;> decide
  have hle := qy_a_le b
  refine nm_r ha ?_
  refine loop_0 (σ := Int32 × (Nat → Int32)) (fun n t st => wY_plan_7 post (qx_pl b) ch n st.1 (nI (qy_a b + 2 * t)) kn wi ow c f s st.2)
    (fun t st => qb_Is st.1 (fun q => qx_N c q < qy_a b + 2 * t ∧ qg_L ob (qx_N f) (qx_N s) (qx_N c) b (bt ch) q)) 3 (0, r) ?_ ?_ ?_
  · refine qb_Is_0 (fun i _ z => ?_)
    have z1 := z.1
    have z2 := z.2.1
    have e0 : qx_N c i = 0 := by omega
    rw [e0] at z2
    have hb : b = false := by
      cases b
      · rfl
      · have : qy_a true = 0 := rfl
        omega
    subst hb
    exact z2 rfl
  · rintro n ⟨lo, r1⟩ hI
    have hI' : qb_Is lo (fun q => qg_L ob (qx_N f) (qx_N s) (qx_N c) b (bt ch) q) := qb_Is_c hI (fun q hq => ⟨fun z => z.2, fun z => ⟨by have := (hc q hq).2; omega, z⟩⟩)
    refine br_t (nI_le (a := 6) (b := qy_a b + 2 * 3) (by omega) (by omega)) (qy_close ob ho b 5 (by omega) hc hf hs (fun r2 hr2 => qy_95 hI' hr2 (fun x hx => h x r2 (qb_Is_c hx (fun p hp => ?_)))))
    have hR : ∀ q, q < 8 → (qr_R (fun p q => qg_E ob (qx_N f) (qx_N s) b (bt ch) p q ∧ qx_N c p ≤ 5 ∧ qx_N c q ≤ 5) (fun b => b < 8) p q ↔ qr_R (qg_E ob (qx_N f) (qx_N s) b (bt ch)) (fun b => b < 8) p q) := by
      intro q hq
      rw [qy_res (by have := (hc p hp).2; omega) (by have := (hc q hq).2; omega)]
      exact qr_congr (fun _ _ => Iff.rfl) (fun b => ⟨fun z => z.1, fun z => ⟨z, by have := (hc b z).2; omega⟩⟩) p q
    constructor
    · rintro ⟨_, z⟩ ⟨q, hq, h1, h2⟩
      exact z ⟨q, hq, (hR q hq).mpr h2, h1⟩
    · intro z
      refine ⟨fun y => z ⟨p, hp, y, qr_mono (fun _ _ e => e) (fun b w => w.1) y.2⟩, ?_⟩
      rintro ⟨q, hq, h1, h2⟩
      exact z ⟨q, hq, h2, (hR q hq).mp h1⟩
  · rintro n t ⟨lo, r1⟩ ht hI ih
    have hp := qy_par b t
    refine br_f (nI_ge (a := qy_a b + 2 * t) (b := 6) (by omega) (by decide)) (qy_close ob ho b (qy_a b + 2 * t) (by omega) hc hf hs (fun r2 hr2 => qy_25 (by omega) hc hI hr2 (fun x hx => ih (x, r2) (qb_Is_c hx (fun q hq => ?_)))))
    have hR : qx_N c q = qy_a b + 2 * t → (qr_R (fun p q => qg_E ob (qx_N f) (qx_N s) b (bt ch) p q ∧ qx_N c p ≤ qy_a b + 2 * t ∧ qx_N c q ≤ qy_a b + 2 * t) (fun b => b < 8) q q ↔ qr_R (qg_E ob (qx_N f) (qx_N s) b (bt ch)) (fun b => b < 8 ∧ qx_N c b ≤ qx_N c q) q q) := by
      intro e
      rw [e]
      exact qy_res (by omega) (by omega)
    constructor
    · rintro (z | z)
      · exact ⟨by have := z.1; omega, z.2⟩
      · exact ⟨by have := z.1; omega, by rw [z.1]; exact hp.1, (hR z.1).mp z.2⟩
    · rintro ⟨z, w⟩
      by_cases e1 : qx_N c q < qy_a b + 2 * t
      · exact Or.inl ⟨e1, w⟩
      · by_cases e2 : qx_N c q = qy_a b + 2 * t
        · exact Or.inr ⟨e2, (hR e2).mpr w.2⟩
        · have e3 : qx_N c q = qy_a b + 2 * t + 1 := by omega
          have := w.1
          rw [e3] at this
          exact absurd hp.2 this
