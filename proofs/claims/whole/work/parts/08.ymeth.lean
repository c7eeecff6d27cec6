theorem qy_w0 {post : Int32 → SY → Prop} {kn wi : Int32} {ow c f s r : Nat → Int32} (ob : Nat → Bool) (ho : ∀ p, p < 8 → ow p = qx_pl (ob p)) (hc : qx_Rg c 6) (hf : qx_Rg f 8) (hs : qx_Rg s 8)
    (h : ∀ x r', qb_Is x (qp_W0 ob (qx_N f) (qx_N s) (qx_N c)) → post x (kn, wi, ow, c, f, s, r')) : wpY_wonBy0 post (kn, wi, ow, c, f, s, r) := by
  refine loop_0 (fun n i x => wY_wonBy0_4 post kn wi ow c f s r n x (nI i)) (fun i x => qb_Is x (fun p => p < i ∧ ob p = false)) 8 0 (qb_Is_0 (fun i _ z => absurd z.1 (Nat.not_lt_zero _))) ?_ ?_
  · intro n mi hmi
    refine br_t (nI_le (a := 8) (b := 8) (Nat.le_refl _) (by decide)) ?_
    refine loop_0 (σ := Int32 × (Nat → Int32)) (fun n k st => wY_wonBy0_35 post mi n st.1 (nI k) kn wi ow c f s st.2)
      (fun k st => qb_Is st.1 (fun p => ∃ d, d < k ∧ (nI d &&& (mi ^^^ (-1))) = 0 ∧ qg_Won ob (qx_N f) (qx_N s) (qx_N c) false (bt (nI d)) p)) 256 (0, r) ?_ ?_ ?_
    · exact qb_Is_0 (fun i _ z => by obtain ⟨d, hd, _⟩ := z; omega)
    · rintro n ⟨w, r1⟩ hI
      refine br_t (nI_le (a := 256) (b := 256) (by omega) (by decide)) (h w r1 (qb_Is_c hI (fun p hp => ?_)))
      constructor
      · rintro ⟨d, hd, _, z⟩
        exact ⟨d, hd, z⟩
      · rintro ⟨d, hd, z⟩
        obtain ⟨d', hd', e⟩ := qb_small (nI d &&& mi) (fun i hi hb => by
          rw [b_and, Bool.and_eq_true] at hb
          exact ((hmi i hi).mp hb.2).1)
        refine ⟨d', hd', ?_, (qg_Won_c (fun _ _ => rfl) (fun q hq hoq => ?_) p).mp z⟩
        · rw [← e, qb_sub]
          intro i hi hb
          rw [b_and, Bool.and_eq_true] at hb
          exact hb.2
        · rw [← e, b_and, (hmi q (by omega)).mpr ⟨hq, hq, hoq⟩, Bool.and_true]
    · rintro n k ⟨w, r1⟩ hk hI ih
      refine br_f (nI_ge (b := 256) hk (by decide)) (br_c (fun e => ?_) (fun e => nm_r (nI_1 k) (ih (w, r1) (qb_Is_c hI (fun p hp => ?_)))))
      · refine qy_plan ob ho false hc hf hs (fun x r2 hx => nm_e (nm_r (nI_1 k) (ih (w ||| x, r2) (qb_Is_c (qb_Is_or hI hx) (fun p hp => ?_)))))
        constructor
        · rintro (⟨d, hd, z⟩ | z)
          · exact ⟨d, by omega, z⟩
          · exact ⟨k, by omega, e, z⟩
        · rintro ⟨d, hd, z⟩
          by_cases eq : d = k
          · subst eq; exact Or.inr z.2
          · exact Or.inl ⟨d, by omega, z⟩
      · constructor
        · rintro ⟨d, hd, z⟩
          exact ⟨d, by omega, z⟩
        · rintro ⟨d, hd, z⟩
          by_cases eq : d = k
          · subst eq; exact absurd z.1 e
          · exact ⟨d, by omega, z⟩
  · intro n i x hi hI ih
    have hci : (nI i).toNatClampNeg = i := nI_clamp (by omega)
    have hin : vp_in (nI i) 8 := vp_in_nI hi (by decide)
    refine br_f (nI_ge (b := 8) hi (by decide)) ⟨hin, ?_⟩
    rw [hci, ho i hi]
    refine br_c (fun e => nm_e (nm_r (nI_1 i) (ih _ (qb_Is_c (qb_Is_or hI (qb_Is_1 hi)) (fun p hp => ?_))))) (fun e => nm_r (nI_1 i) (ih _ (qb_Is_c hI (fun p hp => ⟨fun z => ⟨by omega, z.2⟩, fun z => ⟨?_, z.2⟩⟩))))
    · have e' : ob i = false := (qy_plne false (ob i)).mp e
      constructor
      · rintro (z | z)
        · exact ⟨by omega, z.2⟩
        · subst z; exact ⟨by omega, e'⟩
      · intro z
        by_cases eq : p = i
        · exact Or.inr eq
        · exact Or.inl ⟨by omega, z.2⟩
    · by_cases eq : p = i
      · subst eq
        exact absurd ((qy_plne false (ob p)).mpr z.2) e
      · omega
/-- what is kept of the positions won: nothing, or the mask -/
def qy_K (kn wi : Int32) (W : Nat → Prop) : Prop := kn = 0 ∨ qb_Is wi W
theorem qy_region {post : Int32 → SY → Prop} {kn wi : Int32} {ow c f s r : Nat → Int32} (ob : Nat → Bool) (ho : ∀ p, p < 8 → ow p = qx_pl (ob p)) (hc : qx_Rg c 6) (hf : qx_Rg f 8) (hs : qx_Rg s 8)
    (hK : qy_K kn wi (qp_W0 ob (qx_N f) (qx_N s) (qx_N c)))
    (h : ∀ x kn' wi' r', qb_Is x (qp_W0 ob (qx_N f) (qx_N s) (qx_N c)) → qy_K kn' wi' (qp_W0 ob (qx_N f) (qx_N s) (qx_N c)) → post x (kn', wi', ow, c, f, s, r')) : wpY_region post (kn, wi, ow, c, f, s, r) := by
  refine br_c (fun e => qy_w0 ob ho hc hf hs (fun x r' hx => h x 1 x r' hx (Or.inr hx))) (fun e => ?_)
  rcases hK with z | z
  · exact absurd z e
  · exact h wi kn wi r z (Or.inr z)
theorem qy_good {post : Int32 → SY → Prop} {kn wi : Int32} {ow c f s r : Nat → Int32} {ch : Int32} (ob : Nat → Bool) (ho : ∀ p, p < 8 → ow p = qx_pl (ob p)) (b : Bool) (hc : qx_Rg c 6) (hf : qx_Rg f 8) (hs : qx_Rg s 8)
    (hK : qy_K kn wi (qp_W0 ob (qx_N f) (qx_N s) (qx_N c)))
    (h1 : ∀ kn' wi' r', qy_K kn' wi' (qp_W0 ob (qx_N f) (qx_N s) (qx_N c)) → qp_good ob (qx_N f) (qx_N s) (qx_N c) b (bt ch) → post 1 (kn', wi', ow, c, f, s, r'))
    (h0 : ∀ kn' wi' r', qy_K kn' wi' (qp_W0 ob (qx_N f) (qx_N s) (qx_N c)) → ¬ qp_good ob (qx_N f) (qx_N s) (qx_N c) b (bt ch) → post 0 (kn', wi', ow, c, f, s, r')) : wpY_good post (kn, wi, ow, c, f, s, r) (qx_pl b) ch := by
  have h32 : ∀ (w kn' wi' : Int32) (r' : Nat → Int32), qy_K kn' wi' (qp_W0 ob (qx_N f) (qx_N s) (qx_N c)) → qb_Is w (qp_due ob (qx_N f) (qx_N s) (qx_N c) b) → wY_good_32 post (qx_pl b) ch w kn' wi' ow c f s r' := by
    intro w kn' wi' r' hK' hw
    refine qy_plan ob ho b hc hf hs (fun x r2 hx => ?_)
    have e := qb_Is_sub hw hx
    exact br_c (fun z => h1 kn' wi' r2 hK' (e.mp z)) (fun z => h0 kn' wi' r2 hK' (fun y => z (e.mpr y)))
  cases b
  · refine br_f (by decide) (br_t (by decide) (br_t rfl (qy_region ob ho hc hf hs hK (fun x kn' wi' r' hx hK' => ?_))))
    exact h32 x kn' wi' r' hK' hx
  · refine br_f (by decide) (br_t (by decide) (br_f (by decide) (qy_region ob ho hc hf hs hK (fun x kn' wi' r' hx hK' => ?_))))
    exact h32 _ kn' wi' r' hK' (qb_Is_not hx)
theorem qy_plans {post : Int32 → SY → Prop} {kn wi : Int32} {ow c f s r : Nat → Int32} (ob : Nat → Bool) (ho : ∀ p, p < 8 → ow p = qx_pl (ob p)) (b : Bool) (hc : qx_Rg c 6) (hf : qx_Rg f 8) (hs : qx_Rg s 8)
    (hK : qy_K kn wi (qp_W0 ob (qx_N f) (qx_N s) (qx_N c)))
    (h : ∀ kn' wi' r', qy_K kn' wi' (qp_W0 ob (qx_N f) (qx_N s) (qx_N c)) → post (qx_cn (fun d => qp_good ob (qx_N f) (qx_N s) (qx_N c) b (bt (nI d))) 256) (kn', wi', ow, c, f, s, r')) : wpY_plans post (kn, wi, ow, c, f, s, r) (qx_pl b) := by
  have hl : ∃ n, wY_plans_16 post (qx_pl b) n 0 0 kn wi ow c f s r := by
    refine loop_0 (σ := Int32 × Int32 × Int32 × (Nat → Int32)) (fun n k st => wY_plans_16 post (qx_pl b) n st.1 (nI k) st.2.1 st.2.2.1 ow c f s st.2.2.2)
      (fun k st => qy_K st.2.1 st.2.2.1 (qp_W0 ob (qx_N f) (qx_N s) (qx_N c)) ∧ st.1 = qx_cn (fun d => qp_good ob (qx_N f) (qx_N s) (qx_N c) b (bt (nI d))) k) 256 (0, kn, wi, r) ⟨hK, rfl⟩ ?_ ?_
    · rintro n ⟨x, kn1, wi1, r1⟩ ⟨hK1, hI⟩
      have hI' : x = _ := hI
      refine br_t (nI_le (a := 256) (b := 256) (by omega) (by decide)) ?_
      dsimp only
      rw [hI']
      exact h kn1 wi1 r1 hK1
    · rintro n k ⟨x, kn1, wi1, r1⟩ hk ⟨hK1, hI⟩ ih
      have hI' : x = _ := hI
      refine br_f (nI_ge (b := 256) hk (by decide)) (qy_good ob ho b hc hf hs hK1 (fun kn2 wi2 r2 hK2 hg => ?_) (fun kn2 wi2 r2 hK2 hg => ?_))
      · exact br_f (by decide) (nm_e (nm_r (nI_1 k) (ih (x + 1, kn2, wi2, r2) ⟨hK2, by show x + 1 = _; rw [hI']; exact (qx_cn_t (P := fun d => qp_good ob (qx_N f) (qx_N s) (qx_N c) b (bt (nI d))) hg).symm⟩)))
      · exact br_t rfl (nm_r (nI_1 k) (ih (x, kn2, wi2, r2) ⟨hK2, by show x = _; rw [hI']; exact (qx_cn_f (P := fun d => qp_good ob (qx_N f) (qx_N s) (qx_N c) b (bt (nI d))) hg).symm⟩))
  cases b
  · exact br_f (by decide) (br_t (by decide) hl)
  · exact br_f (by decide) (br_t (by decide) hl)
theorem qy_first {post : Int32 → SY → Prop} {kn wi : Int32} {ow c f s r : Nat → Int32} (ob : Nat → Bool) (ho : ∀ p, p < 8 → ow p = qx_pl (ob p)) (b : Bool) (hc : qx_Rg c 6) (hf : qx_Rg f 8) (hs : qx_Rg s 8)
    (hK : qy_K kn wi (qp_W0 ob (qx_N f) (qx_N s) (qx_N c)))
    (h : ∀ j kn' wi' r', qy_K kn' wi' (qp_W0 ob (qx_N f) (qx_N s) (qx_N c)) → j < 256 → qp_good ob (qx_N f) (qx_N s) (qx_N c) b (bt (nI j)) → (∀ d, d < j → ¬ qp_good ob (qx_N f) (qx_N s) (qx_N c) b (bt (nI d))) → post (nI j) (kn', wi', ow, c, f, s, r')) : wpY_firstPlan post (kn, wi, ow, c, f, s, r) (qx_pl b) := by
  have hl : ∃ n, wY_firstPlan_14 post (qx_pl b) n 0 kn wi ow c f s r := by
    refine loop_0 (σ := Int32 × Int32 × (Nat → Int32)) (fun n k st => wY_firstPlan_14 post (qx_pl b) n (nI k) st.1 st.2.1 ow c f s st.2.2)
      (fun k st => qy_K st.1 st.2.1 (qp_W0 ob (qx_N f) (qx_N s) (qx_N c)) ∧ ∀ d, d < k → ¬ qp_good ob (qx_N f) (qx_N s) (qx_N c) b (bt (nI d))) 256 (kn, wi, r) ⟨hK, lt_0⟩ ?_ ?_
    · rintro n ⟨kn1, wi1, r1⟩ ⟨hK1, hI⟩
      obtain ⟨d, hd, hg⟩ := qp_some ob (qx_N f) (qx_N s) (qx_N c) (fun p hp => (hf p hp).2) (fun p hp => (hs p hp).2) b
      exact absurd hg (hI d hd)
    · rintro n k ⟨kn1, wi1, r1⟩ hk ⟨hK1, hI⟩ ih
      refine br_f (nI_ge (b := 256) hk (by decide)) (qy_good ob ho b hc hf hs hK1 (fun kn2 wi2 r2 hK2 hg => ?_) (fun kn2 wi2 r2 hK2 hg => ?_))
      · exact br_f (by decide) (h k kn2 wi2 r2 hK2 hk hg hI)
      · exact br_t rfl (nm_r (nI_1 k) (ih (kn2, wi2, r2) ⟨hK2, lt_s hI hg⟩))
  cases b
  · exact br_f (by decide) (br_t (by decide) hl)
  · exact br_f (by decide) (br_t (by decide) hl)
theorem qy_back (ow : Nat → Int32) (p : Nat) : upd (upd ow p (1 - ow p)) p (1 - upd ow p (1 - ow p) p) = ow := by
  funext j
  by_cases e : j = p
  · subst e
    rw [qx_us, qx_us]
    grind
  · rw [qx_un e, qx_un e]
def qy_ot (ob : Nat → Bool) (p : Nat) : Nat → Bool := fun j => if j = p then !ob j else ob j
theorem qy_ot_o {ow : Nat → Int32} {ob : Nat → Bool} (ho : ∀ p, p < 8 → ow p = qx_pl (ob p)) (i : Nat) (hi : i < 8) : ∀ p, p < 8 → upd ow i (1 - ow i) p = qx_pl (qy_ot ob i p) := by
  intro p hp
  unfold qy_ot
  by_cases e : p = i
  · subst e
    rw [qx_us, if_pos rfl, ho p hp]
    cases ob p <;> decide
  · rw [qx_un e, if_neg e]
    exact ho p hp
theorem qy_contested {post : Int32 → SY → Prop} {kn wi : Int32} {ow c f s r : Nat → Int32} (ob : Nat → Bool) (ho : ∀ p, p < 8 → ow p = qx_pl (ob p)) (hc : qx_Rg c 6) (hf : qx_Rg f 8) (hs : qx_Rg s 8)
    (hK : qy_K kn wi (qp_W0 ob (qx_N f) (qx_N s) (qx_N c)))
    (h : ∀ kn' wi' r', qy_K kn' wi' (qp_W0 ob (qx_N f) (qx_N s) (qx_N c)) → post (qx_cn (fun p => ¬ ∀ q, q < 8 → (qp_W0 ob (qx_N f) (qx_N s) (qx_N c) q ↔ qp_W0 (qy_ot ob p) (qx_N f) (qx_N s) (qx_N c) q)) 8) (kn', wi', ow, c, f, s, r')) : wpY_contested post (kn, wi, ow, c, f, s, r) := by
  unfold wpY_contested
  dsimp only
  refine qy_region ob ho hc hf hs hK (fun w kn1 wi1 r1 hw hK1 => ?_)
  refine loop_0 (σ := Int32 × (Nat → Int32)) (fun n k st => wY_contested_9 post w n st.1 (nI k) kn1 wi1 ow c f s st.2)
    (fun k st => st.1 = qx_cn (fun p => ¬ ∀ q, q < 8 → (qp_W0 ob (qx_N f) (qx_N s) (qx_N c) q ↔ qp_W0 (qy_ot ob p) (qx_N f) (qx_N s) (qx_N c) q)) k) 8 (0, r1) rfl ?_ ?_
  · rintro n ⟨x, r2⟩ hI
    have hI' : x = _ := hI
    refine br_t (nI_le (a := 8) (b := 8) (by omega) (by decide)) ?_
    dsimp only
    rw [hI']
    exact h kn1 wi1 r2 hK1
  · rintro n k ⟨x, r2⟩ hk hI ih
    have hI' : x = _ := hI
    have hck : (nI k).toNatClampNeg = k := nI_clamp (by omega)
    have hin : vp_in (nI k) 8 := vp_in_nI hk (by decide)
    have hend : ∀ (x' : Int32) (r' : Nat → Int32), x' = qx_cn (fun p => ¬ ∀ q, q < 8 → (qp_W0 ob (qx_N f) (qx_N s) (qx_N c) q ↔ qp_W0 (qy_ot ob p) (qx_N f) (qx_N s) (qx_N c) q)) (k + 1) →
        wY_contested_40 post (wY_contested_9 post w n) w x' (nI k) kn1 wi1 (upd ow k (1 - ow k)) c f s r' := by
      intro x' r' hx'
      refine ⟨hin, hin, nm_r (e' := ow) ?_ (nm_r (nI_1 k) (ih (x', r') hx'))⟩
      rw [hck]
      exact qy_back ow k
    refine br_f (nI_ge (b := 8) hk (by decide)) ⟨hin, hin, nm_e ?_⟩
    rw [hck]
    refine qy_w0 (qy_ot ob k) (qy_ot_o ho k hk) hc hf hs (fun y r3 hy => ?_)
    refine br_c (fun e => hend x r3 ?_) (fun e => nm_e (hend (x + 1) r3 ?_))
    · rw [hI']
      refine (qx_cn_f (P := fun p => ¬ ∀ q, q < 8 → (qp_W0 ob (qx_N f) (qx_N s) (qx_N c) q ↔ qp_W0 (qy_ot ob p) (qx_N f) (qx_N s) (qx_N c) q)) (fun z => z (fun q hq => ?_))).symm
      rw [e] at hy
      have a := hw q (by omega)
      have b := hy q (by omega)
      constructor
      · intro t; exact (b.mp (a.mpr ⟨hq, t⟩)).2
      · intro t; exact (a.mp (b.mpr ⟨hq, t⟩)).2
    · rw [hI']
      exact (qx_cn_t (P := fun p => ¬ ∀ q, q < 8 → (qp_W0 ob (qx_N f) (qx_N s) (qx_N c) q ↔ qp_W0 (qy_ot ob p) (qx_N f) (qx_N s) (qx_N c) q)) (fun z => e (qb_Is_eq hw hy z))).symm
