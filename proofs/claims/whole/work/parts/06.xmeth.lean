theorem qx_plan {post : Int32 → SX → Prop} {o : Int32} {c f s r : Nat → Int32} {ch mk : Int32} (b : Bool) (hc : qx_Rg c 6) (hf : qx_Rg f 8) (hs : qx_Rg s 8)
    (h : ∀ x r', qb_Is x (qg_Won (bt mk) (qx_N f) (qx_N s) (qx_N c) b (bt ch)) → post x (o, c, f, s, r')) : wpX_wonByPlan post (o, c, f, s, r) (qx_pl b) ch mk := by
  refine qx_lay b hf hs (fun r0 hr0 => ?_)
  refine loop_0 (σ := Int32 × (Nat → Int32)) (fun n k st => wX_wonByPlan_13 post (qx_pl b) n st.1 (nI k) o c f s st.2)
    (fun k st => qb_Is st.1 (fun q => qx_N c q < k ∧ qg_L (bt mk) (qx_N f) (qx_N s) (qx_N c) b (bt ch) q) ∧ qx_Re st.2 (qr_R (qg_E (bt mk) (qx_N f) (qx_N s) b (bt ch)) (fun b => b < 8 ∧ qx_N c b < k))) 6 (0, r0) ?_ ?_ ?_
  · refine ⟨qb_Is_0 (fun i _ z => absurd z.1 (Nat.not_lt_zero _)), qx_Re_c hr0 (fun p q _ _ => (qr_none (fun b z => absurd z.2 (Nat.not_lt_zero _)) p q).symm)⟩
  · rintro n ⟨lo, r1⟩ ⟨hI, hR⟩
    refine br_t (nI_le (a := 6) (b := 6) (Nat.le_refl _) (by decide)) (qx_reaching hI hR (fun x hx => h _ _ (qb_Is_c (qb_Is_not hx) (fun p hp => ?_))))
    refine not_congr ?_
    constructor
    · rintro ⟨q, hq, h1, h2⟩
      exact ⟨q, hq, h2.2, qr_mono (fun _ _ e => e) (fun b z => z.1) h1⟩
    · rintro ⟨q, hq, h1, h2⟩
      exact ⟨q, hq, qr_mono (fun _ _ e => e) (fun b z => ⟨z, (hc b z).2⟩) h2, (hc q hq).2, h1⟩
  · rintro n k ⟨lo, r1⟩ hk ⟨hI, hR⟩ ih
    refine br_f (nI_ge (b := 6) hk (by decide)) (qx_pass hc hk hR (fun r2 hR2 => ?_))
    have hpar := qx_par k hk b
    refine br_c (fun e => nm_r (nI_1 k) (ih (lo, r2) ⟨qb_Is_c hI (fun q hq => ⟨fun z => ⟨by omega, z.2⟩, fun z => ⟨?_, z.2⟩⟩), hR2⟩)) (fun e => ?_)
    · have e' := hpar.mp e
      by_cases eq : qx_N c q = k
      · have := z.2.1
        rw [eq] at this
        exact absurd e' this
      · omega
    · refine qx_trip hc hk hR2 (fun x hx => nm_e (nm_r (nI_1 k) (ih (lo ||| x, r2) ⟨qb_Is_c (qb_Is_or hI hx) (fun q hq => ?_), hR2⟩)))
      constructor
      · rintro (z | z)
        · exact ⟨by omega, z.2⟩
        · refine ⟨by omega, ?_, ?_⟩
          · rw [z.1]; exact fun y => e (hpar.mpr y)
          · exact qr_mono (fun _ _ e => e) (fun b y => ⟨y.1, by omega⟩) z.2
      · rintro ⟨z, w⟩
        by_cases eq : qx_N c q = k
        · exact Or.inr ⟨eq, qr_mono (fun _ _ e => e) (fun b y => ⟨y.1, by omega⟩) w.2⟩
        · exact Or.inl ⟨by omega, w⟩
theorem qx_w0 {post : Int32 → SX → Prop} {o : Int32} {c f s r : Nat → Int32} {mk : Int32} (hc : qx_Rg c 6) (hf : qx_Rg f 8) (hs : qx_Rg s 8)
    (h : ∀ x r', qb_Is x (qp_W0 (bt mk) (qx_N f) (qx_N s) (qx_N c)) → post x (o, c, f, s, r')) : wpX_wonByPlayer0 post (o, c, f, s, r) mk := by
  refine loop_0 (σ := Int32 × (Nat → Int32)) (fun n k st => wX_wonByPlayer0_4 post mk n st.1 (nI k) o c f s st.2)
    (fun k st => qb_Is st.1 (fun p => ∃ d, d < k ∧ qg_Won (bt mk) (qx_N f) (qx_N s) (qx_N c) false (bt (nI d)) p)) 256 (0, r) ?_ ?_ ?_
  · exact qb_Is_0 (fun i _ z => by obtain ⟨d, hd, _⟩ := z; omega)
  · rintro n ⟨w, r1⟩ hI
    exact br_t (nI_lt (a := 255) (b := 256) (by omega) (by decide)) (h w r1 hI)
  · rintro n k ⟨w, r1⟩ hk hI ih
    refine br_f (nI_nlt (a := 255) (b := k) (by omega) (by decide)) (qx_plan false hc hf hs (fun x r2 hx => nm_e (nm_r (nI_1 k) (ih (w ||| x, r2) (qb_Is_c (qb_Is_or hI hx) (fun p hp => ?_))))))
    constructor
    · rintro (⟨d, hd, z⟩ | z)
      · exact ⟨d, by omega, z⟩
      · exact ⟨k, by omega, z⟩
    · rintro ⟨d, hd, z⟩
      by_cases e : d = k
      · subst e; exact Or.inr z
      · exact Or.inl ⟨d, by omega, z⟩
theorem qx_wonBy {post : Int32 → SX → Prop} {o : Int32} {c f s r : Nat → Int32} (b : Bool) (hc : qx_Rg c 6) (hf : qx_Rg f 8) (hs : qx_Rg s 8)
    (h : ∀ x r', qb_Is x (qp_due (bt o) (qx_N f) (qx_N s) (qx_N c) b) → post x (o, c, f, s, r')) : wpX_wonBy post (o, c, f, s, r) (qx_pl b) := by
  refine qx_w0 hc hf hs (fun x r' hx => ?_)
  cases b
  · exact br_t rfl (h x r' hx)
  · exact br_f (by decide) (h _ r' (qb_Is_not hx))
theorem qx_holds {post : Int32 → SX → Prop} {o : Int32} {c f s r : Nat → Int32} {w ch : Int32} {D : Nat → Prop} (b : Bool) (hc : qx_Rg c 6) (hf : qx_Rg f 8) (hs : qx_Rg s 8) (hw : qb_Is w D)
    (h1 : ∀ r', (∀ p, p < 8 → D p → qg_Won (bt o) (qx_N f) (qx_N s) (qx_N c) b (bt ch) p) → post 1 (o, c, f, s, r'))
    (h0 : ∀ r', ¬ (∀ p, p < 8 → D p → qg_Won (bt o) (qx_N f) (qx_N s) (qx_N c) b (bt ch) p) → post 0 (o, c, f, s, r')) : wpX_holdsFor post (o, c, f, s, r) w (qx_pl b) ch := by
  refine qx_plan b hc hf hs (fun x r' hx => ?_)
  have e := qb_Is_sub hw hx
  exact br_c (fun z => h1 r' (e.mp z)) (fun z => h0 r' (fun y => z (e.mpr y)))
noncomputable def qx_cn (P : Nat → Prop) : Nat → Int32
  | 0 => 0
  | k + 1 => @ite Int32 (P k) (Classical.propDecidable _) (qx_cn P k + 1) (qx_cn P k)
theorem qx_cn_t {P : Nat → Prop} {k : Nat} (h : P k) : qx_cn P (k + 1) = qx_cn P k + 1 := if_pos h
theorem qx_cn_f {P : Nat → Prop} {k : Nat} (h : ¬ P k) : qx_cn P (k + 1) = qx_cn P k := if_neg h
theorem qx_cn_c {P P' : Nat → Prop} (h : ∀ k, P k ↔ P' k) : ∀ k, qx_cn P k = qx_cn P' k
  | 0 => rfl
  | k + 1 => by
    have ih := qx_cn_c h k
    by_cases c : P k
    · rw [qx_cn_t c, qx_cn_t ((h k).mp c), ih]
    · rw [qx_cn_f c, qx_cn_f (fun z => c ((h k).mpr z)), ih]
theorem qx_plans {post : Int32 → SX → Prop} {o : Int32} {c f s r : Nat → Int32} (b : Bool) (hc : qx_Rg c 6) (hf : qx_Rg f 8) (hs : qx_Rg s 8)
    (h : ∀ r', post (qx_cn (fun d => qp_good (bt o) (qx_N f) (qx_N s) (qx_N c) b (bt (nI d))) 256) (o, c, f, s, r')) : wpX_plans post (o, c, f, s, r) (qx_pl b) := by
  have hp : ∀ P : Int32 → Prop, P 1 → wpX_isPlayer P (qx_pl b) := by
    intro P hP
    cases b
    · exact br_t rfl hP
    · exact br_f (by decide) (br_t rfl hP)
  unfold wpX_plans
  dsimp only
  refine hp _ (br_f (by decide) (qx_wonBy b hc hf hs (fun w r1 hw => ?_)))
  refine loop_0 (σ := Int32 × (Nat → Int32)) (fun n k st => wX_plans_21 post (qx_pl b) w n st.1 (nI k) o c f s st.2)
    (fun k st => st.1 = qx_cn (fun d => qp_good (bt o) (qx_N f) (qx_N s) (qx_N c) b (bt (nI d))) k) 256 (0, r1) rfl ?_ ?_
  · rintro n ⟨x, r2⟩ hI
    have hI' : x = _ := hI
    refine br_t (nI_lt (a := 255) (b := 256) (by omega) (by decide)) ?_
    dsimp only
    rw [hI']
    exact h r2
  · rintro n k ⟨x, r2⟩ hk hI ih
    have hI' : x = _ := hI
    refine br_f (nI_nlt (a := 255) (b := k) (by omega) (by decide)) (qx_holds b hc hf hs hw (fun r3 hg => ?_) (fun r3 hg => ?_))
    · exact br_f (by decide) (nm_e (nm_r (nI_1 k) (ih (x + 1, r3) (by show x + 1 = _; rw [hI']; exact (qx_cn_t (P := fun d => qp_good (bt o) (qx_N f) (qx_N s) (qx_N c) b (bt (nI d))) hg).symm))))
    · exact br_t rfl (nm_r (nI_1 k) (ih (x, r3) (by show x = _; rw [hI']; exact (qx_cn_f (P := fun d => qp_good (bt o) (qx_N f) (qx_N s) (qx_N c) b (bt (nI d))) hg).symm)))
theorem qx_first {post : Int32 → SX → Prop} {o : Int32} {c f s r : Nat → Int32} (b : Bool) (hc : qx_Rg c 6) (hf : qx_Rg f 8) (hs : qx_Rg s 8)
    (h : ∀ j r', j < 256 → qp_good (bt o) (qx_N f) (qx_N s) (qx_N c) b (bt (nI j)) → (∀ d, d < j → ¬ qp_good (bt o) (qx_N f) (qx_N s) (qx_N c) b (bt (nI d))) → post (nI j) (o, c, f, s, r')) : wpX_firstPlan post (o, c, f, s, r) (qx_pl b) := by
  have hp : ∀ P : Int32 → Prop, P 1 → wpX_isPlayer P (qx_pl b) := by
    intro P hP
    cases b
    · exact br_t rfl hP
    · exact br_f (by decide) (br_t rfl hP)
  unfold wpX_firstPlan
  dsimp only
  refine hp _ (br_f (by decide) (qx_wonBy b hc hf hs (fun w r1 hw => ?_)))
  refine loop_0 (fun n k r => wX_firstPlan_18 post (qx_pl b) w n (nI k) o c f s r)
    (fun k _ => ∀ d, d < k → ¬ qp_good (bt o) (qx_N f) (qx_N s) (qx_N c) b (bt (nI d))) 255 r1 lt_0 ?_ ?_
  · intro n r2 hI
    refine br_t (nI_le (a := 255) (b := 255) (by omega) (by decide)) (h 255 r2 (by omega) ?_ hI)
    obtain ⟨d, hd, hg⟩ := qp_some (bt o) (qx_N f) (qx_N s) (qx_N c) (fun p hp => (hf p hp).2) (fun p hp => (hs p hp).2) b
    by_cases e : d = 255
    · subst e; exact hg
    · exact absurd hg (hI d (by omega))
  · intro n k r2 hk hI ih
    refine br_f (nI_ge (b := 255) hk (by decide)) (qx_holds b hc hf hs hw (fun r3 hg => ?_) (fun r3 hg => ?_))
    · exact br_f (by decide) (h k r3 (by omega) hg hI)
    · exact br_t rfl (nm_r (nI_1 k) (ih r3 (lt_s hI hg)))
theorem qx_good {post : Int32 → SX → Prop} {o : Int32} {c f s r : Nat → Int32} {ch : Int32} (b : Bool) (hc : qx_Rg c 6) (hf : qx_Rg f 8) (hs : qx_Rg s 8)
    (h1 : ∀ r', qp_good (bt o) (qx_N f) (qx_N s) (qx_N c) b (bt ch) → post 1 (o, c, f, s, r'))
    (h0 : ∀ r', ¬ qp_good (bt o) (qx_N f) (qx_N s) (qx_N c) b (bt ch) → post 0 (o, c, f, s, r')) : wpX_good post (o, c, f, s, r) (qx_pl b) ch := by
  have hp : ∀ P : Int32 → Prop, P 1 → wpX_isPlayer P (qx_pl b) := by
    intro P hP
    cases b
    · exact br_t rfl hP
    · exact br_f (by decide) (br_t rfl hP)
  unfold wpX_good
  dsimp only
  refine hp _ (br_f (by decide) (qx_wonBy b hc hf hs (fun w r1 hw => ?_)))
  exact qx_holds b hc hf hs hw (fun r3 hg => ⟨rfl, h1 r3 hg⟩) (fun r3 hg => ⟨rfl, h0 r3 hg⟩)
theorem qx_contested {post : Int32 → SX → Prop} {o : Int32} {c f s r : Nat → Int32} (hc : qx_Rg c 6) (hf : qx_Rg f 8) (hs : qx_Rg s 8)
    (h : ∀ r', post (qx_cn (fun p => ¬ ∀ q, q < 8 → (qp_W0 (bt o) (qx_N f) (qx_N s) (qx_N c) q ↔ qp_W0 (bt (o ^^^ ((1 : Int32) <<< (nI p &&& 31)))) (qx_N f) (qx_N s) (qx_N c) q)) 8) (o, c, f, s, r')) : wpX_contested post (o, c, f, s, r) := by
  unfold wpX_contested
  dsimp only
  refine qx_w0 hc hf hs (fun w r1 hw => ?_)
  refine loop_0 (σ := Int32 × (Nat → Int32)) (fun n k st => wX_contested_13 post w n st.1 (nI k) o c f s st.2)
    (fun k st => st.1 = qx_cn (fun p => ¬ ∀ q, q < 8 → (qp_W0 (bt o) (qx_N f) (qx_N s) (qx_N c) q ↔ qp_W0 (bt (o ^^^ ((1 : Int32) <<< (nI p &&& 31)))) (qx_N f) (qx_N s) (qx_N c) q)) k) 8 (0, r1) rfl ?_ ?_
  · rintro n ⟨x, r2⟩ hI
    have hI' : x = _ := hI
    refine br_t (nI_le (a := 8) (b := 8) (by omega) (by decide)) ?_
    dsimp only
    rw [hI']
    exact h r2
  · rintro n k ⟨x, r2⟩ hk hI ih
    have hI' : x = _ := hI
    refine br_f (nI_ge (b := 8) hk (by decide)) (qx_w0 hc hf hs (fun y r3 hy => ?_))
    refine br_c (fun e => nm_r (nI_1 k) (ih (x, r3) ?_)) (fun e => nm_e (nm_r (nI_1 k) (ih (x + 1, r3) ?_)))
    · show x = _
      rw [hI']
      refine (qx_cn_f (P := fun p => ¬ ∀ q, q < 8 → (qp_W0 (bt o) (qx_N f) (qx_N s) (qx_N c) q ↔ qp_W0 (bt (o ^^^ ((1 : Int32) <<< (nI p &&& 31)))) (qx_N f) (qx_N s) (qx_N c) q)) (fun z => z (fun q hq => ?_))).symm
      rw [e] at hy
      have a := hw q (by omega)
      have b := hy q (by omega)
      constructor
      · intro t; exact (b.mp (a.mpr ⟨hq, t⟩)).2
      · intro t; exact (a.mp (b.mpr ⟨hq, t⟩)).2
    · show x + 1 = _
      rw [hI']
      exact (qx_cn_t (P := fun p => ¬ ∀ q, q < 8 → (qp_W0 (bt o) (qx_N f) (qx_N s) (qx_N c) q ↔ qp_W0 (bt (o ^^^ ((1 : Int32) <<< (nI p &&& 31)))) (qx_N f) (qx_N s) (qx_N c) q)) (fun z => e (qb_Is_eq hw hy z))).symm
