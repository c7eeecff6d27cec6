/-- colours and moves are the same functions on both sides; the owners' mask holds the owners' cells; what the reference keeps is right -/
def i_Rel (_ : Nat) (u : SX) (v : SY) : Prop :=
  ∃ (o : Int32) (c f s rx : Nat → Int32) (kn wi : Int32) (ow ry : Nat → Int32), u = (o, c, f, s, rx) ∧ v = (kn, wi, ow, c, f, s, ry)
    ∧ qx_Rg c 6 ∧ qx_Rg f 8 ∧ qx_Rg s 8 ∧ (∀ p, p < 8 → ow p = qx_pl (bt o p)) ∧ qy_K kn wi (qp_W0 (bt o) (qx_N f) (qx_N s) (qx_N c))
theorem qi_mk {k : Nat} {o : Int32} {c f s rx : Nat → Int32} {kn wi : Int32} {ow ry : Nat → Int32} (hc : qx_Rg c 6) (hf : qx_Rg f 8) (hs : qx_Rg s 8) (ho : ∀ p, p < 8 → ow p = qx_pl (bt o p)) (hK : qy_K kn wi (qp_W0 (bt o) (qx_N f) (qx_N s) (qx_N c))) :
    i_Rel k (o, c, f, s, rx) (kn, wi, ow, c, f, s, ry) := ⟨o, c, f, s, rx, kn, wi, ow, ry, rfl, rfl, hc, hf, hs, ho, hK⟩
theorem i_up {k : Nat} {u : SX} {v : SY} (h : i_Rel k u v) : i_Rel (k + 5) u v := h
theorem qi_rng (x : Int32) (B : Nat) (hB : 0 < B) (hB2 : B < 1000) : (∃ j, j < B ∧ x = nI j) ∨ x < 0 ∨ (¬ x < 0 ∧ nI B ≤ x ∧ ¬ x ≤ nI (B - 1)) := by
  by_cases h0 : x < 0
  · exact Or.inr (Or.inl h0)
  · obtain ⟨j, hj, e⟩ := nI_of h0
    by_cases hb : j < B
    · exact Or.inl ⟨j, hb, e⟩
    · refine Or.inr (Or.inr ⟨h0, ?_, ?_⟩)
      · rw [e]; exact nI_le (by omega) (by omega)
      · rw [e]; exact nI_ge (by omega) (by omega)
theorem qi_pos (x : Int32) : (∃ j, j < 8 ∧ x = nI j) ∨ ((∀ P : Int32 → Prop, P 0 → wpX_isPosition P x) ∧ (∀ (P : Int32 → Prop) (v : SY), P 1 → wpY_bad P v x)) := by
  rcases qi_rng x 8 (by decide) (by decide) with h | h | h
  · exact Or.inl h
  · exact Or.inr ⟨fun P hP => br_t h hP, fun P v hP => br_t h hP⟩
  · exact Or.inr ⟨fun P hP => br_f h.1 (br_t h.2.1 hP), fun P v hP => br_f h.1 (br_f h.2.2 hP)⟩
theorem qi_posX {j : Nat} (hj : j < 8) {P : Int32 → Prop} (h : P 1) : wpX_isPosition P (nI j) := br_f (nI_pos (by omega)) (br_f (nI_ge (b := 8) hj (by decide)) h)
theorem qi_posY {j : Nat} (hj : j < 8) {P : Int32 → Prop} {v : SY} (h : P 0) : wpY_bad P v (nI j) := br_f (nI_pos (by omega)) (br_t (nI_le (b := 7) (by omega) (by decide)) h)
theorem qi_col (x : Int32) : (∃ j, j < 6 ∧ x = nI j) ∨ ((∀ P : Int32 → Prop, P 0 → wpX_isColour P x) ∧ (∀ (P : Int32 → Prop) (v : SY), P 1 → wpY_badColour P v x)) := by
  rcases qi_rng x 6 (by decide) (by decide) with h | h | h
  · exact Or.inl h
  · exact Or.inr ⟨fun P hP => br_t h hP, fun P v hP => br_t h hP⟩
  · exact Or.inr ⟨fun P hP => br_f h.1 (br_t h.2.1 hP), fun P v hP => br_f h.1 (br_f h.2.2 hP)⟩
theorem qi_colX {j : Nat} (hj : j < 6) {P : Int32 → Prop} (h : P 1) : wpX_isColour P (nI j) := br_f (nI_pos (by omega)) (br_f (nI_ge (b := 6) hj (by decide)) h)
theorem qi_colY {j : Nat} (hj : j < 6) {P : Int32 → Prop} {v : SY} (h : P 0) : wpY_badColour P v (nI j) := br_f (nI_pos (by omega)) (br_t (nI_le (b := 5) (by omega) (by decide)) h)
theorem qi_ply (x : Int32) : (∃ b, x = qx_pl b) ∨ ((∀ P : Int32 → Prop, P 0 → wpX_isPlayer P x) ∧ (x < 0 ∨ (¬ x < 0 ∧ ¬ x ≤ 1))) := by
  by_cases h0 : x = 0
  · exact Or.inl ⟨false, h0⟩
  · by_cases h1 : x = 1
    · exact Or.inl ⟨true, h1⟩
    · refine Or.inr ⟨fun P hP => br_f h0 (br_f h1 hP), ?_⟩
      rcases qi_rng x 2 (by decide) (by decide) with h | h | h
      · obtain ⟨j, hj, e⟩ := h
        match j, hj with
        | 0, _ => exact absurd e h0
        | 1, _ => exact absurd e h1
      · exact Or.inl h
      · exact Or.inr ⟨h.1, h.2.2⟩
theorem qi_plX (b : Bool) {P : Int32 → Prop} (h : P 1) : wpX_isPlayer P (qx_pl b) := by
  cases b
  · exact br_t rfl h
  · exact br_f (by decide) (br_t rfl h)
theorem qi_Rg {a : Nat → Int32} {B j m : Nat} {x : Int32} (h : qx_Rg a B) (hm : m < B) (hB : B < 1000) (e : x = nI m) : qx_Rg (upd a j x) B := by
  intro p hp
  unfold qx_N
  by_cases ep : p = j
  · subst ep
    rw [qx_us, e, nI_clamp (by omega)]
    exact ⟨rfl, hm⟩
  · rw [qx_un ep]
    exact h p hp
theorem qi_xor (o : Int32) {i : Nat} (hi : i < 8) (p : Nat) (hp : p < 8) : bt (o ^^^ ((1 : Int32) <<< (nI i &&& 31))) p = qy_ot (bt o) i p := by
  rw [b_xor, qb_one i (by omega) p (by omega)]
  unfold qy_ot
  by_cases e : p = i
  · rw [if_pos e, decide_eq_true e]; cases bt o p <;> rfl
  · rw [if_neg e, decide_eq_false e]; cases bt o p <;> rfl
theorem qi_put (o : Int32) {i : Nat} (hi : i < 8) (b : Bool) (p : Nat) (hp : p < 8) : bt ((o &&& (((1 : Int32) <<< (nI i &&& 31)) ^^^ (-1))) ||| (qx_pl b <<< (nI i &&& 31))) p = if p = i then b else bt o p := by
  have hb : bt (qx_pl b <<< (nI i &&& 31)) p = (b && decide (p = i)) := by
    cases b
    · show bt ((0 : Int32) <<< (nI i &&& 31)) p = _
      rw [b_shl i (by omega) 0 (by omega), b_0, Bool.and_false, Bool.false_and]
    · show bt ((1 : Int32) <<< (nI i &&& 31)) p = _
      rw [qb_one i (by omega) p (by omega), Bool.true_and]
  rw [b_or, hb, b_and, b_xor, b_m1 p (by omega), qb_one i (by omega) p (by omega)]
  by_cases e : p = i
  · rw [if_pos e, decide_eq_true e]; cases bt o p <;> cases b <;> rfl
  · rw [if_neg e, decide_eq_false e]; cases bt o p <;> cases b <;> rfl
def qi_id : Nat → Nat → Int32
  | 0 => fun _ => 0
  | i + 1 => upd (qi_id i) i (nI i)
theorem qi_id_v : ∀ i p, p < i → qi_id i p = nI p
  | 0, p, h => absurd h (Nat.not_lt_zero _)
  | i + 1, p, h => by
    unfold qi_id
    by_cases e : p = i
    · subst e; rw [qx_us]
    · rw [qx_un e]; exact qi_id_v i p (by omega)
theorem i_vc0 : wpX_init (fun u => wpY_init (fun v => i_Rel 0 u v)) := by
  have hid : qx_Rg (qi_id 8) 8 := by
    intro p hp
    unfold qx_N
    rw [qi_id_v 8 p hp, nI_clamp (by omega)]
    exact ⟨rfl, hp⟩
  have hz : qx_Rg (fun _ => 0) 6 := by
    intro p hp
    show (0 : Int32) = nI (0 : Int32).toNatClampNeg ∧ (0 : Int32).toNatClampNeg < 6
    decide
  refine loop_0 (σ := (Nat → Int32) × (Nat → Int32)) (fun n i st => wX_init_38 (fun u => wpY_init (fun v => i_Rel 0 u v)) 0 n (nI i) (fun _ => 0) st.1 st.2 (fun _ => 0)) (fun i st => st = (qi_id i, qi_id i)) 8 (fun _ => 0, fun _ => 0) rfl ?_ ?_
  · rintro n st rfl
    refine br_t (nI_le (a := 8) (b := 8) (by omega) (by decide)) ?_
    refine loop_0 (σ := (Nat → Int32) × (Nat → Int32)) (fun n i st => wY_init_46 (fun v => i_Rel 0 (0, (fun _ => 0), qi_id 8, qi_id 8, (fun _ => 0)) v) 0 0 n (nI i) (fun _ => 0) (fun _ => 0) st.1 st.2 (fun _ => 0)) (fun i st => st = (qi_id i, qi_id i)) 8 (fun _ => 0, fun _ => 0) rfl ?_ ?_
    · rintro n st rfl
      exact br_t (nI_le (a := 8) (b := 8) (by omega) (by decide)) (qi_mk hz hid hid (fun p hp => by rw [b_0]; rfl) (Or.inl rfl))
    · rintro n i st hi rfl ih
      have hc : (nI i).toNatClampNeg = i := nI_clamp (by omega)
      have hin : vp_in (nI i) 8 := vp_in_nI hi (by decide)
      refine br_f (nI_ge (b := 8) hi (by decide)) ⟨hin, nm_e ⟨hin, nm_e (nm_r (nI_1 i) ?_)⟩⟩
      rw [hc]
      exact ih (qi_id (i + 1), qi_id (i + 1)) rfl
  · rintro n i st hi rfl ih
    have hc : (nI i).toNatClampNeg = i := nI_clamp (by omega)
    have hin : vp_in (nI i) 8 := vp_in_nI hi (by decide)
    refine br_f (nI_ge (b := 8) hi (by decide)) ⟨hin, nm_e ⟨hin, nm_e (nm_r (nI_1 i) ?_)⟩⟩
    rw [hc]
    exact ih (qi_id (i + 1), qi_id (i + 1)) rfl
theorem i_vc_set {k : Nat} {u : SX} {v : SY} (I : i_Rel k u v) (hk : k + 5 ≤ 2560) (v1 : Int32) (v2 : Int32) (v3 : Int32) (v4 : Int32) : wpX_set (fun r u' => wpY_set (fun r' v' => r' = r ∧ i_Rel (k + 5) u' v') v v1 v2 v3 v4) u v1 v2 v3 v4 := by
  obtain ⟨o, c, f, s, rx, kn, wi, ow, ry, rfl, rfl, hc, hf, hs, ho, hK⟩ := I
  have same : i_Rel (k + 5) (o, c, f, s, rx) (kn, wi, ow, c, f, s, ry) := qi_mk hc hf hs ho hK
  unfold wpX_set wpY_set
  dsimp only
  rcases qi_pos v1 with ⟨j, hj, rfl⟩ | ⟨hX, hY⟩
  · refine qi_posX hj (br_f (by decide) ?_)
    rcases qi_ply v2 with ⟨b, rfl⟩ | ⟨hX, hY⟩
    · refine qi_plX b (br_f (by decide) ?_)
      have hpY : ∀ A B C : Prop, B → (qx_pl b < 0 → A) ∧ (¬ qx_pl b < 0 → ((qx_pl b ≤ 1 → B) ∧ (¬ qx_pl b ≤ 1 → C))) := by
        intro A B C h
        cases b
        · exact br_f (by decide) (br_t (by decide) h)
        · exact br_f (by decide) (br_t (by decide) h)
      rcases qi_col v3 with ⟨m, hm, rfl⟩ | ⟨hX, hY⟩
      · have hcj : (nI j).toNatClampNeg = j := nI_clamp (by omega)
        have hin : vp_in (nI j) 8 := vp_in_nI hj (by decide)
        refine qi_colX hm (br_f (by decide) (nm_e ⟨hin, nm_e ⟨hin, nm_e ⟨hin, nm_e ?_⟩⟩⟩))
        refine qi_posY hj (br_t rfl (hpY _ _ _ (qi_colY hm (br_t rfl ⟨hin, nm_e ⟨hin, nm_e ⟨hin, nm_e ⟨hin, nm_e ?_⟩⟩⟩⟩))))
        rw [hcj]
        obtain ⟨m1, h1, e1⟩ := pk_andE v4 (m := 7) 3 (by decide)
        obtain ⟨m2, h2, e2⟩ := pk_andE (v4 >>> ((3 : Int32) &&& 31)) (m := 7) 3 (by decide)
        refine ⟨rfl, qi_mk (qi_Rg hc hm (by omega) rfl) (qi_Rg hf h1 (by omega) e1) (qi_Rg hs h2 (by omega) e2) (fun p hp => ?_) (Or.inl rfl)⟩
        rw [qi_put o hj b p hp]
        by_cases e : p = j
        · subst e; rw [qx_us, if_pos rfl]
        · rw [qx_un e, if_neg e]; exact ho p hp
      · exact hX _ (br_t rfl (qi_posY hj (br_t rfl (hpY _ _ _ (hY _ _ (br_f (by decide) ⟨rfl, same⟩))))))
    · refine hX _ (br_t rfl (qi_posY hj (br_t rfl ?_)))
      rcases hY with h | h
      · exact br_t h ⟨rfl, same⟩
      · exact br_f h.1 (br_f h.2 ⟨rfl, same⟩)
  · exact hX _ (br_t rfl (hY _ _ (br_f (by decide) ⟨rfl, same⟩)))
theorem i_vc_paint {k : Nat} {u : SX} {v : SY} (I : i_Rel k u v) (hk : k + 5 ≤ 2560) (v1 : Int32) (v2 : Int32) : wpX_paint (fun r u' => wpY_paint (fun r' v' => r' = r ∧ i_Rel (k + 5) u' v') v v1 v2) u v1 v2 := by
  obtain ⟨o, c, f, s, rx, kn, wi, ow, ry, rfl, rfl, hc, hf, hs, ho, hK⟩ := I
  have same : i_Rel (k + 5) (o, c, f, s, rx) (kn, wi, ow, c, f, s, ry) := qi_mk hc hf hs ho hK
  unfold wpX_paint wpY_paint
  dsimp only
  rcases qi_pos v1 with ⟨j, hj, rfl⟩ | ⟨hX, hY⟩
  · refine qi_posX hj (br_f (by decide) ?_)
    rcases qi_col v2 with ⟨m, hm, rfl⟩ | ⟨hX, hY⟩
    · have hin : vp_in (nI j) 8 := vp_in_nI hj (by decide)
      refine qi_colX hm (br_f (by decide) ⟨hin, nm_e ⟨hin, nm_e ?_⟩⟩)
      refine qi_posY hj (br_t rfl (qi_colY hm (br_t rfl ⟨hin, nm_e ⟨hin, nm_e ?_⟩⟩)))
      exact ⟨rfl, qi_mk (qi_Rg hc hm (by omega) rfl) hf hs ho (Or.inl rfl)⟩
    · exact hX _ (br_t rfl (qi_posY hj (br_t rfl (hY _ _ (br_f (by decide) ⟨rfl, same⟩)))))
  · exact hX _ (br_t rfl (hY _ _ (br_f (by decide) ⟨rfl, same⟩)))
theorem i_vc_hand {k : Nat} {u : SX} {v : SY} (I : i_Rel k u v) (hk : k + 5 ≤ 2560) (v1 : Int32) : wpX_hand (fun r u' => wpY_hand (fun r' v' => r' = r ∧ i_Rel (k + 5) u' v') v v1) u v1 := by
  obtain ⟨o, c, f, s, rx, kn, wi, ow, ry, rfl, rfl, hc, hf, hs, ho, hK⟩ := I
  have same : i_Rel (k + 5) (o, c, f, s, rx) (kn, wi, ow, c, f, s, ry) := qi_mk hc hf hs ho hK
  unfold wpX_hand wpY_hand
  dsimp only
  rcases qi_pos v1 with ⟨j, hj, rfl⟩ | ⟨hX, hY⟩
  · have hcj : (nI j).toNatClampNeg = j := nI_clamp (by omega)
    have hin : vp_in (nI j) 8 := vp_in_nI hj (by decide)
    have ho' : ∀ p, p < 8 → upd ow j (1 - ow j) p = qx_pl (bt (o ^^^ ((1 : Int32) <<< (nI j &&& 31))) p) := by
      intro p hp
      rw [qi_xor o hj p hp]
      exact qy_ot_o ho j hj p hp
    refine qi_posX hj (br_f (by decide) (nm_e ?_))
    unfold wpX_bit
    dsimp only
    refine qi_posY hj (br_t rfl ⟨hin, hin, nm_e ⟨hin, ?_⟩⟩)
    rw [hcj]
    refine ⟨?_, qi_mk hc hf hs ho' (Or.inl rfl)⟩
    rw [ho' j hj, qb_bit _ (by omega)]
    rfl
  · exact hX _ (br_t rfl (hY _ _ (br_f (by decide) ⟨rfl, same⟩)))
def qi_mc (c : Nat → Int32) : Nat → Nat → Int32
  | 0 => c
  | i + 1 => upd (qi_mc c i) i (if qi_mc c i i = 5 then 0 else qi_mc c i i + 1)
def qi_mo (ow : Nat → Int32) : Nat → Nat → Int32
  | 0 => ow
  | i + 1 => upd (qi_mo ow i) i (1 - qi_mo ow i i)
theorem qi_mc_R {c : Nat → Int32} (hc : qx_Rg c 6) : ∀ i, i ≤ 8 → qx_Rg (qi_mc c i) 6
  | 0, _ => hc
  | i + 1, hi => by
    have ih := qi_mc_R hc i (by omega)
    have h := ih i (by omega)
    unfold qi_mc
    by_cases e : qi_mc c i i = 5
    · rw [if_pos e]
      exact qi_Rg ih (m := 0) (by omega) (by omega) rfl
    · rw [if_neg e]
      refine qi_Rg ih (m := qx_N (qi_mc c i) i + 1) ?_ (by omega) ?_
      · have h2 := h.2
        by_cases e5 : qx_N (qi_mc c i) i = 5
        · rw [e5] at h
          exact absurd h.1 e
        · omega
      · rw [← nI_1, ← h.1]
theorem qi_mo_v (ow : Nat → Int32) : ∀ i p, qi_mo ow i p = if p < i then 1 - ow p else ow p
  | 0, p => by rw [if_neg (Nat.not_lt_zero _)]; rfl
  | i + 1, p => by
    unfold qi_mo
    by_cases e : p = i
    · subst e
      rw [qx_us, qi_mo_v ow p p, if_neg (Nat.lt_irrefl _), if_pos (by omega)]
    · rw [qx_un e, qi_mo_v ow i p]
      by_cases h : p < i
      · rw [if_pos h, if_pos (by omega)]
      · rw [if_neg h, if_neg (by omega)]
theorem i_vc_mirror {k : Nat} {u : SX} {v : SY} (I : i_Rel k u v) (hk : k + 5 ≤ 2560) : wpX_mirror (fun u' => wpY_mirror (fun v' => i_Rel (k + 5) u' v') v) u := by
  obtain ⟨o, c, f, s, rx, kn, wi, ow, ry, rfl, rfl, hc, hf, hs, ho, hK⟩ := I
  have fin : i_Rel (k + 5) (o ^^^ 255, qi_mc c 8, f, s, rx) (0, wi, qi_mo ow 8, qi_mc c 8, f, s, ry) := by
    refine qi_mk (qi_mc_R hc 8 (Nat.le_refl _)) hf hs (fun p hp => ?_) (Or.inl rfl)
    rw [qi_mo_v, if_pos hp, ho p hp, b_xor, b_255, decide_eq_true hp]
    cases bt o p <;> decide
  refine nm_e ?_
  refine loop_0 (fun n i c' => wX_mirror_14 (fun u' => wpY_mirror (fun v' => i_Rel (k + 5) u' v') (kn, wi, ow, c, f, s, ry)) (o ^^^ 255) n (nI i) c' f s rx) (fun i c' => c' = qi_mc c i) 8 c rfl ?_ ?_
  · rintro n c' rfl
    refine br_t (nI_le (a := 8) (b := 8) (by omega) (by decide)) ?_
    refine loop_0 (σ := (Nat → Int32) × (Nat → Int32)) (fun n i st => wY_mirror_2 (fun v' => i_Rel (k + 5) (o ^^^ 255, qi_mc c 8, f, s, rx) v') kn wi n (nI i) st.1 st.2 f s ry) (fun i st => st = (qi_mo ow i, qi_mc c i)) 8 (ow, c) rfl ?_ ?_
    · rintro n st rfl
      exact br_t (nI_le (a := 8) (b := 8) (by omega) (by decide)) fin
    · rintro n i st hi rfl ih
      have hci : (nI i).toNatClampNeg = i := nI_clamp (by omega)
      have hin : vp_in (nI i) 8 := vp_in_nI hi (by decide)
      refine br_f (nI_ge (b := 8) hi (by decide)) ⟨hin, hin, nm_e ⟨hin, ?_⟩⟩
      rw [hci]
      refine br_c (fun e => ⟨hin, nm_e (nm_r (nI_1 i) (ih (upd (qi_mo ow i) i (1 - qi_mo ow i i), upd (qi_mc c i) i 0) ?_))⟩) (fun e => ⟨hin, hin, nm_e (nm_r (nI_1 i) (ih (upd (qi_mo ow i) i (1 - qi_mo ow i i), upd (qi_mc c i) i (qi_mc c i i + 1)) ?_))⟩)
      · show (_, _) = (upd (qi_mo ow i) i (1 - qi_mo ow i i), upd (qi_mc c i) i (if qi_mc c i i = 5 then 0 else qi_mc c i i + 1))
        rw [if_pos e]
      · show (_, _) = (upd (qi_mo ow i) i (1 - qi_mo ow i i), upd (qi_mc c i) i (if qi_mc c i i = 5 then 0 else qi_mc c i i + 1))
        rw [if_neg e]
  · rintro n i c' hi rfl ih
    have hci : (nI i).toNatClampNeg = i := nI_clamp (by omega)
    have hin : vp_in (nI i) 8 := vp_in_nI hi (by decide)
    refine br_f (nI_ge (b := 8) hi (by decide)) ⟨hin, ?_⟩
    rw [hci]
    refine br_c (fun e => ⟨hin, nm_e (nm_r (nI_1 i) (ih _ ?_))⟩) (fun e => ⟨hin, hin, nm_e (nm_r (nI_1 i) (ih _ ?_))⟩)
    · show _ = upd (qi_mc c i) i (if qi_mc c i i = 5 then 0 else qi_mc c i i + 1)
      rw [if_pos e]
    · show _ = upd (qi_mc c i) i (if qi_mc c i i = 5 then 0 else qi_mc c i i + 1)
      rw [if_neg e]
theorem i_vc_winner {k : Nat} {u : SX} {v : SY} (I : i_Rel k u v) (hk : k + 5 ≤ 2560) (v1 : Int32) : wpX_winner (fun r u' => wpY_winner (fun r' v' => r' = r ∧ i_Rel (k + 5) u' v') v v1) u v1 := by
  obtain ⟨o, c, f, s, rx, kn, wi, ow, ry, rfl, rfl, hc, hf, hs, ho, hK⟩ := I
  have same : i_Rel (k + 5) (o, c, f, s, rx) (kn, wi, ow, c, f, s, ry) := qi_mk hc hf hs ho hK
  unfold wpX_winner wpY_winner
  dsimp only
  rcases qi_pos v1 with ⟨j, hj, rfl⟩ | ⟨hX, hY⟩
  · refine qi_posX hj (br_f (by decide) (qx_w0 hc hf hs (fun x r1 hx => ?_)))
    have hyy : ∀ a : Int32, a = (if bt x j = true then 0 else 1) → wpY_bad (fun r_1 => (r_1 = 0 → wpY_region (fun r_10 u => match u with | (f_known, f_wins, a_owners, a_colours, a_firsts, a_seconds, a_reach) => ((((r_10 >>> (nI j &&& 31)) &&& 1) = 1 → 0 = a ∧ i_Rel (k + 5) (o, c, f, s, r1) (f_known, f_wins, a_owners, a_colours, a_firsts, a_seconds, a_reach)) ∧ (¬ ((r_10 >>> (nI j &&& 31)) &&& 1) = 1 → 1 = a ∧ i_Rel (k + 5) (o, c, f, s, r1) (f_known, f_wins, a_owners, a_colours, a_firsts, a_seconds, a_reach)))) (kn, wi, ow, c, f, s, ry)) ∧ (¬ r_1 = 0 → -1 = a ∧ i_Rel (k + 5) (o, c, f, s, r1) (kn, wi, ow, c, f, s, ry))) (kn, wi, ow, c, f, s, ry) (nI j) := by
      intro a ea
      refine qi_posY hj (br_t rfl (qy_region (bt o) ho hc hf hs hK (fun y kn2 wi2 r2 hy hK2 => ?_)))
      have exy : y = x := qb_Is_eq hx hy (fun _ _ => Iff.rfl)
      subst exy
      refine br_c (fun z => ⟨?_, qi_mk hc hf hs ho hK2⟩) (fun z => ⟨?_, qi_mk hc hf hs ho hK2⟩)
      · rw [ea, if_pos ((qb_bit1 _ (by omega)).mp z)]
      · rw [ea, if_neg (fun w => z ((qb_bit1 _ (by omega)).mpr w))]
    refine qx_con x (by omega) (fun z => br_f (by decide) (hyy 0 ?_)) (fun z => br_t rfl (hyy 1 ?_))
    · rw [if_pos z]
    · rw [z]; rfl
  · exact hX _ (br_t rfl (hY _ _ (br_f (by decide) ⟨rfl, same⟩)))
theorem i_vc_region {k : Nat} {u : SX} {v : SY} (I : i_Rel k u v) (hk : k + 5 ≤ 2560) : wpX_region (fun r u' => wpY_region (fun r' v' => r' = r ∧ i_Rel (k + 5) u' v') v) u := by
  obtain ⟨o, c, f, s, rx, kn, wi, ow, ry, rfl, rfl, hc, hf, hs, ho, hK⟩ := I
  unfold wpX_region
  dsimp only
  refine qx_w0 hc hf hs (fun x r1 hx => ?_)
  exact qy_region (bt o) ho hc hf hs hK (fun y kn2 wi2 r2 hy hK2 => ⟨qb_Is_eq hx hy (fun _ _ => Iff.rfl), qi_mk hc hf hs ho hK2⟩)
theorem i_vc_good {k : Nat} {u : SX} {v : SY} (I : i_Rel k u v) (hk : k + 5 ≤ 2560) (v1 : Int32) (v2 : Int32) : wpX_good (fun r u' => wpY_good (fun r' v' => r' = r ∧ i_Rel (k + 5) u' v') v v1 v2) u v1 v2 := by
  obtain ⟨o, c, f, s, rx, kn, wi, ow, ry, rfl, rfl, hc, hf, hs, ho, hK⟩ := I
  have same : i_Rel (k + 5) (o, c, f, s, rx) (kn, wi, ow, c, f, s, ry) := qi_mk hc hf hs ho hK
  rcases qi_ply v1 with ⟨b, rfl⟩ | ⟨hX, hY⟩
  · refine qx_good b hc hf hs (fun r1 hg => ?_) (fun r1 hg => ?_)
    · exact qy_good (bt o) ho b hc hf hs hK (fun kn2 wi2 r2 hK2 _ => ⟨rfl, qi_mk hc hf hs ho hK2⟩) (fun kn2 wi2 r2 hK2 hn => absurd hg hn)
    · exact qy_good (bt o) ho b hc hf hs hK (fun kn2 wi2 r2 hK2 hn => absurd hn hg) (fun kn2 wi2 r2 hK2 _ => ⟨rfl, qi_mk hc hf hs ho hK2⟩)
  · unfold wpX_good
    dsimp only
    refine hX _ (br_t rfl ?_)
    rcases hY with h | h
    · exact br_t h ⟨rfl, same⟩
    · exact br_f h.1 (br_f h.2 ⟨rfl, same⟩)
theorem i_vc_plans {k : Nat} {u : SX} {v : SY} (I : i_Rel k u v) (hk : k + 5 ≤ 2560) (v1 : Int32) : wpX_plans (fun r u' => wpY_plans (fun r' v' => r' = r ∧ i_Rel (k + 5) u' v') v v1) u v1 := by
  obtain ⟨o, c, f, s, rx, kn, wi, ow, ry, rfl, rfl, hc, hf, hs, ho, hK⟩ := I
  have same : i_Rel (k + 5) (o, c, f, s, rx) (kn, wi, ow, c, f, s, ry) := qi_mk hc hf hs ho hK
  rcases qi_ply v1 with ⟨b, rfl⟩ | ⟨hX, hY⟩
  · exact qx_plans b hc hf hs (fun r1 => qy_plans (bt o) ho b hc hf hs hK (fun kn2 wi2 r2 hK2 => ⟨rfl, qi_mk hc hf hs ho hK2⟩))
  · unfold wpX_plans
    dsimp only
    refine hX _ (br_t rfl ?_)
    rcases hY with h | h
    · exact br_t h ⟨rfl, same⟩
    · exact br_f h.1 (br_f h.2 ⟨rfl, same⟩)
theorem i_vc_firstPlan {k : Nat} {u : SX} {v : SY} (I : i_Rel k u v) (hk : k + 5 ≤ 2560) (v1 : Int32) : wpX_firstPlan (fun r u' => wpY_firstPlan (fun r' v' => r' = r ∧ i_Rel (k + 5) u' v') v v1) u v1 := by
  obtain ⟨o, c, f, s, rx, kn, wi, ow, ry, rfl, rfl, hc, hf, hs, ho, hK⟩ := I
  have same : i_Rel (k + 5) (o, c, f, s, rx) (kn, wi, ow, c, f, s, ry) := qi_mk hc hf hs ho hK
  rcases qi_ply v1 with ⟨b, rfl⟩ | ⟨hX, hY⟩
  · refine qx_first b hc hf hs (fun j r1 hj hg hn => qy_first (bt o) ho b hc hf hs hK (fun j' kn2 wi2 r2 hK2 hj' hg' hn' => ⟨?_, qi_mk hc hf hs ho hK2⟩))
    have e : j' = j := by
      by_cases h1 : j' < j
      · exact absurd hg' (hn j' h1)
      · by_cases h2 : j < j'
        · exact absurd hg (hn' j h2)
        · omega
    rw [e]
  · unfold wpX_firstPlan
    dsimp only
    refine hX _ (br_t rfl ?_)
    rcases hY with h | h
    · exact br_t h ⟨rfl, same⟩
    · exact br_f h.1 (br_f h.2 ⟨rfl, same⟩)
theorem i_vc_canForce {k : Nat} {u : SX} {v : SY} (I : i_Rel k u v) (hk : k + 5 ≤ 2560) (v1 : Int32) (v2 : Int32) : wpX_canForce (fun r => wpY_canForce (fun r' => r' = r ∧ i_Rel (k + 5) u v) v v1 v2) u v1 v2 := by
  have same : i_Rel (k + 5) u v := I
  obtain ⟨o, c, f, s, rx, kn, wi, ow, ry, rfl, rfl, hc, hf, hs, ho, hK⟩ := I
  rcases qi_pos v1 with ⟨a, ha, rfl⟩ | ⟨hX, hY⟩
  · rcases qi_pos v2 with ⟨b, hb, rfl⟩ | ⟨hX, hY⟩
    · exact qf_x hf hs ha hb (qf_y (bt o) ho hf hs ha hb ⟨rfl, same⟩)
    · unfold wpX_canForce wpY_canForce
      dsimp only
      exact qi_posX ha (br_f (by decide) (hX _ (br_t rfl (qi_posY ha (br_t rfl (hY _ _ (br_f (by decide) ⟨rfl, same⟩)))))))
  · unfold wpX_canForce wpY_canForce
    dsimp only
    exact hX _ (br_t rfl (hY _ _ (br_f (by decide) ⟨rfl, same⟩)))
theorem qi_cn {P P' : Nat → Prop} : ∀ n, (∀ k, k < n → (P k ↔ P' k)) → qx_cn P n = qx_cn P' n
  | 0, _ => rfl
  | n + 1, h => by
    have ih := qi_cn n (fun k hk => h k (by omega))
    have hn := h n (by omega)
    by_cases c : P n
    · rw [qx_cn_t c, qx_cn_t (hn.mp c), ih]
    · rw [qx_cn_f c, qx_cn_f (fun z => c (hn.mpr z)), ih]
theorem i_vc_contested {k : Nat} {u : SX} {v : SY} (I : i_Rel k u v) (hk : k + 5 ≤ 2560) : wpX_contested (fun r u' => wpY_contested (fun r' v' => r' = r ∧ i_Rel (k + 5) u' v') v) u := by
  obtain ⟨o, c, f, s, rx, kn, wi, ow, ry, rfl, rfl, hc, hf, hs, ho, hK⟩ := I
  refine qx_contested hc hf hs (fun r1 => qy_contested (bt o) ho hc hf hs hK (fun kn2 wi2 r2 hK2 => ⟨?_, qi_mk hc hf hs ho hK2⟩))
  refine qi_cn 8 (fun p hp => not_congr ?_)
  constructor
  · intro z q hq
    rw [z q hq]
    exact (qp_W0_c (qi_xor o hp) q).symm
  · intro z q hq
    rw [z q hq]
    exact qp_W0_c (qi_xor o hp) q
