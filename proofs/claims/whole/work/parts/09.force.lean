def qf_c (ob : Nat → Bool) (f s : Nat → Int32) (x : Int32) (p : Nat) : Bool :=
  if ob p = true then bt x (qx_N f p) && bt x (qx_N s p) else bt x (qx_N f p) || bt x (qx_N s p)
def qf_s (ob : Nat → Bool) (f s : Nat → Int32) (x : Int32) (p : Nat) : Int32 := if qf_c ob f s x p = true then x ||| ((1 : Int32) <<< (nI p &&& 31)) else x
def qf_r (ob : Nat → Bool) (f s : Nat → Int32) (x : Int32) : Nat → Int32
  | 0 => x
  | i + 1 => qf_s ob f s (qf_r ob f s x i) i
def qf_R (ob : Nat → Bool) (f s : Nat → Int32) (x : Int32) : Nat → Int32
  | 0 => x
  | k + 1 => qf_r ob f s (qf_R ob f s x k) 8
theorem qf_r_c {ob ob' : Nat → Bool} (ho : ∀ p, p < 8 → ob p = ob' p) (f s : Nat → Int32) (x : Int32) : ∀ i, i ≤ 8 → qf_r ob f s x i = qf_r ob' f s x i
  | 0, _ => rfl
  | i + 1, hi => by
    unfold qf_r
    rw [qf_r_c ho f s x i (by omega)]
    unfold qf_s qf_c
    rw [ho i (by omega)]
theorem qf_R_c {ob ob' : Nat → Bool} (ho : ∀ p, p < 8 → ob p = ob' p) (f s : Nat → Int32) (x : Int32) : ∀ k, qf_R ob f s x k = qf_R ob' f s x k
  | 0 => rfl
  | k + 1 => by
    unfold qf_R
    rw [qf_R_c ho f s x k, qf_r_c ho f s _ 8 (Nat.le_refl _)]
theorem qf_into {post : Int32 → Prop} {o : Int32} {c f s r : Nat → Int32} {x : Int32} {p : Nat} (hf : qx_Rg f 8) (hs : qx_Rg s 8) (hp : p < 8)
    (h : post (if qf_c (bt o) f s x p = true then 1 else 0)) : wpX_isForcedInto post (o, c, f, s, r) x (nI p) := by
  have hc : (nI p).toNatClampNeg = p := nI_clamp (by omega)
  have hin : vp_in (nI p) 8 := vp_in_nI hp (by decide)
  have hfp := hf p hp
  have hsp := hs p hp
  unfold qf_c at h
  refine ⟨hin, ?_⟩
  rw [hc, hfp.1, hsp.1]
  refine qx_con x (by omega) (fun a => ⟨hin, qx_con x (by omega) (fun b => qx_con o (by omega) (fun d => ?_) (fun d => ?_)) (fun b => qx_con o (by omega) (fun d => ?_) (fun d => ?_))⟩)
    (fun a => ⟨hin, qx_con x (by omega) (fun b => qx_con o (by omega) (fun d => ?_) (fun d => ?_)) (fun b => qx_con o (by omega) (fun d => ?_) (fun d => ?_))⟩)
  all_goals rw [a, b, d] at h
  · exact br_f (by decide) (br_f (by decide) (br_f (by decide) h))
  · exact br_t rfl (br_f (by decide) h)
  · exact br_f (by decide) (br_f (by decide) (br_t rfl h))
  · exact br_t rfl (br_f (by decide) h)
  · exact br_f (by decide) (br_t rfl h)
  · exact br_t rfl (br_t rfl (br_f (by decide) h))
  · exact br_f (by decide) (br_t rfl h)
  · exact br_t rfl (br_t rfl (br_t rfl h))
theorem qf_x {post : Int32 → Prop} {o : Int32} {c f s r : Nat → Int32} {a b : Nat} (hf : qx_Rg f 8) (hs : qx_Rg s 8) (ha : a < 8) (hb : b < 8)
    (h : post (if bt (qf_R (bt o) f s ((1 : Int32) <<< (nI b &&& 31)) 8) a = true then 1 else 0)) : wpX_canForce post (o, c, f, s, r) (nI a) (nI b) := by
  have hp : ∀ (P : Int32 → Prop) (i : Nat), i < 8 → P 1 → wpX_isPosition P (nI i) := by
    intro P i hi hP
    exact br_f (nI_pos (by omega)) (br_f (nI_ge (b := 8) hi (by decide)) hP)
  unfold wpX_canForce
  dsimp only
  refine hp _ a ha (br_f (by decide) (hp _ b hb (br_f (by decide) (nm_e ?_))))
  refine loop_0 (fun n k x => wX_canForce_23 post (nI a) o c f s r n x (nI k)) (fun k x => x = qf_R (bt o) f s ((1 : Int32) <<< (nI b &&& 31)) k) 8 ((1 : Int32) <<< (nI b &&& 31)) rfl ?_ ?_
  · intro n x hI
    subst hI
    refine br_t (nI_le (a := 8) (b := 8) (by omega) (by decide)) (qx_con _ (by omega) (fun z => ⟨rfl, ?_⟩) (fun z => ⟨rfl, ?_⟩))
    · rw [z] at h; exact h
    · rw [z] at h; exact h
  · intro n k x hk hI ih
    refine br_f (nI_ge (b := 8) hk (by decide)) ?_
    refine loop_0 (fun m i y => wX_canForce_33 post (wX_canForce_23 post (nI a) o c f s r n) (nI a) (nI k) o c f s r m y (nI i)) (fun i y => y = qf_r (bt o) f s x i) 8 x rfl ?_ ?_
    · intro m y hy
      refine br_t (nI_le (a := 8) (b := 8) (by omega) (by decide)) (nm_r (nI_1 k) (ih y ?_))
      rw [hy, hI]
      rfl
    · intro m i y hi hy ih2
      refine br_f (nI_ge (b := 8) hi (by decide)) (qf_into hf hs hi ?_)
      by_cases e : qf_c (bt o) f s y i = true
      · rw [if_pos e]
        refine br_f (by decide) (nm_e (nm_r (nI_1 i) (ih2 _ ?_)))
        show _ = qf_s (bt o) f s (qf_r (bt o) f s x i) i
        rw [← hy]
        unfold qf_s
        rw [if_pos e]
      · rw [if_neg e]
        refine br_t rfl (nm_r (nI_1 i) (ih2 _ ?_))
        show _ = qf_s (bt o) f s (qf_r (bt o) f s x i) i
        rw [← hy]
        unfold qf_s
        rw [if_neg e]
theorem qf_84 {post : Int32 → Prop} {J25 J35 : Int32 → Int32 → Prop} {x1 x4 kn wi : Int32} {ow c f s r : Nat → Int32} (ob : Nat → Bool) (ho : ∀ p, p < 8 → ow p = qx_pl (ob p)) {y : Int32} {i : Nat} (hi : i < 8) (d e : Bool)
    (h : J35 (if (if ob i = true then d && e else d || e) = true then y ||| ((1 : Int32) <<< (nI i &&& 31)) else y) (nI (i + 1))) :
    wY_canForce_84 post J25 J35 x1 y x4 (nI i) (qx_pl d) (qx_pl e) kn wi ow c f s r := by
  have hc : (nI i).toNatClampNeg = i := nI_clamp (by omega)
  have hin : vp_in (nI i) 8 := vp_in_nI hi (by decide)
  have h119 : J35 (y ||| ((1 : Int32) <<< (nI i &&& 31))) (nI (i + 1)) → wY_canForce_119 post J25 J35 x1 y x4 (nI i) kn wi ow c f s r := by
    intro z
    exact nm_e (nm_r (nI_1 i) z)
  refine ⟨hin, ?_⟩
  rw [hc, ho i hi]
  cases hob : ob i <;> rw [hob] at h <;> cases d <;> cases e
  · exact br_t rfl (br_t rfl (br_t rfl (nm_r (nI_1 i) h)))
  · exact br_t rfl (br_t rfl (br_f (by decide) (h119 h)))
  · exact br_t rfl (br_f (by decide) (h119 h))
  · exact br_t rfl (br_f (by decide) (h119 h))
  · exact br_f (by decide) (br_t rfl (nm_r (nI_1 i) h))
  · exact br_f (by decide) (br_t rfl (nm_r (nI_1 i) h))
  · exact br_f (by decide) (br_f (by decide) (br_t rfl (nm_r (nI_1 i) h)))
  · exact br_f (by decide) (br_f (by decide) (br_f (by decide) (h119 h)))
theorem qf_y {post : Int32 → Prop} {kn wi : Int32} {ow c f s r : Nat → Int32} (ob : Nat → Bool) (ho : ∀ p, p < 8 → ow p = qx_pl (ob p)) {a b : Nat} (hf : qx_Rg f 8) (hs : qx_Rg s 8) (ha : a < 8) (hb : b < 8)
    (h : post (if bt (qf_R ob f s ((1 : Int32) <<< (nI b &&& 31)) 8) a = true then 1 else 0)) : wpY_canForce post (kn, wi, ow, c, f, s, r) (nI a) (nI b) := by
  have hp : ∀ (P : Int32 → Prop) (i : Nat), i < 8 → P 0 → wpY_bad P (kn, wi, ow, c, f, s, r) (nI i) := by
    intro P i hi hP
    exact br_f (nI_pos (by omega)) (br_t (nI_le (b := 7) (by omega) (by decide)) hP)
  unfold wpY_canForce
  dsimp only
  refine hp _ a ha (br_t rfl (hp _ b hb (br_t rfl (nm_e ?_))))
  refine loop_0 (fun n k x => wY_canForce_25 post (nI a) kn wi ow c f s r n x (nI k)) (fun k x => x = qf_R ob f s ((1 : Int32) <<< (nI b &&& 31)) k) 8 ((1 : Int32) <<< (nI b &&& 31)) rfl ?_ ?_
  · intro n x hI
    subst hI
    refine br_t (nI_le (a := 8) (b := 8) (by omega) (by decide)) (br_c (fun z => ?_) (fun z => ?_))
    · rw [if_pos ((qb_bit1 _ (by omega)).mp z)] at h; exact h
    · rw [if_neg (fun y => z ((qb_bit1 _ (by omega)).mpr y))] at h; exact h
  · intro n k x hk hI ih
    refine br_f (nI_ge (b := 8) hk (by decide)) ?_
    refine loop_0 (fun m i y => wY_canForce_35 post (wY_canForce_25 post (nI a) kn wi ow c f s r n) (nI a) (nI k) kn wi ow c f s r m y (nI i)) (fun i y => y = qf_r ob f s x i) 8 x rfl ?_ ?_
    · intro m y hy
      refine br_t (nI_le (a := 8) (b := 8) (by omega) (by decide)) (nm_r (nI_1 k) (ih y ?_))
      rw [hy, hI]
      rfl
    · intro m i y hi hy ih2
      have hci : (nI i).toNatClampNeg = i := nI_clamp (by omega)
      have hin : vp_in (nI i) 8 := vp_in_nI hi (by decide)
      have hfp := hf i hi
      have hsp := hs i hi
      have hJ : wY_canForce_35 post (wY_canForce_25 post (nI a) kn wi ow c f s r n) (nI a) (nI k) kn wi ow c f s r m (if (if ob i = true then bt y (qx_N f i) && bt y (qx_N s i) else bt y (qx_N f i) || bt y (qx_N s i)) = true then y ||| ((1 : Int32) <<< (nI i &&& 31)) else y) (nI (i + 1)) := by
        apply ih2
        show _ = qf_s ob f s (qf_r ob f s x i) i
        rw [← hy]
        rfl
      have h62 : ∀ d : Bool, bt y (qx_N f i) = d → wY_canForce_62 post (wY_canForce_25 post (nI a) kn wi ow c f s r n) (wY_canForce_35 post (wY_canForce_25 post (nI a) kn wi ow c f s r n) (nI a) (nI k) kn wi ow c f s r m) (nI a) y (nI k) (nI i) (qx_pl d) kn wi ow c f s r := by
        intro d hd
        rw [hd] at hJ
        refine ⟨hin, ?_⟩
        rw [hci, hsp.1]
        refine br_c (fun z => ?_) (fun z => ?_)
        · rw [(qb_bit1 _ (by omega)).mp z] at hJ
          exact qf_84 ob ho hi d true hJ
        · have z' : bt y (qx_N s i) = false := by
            cases hb : bt y (qx_N s i)
            · rfl
            · exact absurd ((qb_bit1 _ (by omega)).mpr hb) z
          rw [z'] at hJ
          exact qf_84 ob ho hi d false hJ
      refine br_f (nI_ge (b := 8) hi (by decide)) ⟨hin, ?_⟩
      rw [hci, hfp.1]
      refine br_c (fun z => ?_) (fun z => ?_)
      · exact h62 true ((qb_bit1 _ (by omega)).mp z)
      · refine h62 false ?_
        cases hb : bt y (qx_N f i)
        · rfl
        · exact absurd ((qb_bit1 _ (by omega)).mpr hb) z
