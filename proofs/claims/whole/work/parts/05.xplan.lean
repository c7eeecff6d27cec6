def qx_N (a : Nat → Int32) (p : Nat) : Nat := (a p).toNatClampNeg
def qx_Rg (a : Nat → Int32) (B : Nat) : Prop := ∀ p, p < 8 → a p = nI (qx_N a p) ∧ qx_N a p < B
def qx_Re (r : Nat → Int32) (Q : Nat → Nat → Prop) : Prop := ∀ p, p < 8 → qb_Is (r p) (Q p)
def qx_pl (b : Bool) : Int32 := if b = true then 1 else 0
theorem qx_us {f : Nat → Int32} {k : Nat} {x : Int32} : upd f k x k = x := if_pos rfl
theorem qx_un {f : Nat → Int32} {k j : Nat} {x : Int32} (h : j ≠ k) : upd f k x j = f j := if_neg h
theorem qx_Re_c {r : Nat → Int32} {Q Q' : Nat → Nat → Prop} (h : qx_Re r Q) (e : ∀ p q, p < 8 → q < 8 → (Q p q ↔ Q' p q)) : qx_Re r Q' :=
  fun p hp => qb_Is_c (h p hp) (fun q hq => e p q hp hq)
theorem qx_up {r : Nat → Int32} {Q : Nat → Nat → Prop} {i : Nat} {v : Int32} (h : ∀ p, p < i → qb_Is (r p) (Q p)) (hv : qb_Is v (Q i)) : ∀ p, p < i + 1 → qb_Is (upd r i v p) (Q p) := by
  intro p hp
  by_cases e : p = i
  · subst e; rw [qx_us]; exact hv
  · rw [qx_un e]; exact h p (by omega)
theorem qx_bitp (mk : Int32) {i : Nat} (hi : i < 32) (b : Bool) : ((mk >>> (nI i &&& 31)) &&& 1) = qx_pl b ↔ bt mk i = b := by
  rw [qb_bit mk hi]
  unfold qx_pl
  cases bt mk i <;> cases b <;> decide
theorem qx_lay {post : SX → Prop} {o : Int32} {c f s r : Nat → Int32} {ch mk : Int32} (b : Bool) (hf : qx_Rg f 8) (hs : qx_Rg s 8)
    (h : ∀ r', qx_Re r' (qg_E (bt mk) (qx_N f) (qx_N s) b (bt ch)) → post (o, c, f, s, r')) : wpX_layOutMoves post (o, c, f, s, r) (qx_pl b) ch mk := by
  refine loop_0 (fun n i r => wX_layOutMoves_3 post (qx_pl b) ch mk o n (nI i) c f s r) (fun i r => ∀ p, p < i → qb_Is (r p) (qg_E (bt mk) (qx_N f) (qx_N s) b (bt ch) p)) 8 r lt_0 ?_ ?_
  · intro n r hI
    exact br_t (nI_le (a := 8) (b := 8) (Nat.le_refl _) (by decide)) (h r hI)
  · intro n i r hi hI ih
    have hc : (nI i).toNatClampNeg = i := nI_clamp (by omega)
    have hin : vp_in (nI i) 8 := vp_in_nI hi (by decide)
    have hfi := hf i hi
    have hsi := hs i hi
    refine br_f (nI_ge (b := 8) hi (by decide)) ⟨hin, nm_e ⟨hin, nm_e ?_⟩⟩
    rw [hc, hfi.1, hsi.1]
    refine br_c (fun e => ?_) (fun e => ?_)
    · have e' := (qx_bitp mk (by omega) b).mp e
      refine br_c (fun z => br_t rfl ⟨hin, nm_e (nm_r (nI_1 i) (ih _ ?_))⟩) (fun z => br_f (by decide) ⟨hin, nm_e (nm_r (nI_1 i) (ih _ ?_))⟩)
      · skip
        refine qx_up hI (qb_Is_c (qb_Is_1 hfi.2) (fun q hq => ?_))
        have z' := (qb_con ch (by omega)).mp z
        constructor
        · intro y; exact ⟨hi, Or.inl ⟨e', by rw [z']; exact y⟩⟩
        · rintro ⟨_, y | y⟩
          · rw [z'] at y; exact y.2
          · exact absurd e' y.1
      · skip
        refine qx_up hI (qb_Is_c (qb_Is_1 hsi.2) (fun q hq => ?_))
        have z' : bt ch i = true := by
          have := mt (qb_con ch (m := i) (by omega)).mpr z
          cases hb : bt ch i
          · exact absurd hb this
          · rfl
        constructor
        · intro y; exact ⟨hi, Or.inl ⟨e', by rw [z']; exact y⟩⟩
        · rintro ⟨_, y | y⟩
          · rw [z'] at y; exact y.2
          · exact absurd e' y.1
    · have e' : ¬ bt mk i = b := fun y => e ((qx_bitp mk (by omega) b).mpr y)
      refine ⟨hin, nm_e (nm_r (nI_1 i) (ih _ ?_))⟩
      refine qx_up hI (qb_Is_c (qb_Is_or (qb_Is_1 hfi.2) (qb_Is_1 hsi.2)) (fun q hq => ?_))
      constructor
      · intro y; exact ⟨hi, Or.inr ⟨e', y⟩⟩
      · rintro ⟨_, y | y⟩
        · exact absurd y.1 e'
        · exact y.2
theorem qx_con {P : Int32 → Prop} (x : Int32) {m : Nat} (hm : m < 32) (h1 : bt x m = true → P 1) (h0 : bt x m = false → P 0) : wpX_contains P x (nI m) := by
  refine br_c (fun z => h0 ((qb_con x hm).mp z)) (fun z => h1 ?_)
  cases hb : bt x m
  · exact absurd ((qb_con x hm).mpr hb) z
  · rfl
/-- one middle for all: the invariant of the inner walk -/
def qx_In (Q : Nat → Nat → Prop) (m i : Nat) (r : Nat → Int32) : Prop := ∀ p, p < 8 → qb_Is (r p) (fun q => Q p q ∨ (p < i ∧ Q p m ∧ Q m q))
theorem qx_In_0 {Q : Nat → Nat → Prop} {m : Nat} {r : Nat → Int32} (h : qx_Re r Q) : qx_In Q m 0 r :=
  fun p hp => qb_Is_c (h p hp) (fun q _ => ⟨Or.inl, fun z => z.elim id (fun y => absurd y.1 (Nat.not_lt_zero _))⟩)
theorem qx_In_8 {Q : Nat → Nat → Prop} {m : Nat} {r : Nat → Int32} (h : qx_In Q m 8 r) : qx_Re r (fun p q => Q p q ∨ (Q p m ∧ Q m q)) :=
  fun p hp => qb_Is_c (h p hp) (fun q _ => ⟨fun z => z.elim Or.inl (fun y => Or.inr y.2), fun z => z.elim Or.inl (fun y => Or.inr ⟨hp, y⟩)⟩)
theorem qx_In_b {Q : Nat → Nat → Prop} {m i : Nat} {r : Nat → Int32} (hm : m < 8) (hi : i < 8) (h : qx_In Q m i r) : bt (r i) m = true ↔ Q i m := by
  rw [h i hi m (by omega)]
  constructor
  · rintro ⟨_, z | z⟩
    · exact z
    · exact absurd z.1 (Nat.lt_irrefl _)
  · intro z; exact ⟨hm, Or.inl z⟩
theorem qx_In_f {Q : Nat → Nat → Prop} {m i : Nat} {r : Nat → Int32} (h : qx_In Q m i r) (hb : ¬ Q i m) : qx_In Q m (i + 1) r := by
  intro p hp
  refine qb_Is_c (h p hp) (fun q _ => ?_)
  constructor
  · rintro (z | z)
    · exact Or.inl z
    · exact Or.inr ⟨by omega, z.2⟩
  · rintro (z | z)
    · exact Or.inl z
    · by_cases e : p = i
      · subst e; exact absurd z.2.1 hb
      · exact Or.inr ⟨by omega, z.2⟩
theorem qx_In_t {Q : Nat → Nat → Prop} {m i : Nat} {r : Nat → Int32} (hm : m < 8) (h : qx_In Q m i r) (hb : Q i m) : qx_In Q m (i + 1) (upd r i (r i ||| r m)) := by
  intro p hp
  by_cases e : p = i
  · subst e
    rw [qx_us]
    refine qb_Is_c (qb_Is_or (h p hp) (h m hm)) (fun q _ => ?_)
    constructor
    · rintro ((z | z) | (z | z))
      · exact Or.inl z
      · exact Or.inr ⟨by omega, z.2⟩
      · exact Or.inr ⟨by omega, hb, z⟩
      · exact Or.inr ⟨by omega, hb, z.2.2⟩
    · rintro (z | z)
      · exact Or.inl (Or.inl z)
      · exact Or.inr (Or.inl z.2.2)
  · rw [qx_un e]
    refine qb_Is_c (h p hp) (fun q _ => ?_)
    constructor
    · rintro (z | z)
      · exact Or.inl z
      · exact Or.inr ⟨by omega, z.2⟩
    · rintro (z | z)
      · exact Or.inl z
      · exact Or.inr ⟨by omega, z.2⟩
theorem qx_pass1 {post : SX → Prop} {J2 : Int32 → (Nat → Int32) → (Nat → Int32) → (Nat → Int32) → (Nat → Int32) → Prop} {x1 o : Int32} {c f s r : Nat → Int32} {m : Nat} {Q : Nat → Nat → Prop} (hm : m < 8) (hr : qx_Re r Q)
    (h : ∀ r', qx_Re r' (fun p q => Q p q ∨ (Q p m ∧ Q m q)) → J2 (nI (m + 1)) c f s r') : ∃ n, wX_letPassThrough_23 post J2 x1 (nI m) o n 0 c f s r := by
  refine loop_0 (fun n i r => wX_letPassThrough_23 post J2 x1 (nI m) o n (nI i) c f s r) (fun i r => qx_In Q m i r) 8 r (qx_In_0 hr) ?_ ?_
  · intro n r hI
    exact br_t (nI_le (a := 8) (b := 8) (Nat.le_refl _) (by decide)) (nm_r (nI_1 m) (h r (qx_In_8 hI)))
  · intro n i r hi hI ih
    have hc : (nI i).toNatClampNeg = i := nI_clamp (by omega)
    have hcm : (nI m).toNatClampNeg = m := nI_clamp (by omega)
    have hin : vp_in (nI i) 8 := vp_in_nI hi (by decide)
    have hinm : vp_in (nI m) 8 := vp_in_nI hm (by decide)
    refine br_f (nI_ge (b := 8) hi (by decide)) ⟨hin, ?_⟩
    rw [hc, hcm]
    refine qx_con _ (by omega) (fun z => br_f (by decide) ⟨hin, hinm, hin, nm_e (nm_r (nI_1 i) (ih _ ?_))⟩) (fun z => br_t rfl (nm_r (nI_1 i) (ih _ ?_)))
    · exact qx_In_t hm hI ((qx_In_b hm hi hI).mp z)
    · refine qx_In_f hI (fun y => ?_)
      rw [(qx_In_b hm hi hI).mpr y] at z
      exact absurd z (by decide)
theorem qx_pass {post : SX → Prop} {o : Int32} {c f s r : Nat → Int32} {k : Nat} {E : Nat → Nat → Prop} (hc : qx_Rg c 6) (hk : k < 6)
    (hr : qx_Re r (qr_R E (fun b => b < 8 ∧ qx_N c b < k))) (h : ∀ r', qx_Re r' (qr_R E (fun b => b < 8 ∧ qx_N c b < k + 1)) → post (o, c, f, s, r')) : wpX_letPassThrough post (o, c, f, s, r) (nI k) := by
  refine loop_0 (fun n i r => wX_letPassThrough_2 post (nI k) o n (nI i) c f s r) (fun i r => qx_Re r (qr_R E (fun b => b < 8 ∧ (qx_N c b < k ∨ (qx_N c b = k ∧ b < i))))) 8 r ?_ ?_ ?_
  · refine qx_Re_c hr (fun p q _ _ => qr_congr (fun _ _ => Iff.rfl) (fun b => ?_) p q)
    constructor
    · intro z; exact ⟨z.1, Or.inl z.2⟩
    · intro z; exact ⟨z.1, by omega⟩
  · intro n r hI
    refine br_t (nI_le (a := 8) (b := 8) (Nat.le_refl _) (by decide)) (h r (qx_Re_c hI (fun p q _ _ => qr_congr (fun _ _ => Iff.rfl) (fun b => ?_) p q)))
    constructor
    · intro z; exact ⟨z.1, by omega⟩
    · intro z; exact ⟨z.1, by omega⟩
  · intro n i r hi hI ih
    have hci : (nI i).toNatClampNeg = i := nI_clamp (by omega)
    have hin : vp_in (nI i) 8 := vp_in_nI hi (by decide)
    have hcc := hc i hi
    refine br_f (nI_ge (b := 8) hi (by decide)) ⟨hin, ?_⟩
    rw [hci, hcc.1]
    refine br_c (fun e => ?_) (fun e => nm_r (nI_1 i) (ih _ ?_))
    · have e' : qx_N c i = k := (nI_eq (by omega) (by omega)).mp e
      refine qx_pass1 hi hI (fun r' hr' => ih r' (qx_Re_c hr' (fun p q _ _ => (qr_w (fun b => ?_) p q).symm)))
      constructor
      · rintro ⟨z, y | y⟩
        · exact Or.inl ⟨z, Or.inl y⟩
        · by_cases eb : b = i
          · exact Or.inr eb
          · exact Or.inl ⟨z, Or.inr ⟨y.1, by omega⟩⟩
      · rintro (⟨z, y | y⟩ | y)
        · exact ⟨z, Or.inl y⟩
        · exact ⟨z, Or.inr ⟨y.1, by omega⟩⟩
        · subst y; exact ⟨hi, Or.inr ⟨e', by omega⟩⟩
    · have e' : ¬ qx_N c i = k := fun z => e (by rw [z])
      refine qx_Re_c hI (fun p q _ _ => qr_congr (fun _ _ => Iff.rfl) (fun b => ?_) p q)
      constructor
      · intro z; exact ⟨z.1, by omega⟩
      · rintro ⟨z, y | y⟩
        · exact ⟨z, Or.inl y⟩
        · refine ⟨z, Or.inr ⟨y.1, ?_⟩⟩
          by_cases eb : b = i
          · subst eb; exact absurd y.1 e'
          · omega
theorem qx_trip {post : Int32 → Prop} {o : Int32} {c f s r : Nat → Int32} {k : Nat} {Q : Nat → Nat → Prop} (hc : qx_Rg c 6) (hk : k < 6) (hr : qx_Re r Q)
    (h : ∀ x, qb_Is x (fun p => qx_N c p = k ∧ Q p p) → post x) : wpX_onRoundTrip post (o, c, f, s, r) (nI k) := by
  refine loop_0 (fun n i x => wX_onRoundTrip_4 post (nI k) o c f s r n x (nI i)) (fun i x => qb_Is x (fun p => p < i ∧ qx_N c p = k ∧ Q p p)) 8 0 (qb_Is_0 (fun i _ z => absurd z.1 (Nat.not_lt_zero _))) ?_ ?_
  · intro n x hI
    exact br_t (nI_le (a := 8) (b := 8) (Nat.le_refl _) (by decide)) (h x (qb_Is_c hI (fun i hi => ⟨fun z => z.2, fun z => ⟨hi, z⟩⟩)))
  · intro n i x hi hI ih
    have hci : (nI i).toNatClampNeg = i := nI_clamp (by omega)
    have hin : vp_in (nI i) 8 := vp_in_nI hi (by decide)
    have hcc := hc i hi
    have keep : ¬ (qx_N c i = k ∧ Q i i) → qb_Is x (fun p => p < i + 1 ∧ qx_N c p = k ∧ Q p p) := by
      intro hn
      refine qb_Is_c hI (fun p hp => ⟨fun z => ⟨by omega, z.2⟩, fun z => ⟨?_, z.2⟩⟩)
      by_cases e : p = i
      · subst e; exact absurd z.2 hn
      · omega
    refine br_f (nI_ge (b := 8) hi (by decide)) ⟨hin, ?_⟩
    rw [hci, hcc.1]
    refine br_c (fun e => ⟨hin, ?_⟩) (fun e => nm_r (nI_1 i) (ih _ (keep ?_)))
    · have e' : qx_N c i = k := (nI_eq (by omega) (by omega)).mp e
      refine qx_con _ (by omega) (fun z => br_f (by decide) (nm_e (nm_r (nI_1 i) (ih _ ?_)))) (fun z => br_t rfl (nm_r (nI_1 i) (ih _ (keep ?_))))
      · have z' := ((hr i hi i (by omega)).mp z).2
        refine qb_Is_c (qb_Is_or hI (qb_Is_1 hi)) (fun p hp => ?_)
        constructor
        · rintro (y | y)
          · exact ⟨by omega, y.2⟩
          · subst y; exact ⟨by omega, e', z'⟩
        · intro y
          by_cases eb : p = i
          · exact Or.inr eb
          · exact Or.inl ⟨by omega, y.2⟩
      · rintro ⟨_, y⟩
        rw [(hr i hi i (by omega)).mpr ⟨hi, y⟩] at z
        exact absurd z (by decide)
    · rintro ⟨y, _⟩
      exact e (by rw [y])
theorem qx_reaching {post : Int32 → Prop} {o : Int32} {c f s r : Nat → Int32} {t : Int32} {Q : Nat → Nat → Prop} {L : Nat → Prop} (ht : qb_Is t L) (hr : qx_Re r Q)
    (h : ∀ x, qb_Is x (fun p => ∃ q, q < 8 ∧ Q p q ∧ L q) → post x) : wpX_reaching post (o, c, f, s, r) t := by
  refine loop_0 (fun n i x => wX_reaching_4 post t o c f s r n x (nI i)) (fun i x => qb_Is x (fun p => p < i ∧ ∃ q, q < 8 ∧ Q p q ∧ L q)) 8 0 (qb_Is_0 (fun i _ z => absurd z.1 (Nat.not_lt_zero _))) ?_ ?_
  · intro n x hI
    exact br_t (nI_le (a := 8) (b := 8) (Nat.le_refl _) (by decide)) (h x (qb_Is_c hI (fun i hi => ⟨fun z => z.2, fun z => ⟨hi, z⟩⟩)))
  · intro n i x hi hI ih
    have hci : (nI i).toNatClampNeg = i := nI_clamp (by omega)
    have hin : vp_in (nI i) 8 := vp_in_nI hi (by decide)
    have ha := qb_Is_and0 (hr i hi) ht
    refine br_f (nI_ge (b := 8) hi (by decide)) ⟨hin, ?_⟩
    rw [hci]
    refine br_c (fun e => nm_r (nI_1 i) (ih _ ?_)) (fun e => nm_e (nm_r (nI_1 i) (ih _ ?_)))
    · have e' := ha.mp e
      refine qb_Is_c hI (fun p hp => ⟨fun z => ⟨by omega, z.2⟩, fun z => ⟨?_, z.2⟩⟩)
      by_cases eb : p = i
      · subst eb; exact absurd z.2 e'
      · omega
    · refine qb_Is_c (qb_Is_or hI (qb_Is_1 hi)) (fun p hp => ?_)
      constructor
      · rintro (y | y)
        · exact ⟨by omega, y.2⟩
        · subst y
          refine ⟨by omega, ?_⟩
          by_cases w : ∃ q, q < 8 ∧ Q p q ∧ L q
          · exact w
          · exact absurd (ha.mpr w) e
      · intro y
        by_cases eb : p = i
        · exact Or.inr eb
        · exact Or.inl ⟨by omega, y.2⟩
theorem qx_par : ∀ k, k < 6 → ∀ b : Bool, ((nI k &&& 1) = qx_pl b ↔ qg_par k = b) := by decide +kernel
