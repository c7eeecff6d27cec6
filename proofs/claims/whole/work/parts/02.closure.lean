/-- the least relation that holds E and is closed under going on through a middle of M -/
def qr_R (E : Nat → Nat → Prop) (M : Nat → Prop) (p q : Nat) : Prop :=
  ∀ T : Nat → Nat → Prop, (∀ a b, E a b → T a b) → (∀ a b c, T a b → M b → T b c → T a c) → T p q
theorem qr_e {E : Nat → Nat → Prop} {M : Nat → Prop} {p q : Nat} (h : E p q) : qr_R E M p q := fun _ hE _ => hE _ _ h
theorem qr_c {E : Nat → Nat → Prop} {M : Nat → Prop} {a b c : Nat} (h1 : qr_R E M a b) (hb : M b) (h2 : qr_R E M b c) : qr_R E M a c :=
  fun T hE hT => hT _ _ _ (h1 T hE hT) hb (h2 T hE hT)
theorem qr_mono {E E' : Nat → Nat → Prop} {M M' : Nat → Prop} {p q : Nat} (hE : ∀ a b, E a b → E' a b) (hM : ∀ b, M b → M' b) (h : qr_R E M p q) : qr_R E' M' p q :=
  h _ (fun a b e => qr_e (hE a b e)) (fun _ b _ h1 hb h2 => qr_c h1 (hM b hb) h2)
theorem qr_congr {E E' : Nat → Nat → Prop} {M M' : Nat → Prop} (hE : ∀ a b, E a b ↔ E' a b) (hM : ∀ b, M b ↔ M' b) (p q : Nat) : qr_R E M p q ↔ qr_R E' M' p q :=
  ⟨qr_mono (fun a b => (hE a b).mp) (fun b => (hM b).mp), qr_mono (fun a b => (hE a b).mpr) (fun b => (hM b).mpr)⟩
theorem qr_none {E : Nat → Nat → Prop} {M : Nat → Prop} (hM : ∀ b, ¬ M b) (p q : Nat) : qr_R E M p q ↔ E p q :=
  ⟨fun h => h E (fun _ _ e => e) (fun _ b _ _ hb _ => absurd hb (hM b)), qr_e⟩
/-- one middle more -/
theorem qr_w {E : Nat → Nat → Prop} {M M' : Nat → Prop} {m : Nat} (hM : ∀ b, M' b ↔ M b ∨ b = m) (p q : Nat) :
    qr_R E M' p q ↔ qr_R E M p q ∨ (qr_R E M p m ∧ qr_R E M m q) := by
  constructor
  · intro h
    refine h (fun p q => qr_R E M p q ∨ (qr_R E M p m ∧ qr_R E M m q)) (fun a b e => Or.inl (qr_e e)) ?_
    intro a b c h1 hb h2
    rcases (hM b).mp hb with hb | hb
    · rcases h1 with h1 | h1 <;> rcases h2 with h2 | h2
      · exact Or.inl (qr_c h1 hb h2)
      · exact Or.inr ⟨qr_c h1 hb h2.1, h2.2⟩
      · exact Or.inr ⟨h1.1, qr_c h1.2 hb h2⟩
      · exact Or.inr ⟨h1.1, h2.2⟩
    · subst hb
      rcases h1 with h1 | h1 <;> rcases h2 with h2 | h2
      · exact Or.inr ⟨h1, h2⟩
      · exact Or.inr ⟨h1, h2.2⟩
      · exact Or.inr ⟨h1.1, h2⟩
      · exact Or.inr ⟨h1.1, h2.2⟩
  · have hm : ∀ b, M b → M' b := fun b hb => (hM b).mpr (Or.inl hb)
    rintro (h | h)
    · exact qr_mono (fun _ _ e => e) hm h
    · exact qr_c (qr_mono (fun _ _ e => e) hm h.1) ((hM m).mpr (Or.inr rfl)) (qr_mono (fun _ _ e => e) hm h.2)
/-- edges outside K may be left out if ends and middles are in K -/
theorem qr_res {E : Nat → Nat → Prop} {M K : Nat → Prop} (hK : ∀ b, M b → K b) {p q : Nat} (hp : K p) (hq : K q) (h : qr_R E M p q) :
    qr_R (fun a b => E a b ∧ K a ∧ K b) M p q := by
  refine h (fun a b => K a → K b → qr_R (fun a b => E a b ∧ K a ∧ K b) M a b) (fun a b e ha hb => qr_e ⟨e, ha, hb⟩) ?_ hp hq
  intro a b c h1 hb h2 ha hc
  exact qr_c (h1 ha (hK b hb)) hb (h2 (hK b hb) hc)
theorem qr_ends {E : Nat → Nat → Prop} {M K : Nat → Prop} (hE : ∀ a b, E a b → K a ∧ K b) {p q : Nat} (h : qr_R E M p q) : K p ∧ K q :=
  h (fun a b => K a ∧ K b) hE (fun _ _ _ h1 _ h2 => ⟨h1.1, h2.2⟩)
theorem qr_sep {G : Nat → Nat → Prop} {M A : Nat → Prop} (hA : ∀ a b, G a b → A a → A b) {q : Nat} (h : qr_R G M q q) :
    (A q ∧ qr_R (fun a b => G a b ∧ A a ∧ A b) M q q) ∨ (¬ A q ∧ qr_R (fun a b => G a b ∧ ¬ A a ∧ ¬ A b) M q q) := by
  have t := h (fun a b => (A a → A b ∧ qr_R (fun a b => G a b ∧ A a ∧ A b) M a b) ∧ (¬ A b → ¬ A a ∧ qr_R (fun a b => G a b ∧ ¬ A a ∧ ¬ A b) M a b))
    (fun a b e => ⟨fun ha => ⟨hA a b e ha, qr_e ⟨e, ha, hA a b e ha⟩⟩, fun hb => ⟨fun ha => hb (hA a b e ha), qr_e ⟨e, fun ha => hb (hA a b e ha), hb⟩⟩⟩)
    (fun a b c h1 hb h2 => ⟨fun ha => ⟨(h2.1 (h1.1 ha).1).1, qr_c (h1.1 ha).2 hb (h2.1 (h1.1 ha).1).2⟩, fun hc => ⟨(h1.2 (h2.2 hc).1).1, qr_c (h1.2 (h2.2 hc).1).2 hb (h2.2 hc).2⟩⟩)
  by_cases hq : A q
  · exact Or.inl ⟨hq, (t.1 hq).2⟩
  · exact Or.inr ⟨hq, (t.2 hq).2⟩
theorem qr_dec {G : Nat → Nat → Prop} {M : Nat → Prop} {rk : Nat → Nat} (hG : ∀ a b, G a b → rk b < rk a) {p q : Nat} (h : qr_R G M p q) : rk q < rk p :=
  h (fun a b => rk b < rk a) hG (fun _ _ _ h1 _ h2 => Nat.lt_trans h2 h1)
