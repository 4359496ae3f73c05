/-! BASE: pure rows for the sides' own words -/
theorem gi_si (σ : SC) (k j : Nat) (v : Int32) : gi (si σ k v) j = if j = k then v else gi σ j := rfl
theorem gi_sa (σ : SC) (k j : Nat) (f : Nat → Int32) : gi (sa σ k f) j = gi σ j := rfl
theorem gi_sl (σ : SC) (k j : Nat) (f : Nat → Int64) : gi (sl σ k f) j = gi σ j := rfl
theorem gi_st (σ : SC) (t j : Nat) : gi (st σ t) j = gi σ j := rfl
theorem ga_si (σ : SC) (k j : Nat) (v : Int32) : ga (si σ k v) j = ga σ j := rfl
theorem ga_sa (σ : SC) (k j : Nat) (f : Nat → Int32) : ga (sa σ k f) j = if j = k then f else ga σ j := rfl
theorem ga_sl (σ : SC) (k j : Nat) (f : Nat → Int64) : ga (sl σ k f) j = ga σ j := rfl
theorem ga_st (σ : SC) (t j : Nat) : ga (st σ t) j = ga σ j := rfl
theorem gl_si (σ : SC) (k j : Nat) (v : Int32) : gl (si σ k v) j = gl σ j := rfl
theorem gl_sa (σ : SC) (k j : Nat) (f : Nat → Int32) : gl (sa σ k f) j = gl σ j := rfl
theorem gl_sl (σ : SC) (k j : Nat) (f : Nat → Int64) : gl (sl σ k f) j = if j = k then f else gl σ j := rfl
theorem gl_st (σ : SC) (t j : Nat) : gl (st σ t) j = gl σ j := rfl
theorem gt_si (σ : SC) (k : Nat) (v : Int32) : gt (si σ k v) = gt σ := rfl
theorem gt_sa (σ : SC) (k : Nat) (f : Nat → Int32) : gt (sa σ k f) = gt σ := rfl
theorem gt_sl (σ : SC) (k : Nat) (f : Nat → Int64) : gt (sl σ k f) = gt σ := rfl
theorem gt_st (σ : SC) (t : Nat) : gt (st σ t) = t := rfl
theorem ud_s (f : Nat → Int32) (k : Nat) (v : Int32) (j : Nat) : upd f k v j = if j = k then v else f j := by
  by_cases h : j = k
  · subst h; rw [pk_us, if_pos rfl]
  · rw [pk_un h, if_neg h]
theorem udL_s (f : Nat → Int64) (k : Nat) (v : Int64) (j : Nat) : vp_updL f k v j = if j = k then v else f j := rfl
theorem lt_e {α β : Type} (x : α) (k : α → β) : lt x k = k x := rfl
theorem jn_e {α β : Type} (J : α) (B : α → β) : jn J B = B J := rfl
theorem bd_e {α β : Type} (a : α) (k : α → Option β) : bd (some a) k = k a := rfl
theorem bd2_e {α γ β : Type} (a : α) (b : γ) (k : α → γ → Option β) : bd2 (some (a, b)) k = k a b := rfl
theorem gin_nI {j n : Nat} (h : j < n) (hn : n < 2 ^ 31) : gin (nI j) n = true := gin_in.mpr (vp_in_nI h hn)
theorem ld_n {α β : Type} {f : Nat → α} {n : Nat} {k : α → Option β} {i : Int32} (j : Nat) (hi : i = nI j) (h : j < n) (hn : n < 2 ^ 31) : ld f n i k = k (f j) := by
  subst hi
  rw [ld, if_pos (gin_nI h hn), nI_clamp (by omega)]
theorem ck_n {β : Type} {n : Nat} {k : Option β} {i : Int32} (j : Nat) (hi : i = nI j) (h : j < n) (hn : n < 2 ^ 31) : ck n i k = k := by
  subst hi
  rw [ck, if_pos (gin_nI h hn)]
theorem zb_0 {β : Type} (k : Option β) : zb 0 k = k := if_pos (Or.inl rfl)
theorem zb_1 {β : Type} (k : Option β) : zb 1 k = k := if_pos (Or.inr rfl)
theorem zb_e {β : Type} {v : Int32} (h : v = 0 ∨ v = 1) (k : Option β) : zb v k = k := if_pos h
/-- what is done for i, i + 1, .. d times -/
def itf {α : Type} (g : Nat → α → α) : Nat → Nat → α → α
  | _, 0, x => x
  | i, d + 1, x => itf g (i + 1) d (g i x)
def fo {α : Type} (g : Nat → α → α) (c : Nat) (x : α) : α := itf g 0 c x
theorem itf_last {α : Type} (g : Nat → α → α) : ∀ (d i : Nat) (x : α), itf g i (d + 1) x = g (i + d) (itf g i d x)
  | 0, i, x => rfl
  | d + 1, i, x => by
    show itf g (i + 1) (d + 1) (g i x) = _
    rw [itf_last g d (i + 1) (g i x), show i + 1 + d = i + (d + 1) by omega]
    rfl
theorem fo_s {α : Type} (g : Nat → α → α) (c : Nat) (x : α) : fo g (c + 1) x = g c (fo g c x) := by
  have h := itf_last g c 0 x
  rw [Nat.zero_add] at h
  exact h
theorem fo_0 {α : Type} (g : Nat → α → α) (x : α) : fo g 0 x = x := rfl
theorem fo_cong {α : Type} {g g2 : Nat → α → α} : ∀ {c : Nat}, (∀ i x, i < c → g i x = g2 i x) → ∀ x : α, fo g c x = fo g2 c x
  | 0, _, _ => rfl
  | c + 1, h, x => by rw [fo_s, fo_s, fo_cong (fun i x hi => h i x (by omega)) x, h c _ (by omega)]
theorem fo_inv {α : Type} {g : Nat → α → α} (I : Nat → α → Prop) {x : α} (h0 : I 0 x) : ∀ {c : Nat}, (∀ i x, i < c → I i x → I (i + 1) (g i x)) → I c (fo g c x)
  | 0, _ => h0
  | c + 1, h => by
    rw [fo_s]
    exact h c _ (by omega) (fo_inv I h0 (fun i x hi hx => h i x (by omega) hx))
/-- two foldings go together -/
theorem fo_rel {α β : Type} {g : Nat → α → α} {g2 : Nat → β → β} (I : Nat → α → β → Prop) {x : α} {y : β} (h0 : I 0 x y) : ∀ {c : Nat}, (∀ i x y, i < c → I i x y → I (i + 1) (g i x) (g2 i y)) → I c (fo g c x) (fo g2 c y)
  | 0, _ => h0
  | c + 1, h => by
    rw [fo_s, fo_s]
    exact h c _ _ (by omega) (fo_rel I h0 (fun i x y hi hx => h i x y (by omega) hx))
theorem loop_up {α β : Type} (L : Nat → Nat → α → Option β) (K : α → Option β) (g : Nat → α → α) (c : Nat) (I : Nat → α → Prop)
    (hend : ∀ f x, I c x → L (f + 1) c x = K x)
    (hstep : ∀ f i x, i < c → I i x → L (f + 1) i x = L f (i + 1) (g i x) ∧ I (i + 1) (g i x)) :
    ∀ (d f i : Nat) (x : α), i + d = c → d < f → I i x → L f i x = K (itf g i d x) ∧ I c (itf g i d x) := by
  intro d
  induction d with
  | zero =>
    intro f i x h1 h2 hI
    obtain ⟨f, rfl⟩ : ∃ f', f = f' + 1 := ⟨f - 1, by omega⟩
    have e : i = c := by omega
    subst e
    exact ⟨hend f x hI, hI⟩
  | succ d ih =>
    intro f i x h1 h2 hI
    obtain ⟨f, rfl⟩ : ∃ f', f = f' + 1 := ⟨f - 1, by omega⟩
    obtain ⟨a, b⟩ := hstep f i x (by omega) hI
    rw [a]
    exact ih f (i + 1) (g i x) (by omega) (by omega) b
theorem loop_fo {α β : Type} {L : Nat → Nat → α → Option β} {K : α → Option β} {g : Nat → α → α} {c n : Nat} {x : α} (I : Nat → α → Prop) (hn : c < n) (h0 : I 0 x)
    (hend : ∀ f x, I c x → L (f + 1) c x = K x)
    (hstep : ∀ f i x, i < c → I i x → L (f + 1) i x = L f (i + 1) (g i x) ∧ I (i + 1) (g i x)) : L n 0 x = K (fo g c x) ∧ I c (fo g c x) :=
  loop_up L K g c I hend hstep c n 0 x (by omega) hn h0
theorem loop_brk {α β : Type} (L : Nat → Nat → α → Option β) (K : α → Option β) (g : Nat → α → α) (p : Nat → α → Prop) (Rr : Nat → α → Option β) (c : Nat) (I : Nat → α → Prop)
    (hend : ∀ f x, I c x → L (f + 1) c x = K x)
    (hstep : ∀ f i x, i < c → I i x → (p i x ∧ L (f + 1) i x = Rr i x) ∨ (¬ p i x ∧ L (f + 1) i x = L f (i + 1) (g i x) ∧ I (i + 1) (g i x))) :
    ∀ (d f i : Nat) (x : α), i + d = c → d < f → I i x →
      (∃ j, j < d ∧ (∀ k, k < j → ¬ p (i + k) (itf g i k x)) ∧ p (i + j) (itf g i j x) ∧ I (i + j) (itf g i j x) ∧ L f i x = Rr (i + j) (itf g i j x)) ∨
      ((∀ k, k < d → ¬ p (i + k) (itf g i k x)) ∧ I c (itf g i d x) ∧ L f i x = K (itf g i d x)) := by
  intro d
  induction d with
  | zero =>
    intro f i x h1 h2 hI
    obtain ⟨f, rfl⟩ : ∃ f', f = f' + 1 := ⟨f - 1, by omega⟩
    have e : i = c := by omega
    subst e
    exact Or.inr ⟨fun k hk => by omega, hI, hend f x hI⟩
  | succ d ih =>
    intro f i x h1 h2 hI
    obtain ⟨f, rfl⟩ : ∃ f', f = f' + 1 := ⟨f - 1, by omega⟩
    rcases hstep f i x (by omega) hI with ⟨a, b⟩ | ⟨a, b, e⟩
    · exact Or.inl ⟨0, by omega, fun k hk => by omega, a, hI, b⟩
    · rcases ih f (i + 1) (g i x) (by omega) (by omega) e with ⟨j, q1, q2, q3, q4, q5⟩ | ⟨q1, q2, q3⟩
      · refine Or.inl ⟨j + 1, by omega, fun k hk => ?_, ?_, ?_, ?_⟩
        · rcases k with _ | k
          · exact a
          · have := q2 k (by omega)
            rw [show i + 1 + k = i + (k + 1) by omega] at this
            exact this
        · rw [show i + 1 + j = i + (j + 1) by omega] at q3; exact q3
        · rw [show i + 1 + j = i + (j + 1) by omega] at q4; exact q4
        · rw [b, q5, show i + 1 + j = i + (j + 1) by omega]; rfl
      · refine Or.inr ⟨fun k hk => ?_, q2, by rw [b, q3]; rfl⟩
        rcases k with _ | k
        · exact a
        · have := q1 k (by omega)
          rw [show i + 1 + k = i + (k + 1) by omega] at this
          exact this
/-- a set has all of another -/
abbrev sub (p x : Int32) : Prop := (p &&& (x ^^^ (-1))) = 0
def aft (u m x : Int32) : Int32 := (x &&& (u ^^^ (-1))) ||| m
def inR (x : Int32) (c : Nat) : Prop := ∃ a, a < c ∧ x = nI a
theorem inR_iff {x : Int32} {c : Nat} (hc : c < 2 ^ 31) : inR x c ↔ ¬ x < 0 ∧ ¬ nI c ≤ x := by
  constructor
  · rintro ⟨a, h, rfl⟩
    exact ⟨nI_pos (by omega), nI_ge h hc⟩
  · rintro ⟨h1, h2⟩
    rcases pk_ix x hc with h | h | h
    · exact absurd h h1
    · exact absurd h h2
    · exact h
theorem l_0 : (0 : Int32) = nI 0 := rfl
theorem l_n (k : Nat) : (OfNat.ofNat k : Int32) = nI k := rfl
theorem nI_lit (k a : Nat) : (OfNat.ofNat k : Int32) + nI a = nI (k + a) := nI_add k a
theorem nI_z (a : Nat) : 0 + nI a = nI a := by rw [l_0, nI_add, Nat.zero_add]
theorem nI_p1 (a : Nat) : nI a + 1 = nI (a + 1) := nI_1 a
theorem if_t {α : Type} {c : Prop} [Decidable c] (h : c) (a b : α) : (if c then a else b) = a := if_pos h
theorem if_f {α : Type} {c : Prop} [Decidable c] (h : ¬ c) (a b : α) : (if c then a else b) = b := if_neg h
theorem one_ne : ¬ (1 : Int32) = 0 := by decide
theorem nI_ne {a b : Nat} (h : a ≠ b) (ha : a < 2 ^ 31) (hb : b < 2 ^ 31) : ¬ nI a = nI b := fun e => h ((nI_eq ha hb).mp e)
theorem nI_nm1 {a : Nat} (h : a < 2 ^ 31) : ¬ nI a = -1 := by
  intro e
  have h1 := nI_pos (n := a) h
  rw [e] at h1
  exact h1 (by decide)
