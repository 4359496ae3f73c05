/-! RELAXED PLANS: what is known at rest is what the last level has; makers; closures -/
section
variable {sm : Bool} {co : Nat → Nat} {nd mk : Nat → Int32} {c : Nat}
theorem RV_fixa {W : Nat → Nat} (hco : ∀ a, a < c → 1 ≤ co a ∧ co a ≤ CP) (hW : Vok W) (h : RV sm co nd mk c W = W) : ∀ a, a < c → stV sm co nd mk a W = W := by
  have part : ∀ k, k ≤ c → fo (stV sm co nd mk) k W = W := by
    intro k hk
    funext j
    have h1 := (RV_part (nd := nd) (mk := mk) (sm := sm) hco hW k hk).2 j
    have h2 := RV_chain (sm := sm) (co := co) (nd := nd) (mk := mk) W k (c - k) j
    rw [show k + (c - k) = c by omega] at h2
    have h3 : fo (stV sm co nd mk) c W j = W j := congrFun h j
    omega
  intro a ha
  have h1 := part (a + 1) (by omega)
  rw [fo_s, part a (by omega)] at h1
  exact h1
theorem mf_bit {x : Int32} {f : Nat} : bt (mf c nd mk x) f = true ↔ ∃ a, a < c ∧ sub (nd a) x ∧ bt (mk a) f = true := by
  refine fo_inv (fun k y => bt y f = true ↔ ∃ a, a < k ∧ sub (nd a) x ∧ bt (mk a) f = true) ⟨fun h => (by rw [b_0] at h; cases h), fun ⟨a, h, _⟩ => (by omega)⟩ ?_
  rintro i y hi ih
  by_cases q : sub (nd i) x
  · rw [if_pos q, b_or, Bool.or_eq_true, ih]
    constructor
    · rintro (⟨a, h1, h2⟩ | h)
      · exact ⟨a, by omega, h2⟩
      · exact ⟨i, by omega, q, h⟩
    · rintro ⟨a, h1, h2, h3⟩
      by_cases e : a = i
      · subst e; exact Or.inr h3
      · exact Or.inl ⟨a, by omega, h2, h3⟩
  · rw [if_neg q, ih]
    constructor
    · rintro ⟨a, h1, h2⟩; exact ⟨a, by omega, h2⟩
    · rintro ⟨a, h1, h2, h3⟩
      by_cases e : a = i
      · subst e; exact absurd h2 q
      · exact ⟨a, by omega, h2, h3⟩
theorem nx_bit {x : Int32} {f : Nat} (hf : f < 32) : bt (nx c nd mk 0 x) f = true ↔ bt x f = true ∨ ∃ a, a < c ∧ sub (nd a) x ∧ bt (mk a) f = true := by
  unfold nx
  rw [b_or, b_and, b_not 0 hf, b_0, Bool.or_eq_true, ← mf_bit]
  simp
theorem up_all {x : Int32} : ∀ k g, bt (lv c nd mk 0 x 0) g = true → bt (lv c nd mk 0 x k) g = true
  | 0, _, h => h
  | k + 1, g, h => nx_up (up_all k g h)
theorem up_some {x : Int32} (j : Nat) : ∀ d g, bt (lv c nd mk 0 x j) g = true → bt (lv c nd mk 0 x (j + d)) g = true
  | 0, _, h => h
  | d + 1, g, h => nx_up (up_some j d g h)
theorem known_reach (hco : ∀ a, a < c → 1 ≤ co a ∧ co a ≤ CP) (hnd : ∀ a, a < c → s30 (nd a)) {x : Int32} {T L : Nat} (hfix : RV sm co nd mk c (VK sm co nd mk c (v0 x) T) = VK sm co nd mk c (v0 x) T) (hst : ∀ k, L ≤ k → lv c nd mk 0 x k = lv c nd mk 0 x L) :
    ∀ f, f < 30 → (VK sm co nd mk c (v0 x) T f ≠ FR ↔ bt (lv c nd mk 0 x L) f = true) := by
  have hF : FR ≠ 0 := by decide
  have hcf := CPFR
  have hok0 : Vok (v0 x) := fun f hf => by
    rcases v0_ok x f hf with h | h
    · exact Or.inl (by omega)
    · exact Or.inr h
  have hokT := VK_ok (sm := sm) (nd := nd) (mk := mk) hco hok0 T
  have hfa := RV_fixa hco hokT hfix
  have lv0 : ∀ f, bt (lv c nd mk 0 x 0) f = bt x f := fun f => by rw [show lv c nd mk 0 x 0 = x from nw_0 x]
  intro f hf
  constructor
  · have key : ∀ k g, g < 30 → VK sm co nd mk c (v0 x) k g ≠ FR → bt (lv c nd mk 0 x L) g = true := by
      intro k
      induction k with
      | zero =>
        intro g hg hne
        have hb : bt x g = true := by
          refine Classical.byContradiction fun h => hne ?_
          exact if_neg (fun hh => h hh.2)
        have := up_all (nd := nd) (mk := mk) (c := c) (x := x) L g (by rw [lv0]; exact hb)
        exact this
      | succ k ih =>
        have hk := VK_ok (sm := sm) (nd := nd) (mk := mk) hco hok0 k
        have := fo_inv (g := stV sm co nd mk) (c := c) (x := VK sm co nd mk c (v0 x) k) (fun i (u : Nat → Nat) => Vok u ∧ ∀ g, g < 30 → u g ≠ FR → bt (lv c nd mk 0 x L) g = true) ⟨hk, ih⟩ (by
          rintro i u hi ⟨hu, hp⟩
          refine ⟨stV_ok hco hu hi, fun g hg hne => ?_⟩
          by_cases q : bt (mk i) g = true ∧ vA sm co nd i u < u g
          · have hug := Vok_FR hu hg
            rcases vA_c (sm := sm) (nd := nd) hco hu hi with ⟨h, _⟩ | ⟨_, h⟩
            · omega
            · have hs : sub (nd i) (lv c nd mk 0 x L) := by
                rw [sub_iff]
                intro j _ hj
                have hj30 := s30_bit (hnd i hi) hj
                exact hp j hj30 (h j hj30 hj).1
              have h1 : bt (lv c nd mk 0 x (L + 1)) g = true := (nx_bit (by omega)).mpr (Or.inr ⟨i, hi, hs, q.1⟩)
              rw [hst (L + 1) (by omega)] at h1
              exact h1
          · have e : stV sm co nd mk i u g = u g := if_neg (fun h => q h.2)
            rw [e] at hne
            exact hp g hg hne)
        exact this.2
    exact key T f hf
  · have key : ∀ k g, g < 30 → bt (lv c nd mk 0 x k) g = true → VK sm co nd mk c (v0 x) T g ≠ FR := by
      intro k
      induction k with
      | zero =>
        intro g hg hb
        rw [lv0] at hb
        have h1 := VK_down' (sm := sm) (co := co) (nd := nd) (mk := mk) (c := c) (v0 x) 0 T g
        rw [Nat.zero_add] at h1
        have h2 : VK sm co nd mk c (v0 x) 0 g = 0 := if_pos ⟨hg, hb⟩
        omega
      | succ k ih =>
        intro g hg hb
        rcases (nx_bit (by omega)).mp hb with h | ⟨a, ha, hs, hm⟩
        · exact ih g hg h
        · have hA : vA sm co nd a (VK sm co nd mk c (v0 x) T) ≤ CP := by
            rcases vA_c (sm := sm) (nd := nd) hco hokT ha with ⟨_, j, h1, h2, h3⟩ | ⟨h, _⟩
            · rw [sub_iff] at hs
              exact absurd h3 (ih j h1 (hs j (by omega) h2))
            · exact h
          have e := congrFun (hfa a ha) g
          intro hFR
          have : stV sm co nd mk a (VK sm co nd mk c (v0 x) T) g = vA sm co nd a (VK sm co nd mk c (v0 x) T) := if_pos ⟨hg, hm, by omega⟩
          omega
    exact key L f hf
end
/-- the least of those that may, the first of equals -/
def bg (P : Nat → Bool) (u : Nat → Nat) (a : Nat) (o : Option Nat) : Option Nat := if P a = true then (match o with | none => some a | some b => if u b ≤ u a then some b else some a) else o
def mker (P : Nat → Bool) (u : Nat → Nat) (c : Nat) : Option Nat := fo (bg P u) c none
theorem mker_p {P : Nat → Bool} {u : Nat → Nat} {c : Nat} : (mker P u c = none ∧ ∀ a, a < c → P a = false) ∨ ∃ a, mker P u c = some a ∧ a < c ∧ P a = true := by
  refine fo_inv (fun k o => (o = none ∧ ∀ a, a < k → P a = false) ∨ ∃ a, o = some a ∧ a < k ∧ P a = true) (Or.inl ⟨rfl, fun a h => by omega⟩) ?_
  rintro i o hi ho
  unfold bg
  cases hP : P i with
  | false =>
    rw [if_neg (by decide)]
    rcases ho with ⟨h1, h2⟩ | ⟨a, h1, h2, h3⟩
    · refine Or.inl ⟨h1, fun a ha => ?_⟩
      by_cases e : a = i
      · rw [e]; exact hP
      · exact h2 a (by omega)
    · exact Or.inr ⟨a, h1, by omega, h3⟩
  | true =>
    rw [if_pos rfl]
    rcases ho with ⟨rfl, h2⟩ | ⟨a, rfl, h2, h3⟩
    · exact Or.inr ⟨i, rfl, by omega, hP⟩
    · right
      by_cases q : u a ≤ u i
      · exact ⟨a, if_pos q, by omega, h3⟩
      · exact ⟨i, if_neg q, by omega, hP⟩
section
variable (nd mk : Nat → Int32) (c : Nat) (x goal : Int32) (u : Nat → Nat)
def isL (f l : Nat) : Prop := bt (lv c nd mk 0 x l) f = true ∧ ∀ j, j < l → bt (lv c nd mk 0 x j) f = false
def mayP (f l : Nat) (a : Nat) : Bool := bt (mk a) f && decide (sub (nd a) (lv c nd mk 0 x (l - 1)))
/-- the maker of a fact -/
def MK (f a : Nat) : Prop := ∃ l, 1 ≤ l ∧ isL nd mk c x f l ∧ mker (mayP nd mk c x f l) u c = some a
def Cl (S : Nat → Prop) : Prop := (∀ f, f < 30 → bt goal f = true → bt x f = false → S f) ∧ ∀ f a g, S f → MK nd mk c x u f a → bt (nd a) g = true → bt x g = false → S g
/-- so far: wanted w, chosen ch, done D -/
def RI (L : Nat) (D : Nat → Prop) (w ch : Int32) : Prop := s30 w ∧ (∀ f, bt w f = true → bt (lv c nd mk 0 x L) f = true ∧ bt x f = false) ∧ (∀ f, f < 30 → bt goal f = true → bt x f = false → bt w f = true) ∧
  (∀ S, Cl nd mk c x goal u S → ∀ f, bt w f = true → S f) ∧ (∀ f a g, bt w f = true → D f → MK nd mk c x u f a → bt (nd a) g = true → bt x g = false → bt w g = true) ∧ ∀ a, a < 32 → (bt ch a = true ↔ ∃ f, bt w f = true ∧ D f ∧ MK nd mk c x u f a)
variable {nd mk c x goal u}
theorem isL_uniq {f l l' : Nat} (h : isL nd mk c x f l) (h' : isL nd mk c x f l') : l = l' := by
  rcases Nat.lt_trichotomy l l' with q | q | q
  · have := h'.2 l q
    rw [h.1] at this; cases this
  · exact q
  · have := h.2 l' q
    rw [h'.1] at this; cases this
theorem MK_uniq {f a a' : Nat} (h : MK nd mk c x u f a) (h' : MK nd mk c x u f a') : a = a' := by
  obtain ⟨l, _, h1, h2⟩ := h
  obtain ⟨l', _, h1', h2'⟩ := h'
  rw [isL_uniq h1 h1'] at h2
  rw [h2] at h2'
  exact Option.some.inj h2'
theorem isL_ex {f k : Nat} (h : bt (lv c nd mk 0 x k) f = true) : ∃ l, l ≤ k ∧ isL nd mk c x f l := by
  obtain ⟨l, h1, h2⟩ := pk_least (fun l => bt (lv c nd mk 0 x l) f = true) ⟨k, h⟩
  refine ⟨l, ?_, h1, fun j hj => by simpa using h2 j hj⟩
  rcases Nat.lt_or_ge k l with q | q
  · exact absurd h (h2 k q)
  · exact q
theorem isL_0 {f l : Nat} (h : isL nd mk c x f l) (hx : bt x f = false) : 1 ≤ l := by
  rcases l with _ | l
  · have := h.1
    rw [show lv c nd mk 0 x 0 = x from nw_0 x, hx] at this; cases this
  · omega
/-- a fact of a level above the start has its maker -/
theorem MK_ex {f l : Nat} (hf : f < 32) (h1 : 1 ≤ l) (h : isL nd mk c x f l) : ∃ a, a < c ∧ mker (mayP nd mk c x f l) u c = some a ∧ MK nd mk c x u f a ∧ sub (nd a) (lv c nd mk 0 x (l - 1)) := by
  obtain ⟨k, rfl⟩ : ∃ k, l = k + 1 := ⟨l - 1, by omega⟩
  rcases (nx_bit hf).mp h.1 with q | ⟨a, ha, hs, hm⟩
  · have := h.2 k (by omega)
    rw [q] at this; cases this
  · rcases mker_p (P := mayP nd mk c x f (k + 1)) (u := u) (c := c) with ⟨_, q⟩ | ⟨b, q1, q2, q3⟩
    · have := q a ha
      unfold mayP at this
      rw [hm, show k + 1 - 1 = k from rfl, decide_eq_true hs] at this
      cases this
    · refine ⟨b, q2, q1, ⟨k + 1, h1, h, q1⟩, ?_⟩
      unfold mayP at q3
      rw [Bool.and_eq_true] at q3
      exact of_decide_eq_true q3.2
theorem RI.start {L : Nat} (hg : s30 goal) (hl : sub goal (lv c nd mk 0 x L)) : RI nd mk c x goal u L (fun _ => False) (goal &&& (x ^^^ (-1))) 0 := by
  have hb : ∀ f, f < 32 → (bt (goal &&& (x ^^^ (-1))) f = true ↔ bt goal f = true ∧ bt x f = false) := by
    intro f hf
    rw [b_and, b_not x hf, Bool.and_eq_true]
    simp
  have h32 : ∀ f, bt (goal &&& (x ^^^ (-1))) f = true → f < 30 := fun f h => s30_bit (s30_and hg) h
  rw [sub_iff] at hl
  refine ⟨s30_and hg, fun f h => ?_, fun f hf h1 h2 => (hb f (by omega)).mpr ⟨h1, h2⟩, fun S hS f h => ?_, fun _ _ _ _ h => h.elim, fun a _ => ⟨fun h => (by rw [b_0] at h; cases h), fun ⟨_, _, h, _⟩ => h.elim⟩⟩
  · have h3 := h32 f h
    have := (hb f (by omega)).mp h
    exact ⟨hl f (by omega) this.1, this.2⟩
  · have h3 := h32 f h
    have := (hb f (by omega)).mp h
    exact hS.1 f h3 this.1 this.2
theorem RI.step {L f a l : Nat} {D D' : Nat → Prop} {w ch : Int32} (h : RI nd mk c x goal u L D w ch) (hnd : ∀ a, a < c → s30 (nd a)) (hc : c ≤ 24) (hw : bt w f = true) (hM : MK nd mk c x u f a) (ha : a < c) (hl : l ≤ L) (hs : sub (nd a) (lv c nd mk 0 x l)) (hD : ∀ g, bt w g = true → (D' g ↔ D g ∨ g = f)) (hnew : ∀ g, bt (nd a) g = true → bt x g = false → bt w g = true ∨ ¬ D' g) :
    RI nd mk c x goal u L D' (w ||| (nd a &&& (x ^^^ (-1)))) (ch ||| pw a) := by
  obtain ⟨h1, h2, h3, h4, h5, h6⟩ := h
  have hb : ∀ g, g < 32 → (bt (w ||| (nd a &&& (x ^^^ (-1)))) g = true ↔ bt w g = true ∨ (bt (nd a) g = true ∧ bt x g = false)) := by
    intro g hg
    rw [b_or, b_and, b_not x hg, Bool.or_eq_true, Bool.and_eq_true]
    simp
  have hs30 : s30 (w ||| (nd a &&& (x ^^^ (-1)))) := s30_or h1 (s30_and (hnd a ha))
  have h32 : ∀ g, bt (w ||| (nd a &&& (x ^^^ (-1)))) g = true → g < 30 := fun g h => s30_bit hs30 h
  rw [sub_iff] at hs
  obtain ⟨d, rfl⟩ : ∃ d, L = l + d := ⟨L - l, by omega⟩
  refine ⟨hs30, fun g hg => ?_, fun g hg q1 q2 => (hb g (by omega)).mpr (Or.inl (h3 g hg q1 q2)), fun S hS g hg => ?_, fun g b k hg hDg hMg hk hxk => ?_, fun b hb32 => ?_⟩
  · have := h32 g hg
    rcases (hb g (by omega)).mp hg with q | ⟨q1, q2⟩
    · exact h2 g q
    · exact ⟨up_some l d g (hs g (by omega) q1), q2⟩
  · have := h32 g hg
    rcases (hb g (by omega)).mp hg with q | ⟨q1, q2⟩
    · exact h4 S hS g q
    · exact hS.2 f a g (h4 S hS f hw) hM q1 q2
  · have hg30 := h32 g hg
    have hw' : bt w g = true := by
      rcases (hb g (by omega)).mp hg with q | ⟨q1, q2⟩
      · exact q
      · rcases hnew g q1 q2 with q | q
        · exact q
        · exact absurd hDg q
    have hkk : k < 32 := by
      rcases Nat.lt_or_ge k 32 with q | q
      · exact q
      · rw [b_big q] at hk; cases hk
    rcases (hD g hw').mp hDg with q | q
    · exact (hb k hkk).mpr (Or.inl (h5 g b k hw' q hMg hk hxk))
    · subst q
      have e := MK_uniq hMg hM
      subst e
      exact (hb k hkk).mpr (Or.inr ⟨hk, hxk⟩)
  · rw [b_or, b_pw (by omega) hb32, Bool.or_eq_true, h6 b hb32, decide_eq_true_eq]
    constructor
    · rintro (⟨g, g1, g2, g3⟩ | q)
      · have := s30_bit h1 g1
        exact ⟨g, (hb g (by omega)).mpr (Or.inl g1), (hD g g1).mpr (Or.inl g2), g3⟩
      · subst q
        have := s30_bit h1 hw
        exact ⟨f, (hb f (by omega)).mpr (Or.inl hw), (hD f hw).mpr (Or.inr rfl), hM⟩
    · rintro ⟨g, g1, g2, g3⟩
      have hg30 := h32 g g1
      have hw' : bt w g = true := by
        rcases (hb g (by omega)).mp g1 with q | ⟨q1, q2⟩
        · exact q
        · rcases hnew g q1 q2 with q | q
          · exact q
          · exact absurd g2 q
      rcases (hD g hw').mp g2 with q | q
      · exact Or.inl ⟨g, hw', q, g3⟩
      · subst q
        exact Or.inr (MK_uniq g3 hM)
theorem RI.cong {L : Nat} {D D' : Nat → Prop} {w ch : Int32} (h : RI nd mk c x goal u L D w ch) (hD : ∀ g, bt w g = true → (D' g ↔ D g)) : RI nd mk c x goal u L D' w ch := by
  obtain ⟨h1, h2, h3, h4, h5, h6⟩ := h
  refine ⟨h1, h2, h3, h4, fun f a g hf hDf => h5 f a g hf ((hD f hf).mp hDf), fun a ha => (h6 a ha).trans ⟨fun ⟨f, g1, g2, g3⟩ => ⟨f, g1, (hD f g1).mpr g2, g3⟩, fun ⟨f, g1, g2, g3⟩ => ⟨f, g1, (hD f g1).mp g2, g3⟩⟩⟩
/-- where all that is wanted is done, there is one outcome -/
theorem RI.uniq {L L' : Nat} {D D' : Nat → Prop} {w w' ch ch' : Int32} (h : RI nd mk c x goal u L D w ch) (h' : RI nd mk c x goal u L' D' w' ch') (hD : ∀ f, bt w f = true → D f) (hD' : ∀ f, bt w' f = true → D' f) : w = w' ∧ ch = ch' := by
  have cl : Cl nd mk c x goal u (fun f => bt w f = true) := ⟨h.2.2.1, fun f a g q1 q2 q3 q4 => h.2.2.2.2.1 f a g q1 (hD f q1) q2 q3 q4⟩
  have cl' : Cl nd mk c x goal u (fun f => bt w' f = true) := ⟨h'.2.2.1, fun f a g q1 q2 q3 q4 => h'.2.2.2.2.1 f a g q1 (hD' f q1) q2 q3 q4⟩
  have e : w = w' := by
    refine b_ext fun i _ => ?_
    rw [Bool.eq_iff_iff]
    exact ⟨h.2.2.2.1 _ cl' i, h'.2.2.2.1 _ cl i⟩
  refine ⟨e, ?_⟩
  subst e
  refine b_ext fun i hi => ?_
  rw [Bool.eq_iff_iff, h.2.2.2.2.2 i hi, h'.2.2.2.2.2 i hi]
  exact ⟨fun ⟨f, q1, q2, q3⟩ => ⟨f, q1, hD' f q1, q3⟩, fun ⟨f, q1, q2, q3⟩ => ⟨f, q1, hD f q1, q3⟩⟩
end
