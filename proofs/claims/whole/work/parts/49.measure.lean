/-! MEASURE: the class weighs what is reached, the lightest first -/
def SX (c : Nat) (s : SC) (xs : List Int32) : Prop := gi s 6 = nI c ∧ c ≤ 24 ∧ ST s xs ∧ HashP (ga s 11) xs ∧ BR c (ga s 0) (ga s 1) (ga s 2) (gi s 1) xs.length 0 xs ∧ gi s 14 = nI xs.length ∧ ∀ a, a < c → ∃ q, 1 ≤ q ∧ q ≤ 99 ∧ ga s 3 a = nI q
def SamP (σ σ1 : SC) : Prop := (∀ k, k < 17 ∨ 22 < k → gi σ1 k = gi σ k) ∧ (∀ a, a < 12 ∨ 15 < a → ga σ1 a = ga σ a) ∧ ∀ j, gl σ1 j = gl σ j
theorem SamP.rf (σ : SC) : SamP σ σ := ⟨fun _ _ => rfl, fun _ _ => rfl, fun _ => rfl⟩
theorem SamP.tr {a b c : SC} (h : SamP a b) (h2 : SamP b c) : SamP a c := ⟨fun k p => (h2.1 k p).trans (h.1 k p), fun k p => (h2.2.1 k p).trans (h.2.1 k p), fun j => (h2.2.2 j).trans (h.2.2 j)⟩
theorem SamP.i {σ s : SC} {k : Nat} (v : Int32) (h : SamP σ s) (hk : 17 ≤ k) (hk2 : k ≤ 22) : SamP σ (si s k v) := by
  refine ⟨fun q hq => ?_, h.2.1, h.2.2⟩
  rw [gi_si, if_neg (by omega)]; exact h.1 q hq
theorem SamP.a {σ s : SC} {k : Nat} (f : Nat → Int32) (h : SamP σ s) (hk : 12 ≤ k) (hk2 : k ≤ 15) : SamP σ (sa s k f) := by
  refine ⟨h.1, fun q hq => ?_, h.2.2⟩
  rw [ga_sa, if_neg (by omega)]; exact h.2.1 q hq
theorem SX.same {c : Nat} {s s' : SC} {xs : List Int32} (h : SX c s xs) (e : SamP s s') : SX c s' xs := by
  obtain ⟨e1, e2, e3⟩ := e
  have i6 := e1 6 (by omega); have i1 := e1 1 (by omega); have i14 := e1 14 (by omega)
  have a0 := e2 0 (by omega); have a1 := e2 1 (by omega); have a2 := e2 2 (by omega); have a3 := e2 3 (by omega); have a10 := e2 10 (by omega); have a11 := e2 11 (by omega)
  unfold SX ST at *
  rw [i6, i1, i14, a0, a1, a2, a3, a10, a11]
  exact h
abbrev Ex (c : Nat) (s : SC) (xs : List Int32) : Nat → Nat → Nat → Prop := Ed c (ga s 0) (ga s 1) (ga s 2) xs.length (ga s 10)
theorem Ex.same {c : Nat} {s s' : SC} {xs : List Int32} (e : SamP s s') : Ex c s' xs = Ex c s xs := by
  unfold Ex
  rw [e.2.1 0 (by omega), e.2.1 1 (by omega), e.2.1 2 (by omega), e.2.1 10 (by omega)]
theorem Ed_fun {c N : Nat} {nd mk ud st : Nat → Int32} {xs : List Int32} (hN : N = xs.length) (hS : ∀ k, k < xs.length → st k = xs.getD k 0) (hD : ND xs) {k a k1 k2 : Nat} (h1 : Ed c nd mk ud N st k a k1) (h2 : Ed c nd mk ud N st k a k2) : k1 = k2 := by
  obtain ⟨_, _, _, p1, p2⟩ := h1
  obtain ⟨_, _, _, q1, q2⟩ := h2
  rw [hN] at p1 q1
  refine hD k1 k2 p1 q1 ?_
  rw [← hS k1 p1, ← hS k2 q1, p2, q2]
theorem comes_C {n c k a : Nat} {s : SC} {xs : List Int32} (hn : 1000000 ≤ n) (h : SX c s xs) (hk : k < xs.length) (ha : a < c) :
    (¬ sub (ga s 0 a) (ga s 10 k) ∧ f_X4_comesTo n s (nI k) (nI a) = some (-1)) ∨ (∃ k', Ex c s xs k a k' ∧ f_X4_comesTo n s (nI k) (nI a) = some (nI k')) := by
  obtain ⟨_, h24, hS, hH, hB, _, _⟩ := h
  have hl := hB.2.1
  unfold f_X4_comesTo
  rw [ld_n k rfl (by omega) (by omega), allowed_C (by omega), bd_e]
  by_cases w : sub (ga s 0 a) (ga s 10 k)
  · right
    rw [if_pos w, if_neg one_ne, after_C (by omega), bd_e]
    have hin : aft (ga s 2 a) (ga s 1 a) (ga s 10 k) ∈ xs := by
      rw [hS k hk] at w ⊢
      exact hB.2.2.2.2.2 k a (Or.inl hk) ha hk w
    unfold f_X6_find
    obtain ⟨t, ht, e3, hc⟩ := slot_ok hn (aft (ga s 2 a) (ga s 1 a) (ga s 10 k)) hS hl hB.2.2.1 hH
    rw [e3, bd_e, ld_n ((hsh (aft (ga s 2 a) (ga s 1 a) (ga s 10 k)) + t) % 1024) rfl (by omega) (by omega), bd_e]
    rcases hc with ⟨k1, hk1, ek1, z⟩ | ⟨hno, _⟩
    · rw [z, nI_pred]
      exact ⟨k1, ⟨hk, ha, w, hk1, by rw [hS k1 hk1]; exact ek1⟩, rfl⟩
    · exact absurd hin hno
  · left
    rw [if_neg w, if_pos rfl]
    exact ⟨w, rfl⟩
theorem weight_C {c k a v : Nat} {s : SC} {xs : List Int32} (h : SX c s xs) (hk : k < xs.length) (ha : a < c) (hv : ga s 12 k = nI v) : f_X4_weightBy s (nI k) (nI a) = some (nI (v + wt (ga s 3) a)) := by
  obtain ⟨_, h24, hS, hH, hB, _, hc⟩ := h
  have hl := hB.2.1
  obtain ⟨q, q1, q2, q3⟩ := hc a ha
  unfold f_X4_weightBy wt cn
  rw [ld_n k rfl (by omega) (by omega), ld_n a rfl (by omega) (by omega), hv, q3, nI_clamp (by omega), show (1000 : Int32) = nI 1000 from rfl, pk_mul, nI_add, nI_p1, Nat.mul_comm, Nat.add_assoc]
theorem cc_le {c a : Nat} {s : SC} {xs : List Int32} (h : SX c s xs) (ha : a < c) : 1 ≤ cn (ga s 3) a ∧ cn (ga s 3) a ≤ 99 := by
  obtain ⟨q, q1, q2, q3⟩ := h.2.2.2.2.2.2 a ha
  unfold cn
  rw [q3, nI_clamp (by omega)]; exact ⟨q1, q2⟩
def Fnd (F : Nat) (o : Nat → Nat) (k : Nat) : Prop := ∃ q, q < F ∧ o q = k
def DJ (N : Nat) (E : Nat → Nat → Nat → Prop) (w : Nat → Nat) (S i A F : Nat) (o W : Nat → Nat) : Prop :=
  F ≤ N ∧ (∀ q, q < F → o q < N) ∧ (∀ p q, p < F → q < F → o p = o q → p = q) ∧ (Fnd F o 0 ∧ W 0 = 0) ∧
  (∀ p q, p < q → q < F → p < S → W (o p) ≤ W (o q)) ∧
  (∀ p a k', (p < i ∨ (p = i ∧ a < A)) → p < F → E (o p) a k' → Fnd F o k' ∧ W k' ≤ W (o p) + w a) ∧
  (∀ q, q < F → o q = 0 ∨ ∃ p a, p < S ∧ p < F ∧ E (o p) a (o q) ∧ W (o q) = W (o p) + w a) ∧
  (∀ q, q < F → ∃ C L, W (o q) = 1000 * C + L ∧ L ≤ q ∧ L ≤ S ∧ C ≤ 99 * L)
def MS (N : Nat) (s : SC) (F : Nat) (o W : Nat → Nat) : Prop := gi s 17 = nI F ∧ (∀ q, q < F → ga s 13 q = nI (o q)) ∧ ∀ k, k < N → (Fnd F o k → ga s 12 k = nI (W k)) ∧ (¬ Fnd F o k → ga s 12 k = -1)
theorem DJ_lt {N : Nat} {E : Nat → Nat → Nat → Prop} {w : Nat → Nat} {S i A F : Nat} {o W : Nat → Nat} (h : DJ N E w S i A F o W) (hN : N ≤ 300) {k : Nat} (hk : Fnd F o k) : W k < 2 ^ 30 := by
  obtain ⟨q, hq, rfl⟩ := hk
  obtain ⟨C, L, e1, e2, e3, e4⟩ := h.2.2.2.2.2.2.2 q hq
  have := h.1
  omega
def swp (i w q : Nat) : Nat := if q = i then w else if q = w then i else q
theorem swp_c (i w q : Nat) : (q = i ∧ swp i w q = w) ∨ (q ≠ i ∧ q = w ∧ swp i w q = i) ∨ (q ≠ i ∧ q ≠ w ∧ swp i w q = q) := by
  unfold swp
  by_cases h : q = i
  · rw [if_pos h]; exact Or.inl ⟨h, rfl⟩
  · rw [if_neg h]
    by_cases h2 : q = w
    · rw [if_pos h2]; exact Or.inr (Or.inl ⟨h, h2, rfl⟩)
    · rw [if_neg h2]; exact Or.inr (Or.inr ⟨h, h2, rfl⟩)
theorem DJ_swap {N : Nat} {E : Nat → Nat → Nat → Prop} {w : Nat → Nat} {i F m : Nat} {o W : Nat → Nat} (h : DJ N E w i i 0 F o W) (hi : i ≤ m) (hm : m < F) (hb : ∀ q, i ≤ q → q < F → W (o m) ≤ W (o q)) :
    DJ N E w (i + 1) i 0 F (fun q => o (swp i m q)) W ∧ ∀ k, Fnd F (fun q => o (swp i m q)) k ↔ Fnd F o k := by
  obtain ⟨h1, h2, h3, ⟨h4, h5⟩, h6, h7, h8, h9⟩ := h
  have sF : ∀ q, q < F → swp i m q < F := fun q hq => by rcases swp_c i m q with ⟨a, b⟩ | ⟨a, b, d⟩ | ⟨a, b, d⟩ <;> omega
  have sl : ∀ q, q < i → swp i m q = q := fun q hq => by rcases swp_c i m q with ⟨a, b⟩ | ⟨a, b, d⟩ | ⟨a, b, d⟩ <;> omega
  have ss : ∀ q, swp i m (swp i m q) = q := fun q => by
    rcases swp_c i m q with ⟨a, b⟩ | ⟨a, b, d⟩ | ⟨a, b, d⟩ <;> rcases swp_c i m (swp i m q) with ⟨a', b'⟩ | ⟨a', b', d'⟩ | ⟨a', b', d'⟩ <;> omega
  have fd : ∀ k, Fnd F (fun q => o (swp i m q)) k ↔ Fnd F o k := by
    intro k
    constructor
    · rintro ⟨q, hq, e⟩; exact ⟨_, sF q hq, e⟩
    · rintro ⟨q, hq, e⟩
      refine ⟨swp i m q, sF q hq, ?_⟩
      show o (swp i m (swp i m q)) = k
      rw [ss]; exact e
  refine ⟨⟨h1, fun q hq => h2 _ (sF q hq), fun p q hp hq e => ?_, ⟨(fd 0).mpr h4, h5⟩, fun p q hpq hq hp => ?_, fun p a k' hp hpF he => ?_, fun q hq => ?_, fun q hq => ?_⟩, fd⟩
  · have := h3 _ _ (sF p hp) (sF q hq) e
    have e2 := congrArg (swp i m) this
    rw [ss, ss] at e2; exact e2
  · show W (o (swp i m p)) ≤ W (o (swp i m q))
    rcases Nat.lt_or_ge p i with l | l
    · rw [sl p l]
      refine h6 p _ ?_ (sF q hq) l
      rcases swp_c i m q with ⟨a, b⟩ | ⟨a, b, d⟩ | ⟨a, b, d⟩ <;> omega
    · have hp' : p = i := by omega
      have : swp i m p = m := by rcases swp_c i m p with ⟨a, b⟩ | ⟨a, b, d⟩ | ⟨a, b, d⟩ <;> omega
      rw [this]
      refine hb _ ?_ (sF q hq)
      rcases swp_c i m q with ⟨a, b⟩ | ⟨a, b, d⟩ | ⟨a, b, d⟩ <;> omega
  · have l : p < i := by omega
    have he : E (o (swp i m p)) a k' := he
    show Fnd F (fun q => o (swp i m q)) k' ∧ W k' ≤ W (o (swp i m p)) + w a
    rw [sl p l] at he ⊢
    obtain ⟨z1, z2⟩ := h7 p a k' (Or.inl l) hpF he
    exact ⟨(fd k').mpr z1, z2⟩
  · rcases h8 _ (sF q hq) with z | ⟨p, a, z1, z2, z3, z4⟩
    · exact Or.inl z
    · refine Or.inr ⟨p, a, by omega, z2, ?_⟩
      show E (o (swp i m p)) a (o (swp i m q)) ∧ W (o (swp i m q)) = W (o (swp i m p)) + w a
      rw [sl p z1]; exact ⟨z3, z4⟩
  · obtain ⟨C, L, z1, z2, z3, z4⟩ := h9 _ (sF q hq)
    refine ⟨C, L, z1, ?_, by omega, z4⟩
    rcases swp_c i m q with ⟨a, b⟩ | ⟨a, b, d⟩ | ⟨a, b, d⟩ <;> omega
/-- one more action looked at, nothing to change -/
theorem DJ_keep {N : Nat} {E : Nat → Nat → Nat → Prop} {w : Nat → Nat} {i A F : Nat} {o W : Nat → Nat} (h : DJ N E w (i + 1) i A F o W) (hk : ∀ k', E (o i) A k' → Fnd F o k' ∧ W k' ≤ W (o i) + w A) : DJ N E w (i + 1) i (A + 1) F o W := by
  obtain ⟨h1, h2, h3, h4, h6, h7, h8, h9⟩ := h
  refine ⟨h1, h2, h3, h4, h6, fun p a k' hp hpF he => ?_, h8, h9⟩
  by_cases e : p = i ∧ a = A
  · obtain ⟨rfl, rfl⟩ := e; exact hk k' he
  · exact h7 p a k' (by omega) hpF he
/-- a lighter way to one that was found -/
theorem DJ_set {N : Nat} {E : Nat → Nat → Nat → Prop} {w cc : Nat → Nat} {i A F k' : Nat} {o W : Nat → Nat} (h : DJ N E w (i + 1) i A F o W) (hw : ∀ a, w a = 1000 * cc a + 1) (hc : cc A ≤ 99) (hi : i < F) (he : E (o i) A k') (hfun : ∀ k2, E (o i) A k2 → k2 = k') (hk : Fnd F o k') (hl : W (o i) + w A < W k') :
    DJ N E w (i + 1) i (A + 1) F o (fun k => if k = k' then W (o i) + w A else W k) := by
  obtain ⟨h1, h2, h3, ⟨h4, h5⟩, h6, h7, h8, h9⟩ := h
  obtain ⟨q', hq', eq'⟩ := hk
  have hq'i : i < q' := by
    rcases Nat.lt_or_ge i q' with l | l
    · exact l
    · rcases Nat.lt_or_ge q' i with l2 | l2
      · have := h6 q' i l2 hi (by omega); rw [eq'] at this; omega
      · rw [show i = q' by omega, eq'] at hl; omega
  have ne : ∀ p, p < i + 1 → p < F → o p ≠ k' := fun p hp hpF e => by
    have := h3 p q' hpF hq' (e.trans eq'.symm); omega
  have sm : ∀ p, p < i + 1 → p < F → (if o p = k' then W (o i) + w A else W (o p)) = W (o p) := fun p hp hpF => if_neg (ne p hp hpF)
  have k0 : ¬ (0 : Nat) = k' := fun e => by rw [← e, h5] at hl; omega
  refine ⟨h1, h2, h3, ⟨h4, by show (if 0 = k' then _ else W 0) = 0; rw [if_neg k0]; exact h5⟩, fun p q hpq hq hp => ?_, fun p a k2 hp hpF he2 => ?_, fun q hq => ?_, fun q hq => ?_⟩
  · show (if o p = k' then _ else W (o p)) ≤ (if o q = k' then _ else W (o q))
    rw [sm p hp (by omega)]
    by_cases e : o q = k'
    · rw [if_pos e]
      have : W (o p) ≤ W (o i) := by
        rcases Nat.lt_or_ge p i with l | l
        · exact h6 p i l hi hp
        · rw [show p = i by omega]; exact Nat.le_refl _
      omega
    · rw [if_neg e]; exact h6 p q hpq hq hp
  · show Fnd F o k2 ∧ (if k2 = k' then _ else W k2) ≤ (if o p = k' then _ else W (o p)) + w a
    rw [sm p (by omega) hpF]
    by_cases e : p = i ∧ a = A
    · obtain ⟨rfl, rfl⟩ := e
      have := hfun k2 he2
      subst this
      rw [if_pos rfl]
      exact ⟨⟨q', hq', eq'⟩, Nat.le_refl _⟩
    · obtain ⟨z1, z2⟩ := h7 p a k2 (by omega) hpF he2
      refine ⟨z1, ?_⟩
      by_cases e2 : k2 = k'
      · rw [if_pos e2]; rw [e2] at z2; omega
      · rw [if_neg e2]; exact z2
  · by_cases e : o q = k'
    · refine Or.inr ⟨i, A, by omega, hi, by rw [e]; exact he, ?_⟩
      show (if o q = k' then _ else W (o q)) = (if o i = k' then _ else W (o i)) + w A
      rw [if_pos e, sm i (by omega) hi]
    · rcases h8 q hq with z | ⟨p, a, z1, z2, z3, z4⟩
      · exact Or.inl z
      · refine Or.inr ⟨p, a, z1, z2, z3, ?_⟩
        show (if o q = k' then _ else W (o q)) = (if o p = k' then _ else W (o p)) + w a
        rw [if_neg e, sm p z1 z2]; exact z4
  · show ∃ C L, (if o q = k' then _ else W (o q)) = _ ∧ _
    by_cases e : o q = k'
    · have := h3 q q' hq hq' (e.trans eq'.symm)
      subst this
      rw [if_pos e]
      obtain ⟨C, L, z1, z2, z3, z4⟩ := h9 i hi
      have := hw A
      exact ⟨C + cc A, L + 1, by omega, by omega, by omega, by omega⟩
    · rw [if_neg e]; exact h9 q hq
/-- a new one found -/
theorem DJ_new {N : Nat} {E : Nat → Nat → Nat → Prop} {w cc : Nat → Nat} {i A F k' : Nat} {o W : Nat → Nat} (h : DJ N E w (i + 1) i A F o W) (hw : ∀ a, w a = 1000 * cc a + 1) (hc : cc A ≤ 99) (hi : i < F) (he : E (o i) A k') (hfun : ∀ k2, E (o i) A k2 → k2 = k') (hk : ¬ Fnd F o k') (hkN : k' < N) :
    F < N ∧ DJ N E w (i + 1) i (A + 1) (F + 1) (fun q => if q = F then k' else o q) (fun k => if k = k' then W (o i) + w A else W k) ∧ ∀ k, Fnd (F + 1) (fun q => if q = F then k' else o q) k ↔ (k = k' ∨ Fnd F o k) := by
  obtain ⟨h1, h2, h3, ⟨h4, h5⟩, h6, h7, h8, h9⟩ := h
  have ne : ∀ p, p < F → o p ≠ k' := fun p hp e => hk ⟨p, hp, e⟩
  have inj : ∀ p q, p < F + 1 → q < F + 1 → (if p = F then k' else o p) = (if q = F then k' else o q) → p = q := by
    intro p q hp hq e
    by_cases ep : p = F
    · by_cases eq : q = F
      · omega
      · rw [if_pos ep, if_neg eq] at e; exact absurd e.symm (ne q (by omega))
    · by_cases eq : q = F
      · rw [if_neg ep, if_pos eq] at e; exact absurd e (ne p (by omega))
      · rw [if_neg ep, if_neg eq] at e; exact h3 p q (by omega) (by omega) e
  have rng : ∀ q, q < F + 1 → (if q = F then k' else o q) < N := by
    intro q hq
    by_cases e : q = F
    · rw [if_pos e]; exact hkN
    · rw [if_neg e]; exact h2 q (by omega)
  have hF : F < N := by have := pig N (F + 1) (fun q => if q = F then k' else o q) rng inj; omega
  have fd : ∀ k, Fnd (F + 1) (fun q => if q = F then k' else o q) k ↔ (k = k' ∨ Fnd F o k) := by
    intro k
    constructor
    · rintro ⟨q, hq, e⟩
      have e : (if q = F then k' else o q) = k := e
      by_cases e2 : q = F
      · rw [if_pos e2] at e; exact Or.inl e.symm
      · rw [if_neg e2] at e; exact Or.inr ⟨q, by omega, e⟩
    · rintro (e | ⟨q, hq, e⟩)
      · exact ⟨F, by omega, by show (if F = F then k' else _) = _; rw [if_pos rfl, e]⟩
      · exact ⟨q, by omega, by show (if q = F then k' else _) = _; rw [if_neg (by omega)]; exact e⟩
  have so : ∀ q, q < F → (if q = F then k' else o q) = o q := fun q hq => if_neg (by omega)
  have sW : ∀ q, q < F → (if o q = k' then W (o i) + w A else W (o q)) = W (o q) := fun q hq => if_neg (ne q hq)
  refine ⟨hF, ⟨hF, rng, inj, ⟨(fd 0).mpr (Or.inr h4), ?_⟩, fun p q hpq hq hp => ?_, fun p a k2 hp hpF he2 => ?_, fun q hq => ?_, fun q hq => ?_⟩, fd⟩
  · show (if 0 = k' then _ else W 0) = 0
    rw [if_neg (fun e : (0 : Nat) = k' => hk (by rw [← e]; exact h4))]; exact h5
  · show (if (if p = F then k' else o p) = k' then W (o i) + w A else W (if p = F then k' else o p)) ≤ (if (if q = F then k' else o q) = k' then W (o i) + w A else W (if q = F then k' else o q))
    rw [so p (by omega), sW p (by omega)]
    by_cases e : q = F
    · rw [if_pos e, if_pos rfl]
      have : W (o p) ≤ W (o i) := by
        rcases Nat.lt_or_ge p i with l | l
        · exact h6 p i l hi hp
        · rw [show p = i by omega]; exact Nat.le_refl _
      omega
    · rw [so q (by omega), sW q (by omega)]; exact h6 p q hpq (by omega) hp
  · have hpF' : p < F := by omega
    have he2 : E (if p = F then k' else o p) a k2 := he2
    show Fnd (F + 1) (fun q => if q = F then k' else o q) k2 ∧ (if k2 = k' then W (o i) + w A else W k2) ≤ (if (if p = F then k' else o p) = k' then W (o i) + w A else W (if p = F then k' else o p)) + w a
    rw [so p hpF'] at he2
    rw [so p hpF', sW p hpF']
    by_cases e : p = i ∧ a = A
    · obtain ⟨rfl, rfl⟩ := e
      have := hfun k2 he2
      subst this
      rw [if_pos rfl]
      exact ⟨(fd k2).mpr (Or.inl rfl), Nat.le_refl _⟩
    · obtain ⟨z1, z2⟩ := h7 p a k2 (by omega) hpF' he2
      have : k2 ≠ k' := fun e2 => hk (e2 ▸ z1)
      rw [if_neg this]
      exact ⟨(fd k2).mpr (Or.inr z1), z2⟩
  · show (if q = F then k' else o q) = 0 ∨ ∃ p a, p < i + 1 ∧ p < F + 1 ∧ E (if p = F then k' else o p) a (if q = F then k' else o q) ∧ (if (if q = F then k' else o q) = k' then W (o i) + w A else W (if q = F then k' else o q)) = (if (if p = F then k' else o p) = k' then W (o i) + w A else W (if p = F then k' else o p)) + w a
    by_cases e : q = F
    · rw [if_pos e, if_pos rfl]
      refine Or.inr ⟨i, A, by omega, by omega, ?_⟩
      rw [so i hi, sW i hi]; exact ⟨he, rfl⟩
    · rw [so q (by omega), sW q (by omega)]
      rcases h8 q (by omega) with z | ⟨p, a, z1, z2, z3, z4⟩
      · exact Or.inl z
      · refine Or.inr ⟨p, a, z1, by omega, ?_⟩
        rw [so p z2, sW p z2]; exact ⟨z3, z4⟩
  · show ∃ C L, (if (if q = F then k' else o q) = k' then W (o i) + w A else W (if q = F then k' else o q)) = _ ∧ _
    by_cases e : q = F
    · rw [if_pos e, if_pos rfl]
      obtain ⟨C, L, z1, z2, z3, z4⟩ := h9 i hi
      have := hw A
      exact ⟨C + cc A, L + 1, by omega, by omega, by omega, by omega⟩
    · rw [so q (by omega), sW q (by omega)]; exact h9 q (by omega)
