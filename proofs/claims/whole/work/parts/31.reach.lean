/-! what hangs together -/
def q_clo (H E : Nat → Bool) : Prop := ∀ c, c < 24 → H c = true → E (c / 4) = E (6 + c % 4)
def q_rea (H : Nat → Bool) (a e : Nat) : Prop := ∀ E, q_clo H E → E a = true → E e = true
theorem q_rea_r (H : Nat → Bool) (a : Nat) : q_rea H a a := fun _ _ h => h
theorem q_rea_s {H : Nat → Bool} {a e : Nat} (h : q_rea H a e) : q_rea H e a := by
  intro E hE he
  cases q : E a
  · have := h (fun j => !(E j)) (fun c hc hH => by show (!(E (c / 4))) = !(E (6 + c % 4)); rw [hE c hc hH]) (by show (!(E a)) = true; rw [q]; rfl)
    have : (!(E e)) = true := this
    rw [he] at this
    cases this
  · rfl
theorem q_rea_t {H : Nat → Bool} {a b c : Nat} (h : q_rea H a b) (g : q_rea H b c) : q_rea H a c := fun E hE ha => g E hE (h E hE ha)
theorem q_num_mono {p q : Nat → Bool} {n : Nat} (h : ∀ j, j < n → p j = true → q j = true) : q_num p n ≤ q_num q n := by
  induction n with
  | zero => exact Nat.le_refl _
  | succ n ih =>
    have := ih (fun j hj => h j (by omega))
    have hn := h n (by omega)
    rw [q_num, q_num]
    cases hp : p n
    · simp; omega
    · rw [hn hp]; simp; omega
theorem q_num_eq {p q : Nat → Bool} {n : Nat} (h : ∀ j, j < n → p j = true → q j = true) (e : q_num q n ≤ q_num p n) : ∀ j, j < n → p j = q j := by
  induction n with
  | zero => intro j hj; omega
  | succ n ih =>
    have hm := q_num_mono (fun j hj => h j (by omega) : ∀ j, j < n → p j = true → q j = true)
    have hn := h n (by omega)
    rw [q_num, q_num] at e
    intro j hj
    by_cases q1 : j = n
    · subst q1
      cases hp : p j
      · cases hq : q j
        · rfl
        · rw [hp, hq] at e; simp at e; omega
      · exact (hn hp).symm
    · refine ih (fun j hj => h j (by omega)) ?_ j (by omega)
      cases hp : p n
      · rw [hp] at e; simp at e; omega
      · rw [hp, hn hp] at e; simp at e; exact e
theorem q_num_pos {p : Nat → Bool} {n j : Nat} (hj : j < n) (h : p j = true) : 1 ≤ q_num p n := by
  induction n with
  | zero => omega
  | succ n ih =>
    rw [q_num]
    by_cases e : j = n
    · subst e; rw [h]; simp
    · have := ih (by omega); omega
def q_pass (H : Nat → Bool) : Nat → (Nat → Bool) → Nat → Bool
  | 0, E => E
  | n + 1, E => if H n then fun e => if e = n / 4 ∨ e = 6 + n % 4 then q_pass H n E (n / 4) || q_pass H n E (6 + n % 4) else q_pass H n E e else q_pass H n E
theorem q_pass_up {H : Nat → Bool} (E : Nat → Bool) {m n : Nat} (h : m ≤ n) : ∀ e, q_pass H m E e = true → q_pass H n E e = true := by
  induction n with
  | zero => intro e he; rw [show m = 0 by omega] at he; exact he
  | succ n ih =>
    intro e he
    by_cases q : m = n + 1
    · rw [q] at he; exact he
    · have hh := ih (by omega) e he
      rw [q_pass]
      split
      · dsimp only
        split
        · rename_i z
          rcases z with z | z
          · rw [z] at hh; rw [hh]; rfl
          · rw [z] at hh; rw [hh, Bool.or_true]
        · exact hh
      · exact hh
theorem q_pass_in {H E C : Nat → Bool} (hC : q_clo H C) (hE : ∀ e, E e = true → C e = true) : ∀ n, n ≤ 24 → ∀ e, q_pass H n E e = true → C e = true
  | 0, _ => hE
  | n + 1, hn => by
    have ih := q_pass_in hC hE n (by omega)
    intro e he
    rw [q_pass] at he
    split at he
    · rename_i hH
      have hc := hC n (by omega) hH
      dsimp only at he
      split at he
      · rename_i z
        have : C (n / 4) = true := by
          rcases Bool.or_eq_true_iff.mp he with q | q
          · exact ih _ q
          · rw [hc]; exact ih _ q
        rcases z with z | z
        · rw [z]; exact this
        · rw [z, ← hc]; exact this
      · exact ih e he
    · exact ih e he
theorem q_pass_10 (H E : Nat → Bool) : ∀ n, n ≤ 24 → ∀ e, 10 ≤ e → q_pass H n E e = E e
  | 0, _ => fun _ _ => rfl
  | n + 1, hn => by
    intro e he
    rw [q_pass]
    split
    · dsimp only
      rw [if_neg (by omega)]
      exact q_pass_10 H E n (by omega) e he
    · exact q_pass_10 H E n (by omega) e he
theorem q_pass_fix {H E : Nat → Bool} (h : q_pass H 24 E = E) : q_clo H E := by
  intro c hc hH
  have eq : ∀ n, n ≤ 24 → q_pass H n E = E := by
    intro n hn
    funext e
    cases q : q_pass H n E e
    · cases q2 : E e
      · rfl
      · rw [q_pass_up E (Nat.zero_le n) e q2] at q; cases q
    · have := q_pass_up E hn e q
      rw [h] at this
      exact this.symm
  have h1 := eq (c + 1) (by omega)
  rw [q_pass, eq c (by omega), if_pos hH] at h1
  have a := congrFun h1 (c / 4)
  have b := congrFun h1 (6 + c % 4)
  rw [if_pos (Or.inl rfl)] at a
  rw [if_pos (Or.inr rfl)] at b
  exact a.symm.trans b
def q_it (H : Nat → Bool) : Nat → (Nat → Bool) → Nat → Bool
  | 0, E => E
  | n + 1, E => q_it H n (q_pass H 24 E)
theorem q_it_fix {H E : Nat → Bool} (h : q_pass H 24 E = E) : ∀ n, q_it H n E = E
  | 0 => rfl
  | n + 1 => by rw [q_it, h]; exact q_it_fix h n
theorem q_it_clo {H : Nat → Bool} : ∀ (n : Nat) (E : Nat → Bool), 11 ≤ q_num E 10 + n → q_clo H (q_it H n E)
  | 0, E, h => by have := q_num_le E 10; omega
  | n + 1, E, h => by
    by_cases q : q_num (q_pass H 24 E) 10 ≤ q_num E 10
    · have hf : q_pass H 24 E = E := by
        funext e
        by_cases he : e < 10
        · exact (q_num_eq (fun j _ hj => q_pass_up E (Nat.zero_le 24) j hj) q e he).symm
        · exact q_pass_10 H E 24 (Nat.le_refl _) e (by omega)
      rw [q_it_fix hf]
      exact q_pass_fix hf
    · rw [q_it]
      exact q_it_clo n _ (by omega)
theorem q_it_up {H : Nat → Bool} : ∀ (n : Nat) (E : Nat → Bool) (e : Nat), E e = true → q_it H n E e = true
  | 0, _, _, h => h
  | n + 1, E, e, h => q_it_up n _ e (q_pass_up E (Nat.zero_le 24) e h)
theorem q_it_in {H C : Nat → Bool} (hC : q_clo H C) : ∀ (n : Nat) (E : Nat → Bool), (∀ e, E e = true → C e = true) → ∀ e, q_it H n E e = true → C e = true
  | 0, _, h => h
  | n + 1, E, h => q_it_in hC n _ (q_pass_in hC h 24 (Nat.le_refl _))
def q_ti (H : Nat → Bool) (a : Nat) : Nat → Bool := q_it H 10 (fun e => decide (e = a))
theorem q_ti_clo {H : Nat → Bool} {a : Nat} (ha : a < 10) : q_clo H (q_ti H a) :=
  q_it_clo 10 _ (by have := q_num_pos (p := fun e => decide (e = a)) ha (decide_eq_true rfl); omega)
theorem q_ti_iff {H : Nat → Bool} {a : Nat} (ha : a < 10) (e : Nat) : q_ti H a e = true ↔ q_rea H a e := by
  constructor
  · intro h E hE hq
    exact q_it_in hE 10 _ (fun j hj => by rw [of_decide_eq_true hj]; exact hq) e h
  · intro h
    exact h _ (q_ti_clo ha) (q_it_up 10 _ a (decide_eq_true rfl))
/-- the cells without one -/
def q_rm (H : Nat → Bool) (c : Nat) : Nat → Bool := fun j => H j && !(decide (j = c))
def q_ins (H : Nat → Bool) (c : Nat) : Nat → Bool := fun j => H j || decide (j = c)
/-- is hidden cell c found? -/
def q_fd (H : Nat → Bool) (c : Nat) : Bool := !(q_ti (q_rm H c) (c / 4) (6 + c % 4))
theorem q_fd_iff (H : Nat → Bool) {c : Nat} (hc : c < 24) : q_fd H c = true ↔ ¬ q_rea (q_rm H c) (c / 4) (6 + c % 4) := by
  unfold q_fd
  rw [← q_ti_iff (by omega)]
  cases q_ti (q_rm H c) (c / 4) (6 + c % 4) <;> simp
theorem q_clo_cong {H H' E : Nat → Bool} (h : ∀ c, c < 24 → H c = H' c) (g : q_clo H E) : q_clo H' E := fun c hc hH => g c hc (by rw [h c hc]; exact hH)
theorem q_rea_cong {H H' : Nat → Bool} (h : ∀ c, c < 24 → H c = H' c) {a e : Nat} (g : q_rea H a e) : q_rea H' a e := fun E hE ha => g E (q_clo_cong (fun c hc => (h c hc).symm) hE) ha
theorem q_fd_cong {H H' : Nat → Bool} (h : ∀ c, c < 24 → H c = H' c) {c : Nat} (hc : c < 24) : q_fd H c = q_fd H' c := by
  have e : ∀ K K' : Nat → Bool, (∀ c, c < 24 → K c = K' c) → q_fd K c = true → q_fd K' c = true := by
    intro K K' hK
    rw [q_fd_iff K hc, q_fd_iff K' hc]
    intro a b
    exact a (q_rea_cong (fun j hj => by unfold q_rm; rw [hK j hj]) b)
  cases q : q_fd H c
  · cases q2 : q_fd H' c
    · rfl
    · rw [e H' H (fun j hj => (h j hj).symm) q2] at q; cases q
  · exact (e H H' h q).symm
/-- does hiding x help the found cell f? -/
theorem q_helps {H : Nat → Bool} {f x : Nat} (hf : f < 24) (hx : x < 24) (h0 : q_fd H f = true) (hH : H f = true) (hn : H x = false) {N F : Nat → Bool} (hN : ∀ e, e < 10 → (N e = true ↔ q_rea (q_rm H f) (f / 4) e)) (hF : ∀ e, e < 10 → (F e = true ↔ q_rea (q_rm H f) (6 + f % 4) e)) : (q_fd (q_ins H x) f = false ↔ (N (x / 4) = true ∨ N (6 + x % 4) = true) ∧ (F (x / 4) = true ∨ F (6 + x % 4) = true)) := by
  have hfx : f ≠ x := fun e => by rw [e, hn] at hH; cases hH
  have hno := (q_fd_iff H hf).mp h0
  have dis : ∀ e, e < 10 → N e = true → F e = true → False := fun e he a b => hno (q_rea_t ((hN e he).mp a) (q_rea_s ((hF e he).mp b)))
  have eR : ∀ c, q_rm (q_ins H x) f c = q_ins (q_rm H f) x c := by
    intro c
    unfold q_rm q_ins
    by_cases q : c = x
    · rw [decide_eq_true q, decide_eq_false (show ¬ c = f from fun z => hfx (z.symm.trans q))]; simp
    · rw [decide_eq_false q]; simp
  have fnd : q_fd (q_ins H x) f = false ↔ q_rea (q_ins (q_rm H f) x) (f / 4) (6 + f % 4) := by
    have := q_fd_iff (q_ins H x) hf
    have e2 : q_rea (q_rm (q_ins H x) f) (f / 4) (6 + f % 4) ↔ q_rea (q_ins (q_rm H f) x) (f / 4) (6 + f % 4) := ⟨q_rea_cong (fun c _ => eR c), q_rea_cong (fun c _ => (eR c).symm)⟩
    rw [← e2]
    cases q : q_fd (q_ins H x) f
    · rw [q] at this
      exact ⟨fun _ => Classical.byContradiction (fun z => by have := this.mpr z; cases this), fun _ => rfl⟩
    · exact ⟨fun z => (by cases z), fun z => absurd z (this.mp q)⟩
  rw [fnd]
  have sub : ∀ E, q_clo (q_ins (q_rm H f) x) E → q_clo (q_rm H f) E ∧ E (x / 4) = E (6 + x % 4) := fun E hE =>
    ⟨fun c hc q => hE c hc (by unfold q_ins; rw [q]; rfl), hE x hx (by unfold q_ins; rw [decide_eq_true rfl, Bool.or_true])⟩
  have mk : ∀ E, q_clo (q_rm H f) E → E (x / 4) = E (6 + x % 4) → q_clo (q_ins (q_rm H f) x) E := by
    intro E h1 h2 c hc q
    by_cases z : c = x
    · subst z; exact h2
    · refine h1 c hc ?_
      unfold q_ins at q
      rw [decide_eq_false z, Bool.or_false] at q
      exact q
  constructor
  · intro hr
    refine Classical.byContradiction (fun hc => ?_)
    have tN := q_ti_clo (H := q_rm H f) (a := f / 4) (by omega)
    have tF := q_ti_clo (H := q_rm H f) (a := 6 + f % 4) (by omega)
    have iN : ∀ e, e < 10 → N e = q_ti (q_rm H f) (f / 4) e := fun e he => Bool.eq_iff_iff.mpr ((hN e he).trans (q_ti_iff (by omega) e).symm)
    have iF : ∀ e, e < 10 → F e = q_ti (q_rm H f) (6 + f % 4) e := fun e he => Bool.eq_iff_iff.mpr ((hF e he).trans (q_ti_iff (by omega) e).symm)
    have g1 : q_ti (q_rm H f) (f / 4) (6 + f % 4) = false := by
      cases q : q_ti (q_rm H f) (f / 4) (6 + f % 4)
      · rfl
      · exact absurd ((q_ti_iff (by omega) _).mp q) hno
    have b1 : q_ti (q_rm H f) (6 + f % 4) (f / 4) = false := by
      cases q : q_ti (q_rm H f) (6 + f % 4) (f / 4)
      · rfl
      · exact absurd (q_rea_s ((q_ti_iff (by omega) _).mp q)) hno
    by_cases q : N (x / 4) = N (6 + x % 4)
    · have := hr _ (mk _ tN (by rw [← iN _ (by omega), ← iN _ (by omega)]; exact q)) ((q_ti_iff (by omega) _).mpr (q_rea_r _ _))
      rw [g1] at this
      cases this
    · have a1 : N (x / 4) = true ∨ N (6 + x % 4) = true := by
        cases z : N (x / 4)
        · cases z2 : N (6 + x % 4)
          · rw [z, z2] at q; exact absurd rfl q
          · exact Or.inr rfl
        · exact Or.inl rfl
      have a2 : F (x / 4) = false ∧ F (6 + x % 4) = false := by
        constructor
        · cases z : F (x / 4)
          · rfl
          · exact absurd ⟨a1, Or.inl z⟩ hc
        · cases z : F (6 + x % 4)
          · rfl
          · exact absurd ⟨a1, Or.inr z⟩ hc
      have := hr (fun e => !(q_ti (q_rm H f) (6 + f % 4) e)) (mk _ (fun c hc2 hh => by show (!(q_ti (q_rm H f) (6 + f % 4) (c / 4))) = !(q_ti (q_rm H f) (6 + f % 4) (6 + c % 4)); rw [tF c hc2 hh]) (by
        show (!(q_ti (q_rm H f) (6 + f % 4) (x / 4))) = !(q_ti (q_rm H f) (6 + f % 4) (6 + x % 4))
        rw [← iF _ (by omega), ← iF _ (by omega), a2.1, a2.2])) (by show (!(q_ti (q_rm H f) (6 + f % 4) (f / 4))) = true; rw [b1]; rfl)
      have : (!(q_ti (q_rm H f) (6 + f % 4) (6 + f % 4))) = true := this
      rw [(q_ti_iff (by omega) _).mpr (q_rea_r _ _)] at this
      cases this
  · rintro ⟨a, b⟩ E hE hb
    obtain ⟨s1, s2⟩ := sub E hE
    have inN : ∀ e, e < 10 → N e = true → E e = true := fun e he z => (hN e he).mp z E s1 hb
    have inF : ∀ e, e < 10 → F e = true → E e = true → E (6 + f % 4) = true := fun e he z w => q_rea_s ((hF e he).mp z) E s1 w
    have hxE : E (x / 4) = true ∧ E (6 + x % 4) = true := by
      rcases a with a | a
      · have := inN _ (by omega) a
        exact ⟨this, by rw [← s2]; exact this⟩
      · have := inN _ (by omega) a
        exact ⟨by rw [s2]; exact this, this⟩
    rcases b with b | b
    · exact inF _ (by omega) b hxE.1
    · exact inF _ (by omega) b hxE.2
