/-! ===== orders: sets as masks, the first cheapest order ===== -/
def k_bb (L : Nat → Nat) (S : Nat) : Nat → Option Nat
  | 0 => none
  | k + 1 => if S.testBit k then k_bb L S k else match k_bb L S k with
    | none => some k
    | some c => if L (S ||| 2 ^ k) < L (S ||| 2 ^ c) then some k else some c
def k_bst (N : Nat) (e : Nat → Nat) : Nat → Nat → Nat × List Nat
  | 0, _ => (0, [])
  | n + 1, S => match k_bb (fun T => (k_bst N e n T).1) S N with
    | none => (e S, [])
    | some i => (e S + (k_bst N e n (S ||| 2 ^ i)).1, i :: (k_bst N e n (S ||| 2 ^ i)).2)
def k_lxk (g : Nat → List (List Nat)) (S : Nat) : Nat → List (List Nat)
  | 0 => []
  | k + 1 => k_lxk g S k ++ (if S.testBit k then [] else (g (S ||| 2 ^ k)).map (fun p => k :: p))
def k_lx (N : Nat) : Nat → Nat → List (List Nat)
  | 0, _ => [[]]
  | n + 1, S => k_lxk (k_lx N n) S N
def k_c (e : Nat → Nat) : Nat → List Nat → Nat
  | _, [] => 0
  | S, k :: p => e S + k_c e (S ||| 2 ^ k) p
abbrev k_A : Type := Option (Nat × List Nat)
def k_mg : k_A → k_A → k_A
  | none, b => b
  | some a, none => some a
  | some a, some b => if b.1 < a.1 then some b else some a
def k_fd (c : List Nat → Nat) : k_A → List (List Nat) → k_A
  | a, [] => a
  | a, l :: r => k_fd c (k_mg a (some (c l, l))) r
theorem k_mg_n (a : k_A) : k_mg a none = a := by cases a <;> rfl
theorem k_mg_as (a b c : k_A) : k_mg (k_mg a b) c = k_mg a (k_mg b c) := by
  cases a with
  | none => rfl
  | some a =>
    cases b with
    | none => rfl
    | some b =>
      cases c with
      | none => rw [k_mg_n, k_mg_n]
      | some c =>
        simp only [k_mg]
        by_cases h1 : b.1 < a.1
        · rw [if_pos h1]
          by_cases h2 : c.1 < b.1
          · rw [if_pos h2]
            simp only [k_mg]
            rw [if_pos h2, if_pos (by omega)]
          · rw [if_neg h2]
            simp only [k_mg]
            rw [if_neg h2, if_pos h1]
        · rw [if_neg h1]
          by_cases h2 : c.1 < b.1
          · rw [if_pos h2]
          · rw [if_neg h2]
            simp only [k_mg]
            rw [if_neg h1, if_neg (by omega)]
theorem k_fd_mg (c : List Nat → Nat) : ∀ (l : List (List Nat)) (a : k_A), k_fd c a l = k_mg a (k_fd c none l)
  | [], a => (k_mg_n a).symm
  | x :: l, a => by
    rw [k_fd, k_fd_mg c l, k_mg_as, k_fd, k_fd_mg c l (k_mg none _)]
    rfl
theorem k_fd_app (c : List Nat → Nat) : ∀ (l m : List (List Nat)) (a : k_A), k_fd c a (l ++ m) = k_fd c (k_fd c a l) m
  | [], _, _ => rfl
  | x :: l, m, a => k_fd_app c l m _
def k_sh (c0 k : Nat) : k_A → k_A
  | none => none
  | some a => some (c0 + a.1, k :: a.2)
theorem k_sh_mg (c0 k : Nat) (a b : k_A) : k_sh c0 k (k_mg a b) = k_mg (k_sh c0 k a) (k_sh c0 k b) := by
  cases a with
  | none => rfl
  | some a =>
    cases b with
    | none => rfl
    | some b =>
      simp only [k_mg, k_sh]
      by_cases h : b.1 < a.1
      · rw [if_pos h, if_pos (by omega)]
      · rw [if_neg h, if_neg (by omega)]
theorem k_fd_map {c c' : List Nat → Nat} {c0 k : Nat} (h : ∀ p, c' (k :: p) = c0 + c p) : ∀ (l : List (List Nat)) (a : k_A), k_fd c' (k_sh c0 k a) (l.map (fun p => k :: p)) = k_sh c0 k (k_fd c a l)
  | [], _ => rfl
  | x :: l, a => by
    rw [List.map_cons, k_fd, k_fd, ← k_fd_map h l, k_sh_mg]
    rw [show k_sh c0 k (some (c x, x)) = some (c' (k :: x), k :: x) by rw [h]; rfl]
/-- so many layers are left: each order ends -/
def k_ok (N : Nat) : Nat → Nat → Bool
  | 0, _ => true
  | n + 1, S => (List.range N).any (fun k => !S.testBit k) && (List.range N).all (fun k => S.testBit k || k_ok N n (S ||| 2 ^ k))
theorem k_bb_some {L : Nat → Nat} {S k : Nat} (h : S.testBit k = false) : ∀ {K : Nat}, k < K → ∃ i, k_bb L S K = some i
  | K + 1, hk => by
    rw [k_bb]
    by_cases c : S.testBit K = true
    · rw [if_pos c]
      have : k ≠ K := fun z => by rw [z, c] at h; exact absurd h (by decide)
      exact k_bb_some h (by omega)
    · rw [if_neg c]
      cases k_bb L S K with
      | none => exact ⟨K, rfl⟩
      | some i =>
        simp only []
        by_cases d : L (S ||| 2 ^ K) < L (S ||| 2 ^ i)
        · rw [if_pos d]; exact ⟨K, rfl⟩
        · rw [if_neg d]; exact ⟨i, rfl⟩
theorem k_bb_free {L : Nat → Nat} {S i : Nat} : ∀ {K : Nat}, k_bb L S K = some i → i < K ∧ S.testBit i = false
  | 0, h => by rw [k_bb] at h; exact absurd h (by simp)
  | K + 1, h => by
    rw [k_bb] at h
    by_cases c : S.testBit K = true
    · rw [if_pos c] at h
      have := k_bb_free h
      exact ⟨by omega, this.2⟩
    · rw [if_neg c] at h
      have hc : S.testBit K = false := by simpa using c
      cases hb : k_bb L S K with
      | none =>
        rw [hb] at h
        injection h with h
        subst h
        exact ⟨by omega, hc⟩
      | some j =>
        rw [hb] at h
        have hj := k_bb_free hb
        by_cases d : L (S ||| 2 ^ K) < L (S ||| 2 ^ j)
        · simp only [if_pos d] at h
          injection h with h
          subst h
          exact ⟨by omega, hc⟩
        · simp only [if_neg d] at h
          injection h with h
          subst h
          exact ⟨by omega, hj.2⟩
theorem k_main (N : Nat) (e : Nat → Nat) : ∀ n S, k_ok N n S = true → k_fd (k_c e S) none (k_lx N n S) = some (k_bst N e n S)
  | 0, S, _ => rfl
  | n + 1, S, h => by
    rw [k_ok, Bool.and_eq_true] at h
    obtain ⟨h1, h2⟩ := h
    rw [List.all_eq_true] at h2
    have ih : ∀ k, k < N → S.testBit k = false → k_fd (k_c e (S ||| 2 ^ k)) none (k_lx N n (S ||| 2 ^ k)) = some (k_bst N e n (S ||| 2 ^ k)) := fun k hk hb => by
      have := h2 k (List.mem_range.mpr hk)
      rw [hb, Bool.false_or] at this
      exact k_main N e n _ this
    have key : ∀ K, K ≤ N → k_fd (k_c e S) none (k_lxk (k_lx N n) S K) = match k_bb (fun T => (k_bst N e n T).1) S K with
        | none => none
        | some i => some (e S + (k_bst N e n (S ||| 2 ^ i)).1, i :: (k_bst N e n (S ||| 2 ^ i)).2) := by
      intro K
      induction K with
      | zero => intro _; rfl
      | succ K ihK =>
        intro hK
        have hI := ihK (by omega)
        rw [k_lxk, k_fd_app, hI, k_bb]
        by_cases c : S.testBit K = true
        · rw [if_pos c, if_pos c]; rfl
        · rw [if_neg c, if_neg c]
          have hc : S.testBit K = false := by simpa using c
          have e1 := k_fd_map (c := k_c e (S ||| 2 ^ K)) (c' := k_c e S) (c0 := e S) (k := K) (fun p => rfl) (k_lx N n (S ||| 2 ^ K)) none
          rw [ih K (by omega) hc] at e1
          rw [k_fd_mg]
          rw [show k_fd (k_c e S) none ((k_lx N n (S ||| 2 ^ K)).map (fun p => K :: p)) = k_sh (e S) K (some (k_bst N e n (S ||| 2 ^ K))) from e1]
          cases hb : k_bb (fun T => (k_bst N e n T).1) S K with
          | none => rfl
          | some i =>
            simp only [k_sh, k_mg]
            by_cases d : (k_bst N e n (S ||| 2 ^ K)).1 < (k_bst N e n (S ||| 2 ^ i)).1
            · rw [if_pos d, if_pos (by omega)]
            · rw [if_neg d, if_neg (by omega)]
    rw [k_lx, key N (Nat.le_refl _)]
    rw [List.any_eq_true] at h1
    obtain ⟨k, hk1, hk2⟩ := h1
    obtain ⟨i, hi⟩ := k_bb_some (L := fun T => (k_bst N e n T).1) (S := S) (k := k) (by simpa using hk2) (List.mem_range.mp hk1)
    rw [k_bst, hi]
/-! the next order -/
def k_fi (o : Nat → Nat) : Nat → Option Nat
  | 0 => none
  | k + 1 => if o k ≤ o (k + 1) then some k else k_fi o k
def k_fj (o : Nat → Nat) (v : Nat) : Nat → Nat
  | 0 => 0
  | k + 1 => if v ≤ o (k + 1) then k + 1 else k_fj o v k
def k_sw (o : Nat → Nat) (a b : Nat) : Nat → Nat := fun k => if k = b then o a else if k = a then o b else o k
def k_rv : Nat → Nat → Nat → (Nat → Nat) → Nat → Nat
  | 0, _, _, o => o
  | f + 1, a, b, o => if a < b then k_rv f (a + 1) (b - 1) (k_sw o a b) else o
def k_nx (N : Nat) (o : Nat → Nat) : Option (Nat → Nat) :=
  match k_fi o (N - 1) with
  | none => none
  | some i => some (k_rv 6 (i + 1) (N - 1) (k_sw o i (k_fj o (o i) (N - 1))))
def k_ls (l : List Nat) : Nat → Nat := fun k => l.getD k 0
def k_nl (N : Nat) (l : List Nat) : Option (List Nat) :=
  match k_nx N (k_ls l) with
  | none => none
  | some o => some ((List.range N).map o)
def k_pm (N : Nat) (S : Nat) : List Nat → Bool
  | [] => S == 2 ^ N - 1
  | k :: p => decide (k < N) && !S.testBit k && k_pm N (S ||| 2 ^ k) p
def k_ch (N : Nat) : List (List Nat) → Bool
  | [] => true
  | l :: r => decide (l.length = N) && k_pm N 0 l && (match r with
    | [] => decide (k_nl N l = none)
    | m :: _ => decide (k_nl N l = some m)) && k_ch N r
theorem k_chain : ∀ N : Fin 6, k_ch (N.val + 1) (k_lx (N.val + 1) (N.val + 1) 0) = true ∧ (k_lx (N.val + 1) (N.val + 1) 0).head? = some (List.range (N.val + 1)) ∧ k_ok (N.val + 1) (N.val + 1) 0 = true := by decide +kernel
