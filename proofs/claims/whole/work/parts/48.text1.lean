/-! texts: tokens as the class codes them, what they do on a stack -/
def nops (c : Nat) : Nat := if c < 20000 then 0 else if c = 30000 ∨ c = 30033 then 1 else 2
def tok (c : Nat) : Prop := c < 10007 ∨ c = 30000 ∨ c = 30033 ∨ c = 30037 ∨ c = 30038 ∨ c = 30042 ∨ c = 30043 ∨ c = 30045 ∨ c = 30047 ∨ c = 30060 ∨ c = 30061 ∨ c = 30062 ∨ c = 30124
def un (c : Nat) (a : Int32) : Int32 := if c = 30000 then -a else if a = 0 then 1 else 0
def bi (c : Nat) (a b : Int32) : Int32 := if c = 30037 then (if b = 0 then 0 else a - a / b * b) else if c = 30038 then (if a = 0 then 0 else if b = 0 then 0 else 1) else if c = 30042 then a * b else if c = 30043 then a + b else if c = 30045 then a - b else if c = 30047 then (if b = 0 then 0 else a / b) else if c = 30060 then (if b ≤ a then 0 else 1) else if c = 30061 then (if a = b then 1 else 0) else if c = 30062 then (if a ≤ b then 0 else 1) else (if a = 0 then (if b = 0 then 0 else 1) else 1)
/-- the reference's code of a token -/
def mu (c : Nat) : Nat := if c < 10000 then c + 1000 else if c < 20000 then c - 10000 + 100 else if c = 30000 then 12 else if c = 30033 then 11 else if c = 30124 then 1 else if c = 30038 then 2 else if c = 30060 then 3 else if c = 30061 then 4 else if c = 30062 then 5 else if c = 30043 then 6 else if c = 30045 then 7 else if c = 30042 then 8 else if c = 30047 then 9 else 10
/-- one token on a stack, its top ahead -/
def sv (nm : Nat → Int32) (c : Nat) (st : List Int32) : List Int32 := if c < 10000 then nI c :: st else if c < 20000 then nm (c - 10000) :: st else if c = 30000 ∨ c = 30033 then (match st with | [] => [] | a :: r => un c a :: r) else (match st with | [] => [] | [a] => [a] | b :: a :: r => bi c a b :: r)
def run (nm : Nat → Int32) : List Nat → List Int32 → List Int32
  | [], st => st
  | c :: e, st => run nm e (sv nm c st)
def WFd : List Nat → Nat → Nat → Prop
  | [], d, d' => d = d'
  | c :: e, d, d' => tok c ∧ nops c ≤ d ∧ WFd e (d - nops c + 1) d'
def WFx (e : List Nat) : Prop := ∀ d, WFd e d (d + 1)
def val (nm : Nat → Int32) (e : List Nat) : Int32 := (run nm e []).headD 0
/-- the stack lies in a row -/
def stk (f : Nat → Int32) : List Int32 → Prop
  | [] => True
  | a :: r => f r.length = a ∧ stk f r
/-- a code lies in a row from a place on -/
def cdA (f : Nat → Int32) : Nat → List Nat → Prop
  | _, [] => True
  | p, c :: e => f p = nI c ∧ cdA f (p + 1) e
theorem cdA_app {f : Nat → Int32} : ∀ {e e2 : List Nat} {p : Nat}, cdA f p (e ++ e2) ↔ cdA f p e ∧ cdA f (p + e.length) e2
  | [], e2, p => by simp [cdA]
  | c :: e, e2, p => by
    have h := cdA_app (f := f) (e := e) (e2 := e2) (p := p + 1)
    simp only [List.cons_append, cdA, List.length_cons, h, and_assoc]
    rw [show p + 1 + e.length = p + (e.length + 1) by omega]
theorem cdA_congr {f g : Nat → Int32} : ∀ {e : List Nat} {p : Nat}, (∀ i, p ≤ i → i < p + e.length → g i = f i) → cdA f p e → cdA g p e
  | [], _, _, _ => trivial
  | c :: e, p, h, h2 => ⟨by rw [h p (Nat.le_refl _) (by simp)]; exact h2.1, cdA_congr (fun i h3 h4 => h i (by omega) (by simp only [List.length_cons]; omega)) h2.2⟩
theorem stk_ne {f : Nat → Int32} {v : Int32} {i : Nat} : ∀ {st : List Int32}, st.length ≤ i → stk f st → stk (upd f i v) st
  | [], _, _ => trivial
  | a :: r, h, h2 => ⟨by rw [pk_un (by simp only [List.length_cons] at h; omega)]; exact h2.1, stk_ne (by simp only [List.length_cons] at h; omega) h2.2⟩
theorem stk_push {f : Nat → Int32} {v : Int32} {st : List Int32} (h : stk f st) : stk (upd f st.length v) (v :: st) := ⟨pk_us, stk_ne (Nat.le_refl _) h⟩
theorem WFd_app : ∀ {e e2 : List Nat} {d d' d2 : Nat}, WFd e d d' → WFd e2 d' d2 → WFd (e ++ e2) d d2
  | [], e2, d, d', d2, h, h2 => by cases h; exact h2
  | c :: e, e2, d, d', d2, h, h2 => ⟨h.1, h.2.1, WFd_app h.2.2 h2⟩
theorem run_app (nm : Nat → Int32) : ∀ (e e2 : List Nat) (st : List Int32), run nm (e ++ e2) st = run nm e2 (run nm e st)
  | [], _, _ => rfl
  | c :: e, e2, st => run_app nm e e2 (sv nm c st)
theorem sv_shape {nm : Nat → Int32} {c : Nat} (hc : tok c) {st : List Int32} (h : nops c ≤ st.length) : ∃ v r, sv nm c st = v :: r ∧ r = st.drop (nops c) ∧ ∀ b, sv nm c (st ++ b) = v :: (r ++ b) := by
  unfold sv
  by_cases h1 : c < 10000
  · rw [if_pos h1, show nops c = 0 from if_pos (by omega)]
    exact ⟨_, _, rfl, rfl, fun b => by rw [if_pos h1]⟩
  · rw [if_neg h1]
    by_cases h2 : c < 20000
    · rw [if_pos h2, show nops c = 0 from if_pos (by omega)]
      exact ⟨_, _, rfl, rfl, fun b => by rw [if_neg h1, if_pos h2]⟩
    · rw [if_neg h2]
      by_cases h3 : c = 30000 ∨ c = 30033
      · rw [if_pos h3]
        rw [show nops c = 1 from by unfold nops; rw [if_neg h2, if_pos h3]] at h ⊢
        match st, h with
        | a :: r, _ => exact ⟨_, _, rfl, rfl, fun b => by rw [if_neg h1, if_neg h2, if_pos h3]; rfl⟩
      · rw [if_neg h3]
        rw [show nops c = 2 from by unfold nops; rw [if_neg h2, if_neg h3]] at h ⊢
        match st, h with
        | b1 :: a :: r, _ => exact ⟨_, _, rfl, rfl, fun b => by rw [if_neg h1, if_neg h2, if_neg h3]; rfl⟩
theorem run_shape (nm : Nat → Int32) : ∀ (e : List Nat) (st : List Int32) (d' : Nat), WFd e st.length d' → (run nm e st).length = d' ∧ ∀ b, run nm e (st ++ b) = run nm e st ++ b
  | [], st, d', h => ⟨h, fun b => rfl⟩
  | c :: e, st, d', h => by
    obtain ⟨v, r, e1, e2, e3⟩ := sv_shape (nm := nm) h.1 h.2.1
    have hl : (v :: r).length = st.length - nops c + 1 := by rw [e2, List.length_cons, List.length_drop]
    have ih := run_shape nm e (v :: r) d' (by rw [hl]; exact h.2.2)
    show (run nm e (sv nm c st)).length = d' ∧ ∀ b, run nm e (sv nm c (st ++ b)) = run nm e (sv nm c st) ++ b
    rw [e1]
    exact ⟨ih.1, fun b => by rw [e3 b]; exact ih.2 b⟩
theorem run_val (nm : Nat → Int32) {e : List Nat} (h : WFx e) (st : List Int32) : run nm e st = val nm e :: st := by
  have q := run_shape nm e [] 1 (h 0)
  have q2 := q.2 st
  rw [List.nil_append] at q2
  rw [q2]
  unfold val
  generalize run nm e [] = w at q ⊢
  match w, q.1 with
  | [x], _ => rfl
/-! the class's step on a token -/
theorem q_ops1 {c : Nat} (hc : tok c) (S : St) : f_X8_operandsOf (nI c) S = some (nI (nops c), S) := by
  unfold f_X8_operandsOf f_X8_operandsOf_30
  rcases hc with h | h | h | h | h | h | h | h | h | h | h | h | h
  · rw [if_neg (by exact nI_ge (b := 20000) (by omega) (by omega)), show nops c = 0 from if_pos (by omega)]; rfl
  all_goals (subst h; rfl)
theorem q_join1 {c : Nat} (h : c = 30000 ∨ c = 30033) (a b : Int32) (S : St) : f_X8_joined (nI c - 30000) a b S = some (un c a, S) := by
  rcases h with h | h <;> subst h
  · rfl
  · show (if a = 0 then some ((1 : Int32), S) else some (0, S)) = some ((if a = 0 then (1 : Int32) else 0), S)
    split <;> rfl
def bin (c : Nat) : Prop := c = 30037 ∨ c = 30038 ∨ c = 30042 ∨ c = 30043 ∨ c = 30045 ∨ c = 30047 ∨ c = 30060 ∨ c = 30061 ∨ c = 30062 ∨ c = 30124
theorem q_join2 {c : Nat} (h : bin c) (a b : Int32) (S : St) : f_X8_joined (nI c - 30000) a b S = some (bi c a b, S) := by
  rcases h with h | h | h | h | h | h | h | h | h | h <;> subst h
  · show (if b = 0 then some ((0 : Int32), S) else jx_d b (some (a - a / b * b, S))) = some ((if b = 0 then 0 else a - a / b * b), S)
    by_cases q : b = 0
    · rw [if_pos q, if_pos q]
    · rw [if_neg q, if_neg q, zb_d _ q]
  · show (if a = 0 then some ((0 : Int32), S) else (if b = 0 then some ((0 : Int32), S) else some ((1 : Int32), S))) = some ((if a = 0 then (0 : Int32) else if b = 0 then 0 else 1), S)
    split
    · rfl
    · split <;> rfl
  · rfl
  · rfl
  · rfl
  · show (if b = 0 then some ((0 : Int32), S) else jx_d b (some (a / b, S))) = some ((if b = 0 then 0 else a / b), S)
    by_cases q : b = 0
    · rw [if_pos q, if_pos q]
    · rw [if_neg q, if_neg q, zb_d _ q]
  · show (if b ≤ a then some ((0 : Int32), S) else some ((1 : Int32), S)) = some ((if b ≤ a then (0 : Int32) else 1), S)
    split <;> rfl
  · show (if a = b then some ((1 : Int32), S) else some ((0 : Int32), S)) = some ((if a = b then (1 : Int32) else 0), S)
    split <;> rfl
  · show (if a ≤ b then some ((0 : Int32), S) else some ((1 : Int32), S)) = some ((if a ≤ b then (0 : Int32) else 1), S)
    split <;> rfl
  · show (if a = 0 then (if b = 0 then some ((0 : Int32), S) else some ((1 : Int32), S)) else some ((1 : Int32), S)) = some ((if a = 0 then (if b = 0 then (0 : Int32) else 1) else 1), S)
    split
    · split <;> rfl
    · rfl
theorem p_two {c : Nat} (h : bin c) (a b : Int32) (S : St) : f_X12_two (nI (mu c)) a b S = some (bi c a b, S) := by
  rcases h with h | h | h | h | h | h | h | h | h | h <;> subst h
  · show (if b = 0 then some ((0 : Int32), S) else jx_d b (some (a - a / b * b, S))) = some ((if b = 0 then 0 else a - a / b * b), S)
    by_cases q : b = 0
    · rw [if_pos q, if_pos q]
    · rw [if_neg q, if_neg q, zb_d _ q]
  · show (if a = 0 then some ((0 : Int32), S) else (if b = 0 then some ((0 : Int32), S) else some ((1 : Int32), S))) = some ((if a = 0 then (0 : Int32) else if b = 0 then 0 else 1), S)
    split
    · rfl
    · split <;> rfl
  · rfl
  · rfl
  · rfl
  · show (if b = 0 then some ((0 : Int32), S) else jx_d b (some (a / b, S))) = some ((if b = 0 then 0 else a / b), S)
    by_cases q : b = 0
    · rw [if_pos q, if_pos q]
    · rw [if_neg q, if_neg q, zb_d _ q]
  · show (if b ≤ a then some ((0 : Int32), S) else some ((1 : Int32), S)) = some ((if b ≤ a then (0 : Int32) else 1), S)
    split <;> rfl
  · show (if a = b then some ((1 : Int32), S) else some ((0 : Int32), S)) = some ((if a = b then (1 : Int32) else 0), S)
    split <;> rfl
  · show (if a ≤ b then some ((0 : Int32), S) else some ((1 : Int32), S)) = some ((if a ≤ b then (0 : Int32) else 1), S)
    split <;> rfl
  · show (if a = 0 then (if b = 0 then some ((0 : Int32), S) else some ((1 : Int32), S)) else some ((1 : Int32), S)) = some ((if a = 0 then (if b = 0 then (0 : Int32) else 1) else 1), S)
    split
    · split <;> rfl
    · rfl
theorem tok_kind {c : Nat} (hc : tok c) : c < 10000 ∨ (¬ c < 10000 ∧ c < 10007) ∨ (c = 30000 ∨ c = 30033) ∨ bin c := by
  unfold bin
  rcases hc with h | h | h | h | h | h | h | h | h | h | h | h | h <;> omega
