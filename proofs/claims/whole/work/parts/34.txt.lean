/-! Texts: bytes of four, digits, the number that a line tells, what is written; all apart from any program. -/
def byk (x : Int32) : Nat → List Nat
  | 0 => []
  | k + 1 => if un x / 2 ^ (8 * k) % 256 = 0 then byk x k else (un x / 2 ^ (8 * k) % 256) :: byk x k
def bys (x : Int32) : List Nat := byk x 4
theorem byk_lt (x : Int32) : ∀ k c, c ∈ byk x k → c < 256
  | 0, _, h => nomatch h
  | k + 1, c, h => by
    unfold byk at h
    split at h
    · exact byk_lt x k c h
    · rcases List.mem_cons.mp h with rfl | h
      · omega
      · exact byk_lt x k c h
theorem byk_len (x : Int32) : ∀ k, (byk x k).length ≤ k
  | 0 => Nat.le_refl _
  | k + 1 => by
    have := byk_len x k
    unfold byk
    split
    · omega
    · rw [List.length_cons]; omega
/-- whether a digit stands there -/
def dgt (L : List Nat) (i : Nat) : Bool := match L[i]? with
  | some c => Nat.ble 48 c && Nat.ble c 57
  | none => false
def EN (L : List Nat) (b e : Nat) : Prop := b ≤ e ∧ (∀ i, b ≤ i → i < e → dgt L i = true) ∧ dgt L e = false
theorem EN.uni {L : List Nat} {b e e' : Nat} (h : EN L b e) (h' : EN L b e') : e = e' := by
  rcases Nat.lt_trichotomy e e' with q | q | q
  · have := h'.2.1 e h.1 q
    rw [h.2.2] at this
    exact absurd this (by decide)
  · exact q
  · have := h.2.1 e' h'.1 q
    rw [h'.2.2] at this
    exact absurd this (by decide)
theorem dgt_iff {L : List Nat} {i : Nat} : dgt L i = true ↔ ∃ c, L[i]? = some c ∧ 48 ≤ c ∧ c ≤ 57 := by
  unfold dgt
  cases L[i]? with
  | none => simp
  | some c => simp [Nat.ble_eq]
theorem dgt_no {L : List Nat} {i : Nat} : dgt L i = false ↔ ∀ c, L[i]? = some c → ¬ (48 ≤ c ∧ c ≤ 57) := by
  rw [← Bool.not_eq_true, dgt_iff]
  constructor
  · intro h c a b
    exact h ⟨c, a, b⟩
  · rintro h ⟨c, a, b⟩
    exact h c a b
theorem dgt_lt {L : List Nat} {i : Nat} (h : dgt L i = true) : i < L.length := by
  obtain ⟨c, h, -⟩ := dgt_iff.mp h
  exact (List.getElem?_eq_some_iff.mp h).1
theorem EN.le {L : List Nat} {b e : Nat} (h : EN L b e) (hb : b ≤ L.length) : e ≤ L.length := by
  rcases Nat.lt_or_ge b e with q | q
  · have := dgt_lt (h.2.1 (e - 1) (by omega) (by omega))
    omega
  · have := h.1
    omega
/-- the number that so many digits tell -/
def dvf (L : List Nat) (b : Nat) : Nat → Nat
  | 0 => 0
  | n + 1 => dvf L b n * 10 + (L.getD (b + n) 0 - 48)
theorem dvf_lt {L : List Nat} {b : Nat} : ∀ n, (∀ i, b ≤ i → i < b + n → dgt L i = true) → dvf L b n < 10 ^ n
  | 0, _ => by show 0 < 10 ^ 0; decide
  | n + 1, h => by
    have ih := dvf_lt (L := L) (b := b) n (fun i a c => h i a (by omega))
    obtain ⟨c, h1, h2, h3⟩ := dgt_iff.mp (h (b + n) (by omega) (by omega))
    have e : L.getD (b + n) 0 = c := by rw [List.getD_eq_getElem?_getD, h1]; rfl
    show dvf L b n * 10 + (L.getD (b + n) 0 - 48) < 10 ^ (n + 1)
    rw [e, Nat.pow_succ]
    omega
def sgz (s : Bool) (n : Nat) : Int := if s then -(n : Int) else (n : Int)
/-- the number that a line tells: nothing, or the upper and the lower one as they stand there -/
def RD (L : List Nat) (res : Option (Int × Int)) : Prop := ∃ (s : Bool) (b e : Nat), (s = true ↔ L[0]? = some 45) ∧ b = (if s then 1 else 0) ∧ EN L b e ∧
  ((e = b ∧ res = none) ∨ (e ≠ b ∧ e = L.length ∧ res = some (sgz s (dvf L b (e - b)), 1)) ∨ (e ≠ b ∧ e ≠ L.length ∧ L[e]? ≠ some 47 ∧ res = none) ∨
    (e ≠ b ∧ e ≠ L.length ∧ L[e]? = some 47 ∧ ∃ e2, EN L (e + 1) e2 ∧ (((e2 = e + 1 ∨ e2 ≠ L.length) ∧ res = none) ∨ (e2 ≠ e + 1 ∧ e2 = L.length ∧ res = some (sgz s (dvf L b (e - b)), ((dvf L (e + 1) (e2 - (e + 1)) : Nat) : Int))))))
theorem RD.uni {L : List Nat} {r r' : Option (Int × Int)} (h : RD L r) (h' : RD L r') : r = r' := by
  obtain ⟨s, b, e, h1, h2, h3, h4⟩ := h
  obtain ⟨s', b', e', h1', h2', h3', h4'⟩ := h'
  have es : s = s' := by
    cases s <;> cases s'
    · rfl
    · exact absurd (h1.mpr (h1'.mp rfl)) (by decide)
    · exact absurd (h1'.mpr (h1.mp rfl)) (by decide)
    · rfl
  subst es
  rw [← h2] at h2'
  subst h2'
  have ee := h3.uni h3'
  subst ee
  rcases h4 with ⟨a, b⟩ | ⟨a, a2, b⟩ | ⟨a, a2, a3, b⟩ | ⟨a, a2, a3, e2, a4, b⟩ <;> rcases h4' with ⟨c, d⟩ | ⟨c, c2, d⟩ | ⟨c, c2, c3, d⟩ | ⟨c, c2, c3, e2', c4, d⟩
  · rw [b, d]
  · exact absurd a c
  · rw [b, d]
  · exact absurd a c
  · exact absurd c a
  · rw [b, d]
  · exact absurd a2 c2
  · exact absurd a2 c2
  · rw [b, d]
  · exact absurd c2 a2
  · rw [b, d]
  · exact absurd c3 a3
  · exact absurd c a
  · exact absurd c2 a2
  · exact absurd a3 c3
  · have := a4.uni c4
    subst this
    rcases b with ⟨x, b⟩ | ⟨x, x2, b⟩ <;> rcases d with ⟨y, d⟩ | ⟨y, y2, d⟩
    · rw [b, d]
    · rcases x with x | x
      · exact absurd x y
      · exact absurd y2 x
    · rcases y with y | y
      · exact absurd y x
      · exact absurd x2 y
    · rw [b, d]
/-! ## Digits of a number -/
def txk (m : Nat) : Nat → List Nat
  | 0 => []
  | n + 1 => (48 + m / 10 ^ n % 10) :: txk m n
def ndg (m : Nat) : Nat := fa_first (fun n => decide (m < 10 ^ n)) 200
theorem ndg_eq {m n : Nat} (h1 : 10 ^ n ≤ m) (h2 : m < 10 ^ (n + 1)) (hn : n < 198) : ndg m = n + 1 := by
  have hno := fa_first_no (fun n => decide (m < 10 ^ n)) 200 (n + 1)
  have hyes := fa_first_yes (fun n => decide (m < 10 ^ n)) 200
  have e : fa_first (fun n => decide (m < 10 ^ n)) 200 = ndg m := rfl
  rw [e] at hno hyes
  have a1 : ndg m ≤ n + 1 := by
    refine Nat.le_of_not_lt (fun q => ?_)
    have := of_decide_eq_false (hno q)
    omega
  have a2 := of_decide_eq_true (hyes (by omega))
  have a3 : n < ndg m := by
    refine Nat.lt_of_not_le (fun q => ?_)
    have := Nat.pow_le_pow_right (n := 10) (by decide) q
    omega
  omega
theorem gc_dec {m : Nat} (h : gc 32 m ≤ 20) : m < 10 ^ 193 := by
  have h1 := (gc_le (b := 32) (by omega) m 20).mp h
  exact Nat.lt_of_lt_of_le h1 (by decide +kernel)
theorem txk_len (m : Nat) : ∀ n, (txk m n).length = n
  | 0 => rfl
  | n + 1 => by
    show (txk m n).length + 1 = n + 1
    rw [txk_len m n]
def wtx (z : Int) : List Nat := (if z < 0 then [45] else []) ++ (if z = 0 then [48] else txk z.natAbs (ndg z.natAbs))
/-! ## What is written -/
/-- the two values of a pair -/
def prO (A : AS) : Vl → Option (Vl × Vl)
  | some (.inr k) => match ao A k with
    | .inr t => if t.1 = 4 then some t.2 else none
    | .inl _ => none
  | _ => none
def atx (A : AS) (v : Vl) : List Nat := match v with
  | none => [40, 41]
  | some (.inl z) => wtx z
  | some (.inr k) => match ao A k with
    | .inl z => wtx z
    | .inr t => if t.1 = 4 then [] else wtx (wz A t.2.1) ++ [47] ++ wtx (wz A t.2.2)
abbrev WS : Type := List Vl × Option Vl × List Nat
def wst (A : AS) : WS → WS
  | (st, some v, L) => match prO A v with
    | some p => (p.2 :: st, some p.1, L ++ [40])
    | none => (st, none, L ++ atx A v)
  | (b :: st, none, L) => match prO A b with
    | some p => (p.2 :: st, some p.1, L ++ [32])
    | none => match b with
      | none => (st, none, L ++ [41])
      | some x => (st, none, L ++ ([32, 46, 32] ++ atx A (some x) ++ [41]))
  | ([], none, L) => ([], none, L)
def wsn (A : AS) (s : WS) : Nat → WS
  | 0 => s
  | m + 1 => wst A (wsn A s m)
def WI (v : Vl) : WS := ([], some v, [])
def WR (A : AS) (v : Vl) (res : Option (List Nat)) : Prop := (∃ m L, wsn A (WI v) m = ([], none, L) ∧ L.length ≤ 400 ∧ res = some L) ∨ (∃ m st x L, wsn A (WI v) m = (st, x, L) ∧ 400 < L.length ∧ res = none)
theorem wst_vp {A : AS} {st : List Vl} {v : Vl} {L : List Nat} {p : Vl × Vl} (h : prO A v = some p) : wst A (st, some v, L) = (p.2 :: st, some p.1, L ++ [40]) := by simp only [wst, h]
theorem wst_va {A : AS} {st : List Vl} {v : Vl} {L : List Nat} (h : prO A v = none) : wst A (st, some v, L) = (st, none, L ++ atx A v) := by simp only [wst, h]
theorem wst_rp {A : AS} {st : List Vl} {b : Vl} {L : List Nat} {p : Vl × Vl} (h : prO A b = some p) : wst A (b :: st, none, L) = (p.2 :: st, some p.1, L ++ [32]) := by simp only [wst, h]
theorem wst_rn {A : AS} {st : List Vl} {L : List Nat} : wst A (none :: st, none, L) = (st, none, L ++ [41]) := rfl
theorem wst_ra {A : AS} {st : List Vl} {x : Int ⊕ Nat} {L : List Nat} (h : prO A (some x) = none) : wst A (some x :: st, none, L) = (st, none, L ++ ([32, 46, 32] ++ atx A (some x) ++ [41])) := by simp only [wst, h]
theorem wst_len (A : AS) (s : WS) : s.2.2.length ≤ (wst A s).2.2.length := by
  match s with
  | (st, some v, L) =>
    cases h : prO A v with
    | none => rw [wst_va h]; simp
    | some p => rw [wst_vp h]; simp
  | (b :: st, none, L) =>
    cases h : prO A b with
    | none =>
      match b, h with
      | none, _ => rw [wst_rn]; simp
      | some x, h => rw [wst_ra h]; simp
    | some p => rw [wst_rp h]; simp
  | ([], none, L) => exact Nat.le_refl _
theorem wsn_len (A : AS) (s : WS) (m : Nat) : ∀ n, (wsn A s m).2.2.length ≤ (wsn A s (m + n)).2.2.length
  | 0 => Nat.le_refl _
  | n + 1 => Nat.le_trans (wsn_len A s m n) (wst_len A _)
theorem wsn_done {A : AS} {s : WS} {m : Nat} {L : List Nat} (h : wsn A s m = ([], none, L)) : ∀ n, wsn A s (m + n) = ([], none, L)
  | 0 => h
  | n + 1 => by
    show wst A (wsn A s (m + n)) = _
    rw [wsn_done h n]
    rfl
theorem WR.uni {A : AS} {v : Vl} {r r' : Option (List Nat)} (h : WR A v r) (h' : WR A v r') : r = r' := by
  have key : ∀ {r r' : Option (List Nat)} {m m' : Nat} {L : List Nat} {s : WS}, wsn A (WI v) m = ([], none, L) → L.length ≤ 400 → wsn A (WI v) m' = s → 400 < s.2.2.length → False := by
    intro r r' m m' L s a b c d
    rcases Nat.le_total m m' with q | q
    · obtain ⟨n, rfl⟩ := Nat.exists_eq_add_of_le q
      rw [wsn_done a n] at c
      rw [← c] at d
      exact absurd d (by show ¬ 400 < L.length; omega)
    · obtain ⟨n, rfl⟩ := Nat.exists_eq_add_of_le q
      have := wsn_len A (WI v) m' n
      rw [a, c] at this
      have : s.2.2.length ≤ L.length := this
      omega
  rcases h with ⟨m, L, a, b, c⟩ | ⟨m, st, x, L, a, b, c⟩ <;> rcases h' with ⟨m', L', a', b', c'⟩ | ⟨m', st', x', L', a', b', c'⟩
  · rw [c, c']
    rcases Nat.le_total m m' with q | q
    · obtain ⟨n, rfl⟩ := Nat.exists_eq_add_of_le q
      rw [wsn_done a n] at a'
      cases a'
      rfl
    · obtain ⟨n, rfl⟩ := Nat.exists_eq_add_of_le q
      rw [wsn_done a' n] at a
      cases a
      rfl
  · exact (key (r := none) (r' := none) a b a' b').elim
  · exact (key (r := none) (r' := none) a' b' a b).elim
  · rw [c, c']
