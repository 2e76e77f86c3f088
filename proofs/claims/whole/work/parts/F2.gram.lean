/-! WHAT IS READ: queries from tokens -/
abbrev PS : Type := Nat × Nat
abbrev PR (α : Type) : Type := Nat ⊕ (α × PS)
def kT (bs : List Nat) (s : PS) : Nat := kdT bs s.2 (stT bs s.1)
def aT (bs : List Nat) (s : PS) : Nat := stT bs s.1
def vT (bs : List Nat) (s : PS) : Nat := vaT bs (stT bs s.1)
def nT (bs : List Nat) (s : PS) : PS := (nxT bs (stT bs s.1), if kT bs s = 2 then s.2 + 1 else s.2)
def rowP (bs : List Nat) : Nat → PS → List Nat → PR L3
  | 0, s, ws => if ws = [] ∨ kT bs s ≠ 93 then .inl (aT bs s) else .inr ((3, ws, 0), nT bs s)
  | f + 1, s, ws => if kT bs s = 2 then rowP bs f (nT bs s) (ws ++ [vT bs s]) else if ws = [] ∨ kT bs s ≠ 93 then .inl (aT bs s) else .inr ((3, ws, 0), nT bs s)
def wrdP (bs : List Nat) (s : PS) : PR L3 :=
  if kT bs (nT bs s) = 42 then .inr ((1, [vT bs s], 0), nT bs (nT bs s))
  else if kT bs (nT bs s) = 126 then
    (if kT bs (nT bs (nT bs s)) = 3 then
      (if kT bs (nT bs (nT bs (nT bs s))) = 2 then .inr ((2, [vT bs s, vT bs (nT bs (nT bs (nT bs s)))], vT bs (nT bs (nT bs s))), nT bs (nT bs (nT bs (nT bs s))))
      else .inl (aT bs (nT bs (nT bs (nT bs s)))))
    else .inl (aT bs (nT bs (nT bs s))))
  else .inr ((0, [vT bs s], 0), nT bs s)
def simP (bs : List Nat) (s : PS) : PR L3 := if kT bs s = 2 then wrdP bs s else if kT bs s = 91 then rowP bs 20 (nT bs s) [] else .inl (aT bs s)
def jnP {α : Type} (bs : List Nat) (sg : Nat) (p : PS → PR α) : Nat → PS → PR (List α)
  | 0, s => match p s with
    | .inl e => .inl e
    | .inr (x, s') => .inr ([x], s')
  | f + 1, s => match p s with
    | .inl e => .inl e
    | .inr (x, s') => if kT bs s' = sg then (match jnP bs sg p f (nT bs s') with
      | .inl e => .inl e
      | .inr (xs, s'') => .inr (x :: xs, s'')) else .inr ([x], s')
/-- one level more -/
def lft : (n : Nat) → QT n → QT (n + 1)
  | 0, l => .inl l
  | n + 1, q => match (q : L3 ⊕ (Nat × List (QT n))) with
    | .inl l => .inl l
    | .inr p => .inr (p.1, p.2.map (lft n))
def mkJ (kd n : Nat) (xs : List (QT n)) : QT (n + 1) := match xs with
  | [x] => lft n x
  | xs => .inr (kd, xs)
def lv : Nat → Nat
  | 0 => 0
  | k + 1 => lv k + 2
def mapR {α β : Type} (f : α → β) : PR α → PR β
  | .inl e => .inl e
  | .inr (x, s) => .inr (f x, s)
def bthP (bs : List Nat) {n : Nat} (p : PS → PR (QT n)) (s : PS) : PR (QT (n + 1)) := mapR (mkJ 5 n) (jnP bs 38 p 20 s)
def qryP (bs : List Nat) {n : Nat} (p : PS → PR (QT n)) (s : PS) : PR (QT (n + 2)) := mapR (mkJ 6 (n + 1)) (jnP bs 124 (bthP bs p) 20 s)
def clsP {α : Type} (bs : List Nat) : PR α → PR α
  | .inl e => .inl e
  | .inr (x, s) => if kT bs s = 41 then .inr (x, nT bs s) else .inl (aT bs s)
def plnP (bs : List Nat) : (k : Nat) → PS → PR (QT (lv k))
  | 0, s => simP bs s
  | k + 1, s => if kT bs s = 33 then mapR (fun x => lft (lv k + 1) (.inr (4, [x]))) (plnP bs k (nT bs s)) else if kT bs s = 40 then clsP bs (qryP bs (plnP bs k) (nT bs s)) else mapR (fun l => (.inl l : L3 ⊕ (Nat × List (QT (lv k + 1))))) (simP bs s)
def lftN : (m n : Nat) → QT n → QT (n + m)
  | 0, _, q => q
  | m + 1, n, q => lft (n + m) (lftN m n q)
/-- the whole tape -/
def prsP (bs : List Nat) : Nat ⊕ QT 27 := match qryP bs (plnP bs 8) (0, 0) with
  | .inl e => .inl e
  | .inr (q, s) => if kT bs s = 0 then .inr (lftN 9 18 q) else .inl (aT bs s)
theorem lft_sz : ∀ (n : Nat) (q : QT n), sz (n + 1) (lft n q) = sz n q
  | 0, _ => rfl
  | _ + 1, .inl _ => rfl
  | n + 1, .inr p => by
    show ((p.2.map (lft n)).map (sz (n + 1))).sum + 1 = (p.2.map (sz n)).sum + 1
    rw [List.map_map]
    congr 2
    exact List.map_congr_left (fun c _ => lft_sz n c)
theorem lft_wsm : ∀ (n : Nat) (q : QT n), wsm (n + 1) (lft n q) = wsm n q
  | 0, _ => rfl
  | _ + 1, .inl _ => rfl
  | n + 1, .inr p => by
    show ((p.2.map (lft n)).map (wsm (n + 1))).sum = (p.2.map (wsm n)).sum
    rw [List.map_map]
    congr 1
    exact List.map_congr_left (fun c _ => lft_wsm n c)
theorem lft_wf : ∀ (n : Nat) (q : QT n), wfq n q → wfq (n + 1) (lft n q)
  | 0, _, w => w
  | _ + 1, .inl _, w => w
  | n + 1, .inr p, w => by
    obtain ⟨w1, w2, w3⟩ := w
    refine ⟨?_, ?_, fun c hc => ?_⟩
    · show (p.1 = 4 ∧ (p.2.map (lft n)).length = 1 ∨ (p.1 = 5 ∨ p.1 = 6) ∧ 2 ≤ (p.2.map (lft n)).length)
      rw [List.length_map]
      exact w1
    · show (p.2.map (lft n)).length ≤ 20
      rw [List.length_map]
      exact w2
    · obtain ⟨d, hd, rfl⟩ := List.mem_map.mp (show c ∈ p.2.map (lft n) from hc)
      exact lft_wf n d (w3 d hd)
theorem lft_QC {h : PH} {D : Nat → Prop} : ∀ (n : Nat) (q : QT n) (a : Nat), QC h D n q a → QC h D (n + 1) (lft n q) a
  | 0, _, _, L => L
  | _ + 1, .inl _, _, L => L
  | n + 1, .inr p, a, L => by
    obtain ⟨da, l, e, dl, de, h1, h2, h3, h4, h5, h6, h7, h8, h9⟩ := L
    refine ⟨da, l, e, dl, de, h1, h2, h3, h4, ?_, h6, h7, ?_, fun i hi => ?_⟩
    · show hI h 14 l 2 = nI (p.2.map (lft n)).length
      rw [List.length_map]; exact h5
    · show (p.2.map (lft n)).length ≤ hN h e
      rw [List.length_map]; exact h8
    · have hi : i < (p.2.map (lft n)).length := hi
      have hi2 : i < p.2.length := by rw [List.length_map] at hi; exact hi
      obtain ⟨a', q1, q2⟩ := h9 i hi2
      refine ⟨a', q1, ?_⟩
      show QC h D (n + 1) (p.2.map (lft n))[i] a'
      rw [List.getElem_map]
      exact lft_QC n _ _ q2
theorem atL_map {α β : Type} {S : α → Nat} {S' : β → Nat} {R : α → Nat → Prop} {R' : β → Nat → Prop} {f : α → β} : ∀ {cs : List α} {lo : Nat}, (∀ c ∈ cs, S' (f c) = S c) → (∀ c ∈ cs, ∀ l, R c l → R' (f c) l) → atL S R cs lo → atL S' R' (cs.map f) lo
  | [], _, _, _, _ => trivial
  | c :: cs, lo, hs, hr, a => ⟨hr c List.mem_cons_self lo a.1, by
    rw [hs c List.mem_cons_self]
    exact atL_map (fun d hd => hs d (List.mem_cons_of_mem _ hd)) (fun d hd => hr d (List.mem_cons_of_mem _ hd)) a.2⟩
theorem lnk_map {α β : Type} {S : α → Nat} {S' : β → Nat} {nx : Nat → Int32} {f : α → β} : ∀ {cs : List α} {lo : Nat} {fr : Int32}, (∀ c ∈ cs, S' (f c) = S c) → lnk S nx cs lo fr → lnk S' nx (cs.map f) lo fr
  | [], _, _, _, h => h
  | c :: cs, lo, fr, hs, h => by
    have e := hs c List.mem_cons_self
    refine ⟨by rw [e]; exact h.1, ?_⟩
    rw [e]
    exact lnk_map (fun d hd => hs d (List.mem_cons_of_mem _ hd)) h.2
theorem lft_QM {h : PH} {q : Nat} : ∀ (n : Nat) (t : QT n) (lo : Nat), QM h q n t lo → QM h q (n + 1) (lft n t) lo
  | 0, _, _, L => L
  | _ + 1, .inl _, _, L => L
  | n + 1, .inr p, lo, L => by
    obtain ⟨h1, h2, h3⟩ := L
    have es : ((p.2.map (lft n)).map (sz (n + 1))).sum = (p.2.map (sz n)).sum := by
      rw [List.map_map]
      congr 1
      exact List.map_congr_left (fun c _ => lft_sz n c)
    refine ⟨atL_map (fun c _ => lft_sz n c) (fun c _ l r => lft_QM n c l r) h1, ?_, ?_⟩
    · show hI h 20 60 (400 * q + (lo + ((p.2.map (lft n)).map (sz (n + 1))).sum)) = nI p.1
      rw [es]; exact h2
    · show lnk (sz (n + 1)) (fun i => hI h 20 65 (400 * q + i)) (p.2.map (lft n)) lo (hI h 20 64 (400 * q + (lo + ((p.2.map (lft n)).map (sz (n + 1))).sum)))
      rw [es]
      exact lnk_map (fun c _ => lft_sz n c) h3
