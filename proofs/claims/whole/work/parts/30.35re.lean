set_option maxRecDepth 100000
def zu {α : Type} (F : Nat → Option α) (P : α → Prop) : Prop := ∃ v, (∀ N, 200000 ≤ N → F N = some v) ∧ P v
theorem zu_bind {α β : Type} {F : Nat → Option α} {G : Nat → α → Option β} {P : α → Prop} {Q : β → Prop} (h : zu F P) (hq : ∀ a, P a → zu (fun N => G N a) Q) : zu (fun N => (F N).bind (G N)) Q := by
  obtain ⟨a, h1, h2⟩ := h
  obtain ⟨b, h3, h4⟩ := hq a h2
  exact ⟨b, fun N hN => by show (F N).bind (G N) = some b; rw [h1 N hN]; exact h3 N hN, h4⟩
theorem zu_some {α : Type} (v : α) {P : α → Prop} (h : P v) : zu (fun _ => some v) P := ⟨v, fun _ _ => rfl, h⟩
theorem zu_mono {α : Type} {F : Nat → Option α} {P Q : α → Prop} (h : zu F P) (hq : ∀ a, P a → Q a) : zu F Q := by
  obtain ⟨a, h1, h2⟩ := h
  exact ⟨a, h1, hq a h2⟩
theorem zu_eq {α : Type} {F : Nat → Option α} {P : α → Prop} (v : α) (h1 : ∀ N, 200000 ≤ N → F N = some v) (h : P v) : zu F P := ⟨v, h1, h⟩
theorem zu_rw {α : Type} {F G : Nat → Option α} {P : α → Prop} (h1 : ∀ N, F N = G N) (h : zu G P) : zu F P := by
  obtain ⟨a, h3, h2⟩ := h
  exact ⟨a, fun N hN => (h1 N).trans (h3 N hN), h2⟩
def rSt (T : List Tok) (n : Nat) (st : Option (Nat × Nat)) (u : pm_J) : Prop := match st with
  | none => u.1 64 52 = ie 1 ∧ u.1 64 4 = ie 0
  | some q => u.1 64 52 = ie 0 ∧ u.1 64 4 = ie (q.1 : Nat) ∧ 1 ≤ q.1 ∧ u.1 64 5 = ie (tkP T n q.2 : Nat)
def rKs : List (Int32 × Int32 × Int32) → pm_J → Prop
  | [], _ => True
  | k :: K, u => u.1 105 K.length = k.1 ∧ u.1 106 K.length = k.2.1 ∧ u.1 107 K.length = k.2.2 ∧ rKs K u
def rVs : List Nat → pm_J → Prop
  | [], _ => True
  | e :: V, u => (u.1 108 V.length = ie (e : Nat) ∧ e < 2400) ∧ rVs V u
def rSs : List (Nat × Nat) → pm_J → Prop
  | [], _ => True
  | x :: S, u => u.1 111 S.length = ie (x.1 : Nat) ∧ u.1 110 S.length = ie (x.2 : Nat) ∧ rSs S u
abbrev RC : Type := List Tok × Nat × Nat × pm_J
def rS_E (d : Nat) : Nat → Nat → Bool := fun c i => (Nat.beq c 64 && (Nat.beq i 4 || Nat.beq i 5 || Nat.beq i 18 || Nat.beq i 33 || Nat.beq i 51 || Nat.beq i 52 || Nat.beq i 56 || Nat.beq i 58 || Nat.beq i 60 || Nat.beq i 61 || Nat.beq i 62 || Nat.beq i 63 || Nat.beq i 64 || Nat.beq i 67)) || (Nat.ble 70 c && Nat.ble c 90) || (Nat.beq c 97 && Nat.beq i d) || (Nat.beq c 100 && Nat.ble (24 * d) i && Nat.blt i (24 * d + 24)) || (Nat.ble 105 c && Nat.ble c 112)
def rSEp (d c i : Nat) : Prop := (c = 64 ∧ (i = 4 ∨ i = 5 ∨ i = 18 ∨ i = 33 ∨ i = 51 ∨ i = 52 ∨ i = 56 ∨ i = 58 ∨ i = 60 ∨ i = 61 ∨ i = 62 ∨ i = 63 ∨ i = 64 ∨ i = 67)) ∨ (70 ≤ c ∧ c ≤ 90) ∨ (c = 97 ∧ i = d) ∨ (c = 100 ∧ 24 * d ≤ i ∧ i < 24 * d + 24) ∨ (105 ≤ c ∧ c ≤ 112)
theorem rSE_iff (d c i : Nat) : rS_E d c i = true ↔ rSEp d c i := by
  unfold rS_E rSEp
  simp only [Bool.or_eq_true, Bool.and_eq_true, Nat.beq_eq, Nat.ble_eq, Nat.blt_eq]
  omega
theorem rSE_no {d c i : Nat} (h : ¬ rSEp d c i) : rS_E d c i = false := by
  cases hb : rS_E d c i with
  | false => rfl
  | true => exact absurd ((rSE_iff d c i).mp hb) h
theorem rSE_no' {d c i : Nat} (h : rS_E d c i = false) : ¬ rSEp d c i := fun hp => by
  have := (rSE_iff d c i).mpr hp
  rw [this] at h; cases h
def rop (k : Nat) : Nat := [12, 13, 1, 1, 1, 0, 0, 4, 6, 9, 23, 24, 25, 32, 10, 11, 30].getD k 0
def rva (x : Nd) : Int := if x.1 ≤ 4 then -1 else x.2.2.1
def rvb (x : Nd) : Int := if x.1 = 16 then (match x.2.2.2.2.2.2 with | [] => -1 | a :: _ => (a : Int)) else x.2.2.2.1
def rvc (x : Nd) : Int := if x.1 = 8 then x.2.2.2.2.1 else -1
def rvl (x : Nd) : Int := if x.1 = 2 then x.2.2.1 else if x.1 = 7 ∨ x.1 = 9 then x.2.2.2.2.1 else -1
def rvn (x : Nd) : Int := if x.1 = 16 then x.2.2.2.2.1 else 0
def rN (u : pm_J) (e : Nat) (x : Nd) (bd : Int) (hr : Bool) (nr : Int) : Prop := u.1 77 e = ie (rop x.1 : Nat) ∧ u.1 78 e = ie (x.2.1 : Nat) ∧ u.1 79 e = ie (rva x) ∧ u.1 80 e = ie (rvb x) ∧ u.1 81 e = ie (rvc x) ∧ u.1 82 e = ie (rvl x) ∧ u.1 83 e = ie nr ∧ u.1 84 e = ie (rvn x) ∧ u.1 86 e = ie bd ∧ u.1 87 e = ie (-1) ∧ u.1 88 e = ie (-1) ∧ u.1 89 e = ie 0 ∧ u.1 112 e = ib hr ∧ ∀ k, k < 4 → u.1 90 (4 * e + k) = ie (-1)
def rA (c : RC) (st : Option (Nat × Nat)) (a dp : Nat) (u : pm_J) : Prop := rSt c.1 c.2.1 st u ∧ rK c.1 c.2.1 u ∧ u.1 64 51 = ie (a : Nat) ∧ a ≤ c.1.length ∧ u.1 64 61 = ie (dp : Nat) ∧ u.1 64 62 = ie 0 ∧ (st = none → u.1 64 60 = ie 0) ∧ u.1 64 44 = ie (c.2.2.1 : Nat) ∧ c.2.2.1 < 30
def rW (d a : Nat) (w : Option Nat) (u : pm_J) : Prop := u.1 97 d = ie (match w with | none => -1 | some x => (x : Int)) ∧ ∀ x, w = some x → x < a
def rLo (d : Nat) (Y : List Ty) (l : Lc) (u : pm_J) : Prop := u.1 64 64 = ie (l.1 : Nat) ∧ l.1 ≤ 24 ∧ ∀ i t, i < l.1 → l.2.1 i = some t → ∃ k : Nat, u.1 100 (24 * d + i) = ie k ∧ Y[k]? = some t
def rNs (t : Tr) (u : pm_J) : Prop := u.1 64 33 = ie (t.1 : Nat) ∧ t.1 ≤ 2400 ∧ ∀ e, e < t.1 → rN u e (t.2.1 e) (t.2.2.2.1 e) (t.2.2.2.2.1 e) (t.2.2.2.2.2 e)
def rE (c : RC) (st : Option (Nat × Nat)) (dp : Nat) (K : List (Int32 × Int32 × Int32)) (V : List Nat) (S : List (Nat × Nat)) (Y : List Ty) (s : PS) (u : pm_J) : Prop :=
  rA c st s.1 dp u ∧ (u.1 64 56 = ie (K.length : Nat) ∧ rKs K u) ∧ (u.1 64 58 = ie (V.length : Nat) ∧ rVs V u) ∧ (u.1 64 67 = ie (S.length : Nat) ∧ rSs S u) ∧ (tyR u Y ∧ Y.length ≤ 6 + s.1) ∧ rW c.2.2.1 s.1 s.2.1 u ∧ rLo c.2.2.1 Y s.2.2.1 u ∧ rNs s.2.2.2 u ∧ fr (rS_E c.2.2.1) c.2.2.2 u
theorem rKs_of {K : List (Int32 × Int32 × Int32)} {u v : pm_J} (h : rKs K u) (hv : ∀ c i, 105 ≤ c → c ≤ 107 → i < K.length → v.1 c i = u.1 c i) : rKs K v := by
  induction K with
  | nil => trivial
  | cons k K ih =>
    obtain ⟨a1, a2, a3, a4⟩ := h
    have hl : (k :: K).length = K.length + 1 := rfl
    exact ⟨(hv 105 _ (by omega) (by omega) (by omega)).trans a1, (hv 106 _ (by omega) (by omega) (by omega)).trans a2, (hv 107 _ (by omega) (by omega) (by omega)).trans a3, ih a4 (fun c i h1 h2 h3 => hv c i h1 h2 (by omega))⟩
theorem rVs_of {V : List Nat} {u v : pm_J} (h : rVs V u) (hv : ∀ i, i < V.length → v.1 108 i = u.1 108 i) : rVs V v := by
  induction V with
  | nil => trivial
  | cons k V ih =>
    obtain ⟨⟨a1, a2⟩, a4⟩ := h
    have hl : (k :: V).length = V.length + 1 := rfl
    exact ⟨⟨(hv _ (by omega)).trans a1, a2⟩, ih a4 (fun i h3 => hv i (by omega))⟩
theorem rSs_of {S : List (Nat × Nat)} {u v : pm_J} (h : rSs S u) (hv : ∀ c i, 110 ≤ c → c ≤ 111 → i < S.length → v.1 c i = u.1 c i) : rSs S v := by
  induction S with
  | nil => trivial
  | cons k S ih =>
    obtain ⟨a1, a2, a4⟩ := h
    have hl : (k :: S).length = S.length + 1 := rfl
    exact ⟨(hv 111 _ (by omega) (by omega) (by omega)).trans a1, (hv 110 _ (by omega) (by omega) (by omega)).trans a2, ih a4 (fun c i h1 h2 h3 => hv c i h1 h2 (by omega))⟩
theorem rSt_of {T : List Tok} {n : Nat} {st : Option (Nat × Nat)} {u v : pm_J} (h : rSt T n st u) (hv : ∀ i, i = 4 ∨ i = 5 ∨ i = 52 → v.1 64 i = u.1 64 i) : rSt T n st v := by
  cases st with
  | none => exact ⟨(hv 52 (by omega)).trans h.1, (hv 4 (by omega)).trans h.2⟩
  | some q => exact ⟨(hv 52 (by omega)).trans h.1, (hv 4 (by omega)).trans h.2.1, h.2.2.1, (hv 5 (by omega)).trans h.2.2.2⟩
theorem rA_of {c : RC} {st : Option (Nat × Nat)} {a dp : Nat} {u v : pm_J} (h : rA c st a dp u) (hv : ∀ x i, (x = 64 ∧ (i = 4 ∨ i = 5 ∨ i = 10 ∨ i = 44 ∨ i = 51 ∨ i = 52 ∨ i = 60 ∨ i = 61 ∨ i = 62)) ∨ (66 ≤ x ∧ x ≤ 69) → v.1 x i = u.1 x i) (h2 : v.2 = u.2) : rA c st a dp v := by
  obtain ⟨a1, a2, a3, a4, a5, a6, a7, a8, a9⟩ := h
  exact ⟨rSt_of a1 (fun i hi => hv 64 i (by omega)), rK_fr a2 (hv 64 10 (by omega)) (fun x i h1 h2' => ⟨hv x i (by omega), by rw [h2]⟩) (r5_e (hv 64 4 (by omega)) (hv 64 5 (by omega))), (hv 64 51 (by omega)).trans a3, a4, (hv 64 61 (by omega)).trans a5, (hv 64 62 (by omega)).trans a6, fun h => (hv 64 60 (by omega)).trans (a7 h), (hv 64 44 (by omega)).trans a8, a9⟩
theorem rW_of {d a : Nat} {w : Option Nat} {u v : pm_J} (h : rW d a w u) (hv : v.1 97 d = u.1 97 d) : rW d a w v := ⟨hv.trans h.1, h.2⟩
theorem rLo_of {d : Nat} {Y : List Ty} {l : Lc} {u v : pm_J} (h : rLo d Y l u) (h64 : v.1 64 64 = u.1 64 64) (hv : ∀ i, i < l.1 → v.1 100 (24 * d + i) = u.1 100 (24 * d + i)) : rLo d Y l v := by
  refine ⟨h64.trans h.1, h.2.1, fun i t hi ht => ?_⟩
  obtain ⟨k, k1, k2⟩ := h.2.2 i t hi ht
  exact ⟨k, (hv i hi).trans k1, k2⟩
theorem rN_of {u v : pm_J} {e : Nat} {x : Nd} {bd : Int} {hr : Bool} {nr : Int} (h : rN u e x bd hr nr) (hv : ∀ c i, ((77 ≤ c ∧ c ≤ 89 ∨ c = 112) ∧ i = e) ∨ (c = 90 ∧ 4 * e ≤ i ∧ i < 4 * e + 4) → v.1 c i = u.1 c i) : rN v e x bd hr nr := by
  obtain ⟨a1, a2, a3, a4, a5, a6, a7, a8, a9, a10, a11, a12, a13, a14⟩ := h
  refine ⟨(hv _ _ (by omega)).trans a1, (hv _ _ (by omega)).trans a2, (hv _ _ (by omega)).trans a3, (hv _ _ (by omega)).trans a4, (hv _ _ (by omega)).trans a5, (hv _ _ (by omega)).trans a6, (hv _ _ (by omega)).trans a7, (hv _ _ (by omega)).trans a8, (hv _ _ (by omega)).trans a9, (hv _ _ (by omega)).trans a10, (hv _ _ (by omega)).trans a11, (hv _ _ (by omega)).trans a12, (hv _ _ (by omega)).trans a13, fun k hk => (hv _ _ (by omega)).trans (a14 k hk)⟩
theorem rNs_of {t : Tr} {u v : pm_J} (h : rNs t u) (hv : ∀ c i, (c = 64 ∧ i = 33) ∨ (77 ≤ c ∧ c ≤ 90) ∨ c = 112 → v.1 c i = u.1 c i) : rNs t v :=
  ⟨(hv 64 33 (by omega)).trans h.1, h.2.1, fun e he => rN_of (h.2.2 e he) (fun c i hc => hv c i (by omega))⟩
theorem frE_of {d : Nat} {u0 u v : pm_J} (h : fr (rS_E d) u0 u) (hv : ∀ c i, ¬ rSEp d c i → v.1 c i = u.1 c i) (h2 : v.2 = u.2) : fr (rS_E d) u0 v := fun c i hs =>
  ⟨(hv c i (rSE_no' hs)).trans (h c i hs).1, by rw [h2]; exact (h c i hs).2⟩
theorem rE_k {c : RC} {st : Option (Nat × Nat)} {dp : Nat} {K K' : List (Int32 × Int32 × Int32)} {V : List Nat} {S : List (Nat × Nat)} {Y : List Ty} {s : PS} {u v : pm_J} (H : rE c st dp K V S Y s u) (hv : ∀ x i, ¬ (x = 64 ∧ (i = 56 ∨ i = 63)) → ¬ (105 ≤ x ∧ x ≤ 107) → v.1 x i = u.1 x i) (h2 : v.2 = u.2) (hK : v.1 64 56 = ie (K'.length : Nat) ∧ rKs K' v) : rE c st dp K' V S Y s v := by
  obtain ⟨a1, a2, a3, a4, a5, a6, a7, a8, a9⟩ := H
  exact ⟨rA_of a1 (fun x i h => hv x i (by omega) (by omega)) h2, hK, ⟨(hv _ _ (by omega) (by omega)).trans a3.1, rVs_of a3.2 (fun i h => hv _ _ (by omega) (by omega))⟩, ⟨(hv _ _ (by omega) (by omega)).trans a4.1, rSs_of a4.2 (fun x i h1 h2 h3 => hv _ _ (by omega) (by omega))⟩, ⟨tyR_w a5.1 (hv _ _ (by omega) (by omega)) (fun x i h1 h2 => hv _ _ (by omega) (by omega)), a5.2⟩, rW_of a6 (hv _ _ (by omega) (by omega)), rLo_of a7 (hv _ _ (by omega) (by omega)) (fun i h => hv _ _ (by omega) (by omega)), rNs_of a8 (fun x i h => hv _ _ (by omega) (by omega)), frE_of a9 (fun x i h => hv _ _ (by unfold rSEp at h; omega) (by unfold rSEp at h; omega)) h2⟩
theorem rE_v {c : RC} {st : Option (Nat × Nat)} {dp : Nat} {K : List (Int32 × Int32 × Int32)} {V V' : List Nat} {S : List (Nat × Nat)} {Y : List Ty} {s : PS} {u v : pm_J} (H : rE c st dp K V S Y s u) (hv : ∀ x i, ¬ (x = 64 ∧ i = 58) → ¬ (x = 108) → v.1 x i = u.1 x i) (h2 : v.2 = u.2) (hV : v.1 64 58 = ie (V'.length : Nat) ∧ rVs V' v) : rE c st dp K V' S Y s v := by
  obtain ⟨a1, a2, a3, a4, a5, a6, a7, a8, a9⟩ := H
  exact ⟨rA_of a1 (fun x i h => hv x i (by omega) (by omega)) h2, ⟨(hv _ _ (by omega) (by omega)).trans a2.1, rKs_of a2.2 (fun x i h1 h2 h3 => hv _ _ (by omega) (by omega))⟩, hV, ⟨(hv _ _ (by omega) (by omega)).trans a4.1, rSs_of a4.2 (fun x i h1 h2 h3 => hv _ _ (by omega) (by omega))⟩, ⟨tyR_w a5.1 (hv _ _ (by omega) (by omega)) (fun x i h1 h2 => hv _ _ (by omega) (by omega)), a5.2⟩, rW_of a6 (hv _ _ (by omega) (by omega)), rLo_of a7 (hv _ _ (by omega) (by omega)) (fun i h => hv _ _ (by omega) (by omega)), rNs_of a8 (fun x i h => hv _ _ (by omega) (by omega)), frE_of a9 (fun x i h => hv _ _ (by unfold rSEp at h; omega) (by unfold rSEp at h; omega)) h2⟩
theorem rE_s {c : RC} {st : Option (Nat × Nat)} {dp : Nat} {K : List (Int32 × Int32 × Int32)} {V : List Nat} {S S' : List (Nat × Nat)} {Y : List Ty} {s : PS} {u v : pm_J} (H : rE c st dp K V S Y s u) (hv : ∀ x i, ¬ (x = 64 ∧ i = 67) → ¬ (110 ≤ x ∧ x ≤ 111) → v.1 x i = u.1 x i) (h2 : v.2 = u.2) (hS : v.1 64 67 = ie (S'.length : Nat) ∧ rSs S' v) : rE c st dp K V S' Y s v := by
  obtain ⟨a1, a2, a3, a4, a5, a6, a7, a8, a9⟩ := H
  exact ⟨rA_of a1 (fun x i h => hv x i (by omega) (by omega)) h2, ⟨(hv _ _ (by omega) (by omega)).trans a2.1, rKs_of a2.2 (fun x i h1 h2 h3 => hv _ _ (by omega) (by omega))⟩, ⟨(hv _ _ (by omega) (by omega)).trans a3.1, rVs_of a3.2 (fun i h => hv _ _ (by omega) (by omega))⟩, hS, ⟨tyR_w a5.1 (hv _ _ (by omega) (by omega)) (fun x i h1 h2 => hv _ _ (by omega) (by omega)), a5.2⟩, rW_of a6 (hv _ _ (by omega) (by omega)), rLo_of a7 (hv _ _ (by omega) (by omega)) (fun i h => hv _ _ (by omega) (by omega)), rNs_of a8 (fun x i h => hv _ _ (by omega) (by omega)), frE_of a9 (fun x i h => hv _ _ (by unfold rSEp at h; omega) (by unfold rSEp at h; omega)) h2⟩
theorem rE_a {c : RC} {st st' : Option (Nat × Nat)} {dp dp' a' : Nat} {K : List (Int32 × Int32 × Int32)} {V : List Nat} {S : List (Nat × Nat)} {Y : List Ty} {s : PS} {u v : pm_J} (H : rE c st dp K V S Y s u) (hv : ∀ x i, ¬ (x = 64 ∧ (i = 4 ∨ i = 5 ∨ i = 51 ∨ i = 52 ∨ i = 61 ∨ i = 63)) → v.1 x i = u.1 x i) (h2 : v.2 = u.2) (hst : rSt c.1 c.2.1 st' v) (h51 : v.1 64 51 = ie (a' : Nat)) (ha : s.1 ≤ a') (ha' : a' ≤ c.1.length) (h61 : v.1 64 61 = ie (dp' : Nat)) (hs : st' = none → st = none) (h5 : r5 u v) : rE c st' dp' K V S Y (sAt s a') v := by
  obtain ⟨a1, a2, a3, a4, a5, a6, a7, a8, a9⟩ := H
  obtain ⟨b1, b2, b3, b4, b5, b6, b7, b8, b9⟩ := a1
  exact ⟨⟨hst, rK_fr b2 (hv _ _ (by omega)) (fun x i h1 h2' => ⟨hv x i (by omega), by rw [h2]⟩) h5, h51, ha', h61, (hv _ _ (by omega)).trans b6, fun h => (hv _ _ (by omega)).trans (b7 (hs h)), (hv _ _ (by omega)).trans b8, b9⟩, ⟨(hv _ _ (by omega)).trans a2.1, rKs_of a2.2 (fun x i h1 h2 h3 => hv _ _ (by omega))⟩, ⟨(hv _ _ (by omega)).trans a3.1, rVs_of a3.2 (fun i h => hv _ _ (by omega))⟩, ⟨(hv _ _ (by omega)).trans a4.1, rSs_of a4.2 (fun x i h1 h2 h3 => hv _ _ (by omega))⟩, ⟨tyR_w a5.1 (hv _ _ (by omega)) (fun x i h1 h2 => hv _ _ (by omega)), Nat.le_trans a5.2 (Nat.add_le_add_left ha 6)⟩, ⟨(hv _ _ (by omega)).trans a6.1, fun x hx => Nat.lt_of_lt_of_le (a6.2 x hx) ha⟩, rLo_of a7 (hv _ _ (by omega)) (fun i h => hv _ _ (by omega)), rNs_of a8 (fun x i h => hv _ _ (by omega)), frE_of a9 (fun x i h => hv _ _ (by unfold rSEp at h; omega)) h2⟩
theorem rE_n {c : RC} {st : Option (Nat × Nat)} {dp : Nat} {K : List (Int32 × Int32 × Int32)} {V : List Nat} {S : List (Nat × Nat)} {Y : List Ty} {s : PS} {t : Tr} {u v : pm_J} (H : rE c st dp K V S Y s u) (hv : ∀ x i, ¬ (x = 64 ∧ i = 33) → ¬ (77 ≤ x ∧ x ≤ 90 ∨ x = 112) → v.1 x i = u.1 x i) (h2 : v.2 = u.2) (hN : rNs t v) : rE c st dp K V S Y (sTr s t) v := by
  obtain ⟨a1, a2, a3, a4, a5, a6, a7, a8, a9⟩ := H
  exact ⟨rA_of a1 (fun x i h => hv x i (by omega) (by omega)) h2, ⟨(hv _ _ (by omega) (by omega)).trans a2.1, rKs_of a2.2 (fun x i h1 h2 h3 => hv _ _ (by omega) (by omega))⟩, ⟨(hv _ _ (by omega) (by omega)).trans a3.1, rVs_of a3.2 (fun i h => hv _ _ (by omega) (by omega))⟩, ⟨(hv _ _ (by omega) (by omega)).trans a4.1, rSs_of a4.2 (fun x i h1 h2 h3 => hv _ _ (by omega) (by omega))⟩, ⟨tyR_w a5.1 (hv _ _ (by omega) (by omega)) (fun x i h1 h2 => hv _ _ (by omega) (by omega)), a5.2⟩, rW_of a6 (hv _ _ (by omega) (by omega)), rLo_of a7 (hv _ _ (by omega) (by omega)) (fun i h => hv _ _ (by omega) (by omega)), hN, frE_of a9 (fun x i h => hv _ _ (by unfold rSEp at h; omega) (by unfold rSEp at h; omega)) h2⟩
theorem rE_l {c : RC} {st : Option (Nat × Nat)} {dp : Nat} {K : List (Int32 × Int32 × Int32)} {V : List Nat} {S : List (Nat × Nat)} {Y : List Ty} {s : PS} {l : Lc} {w : Option Nat} {u v : pm_J} (H : rE c st dp K V S Y s u) (hv : ∀ x i, ¬ (x = 64 ∧ i = 64) → ¬ (x = 97 ∧ i = c.2.2.1) → ¬ (x = 100 ∧ 24 * c.2.2.1 ≤ i ∧ i < 24 * c.2.2.1 + 24) → v.1 x i = u.1 x i) (h2 : v.2 = u.2) (hW : rW c.2.2.1 s.1 w v) (hL : rLo c.2.2.1 Y l v) : rE c st dp K V S Y (sLc (sWr s w) l) v := by
  obtain ⟨a1, a2, a3, a4, a5, a6, a7, a8, a9⟩ := H
  exact ⟨rA_of a1 (fun x i h => hv x i (by omega) (by omega) (by omega)) h2, ⟨(hv _ _ (by omega) (by omega) (by omega)).trans a2.1, rKs_of a2.2 (fun x i h1 h2 h3 => hv _ _ (by omega) (by omega) (by omega))⟩, ⟨(hv _ _ (by omega) (by omega) (by omega)).trans a3.1, rVs_of a3.2 (fun i h => hv _ _ (by omega) (by omega) (by omega))⟩, ⟨(hv _ _ (by omega) (by omega) (by omega)).trans a4.1, rSs_of a4.2 (fun x i h1 h2 h3 => hv _ _ (by omega) (by omega) (by omega))⟩, ⟨tyR_w a5.1 (hv _ _ (by omega) (by omega) (by omega)) (fun x i h1 h2 => hv _ _ (by omega) (by omega) (by omega)), a5.2⟩, hW, hL, rNs_of a8 (fun x i h => hv _ _ (by omega) (by omega) (by omega)), frE_of a9 (fun x i h => hv _ _ (by unfold rSEp at h; omega) (by unfold rSEp at h; omega) (by unfold rSEp at h; omega)) h2⟩
theorem rE_X {c : RC} {q : Nat × Nat} {dp : Nat} {K : List (Int32 × Int32 × Int32)} {V : List Nat} {S : List (Nat × Nat)} {Y : List Ty} {s : PS} {u : pm_J} (H : rE c (some q) dp K V S Y s u) : rX c.1 c.2.1 q u ∧ fr (rS_E c.2.2.1) c.2.2.2 u := by
  obtain ⟨a1, a2, a3, a4, a5, a6, a7, a8, a9⟩ := H
  exact ⟨⟨a1.1.1, a1.1.2.1, a1.1.2.2.1, a1.1.2.2.2, ⟨s.1, by have := a1.2.2.2.1; have := a1.2.1.1.2.1; omega, a1.2.2.1⟩, Y, a5.1⟩, a9⟩
