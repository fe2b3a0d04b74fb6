/-! ===== what a stone holds, by its kind; putting and taking, in both ===== -/
/-- names, pointers, root, bits -/
def GS := List Nat × (Nat → Option Nat) × (Nat → Option Nat) × Option Nat × Int32
def CR (kd b : Nat) (ke : Nat → Nat) (g : GS) (V : SV) : Prop := match kd with
  | 1 => RowC b g.1.length (nmL g.1) V
  | 2 => RowC b g.1.length (nmL g.1) V
  | 3 => RowC b g.1.length (nmL g.1) V
  | 4 => RowC b (CL ke g.1).length (nmL (CL ke g.1)) V
  | 5 => TrC b g.1.length g.2.1 g.2.2.1 g.2.2.2.1 V
  | 6 => V b 11 = g.2.2.2.2
  | 7 => RowC b g.1.length (nmL g.1) V ∧ ∀ j, j ≤ g.1.length → V (b + 3) j = nI (psum ke (nmL g.1) j)
  | _ => True
def MR (kd s : Nat) (g : GS) (V : SV) : Prop := match kd with
  | 1 => RowM s g.1.length (nmL g.1) V
  | 2 => RowM s g.1.length (nmL g.1) V
  | 3 => RowM s g.1.length (nmL g.1) V
  | 4 => RowM s g.1.length (nmL g.1) V
  | 5 => TrM s g.1.length g.2.1 g.2.2.1 g.2.2.2.1 V
  | 6 => V 77 s = g.2.2.2.2
  | 7 => RowM s g.1.length (nmL g.1) V
  | _ => V 73 s = 0
def hld (S : Nat → Prop) (L : List Nat) : Prop := L.Nodup ∧ ∀ t, t ∈ L ↔ S t
def gI (kd : Nat) (ke : Nat → Nat) (S : Nat → Prop) (g : GS) : Prop := match kd with
  | 1 => hld S g.1
  | 2 => hld S g.1 ∧ srt ke g.1
  | 3 => hld S g.1
  | 4 => hld S g.1
  | 5 => hld S g.1 ∧ srt ke g.1 ∧ TS g.2.1 g.2.2.1 80 g.2.2.2.1 g.1
  | 6 => True
  | 7 => hld S g.1 ∧ srt ke g.1
  | _ => True
/-- how many cells a stone of a kind has -/
def sz : Nat → Nat
  | 0 => 2
  | 5 => 5
  | 7 => 4
  | _ => 3
def frB (z b : Nat) : Nat → Nat → Prop := fun a k => (b + 2 ≤ a ∧ a < b + z) ∨ (a = b ∧ 8 ≤ k)
def frP (s : Nat) : Nat → Nat → Prop := fun a k => ((a = 72 ∨ a = 74 ∨ a = 75) ∧ 80 * s ≤ k ∧ k < 80 * s + 80) ∨ ((a = 73 ∨ a = 76 ∨ a = 77 ∨ a = 78 ∨ a = 79) ∧ k = s) ∨ (a = 57 ∧ k = 32)
def stC (z : Nat) (G : Gp) (D : Nat) (K : SK) (M : AM) (b ky nT : Nat) (ke : Nat → Nat) (t : Nat) (R R' : SV → Prop) (c : Nat) : Prop := ∀ (n : Nat × Nat) (J : SJV) (O : SO) V, cKe ky nT ke V → R V → V b 8 = nI 0 → ∃ V', Ev G D M 0 [(0, .ref b), (1, .int (nI t))] (K, n, V, J, O) none (K, n, V', J, O) ∧ R' V' ∧ V' b 8 = nI c ∧ fr (frB z b) V V'
def stM (G : Gp) (D : Nat) (K : SK) (M : AM) (kd s ky nT : Nat) (ke : Nat → Nat) (t : Nat) (R R' : SV → Prop) (c : Nat) : Prop := ∀ (n : Nat × Nat) (J : SJV) (O : SO) V, mKe s ky nT ke V → V 70 s = nI kd → R V → ∃ V', Ev G D M 0 [(0, .ref 57), (1, .int (nI s)), (2, .int (nI t))] (K, n, V, J, O) none (K, n, V', J, O) ∧ R' V' ∧ V' 79 s = nI c ∧ V' 78 s = V 78 s + nI c ∧ fr (frP s) V V'
theorem nmL_0 {L : List Nat} {t i : Nat} : insF (nmL L) L.length t i = nmL (L ++ [t]) i := by
  have := insF_L (A := L) (B := []) (t := t) (i := i)
  rw [List.append_nil] at this
  exact this
theorem hld_put {S : Nat → Prop} {A B : List Nat} {t : Nat} (h : hld S (A ++ B)) (ht : ¬ S t) : hld (fun u => u = t ∨ S u) (A ++ t :: B) := by
  obtain ⟨h1, h2⟩ := h
  have hn : t ∉ A ++ B := fun hx => ht ((h2 t).mp hx)
  have h3 := List.nodup_append.mp h1
  have hnA : t ∉ A := fun hx => hn (by simp [hx])
  have hnB : t ∉ B := fun hx => hn (by simp [hx])
  refine ⟨List.nodup_append.mpr ⟨h3.1, List.nodup_cons.mpr ⟨hnB, h3.2.1⟩, ?_⟩, fun u => ?_⟩
  · intro a ha b hb
    rcases List.mem_cons.mp hb with z | z
    · rw [z]
      intro hx
      exact hnA (hx ▸ ha)
    · exact h3.2.2 a ha b z
  · show _ ↔ (u = t ∨ S u)
    rw [List.mem_append, List.mem_cons, ← h2 u, List.mem_append]
    constructor
    · rintro (z | z | z)
      · exact Or.inr (Or.inl z)
      · exact Or.inl z
      · exact Or.inr (Or.inr z)
    · rintro (z | z | z)
      · exact Or.inr (Or.inl z)
      · exact Or.inl z
      · exact Or.inr (Or.inr z)
theorem hld_take {S : Nat → Prop} {A B : List Nat} {t : Nat} (h : hld S (A ++ t :: B)) : hld (fun u => u ≠ t ∧ S u) (A ++ B) ∧ t ∉ A ∧ t ∉ B := by
  obtain ⟨h1, h2⟩ := h
  have h3 := List.nodup_append.mp h1
  have h4 := List.nodup_cons.mp h3.2.1
  have hnA : t ∉ A := fun hx => h3.2.2 t hx t (by simp) rfl
  refine ⟨⟨List.nodup_append.mpr ⟨h3.1, h4.2, fun a ha b hb => h3.2.2 a ha b (by simp [hb])⟩, fun u => ?_⟩, hnA, h4.1⟩
  show _ ↔ (u ≠ t ∧ S u)
  rw [← h2 u, List.mem_append, List.mem_append, List.mem_cons]
  constructor
  · rintro (z | z)
    · exact ⟨fun hx => hnA (hx ▸ z), Or.inl z⟩
    · exact ⟨fun hx => h4.1 (hx ▸ z), Or.inr (Or.inr z)⟩
  · rintro ⟨z, y | y | y⟩
    · exact Or.inl y
    · exact absurd y z
    · exact Or.inr y
theorem hld_len {S : Nat → Prop} {L : List Nat} {N : Nat} (h : hld S L) (hS : ∀ t, S t → t < N) : L.length ≤ N := by
  have := nd_len (A := L) (B := List.range N) h.1 (fun u hu => List.mem_range.mpr (hS u ((h.2 u).mp hu)))
  rwa [List.length_range] at this
theorem hld_split {S : Nat → Prop} {L : List Nat} {t : Nat} (h : hld S L) (ht : S t) : ∃ A B, L = A ++ t :: B := List.append_of_mem ((h.2 t).mpr ht)
/-- one that is not yet in: there is room -/
theorem hld_room {S : Nat → Prop} {L : List Nat} {N t : Nat} (h : hld S L) (hS : ∀ t, S t → t < N) (ht : t < N) (hn : ¬ S t) : L.length < N := by
  have h2 := hld_put (A := L) (B := []) (by rw [List.append_nil]; exact h) hn
  have := hld_len h2 (fun u hu => hu.elim (fun e => by omega) (hS u))
  simp only [List.length_append, List.length_cons, List.length_nil] at this
  omega
theorem ffst_at {A B : List Nat} {t : Nat} (h : t ∉ A) : ffst (fun q => nmL (A ++ t :: B) q == t) (A ++ t :: B).length 0 = A.length := by
  refine ffst_un (Nat.zero_le _) (by simp) (fun j _ hj => ?_) (fun _ => ?_)
  · rw [nmL_l hj]
    have := nmL_mem hj
    simp only [beq_eq_false_iff_ne, ne_eq]
    exact fun hx => h (hx ▸ this)
  · rw [nmL_at]
    simp
section
variable {G : Gp} {d : Nat} {K : SK} {n : Nat × Nat} {V V' : SV} {J J' : SJV} {O O' : SO} {r : Option Value}
variable {b ky s nT m : Nat} {ke nm nm' : Nat → Nat} {lc rc : Nat → Option Nat} {root : Option Nat}
theorem RowC_c (h : RowC b m nm V) (e : ∀ i, i < m → nm' i = nm i) : RowC b m nm' V := ⟨h.1, h.2.1, fun i hi => by rw [e i hi]; exact h.2.2 i hi⟩
theorem RowM_c (h : RowM s m nm V) (e : ∀ i, i < m → nm' i = nm i) : RowM s m nm' V := ⟨h.1, h.2.1, fun i hi => by rw [e i hi]; exact h.2.2 i hi⟩
theorem RowM_o (h : RowM s m nm V) (hf : fr (fun a _ => a ≠ 72 ∧ a ≠ 73) V V') : RowM s m nm V' := ⟨h.1, by rw [hf 73 s (by omega)]; exact h.2.1, fun i hi => by rw [hf 72 _ (by omega)]; exact h.2.2 i hi⟩
theorem TrM_o (h : TrM s m lc rc root V) (hf : fr (fun a _ => a ≠ 73 ∧ a ≠ 74 ∧ a ≠ 75 ∧ a ≠ 76) V V') : TrM s m lc rc root V' := ⟨h.1, by rw [hf 73 s (by omega)]; exact h.2.1, by rw [hf 76 s (by omega)]; exact h.2.2.1, fun t ht => by rw [hf 74 _ (by omega), hf 75 _ (by omega)]; exact h.2.2.2 t ht⟩
theorem m_197 (hK : StK K) (hs : s < 10) {c : Nat} {x2 : Int32} (h : V 57 32 = nI c) : Ev G (d + 1) mX12_putIn 197 [(0, .ref 57), (1, .int (nI s)), (2, .int x2)] (K, n, V, J, O) none (K, n, up2 (up2 V 78 s (V 78 s + nI c)) 79 s (nI c), J, O) := by
  refine wX12_putIn_197 hK ⟨nI_v hs (by omega), nI_v hs (by omega), nI_v hs (by omega), rfl, ?_⟩
  rw [nI_c (by omega), h]
theorem m_169 (hK : StK K) (hs : s < 10) {c : Nat} {x2 : Int32} (h : V 57 32 = nI c) : Ev G (d + 1) mX12_takeFrom 169 [(0, .ref 57), (1, .int (nI s)), (2, .int x2)] (K, n, V, J, O) none (K, n, up2 (up2 V 78 s (V 78 s + nI c)) 79 s (nI c), J, O) := by
  refine wX12_takeFrom_169 hK ⟨nI_v hs (by omega), nI_v hs (by omega), nI_v hs (by omega), rfl, ?_⟩
  rw [nI_c (by omega), h]
def up7 (V : SV) (s c : Nat) : SV := up2 (up2 V 78 s (V 78 s + nI c)) 79 s (nI c)
theorem up7_fr {V : SV} {s c : Nat} : fr (fun a k => (a = 78 ∨ a = 79) ∧ k = s) V (up7 V s c) := fr_up (fr_up fr_rfl ⟨Or.inl rfl, rfl⟩) ⟨Or.inr rfl, rfl⟩
/-- the end of both: looks written -/
theorem fin7 {P : Nat → Nat → Prop} {V V1 : SV} {s c : Nat} (hf : fr P V V1) (h : ∀ a k, P a k → frP s a k ∧ a ≠ 78 ∧ a ≠ 79) : up7 V1 s c 79 s = nI c ∧ up7 V1 s c 78 s = V 78 s + nI c ∧ fr (frP s) V (up7 V1 s c) := by
  have h78 : V1 78 s = V 78 s := hf 78 s (fun q => (h _ _ q).2.1 rfl)
  refine ⟨up2_s, ?_, fr_mo (fr_tr hf up7_fr) (fun a k q => ?_)⟩
  · unfold up7
    rw [up2_a (by decide), up2_s, h78]
  · rcases q with q | ⟨q, rfl⟩
    · exact (h a k q).1
    · exact Or.inr (Or.inl ⟨by omega, rfl⟩)
end
