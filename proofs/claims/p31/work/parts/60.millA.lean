/-! THE CLASS'S MILL: a tuple is taken in, and what is known of the model goes on -/
theorem AMod_key {w : World} {t n : Nat} {ρ c : Nat → Nat} {L : Nat → List Nat} (h : AMod w t n ρ c L) {x y : Nat} (hx : x < n) (hy : y < n) (hρ : ρ y = ρ x) (hxy : x ≠ y) : kz ((SA w).kq (ρ x : Int)) (c x) ≠ kz ((SA w).kq (ρ x : Int)) (c y) := by
  obtain ⟨h1, h2, h3, h4, h5, h6⟩ := h
  have hr := (h5 x hx).1
  have mx := (h4 (ρ x) x hr).mpr ⟨hx, rfl⟩
  have my := (h4 (ρ x) y hr).mpr ⟨hy, hρ⟩
  have key : ∀ (l : List Nat), l.Pairwise (fun a b => kz ((SA w).kq (ρ x : Int)) (c a) < kz ((SA w).kq (ρ x : Int)) (c b)) → ∀ a b, a ∈ l → b ∈ l → a ≠ b → kz ((SA w).kq (ρ x : Int)) (c a) ≠ kz ((SA w).kq (ρ x : Int)) (c b) := by
    intro l
    induction l with
    | nil => intro _ a b ha; cases ha
    | cons z l ih =>
      intro hp a b ha hb hab
      have hp' := List.pairwise_cons.mp hp
      rcases List.mem_cons.mp ha with ea | ha1
      · rcases List.mem_cons.mp hb with eb | hb1
        · exact absurd (ea.trans eb.symm) hab
        · have := hp'.1 b hb1; rw [ea]; omega
      · rcases List.mem_cons.mp hb with eb | hb1
        · have := hp'.1 a ha1; rw [eb]; omega
        · exact ih hp'.2 a b ha1 hb1 hab
  exact key _ (h6 (ρ x) hr) x y mx my hxy
theorem clm_or {a b j : Nat} : clm (a ||| b) j = clm a j ||| clm b j := by
  unfold clm cl0 cl1 cl2
  split
  · show (a ||| b) / 2 ^ 14 % 2 ^ 7 = (a / 2 ^ 14 % 2 ^ 7) ||| (b / 2 ^ 14 % 2 ^ 7)
    rw [or_div, Nat.or_mod_two_pow]
  · split
    · show (a ||| b) / 2 ^ 7 % 2 ^ 7 = (a / 2 ^ 7 % 2 ^ 7) ||| (b / 2 ^ 7 % 2 ^ 7)
      rw [or_div, Nat.or_mod_two_pow]
    · show (a ||| b) % 2 ^ 7 = (a % 2 ^ 7) ||| (b % 2 ^ 7)
      rw [Nat.or_mod_two_pow]
theorem jn_Vc {w : World} {r k a b : Nat} (ha : Vc w r a) (hb : Vc w r b) : Vc w r (jn k a b) := by
  intro j h1 h2
  have ea := ha j h1 h2
  have eb := hb j h1 h2
  unfold jn
  split
  · rcases Nat.le_total a b with q | q
    · rw [Nat.min_eq_left q]; exact ea
    · rw [Nat.min_eq_right q]; exact eb
  · split
    · rcases Nat.le_total a b with q | q
      · rw [Nat.max_eq_right q]; exact eb
      · rw [Nat.max_eq_left q]; exact ea
    · rw [clm_or, ea, eb]; rfl
theorem take_Vc {w w' : World} {t n n' r m : Nat} {ρ c ρ' c' : Nat → Nat} {L L' : Nat → List Nat} {rd ch : Int} (h3 : w' 3 = w 3) (hV : VCs w n ρ c) (hm : Vc w r m) (hT : TakeA w t n ρ c L r m rd w' ch n' ρ' c' L') : VCs w' n' ρ' c' := by
  have e : ∀ q k, Vc w' q k ↔ Vc w q k := fun q k => by unfold Vc; rw [h3]
  intro s hs
  rw [e]
  rcases hT with ⟨x, hx, hρ, hz, hj, rfl, rfl, rfl, rfl, rfl, rfl⟩ | ⟨x, hx, hρ, hz, hj, rfl, rfl, rfl, rfl, rfl, -⟩ | ⟨h48, hz, rfl, rfl, rfl, rfl, rfl, rfl⟩ | ⟨h48, hz, rfl, rfl, rfl, rfl, -, -, -⟩
  · exact hV s hs
  · by_cases q : s = x
    · subst q
      rw [upn_eq]
      exact jn_Vc (hV s hs) (by rw [hρ]; exact hm)
    · rw [upn_ne q]; exact hV s hs
  · exact hV s hs
  · by_cases q : s = n
    · subst q
      rw [upn_eq, upn_eq]; exact hm
    · rw [upn_ne q, upn_ne q]; exact hV s (by omega)
/-- how far a model has grown -/
def ph (k v : Nat) : Nat := if k = 0 then 0 else if k = 1 then 127 - v else v
theorem ph_le {k x y : Nat} (h : lastle k x y) (hk : k ≤ 3) : ph k x ≤ ph k y := by
  unfold ph
  split
  · exact Nat.le_refl _
  · split
    · next e => have := h.2.1 e; omega
    · by_cases e : k = 2
      · exact h.2.2.1 e
      · have := h.2.2.2 (by omega)
        rw [← this]
        exact Nat.left_le_or
theorem ph_lt {k x y : Nat} (h : lastle k x y) (hk : k ≤ 3) (hne : x ≠ y) (hx : x < 128) : ph k x < ph k y := by
  unfold ph
  split
  · next e => exact absurd (h.1 e) hne
  · split
    · next e => have := h.2.1 e; omega
    · by_cases e : k = 2
      · have := h.2.2.1 e; omega
      · have := h.2.2.2 (by omega)
        have h2 : x ≤ x ||| y := Nat.left_le_or
        omega
theorem ph_127 {k v : Nat} (hv : v < 128) : ph k v ≤ 127 := by
  unfold ph
  split
  · omega
  · split <;> omega
def Ph (D : SH) (ρ c : Nat → Nat) : Nat → Nat
  | 0 => 0
  | n + 1 => Ph D ρ c n + (1 + ph (D.ki (ρ n)) (lastc (D.co (ρ n)) (c n)))
theorem Ph_128 {D : SH} {ρ c : Nat → Nat} : ∀ n, Ph D ρ c n ≤ n * 128 := by
  intro n
  induction n with
  | zero => exact Nat.le_refl _
  | succ n ih =>
    have := ph_127 (k := D.ki (ρ n)) (lastc_lt (k := D.co (ρ n)) (n := c n))
    show Ph D ρ c n + (1 + ph (D.ki (ρ n)) (lastc (D.co (ρ n)) (c n))) ≤ (n + 1) * 128
    omega
theorem Ph_mono {D : SH} {ρ c : Nat → Nat} {n m : Nat} (h : n ≤ m) : Ph D ρ c n ≤ Ph D ρ c m := by
  induction h with
  | refl => exact Nat.le_refl _
  | step _ ih => exact Nat.le_trans ih (Nat.le_add_right _ _)
theorem Ph_le0 {D : SH} {ρ c ρ' c' : Nat → Nat} (hD : WfD D) : ∀ n, (∀ x, x < n → ρ' x = ρ x ∧ le D (ρ x) (c x) (c' x)) → Ph D ρ c n ≤ Ph D ρ' c' n := by
  intro n
  induction n with
  | zero => intro _; exact Nat.le_refl _
  | succ n ih =>
    intro h
    have h1 := ih (fun x hx => h x (by omega))
    have h2 := h n (Nat.lt_succ_self n)
    have h3 := ph_le h2.2.2 (hD (ρ n)).2
    show _ + (1 + ph (D.ki (ρ n)) (lastc (D.co (ρ n)) (c n))) ≤ _ + (1 + ph (D.ki (ρ' n)) (lastc (D.co (ρ' n)) (c' n)))
    rw [h2.1]
    omega
theorem Ph_lt0 {D : SH} {ρ c ρ' c' : Nat → Nat} (hD : WfD D) : ∀ n, (∀ x, x < n → ρ' x = ρ x ∧ le D (ρ x) (c x) (c' x)) → (∃ x, x < n ∧ lastc (D.co (ρ x)) (c x) ≠ lastc (D.co (ρ x)) (c' x)) → Ph D ρ c n < Ph D ρ' c' n := by
  intro n
  induction n with
  | zero => intro _ h; obtain ⟨x, hx, -⟩ := h; omega
  | succ n ih =>
    intro h hx
    obtain ⟨x, hx, hne⟩ := hx
    have h2 := h n (Nat.lt_succ_self n)
    show _ + (1 + ph (D.ki (ρ n)) (lastc (D.co (ρ n)) (c n))) < _ + (1 + ph (D.ki (ρ' n)) (lastc (D.co (ρ' n)) (c' n)))
    rw [h2.1]
    by_cases e : x = n
    · subst e
      have h1 := Ph_le0 hD x (fun y hy => h y (by omega))
      have h3 := ph_lt h2.2.2 (hD (ρ x)).2 hne lastc_lt
      omega
    · have h1 := ih (fun x hx => h x (by omega)) ⟨x, by omega, hne⟩
      have h3 := ph_le h2.2.2 (hD (ρ n)).2
      omega
/-- what is known of a model that is made: it is sound as far as its stratum -/
def SI (D : SH) (lv : Int → Nat) (FF : MM) (RR : RU → Prop) (sl t : Nat) (w : World) (N : Nat) (ρ c : Nat → Nat) (L : Nat → List Nat) : Prop :=
  WfS w ∧ SA w = D ∧ AMod w t N ρ c L ∧ VCs w N ρ c ∧ VV (w 104) ∧ Snd D lv FF RR (AM N ρ c) sl ∧ ∀ x, x < N → lv (ρ x) ≤ sl
/-- .. what it has become -/
def Evo (D : SH) (lv : Int → Nat) (sl t : Nat) (rd : Int) (w : World) (N : Nat) (ρ c : Nat → Nat) (w' : World) (N' : Nat) (ρ' c' : Nat → Nat) : Prop :=
  (∀ c0, ¬ (t ≤ c0 ∧ c0 ≤ t + 4) → ¬ (103 ≤ c0 ∧ c0 ≤ 106) → w' c0 = w c0) ∧ N ≤ N' ∧ (∀ x, x < N → ρ' x = ρ x ∧ le D (ρ x) (c x) (c' x)) ∧ (∀ q k, lv q ≠ sl → (AM N' ρ' c' q k ↔ AM N ρ c q k)) ∧ (∀ x, w' (t + 4) x = rd ∨ (w' (t + 4) x = w (t + 4) x ∧ (x < N → c' x = c x))) ∧ (∀ x, N ≤ x → x < N' → w' (t + 4) x = rd) ∧ ∀ x, x < N → lv (ρ x) ≠ sl → w' (t + 4) x = w (t + 4) x
/-- too many tuples: every closed set has more than 48 -/
def OvB (D : SH) (lv : Int → Nat) (FF : MM) (RR : RU → Prop) (sl : Nat) (M : MM) : Prop :=
  ∀ M', OkM D M' → Agb lv sl M M' → (∀ s, Closed D lv FF RR M' s) → ∃ l : List (Int × Nat), l.Nodup ∧ l.length = 49 ∧ ∀ x, x ∈ l → M' x.1 x.2
theorem Evo.refl {D : SH} {lv : Int → Nat} {sl t N : Nat} {rd : Int} {w : World} {ρ c : Nat → Nat} : Evo D lv sl t rd w N ρ c w N ρ c :=
  ⟨fun _ _ _ => rfl, Nat.le_refl _, fun _ _ => ⟨rfl, le_rfl⟩, fun _ _ _ => Iff.rfl, fun _ => Or.inr ⟨rfl, fun _ => rfl⟩, fun x h h' => absurd h' (by omega), fun _ _ _ => rfl⟩
theorem Evo.trans {D : SH} {lv : Int → Nat} {sl t N N' N'' : Nat} {rd : Int} {w w' w'' : World} {ρ c ρ' c' ρ'' c'' : Nat → Nat} (h : Evo D lv sl t rd w N ρ c w' N' ρ' c') (h' : Evo D lv sl t rd w' N' ρ' c' w'' N'' ρ'' c'') : Evo D lv sl t rd w N ρ c w'' N'' ρ'' c'' := by
  obtain ⟨a1, a2, a3, a4, a5, a6, a7⟩ := h
  obtain ⟨b1, b2, b3, b4, b5, b6, b7⟩ := h'
  refine ⟨fun c0 h1 h2 => (b1 c0 h1 h2).trans (a1 c0 h1 h2), by omega, fun x hx => ?_, fun q k hq => (b4 q k hq).trans (a4 q k hq), fun x => ?_, fun x h1 h2 => ?_, fun x hx hq => (b7 x (by omega) (by rw [(a3 x hx).1]; exact hq)).trans (a7 x hx hq)⟩
  · have p := a3 x hx
    have q := b3 x (by omega)
    rw [p.1] at q
    exact ⟨q.1, le_trans' p.2 q.2⟩
  · rcases b5 x with q | ⟨q, q2⟩
    · exact Or.inl q
    · rcases a5 x with p | ⟨p, p2⟩
      · exact Or.inl (q.trans p)
      · exact Or.inr ⟨q.trans p, fun hx => (q2 (by omega)).trans (p2 hx)⟩
  · by_cases hx : x < N'
    · have p := a6 x h1 hx
      rcases b5 x with q | ⟨q, q2⟩
      · exact q
      · exact q.trans p
    · exact b6 x (by omega) h2
theorem Evo.Ph {D : SH} {lv : Int → Nat} {sl t N N' : Nat} {rd : Int} {w w' : World} {ρ c ρ' c' : Nat → Nat} (hD : WfD D) (h : Evo D lv sl t rd w N ρ c w' N' ρ' c') : Ph D ρ c N ≤ Ph D ρ' c' N' := Nat.le_trans (Ph_le0 hD N h.2.2.1) (Ph_mono h.2.1)
/-- what is covered stays so -/
theorem Evo.cov {D : SH} {lv : Int → Nat} {sl t N N' : Nat} {rd : Int} {w w' : World} {ρ c ρ' c' : Nat → Nat} (h : Evo D lv sl t rd w N ρ c w' N' ρ' c') {r : Int} {k : Nat} (hk : AM N ρ c r k) : ∃ k', AM N' ρ' c' r k' ∧ le D r k k' := by
  obtain ⟨x, hx, rfl, rfl⟩ := hk
  have := h.2.2.1 x hx
  exact ⟨c' x, ⟨x, Nat.lt_of_lt_of_le hx h.2.1, by rw [this.1], rfl⟩, this.2⟩
theorem nodup_map {α β : Type} {f : α → β} : ∀ {l : List α}, l.Nodup → (∀ x y, x ∈ l → y ∈ l → f x = f y → x = y) → (l.map f).Nodup := by
  intro l
  induction l with
  | nil => intro _ _; exact List.nodup_nil
  | cons a l ih =>
    intro h hf
    have h' := List.nodup_cons.mp h
    refine List.nodup_cons.mpr ⟨fun hm => ?_, ih h'.2 (fun x y hx hy => hf x y (List.mem_cons_of_mem _ hx) (List.mem_cons_of_mem _ hy))⟩
    obtain ⟨y, hy, e⟩ := List.mem_map.mp hm
    have := hf y a (List.mem_cons_of_mem _ hy) List.mem_cons_self e
    exact h'.1 (this ▸ hy)
theorem take_step {D : SH} {lv : Int → Nat} {FF : MM} {RR : RU → Prop} {sl t N r m : Nat} {w : World} {ρ c : Nat → Nat} {L : Nat → List Nat} {rd : Int} (hSI : SI D lv FF RR sl t w N ρ c L) (hkt : kdA t = 6) (hr : r < 10) (hlv : lv r = sl) (hd : 1 ≤ w 3 r) (hm : m < 2097152) (hVm : Vc w r m)
    (hso : ∀ M', OkM D M' → Agb lv sl (AM N ρ c) M' → Closed D lv FF RR M' sl → ∃ k, M' (r : Int) k ∧ le D r m k) :
    ∃ w' ch N' ρ' c' L' n, f_Mo_take w t (r : Int) (m : Int) rd = some (w', ch) ∧ FrM t w w' ∧ SI D lv FF RR sl t w' N' ρ' c' L' ∧ Evo D lv sl t rd w N ρ c w' N' ρ' c' ∧ (∀ q, Ins n (L q) (L' q)) ∧ (∀ q, L' q ≠ L q → N + 1 ≤ N') ∧ (∀ q k, q ≠ (r : Int) → (AM N' ρ' c' q k ↔ AM N ρ c q k)) ∧ (ch = 0 ∨ (ch = 1 ∧ Ph D ρ c N < Ph D ρ' c' N')) ∧
      (ch = 0 → N' = N ∧ ρ' = ρ ∧ c' = c ∧ L' = L ∧ w' (t + 4) = w (t + 4)) ∧ (w' t 2 = 0 → ∃ k, AM N' ρ' c' (r : Int) k ∧ le D r m k) ∧ (w t 2 = 0 → w' t 2 ≠ 0 → w' t 2 = 1 ∧ OvB D lv FF RR sl (AM N' ρ' c')) ∧ (w t 2 = 1 → w' t 2 = 1) := by
  obtain ⟨hS, hD, hA, hV, hVV, hSn, hlvl⟩ := hSI
  have h6 := kd6 hkt
  obtain ⟨w', ch, N', ρ', c', L', he, hF, hA', hT⟩ := take_n (rd := rd) (show 98 ≤ t by omega) hS hA hr hd hm
  have hle := take_le hS hA hr hd hm hT
  have e3 : w' 3 = w 3 := funext (hF 3 (by omega))
  have e104 : w' 104 = w 104 := funext (hF 104 (by omega))
  have hSA : SA w' = SA w := SA_congr (fun c a b k => hF c (by omega) k)
  have hag : ∀ M', Agb lv sl (AM N' ρ' c') M' → Agb lv sl (AM N ρ c) M' := fun M' h q k hq => (take_oth hT (show q ≠ (r : Int) from fun e => by rw [e, hlv] at hq; omega) k).symm.trans (h q k hq)
  refine ⟨w', ch, N', ρ', c', L', N, he, hF, ⟨WfS_congr (fun c a b k => hF c (by omega) k) hS, hSA.trans hD, hA', take_Vc e3 hV hVm hT, by rw [e104]; exact hVV, ?_, ?_⟩, ⟨fun c0 h1 h2 => funext (hF c0 h1), hle.1, by rw [← hD]; exact hle.2, fun q k hq => take_oth hT (fun e => hq (by rw [e]; exact hlv)) k, ?_, ?_, ?_⟩, ?_, ?_, fun q k hq => take_oth hT hq k, ?_, ?_, ?_, ?_, ?_⟩
  · intro M' hO hg hC r' k hr' hk
    by_cases e : r' = (r : Int)
    · subst e
      have := take_snd hS hA hr hd hm hT (M' := M') (by rw [hD]; exact hO) (by rw [hD]; exact fun k hk => hSn M' hO (hag M' hg) hC _ k hr' hk) (by rw [hD]; exact hso M' hO (hag M' hg) hC) k hk
      rw [hD] at this
      exact this
    · exact hSn M' hO (hag M' hg) hC r' k hr' ((take_oth hT e k).mp hk)
  · intro x hx
    by_cases q : x < N
    · rw [(hle.2 x q).1]; exact hlvl x q
    · rcases hT with ⟨x0, hx0, hρ, hz, hj, rfl, rfl, rfl, rfl, rfl, rfl⟩ | ⟨x0, hx0, hρ, hz, hj, rfl, rfl, rfl, rfl, rfl, -⟩ | ⟨h48, hz, rfl, rfl, rfl, rfl, rfl, rfl⟩ | ⟨h48, hz, rfl, rfl, rfl, rfl, -, -, -⟩
      · exact absurd hx q
      · exact absurd hx q
      · exact absurd hx q
      · have : x = N := by omega
        rw [this, upn_eq, hlv]; exact Nat.le_refl _
  · intro x
    rcases hT with ⟨x0, hx0, hρ, hz, hj, rfl, rfl, rfl, rfl, rfl, rfl⟩ | ⟨x0, hx0, hρ, hz, hj, rfl, rfl, rfl, rfl, rfl, hk0, hk1, hk2, hk4⟩ | ⟨h48, hz, rfl, rfl, rfl, rfl, rfl, rfl⟩ | ⟨h48, hz, rfl, rfl, rfl, rfl, hl, hk0, hk4⟩
    · exact Or.inr ⟨rfl, fun _ => rfl⟩
    · by_cases q : x = x0
      · exact Or.inl (by rw [hk4, if_pos q])
      · exact Or.inr ⟨by rw [hk4, if_neg q], fun _ => upn_ne q⟩
    · exact Or.inr ⟨by simp [up], fun _ => rfl⟩
    · by_cases q : x = N
      · exact Or.inl (by rw [hk4, if_pos q])
      · exact Or.inr ⟨by rw [hk4, if_neg q], fun _ => upn_ne q⟩
  · intro x h1 h2
    rcases hT with ⟨x0, hx0, hρ, hz, hj, rfl, rfl, rfl, rfl, rfl, rfl⟩ | ⟨x0, hx0, hρ, hz, hj, rfl, rfl, rfl, rfl, rfl, -⟩ | ⟨h48, hz, rfl, rfl, rfl, rfl, rfl, rfl⟩ | ⟨h48, hz, rfl, rfl, rfl, rfl, hl, hk0, hk4⟩
    · omega
    · omega
    · omega
    · rw [hk4, if_pos (by omega)]
  · intro x hx hq
    rcases hT with ⟨x0, hx0, hρ, hz, hj, rfl, rfl, rfl, rfl, rfl, rfl⟩ | ⟨x0, hx0, hρ, hz, hj, rfl, rfl, rfl, rfl, rfl, hk0, hk1, hk2, hk4⟩ | ⟨h48, hz, rfl, rfl, rfl, rfl, rfl, rfl⟩ | ⟨h48, hz, rfl, rfl, rfl, rfl, hl, hk0, hk4⟩
    · rfl
    · rw [hk4, if_neg (fun e => hq (by rw [e, hρ]; exact hlv))]
    · simp [up]
    · rw [hk4, if_neg (by omega)]
  · intro q
    rcases hT with ⟨x0, hx0, hρ, hz, hj, rfl, rfl, rfl, rfl, rfl, rfl⟩ | ⟨x0, hx0, hρ, hz, hj, rfl, rfl, rfl, rfl, rfl, -⟩ | ⟨h48, hz, rfl, rfl, rfl, rfl, rfl, rfl⟩ | ⟨h48, hz, rfl, rfl, rfl, rfl, ⟨l1, l2, hl1, hl2⟩, hk0, hk4⟩
    · exact Or.inl rfl
    · exact Or.inl rfl
    · exact Or.inl rfl
    · rw [hl2]
      by_cases e : q = r
      · subst e
        rw [upn_eq]
        exact Or.inr ⟨l1, l2, hl1, rfl⟩
      · rw [upn_ne e]
        exact Or.inl rfl
  · intro q hq
    rcases hT with ⟨x0, hx0, hρ, hz, hj, rfl, rfl, rfl, rfl, rfl, rfl⟩ | ⟨x0, hx0, hρ, hz, hj, rfl, rfl, rfl, rfl, rfl, -⟩ | ⟨h48, hz, rfl, rfl, rfl, rfl, rfl, rfl⟩ | ⟨h48, hz, rfl, rfl, rfl, rfl, hl, hk0, hk4⟩
    · exact absurd rfl hq
    · exact absurd rfl hq
    · exact absurd rfl hq
    · exact Nat.le_refl _
  · have hDD : WfD D := hD ▸ hS.D
    have hle' : ∀ x, x < N → ρ' x = ρ x ∧ le D (ρ x) (c x) (c' x) := by rw [← hD]; exact hle.2
    rcases hT with ⟨x0, hx0, hρ, hz, hj, h1, h2, -⟩ | ⟨x0, hx0, hρ, hz, hj, h1, hn', hρ', hc', -⟩ | ⟨h48, hz, h1, h2, -⟩ | ⟨h48, hz, h1, hn', -⟩
    · exact Or.inl h2
    · refine Or.inr ⟨h1, ?_⟩
      have hsx := hA.2.2.2.2.1 x0 hx0
      have hsx' := hA'.2.2.2.2.1 x0 (by omega)
      have h3 := (hle' x0 hx0).2
      have hco : 1 ≤ D.co (ρ x0 : Int) := by
        rw [← hD, SA_co hsx.1]
        have := hsx.2.2.2
        omega
      rw [hn']
      refine Ph_lt0 hDD N hle' ⟨x0, hx0, fun e => ?_⟩
      have e2 : c x0 = c' x0 := le_anti hDD hco hsx.2.2.1 hsx'.2.2.1 h3 ⟨h3.1.symm, by rw [← e]; exact lastle_rfl⟩
      rw [hc', upn_eq] at e2
      exact hj e2.symm
    · exact Or.inl h2
    · refine Or.inr ⟨h1, ?_⟩
      have h4 := Ph_le0 hDD N hle'
      rw [hn']
      show _ < Ph D ρ' c' N + (1 + _)
      omega
  · intro h0
    rcases hT with ⟨x0, hx0, hρ, hz, hj, rfl, h2, rfl, rfl, rfl, rfl⟩ | ⟨x0, hx0, hρ, hz, hj, h1, -⟩ | ⟨h48, hz, rfl, h2, rfl, rfl, rfl, rfl⟩ | ⟨h48, hz, h1, -⟩
    · exact ⟨rfl, rfl, rfl, rfl, rfl⟩
    · rw [h1] at h0; cases h0
    · exact ⟨rfl, rfl, rfl, rfl, by funext k; simp [up]⟩
    · rw [h1] at h0; cases h0
  · intro h0
    have := take_has hS hA hr hd hm hT h0
    rw [hD] at this
    exact this
  · intro ho h0
    have hcase : N = 48 ∧ (∀ x, x < N → ρ x = r → kz ((SA w).kq r) (c x) ≠ kz ((SA w).kq r) m) ∧ w' = up w t 2 1 ∧ N' = N ∧ ρ' = ρ ∧ c' = c := by
      rcases hT with ⟨x0, hx0, hρ, hz, hj, rfl, h2, rfl, rfl, rfl, rfl⟩ | ⟨x0, hx0, hρ, hz, hj, h1, h2, h3, h4, h5, h7, -⟩ | ⟨h48, hz, h1, h2, h3, h4, h5, -⟩ | ⟨h48, hz, h1, h2, h3, h4, h5, h7, -⟩
      · exact absurd ho h0
      · rw [h7] at h0; exact absurd ho h0
      · exact ⟨h48, hz, h1, h3, h4, h5⟩
      · rw [h7 2 (by omega)] at h0; exact absurd ho h0
    obtain ⟨h48, hz, hw, e1, e2, e3'⟩ := hcase
    refine ⟨by rw [hw]; simp [up], ?_⟩
    rw [e1, e2, e3']
    intro M' hO hg hC
    -- what M' has for a slot
    have hsel : ∀ x, x < N → ∃ k, M' (ρ x : Int) k ∧ le D (ρ x) (c x) k := fun x hx => by
      by_cases q : lv (ρ x : Int) < sl
      · exact ⟨c x, (hg _ _ q).mp ⟨x, hx, rfl, rfl⟩, le_rfl⟩
      · have := hlvl x hx
        exact hSn M' hO hg (hC sl) _ _ (by omega) ⟨x, hx, rfl, rfl⟩
    obtain ⟨k0, hk0, hl0⟩ := hso M' hO hg (hC sl)
    have hf : ∃ f : Nat → Nat, ∀ x, x < N → M' (ρ x : Int) (f x) ∧ le D (ρ x) (c x) (f x) := by
      classical
      exact ⟨fun x => if h : x < N then (hsel x h).choose else 0, fun x hx => by
        show M' (ρ x : Int) (if h : x < N then (hsel x h).choose else 0) ∧ le D (ρ x) (c x) (if h : x < N then (hsel x h).choose else 0)
        rw [dif_pos hx]; exact (hsel x hx).choose_spec⟩
    obtain ⟨f, hf⟩ := hf
    refine ⟨((r : Int), k0) :: (List.range 48).map (fun x => ((ρ x : Int), f x)), ?_, by simp, ?_⟩
    · refine List.nodup_cons.mpr ⟨fun hmem => ?_, nodup_map List.nodup_range (fun x y hx hy e => ?_)⟩
      · obtain ⟨x, hx, e⟩ := List.mem_map.mp hmem
        have hx := List.mem_range.mp hx
        injection e with p1 p2
        have hρx : ρ x = r := by omega
        have h1 := (hf x (by omega)).2.1
        have h2 := hz x (by omega) hρx
        rw [hρx, p2, ← hl0.1] at h1
        rw [hD] at h2
        exact h2 h1
      · have hx := List.mem_range.mp hx
        have hy := List.mem_range.mp hy
        injection e with p1 p2
        refine Classical.byContradiction fun hne => ?_
        have hρ : ρ y = ρ x := by omega
        have h1 := (hf x (by omega)).2.1
        have h2 := (hf y (by omega)).2.1
        have h3 := AMod_key hA (show x < N by omega) (show y < N by omega) hρ hne
        rw [hD] at h3
        rw [hρ] at h2
        exact h3 (by rw [h1, h2, p2])
    · intro x hx
      rcases List.mem_cons.mp hx with q | q
      · rw [q]; exact hk0
      · obtain ⟨y, hy, e⟩ := List.mem_map.mp q
        have hy := List.mem_range.mp hy
        rw [← e]
        exact (hf y (by omega)).1
  · intro h1
    rcases hT with ⟨x0, hx0, hρ, hz, hj, rfl, h2, rfl, rfl, rfl, rfl⟩ | ⟨x0, hx0, hρ, hz, hj, h2, h3, h4, h5, h6', h7, -⟩ | ⟨h48, hz, h2, -⟩ | ⟨h48, hz, h2, h3, h4, h5, h6', h7, -⟩
    · exact h1
    · rw [h7]; exact h1
    · rw [h2]; simp [up]
    · rw [h7 2 (by omega)]; exact h1
