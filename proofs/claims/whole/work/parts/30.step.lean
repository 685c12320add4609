/-! WHAT IS OWED for each call, in the functions alone -/
def fS_open (R : jWd → Prop) : Prop := ∀ (w : jWd) (a0 : Int32) (a1 : Int32) (a2 : Int32) (a3 : Int32), R w → ∃ (v : Int32) (w1 w2 : jWd), fX11_open a0 a1 a2 a3 w = some (v, w1) ∧ fX12_open a0 a1 a2 a3 w1 = some (v, w2) ∧ R w2
theorem f_open {R : jWd → Prop} (h : fS_open R) : jS_open R := by
  intro w a0 a1 a2 a3 hw
  obtain ⟨v, w1, w2, h1, h2, h3⟩ := h w a0 a1 a2 a3 hw
  exact ⟨v, w1, w2, tX11_open h1, tX12_open h2, h3⟩
def fS_line (R : jWd → Prop) : Prop := ∀ (w : jWd) (a0 : Int32) (a1 : Int32) (a2 : Int32) (a3 : Int64), R w → ∃ (n : Nat) (v : Int32) (w1 w2 : jWd), fX11_line n a0 a1 a2 a3 w = some (v, w1) ∧ fX12_line n a0 a1 a2 a3 w1 = some (v, w2) ∧ R w2
theorem f_line {R : jWd → Prop} (h : fS_line R) : jS_line R := by
  intro w a0 a1 a2 a3 hw
  obtain ⟨n, v, w1, w2, h1, h2, h3⟩ := h w a0 a1 a2 a3 hw
  exact ⟨v, w1, w2, tX11_line h1, tX12_line h2, h3⟩
def fS_print (R : jWd → Prop) : Prop := ∀ (w : jWd) (a0 : Int32), R w → ∃ (v : Int32) (w1 w2 : jWd), fX11_print a0 w = some (v, w1) ∧ fX12_print a0 w1 = some (v, w2) ∧ R w2
theorem f_print {R : jWd → Prop} (h : fS_print R) : jS_print R := by
  intro w a0 hw
  obtain ⟨v, w1, w2, h1, h2, h3⟩ := h w a0 hw
  exact ⟨v, w1, w2, tX11_print h1, tX12_print h2, h3⟩
def fS_bounds (R : jWd → Prop) : Prop := ∀ (w : jWd) (a0 : Int32) (a1 : Int32), R w → ∃ (v : Int32) (w1 w2 : jWd), fX11_bounds a0 a1 w = some (v, w1) ∧ fX12_bounds a0 a1 w1 = some (v, w2) ∧ R w2
theorem f_bounds {R : jWd → Prop} (h : fS_bounds R) : jS_bounds R := by
  intro w a0 a1 hw
  obtain ⟨v, w1, w2, h1, h2, h3⟩ := h w a0 a1 hw
  exact ⟨v, w1, w2, tX11_bounds h1, tX12_bounds h2, h3⟩
def fS_words (R : jWd → Prop) : Prop := ∀ (w : jWd) (a0 : Int32) (a1 : Int32) (a2 : Int32), R w → ∃ (v : Int64) (w1 w2 : jWd), fX11_words a0 a1 a2 w = some (v, w1) ∧ fX12_words a0 a1 a2 w1 = some (v, w2) ∧ R w2
theorem f_words {R : jWd → Prop} (h : fS_words R) : jS_words R := by
  intro w a0 a1 a2 hw
  obtain ⟨v, w1, w2, h1, h2, h3⟩ := h w a0 a1 a2 hw
  exact ⟨v, w1, w2, tX11_words h1, tX12_words h2, h3⟩
def fS_like (R : jWd → Prop) : Prop := ∀ (w : jWd) (a0 : Int64) (a1 : Int64), R w → ∃ (n : Nat) (v : Int32) (w1 w2 : jWd), fX11_like n a0 a1 w = some (v, w1) ∧ fX12_like n a0 a1 w1 = some (v, w2) ∧ R w2
theorem f_like {R : jWd → Prop} (h : fS_like R) : jS_like R := by
  intro w a0 a1 hw
  obtain ⟨n, v, w1, w2, h1, h2, h3⟩ := h w a0 a1 hw
  exact ⟨v, w1, w2, tX11_like h1, tX12_like h2, h3⟩
def fS_feed (R : jWd → Prop) : Prop := ∀ (w : jWd) (a0 : Int32) (a1 : Int32) (a2 : Int32) (a3 : Int32) (a4 : Int32), R w → ∃ (n : Nat) (v : Int32) (w1 w2 : jWd), fX11_feed n a0 a1 a2 a3 a4 w = some (v, w1) ∧ fX12_feed n a0 a1 a2 a3 a4 w1 = some (v, w2) ∧ R w2
theorem f_feed {R : jWd → Prop} (h : fS_feed R) : jS_feed R := by
  intro w a0 a1 a2 a3 a4 hw
  obtain ⟨n, v, w1, w2, h1, h2, h3⟩ := h w a0 a1 a2 a3 a4 hw
  exact ⟨v, w1, w2, tX11_feed h1, tX12_feed h2, h3⟩
def fS_text (R : jWd → Prop) : Prop := ∀ (w : jWd) (a0 : Int32) (a1 : Int32), R w → ∃ (n : Nat) (v : Int32) (w1 w2 : jWd), fX11_text n a0 a1 w = some (v, w1) ∧ fX12_text n a0 a1 w1 = some (v, w2) ∧ R w2
theorem f_text {R : jWd → Prop} (h : fS_text R) : jS_text R := by
  intro w a0 a1 hw
  obtain ⟨n, v, w1, w2, h1, h2, h3⟩ := h w a0 a1 hw
  exact ⟨v, w1, w2, tX11_text h1, tX12_text h2, h3⟩
def fS_fault (R : jWd → Prop) : Prop := ∀ (w : jWd) (a0 : Int32), R w → ∃ (v : Int32) (w1 w2 : jWd), (fX11_fault a0 w = v ∧ w1 = w) ∧ fX12_fault a0 w1 = some (v, w2) ∧ R w2
theorem f_fault {R : jWd → Prop} (h : fS_fault R) : jS_fault R := by
  intro w a0 hw
  obtain ⟨v, w1, w2, ⟨h1, e1⟩, h2, h3⟩ := h w a0 hw
  subst e1
  refine ⟨v, w1, w2, h1 ▸ tX11_fault, tX12_fault h2, h3⟩
def fS_smoothed (R : jWd → Prop) : Prop := ∀ (w : jWd) (a0 : Int64) (a1 : Int32), R w → ∃ (n : Nat) (v : Int64) (w1 w2 : jWd), fX11_smoothed n a0 a1 w = some (v, w1) ∧ fX12_smoothed n a0 a1 w1 = some (v, w2) ∧ R w2
theorem f_smoothed {R : jWd → Prop} (h : fS_smoothed R) : jS_smoothed R := by
  intro w a0 a1 hw
  obtain ⟨n, v, w1, w2, h1, h2, h3⟩ := h w a0 a1 hw
  exact ⟨v, w1, w2, tX11_smoothed h1, tX12_smoothed h2, h3⟩
def fS_told (R : jWd → Prop) : Prop := ∀ (w : jWd) (a0 : Int32) (a1 : Int32) (a2 : Int32) (a3 : Int32), R w → ∃ (n : Nat) (v : Int32) (w1 w2 : jWd), fX11_told n a0 a1 a2 a3 w = some (v, w1) ∧ fX12_told n a0 a1 a2 a3 w1 = some (v, w2) ∧ R w2
theorem f_told {R : jWd → Prop} (h : fS_told R) : jS_told R := by
  intro w a0 a1 a2 a3 hw
  obtain ⟨n, v, w1, w2, h1, h2, h3⟩ := h w a0 a1 a2 a3 hw
  exact ⟨v, w1, w2, tX11_told h1, tX12_told h2, h3⟩
def fS_whose (R : jWd → Prop) : Prop := ∀ (w : jWd) (a0 : Int32) (a1 : Int32), R w → ∃ (n : Nat) (v : Int32) (w1 w2 : jWd), fX11_whose n a0 a1 w = some (v, w1) ∧ fX12_whose n a0 a1 w1 = some (v, w2) ∧ R w2
theorem f_whose {R : jWd → Prop} (h : fS_whose R) : jS_whose R := by
  intro w a0 a1 hw
  obtain ⟨n, v, w1, w2, h1, h2, h3⟩ := h w a0 a1 hw
  exact ⟨v, w1, w2, tX11_whose h1, tX12_whose h2, h3⟩
def fS_late (R : jWd → Prop) : Prop := ∀ (w : jWd) (a0 : Int32) (a1 : Int32), R w → ∃ (n : Nat) (v : Int32) (w1 w2 : jWd), fX11_late n a0 a1 w = some (v, w1) ∧ fX12_late n a0 a1 w1 = some (v, w2) ∧ R w2
theorem f_late {R : jWd → Prop} (h : fS_late R) : jS_late R := by
  intro w a0 a1 hw
  obtain ⟨n, v, w1, w2, h1, h2, h3⟩ := h w a0 a1 hw
  exact ⟨v, w1, w2, tX11_late h1, tX12_late h2, h3⟩
def fS_share (R : jWd → Prop) : Prop := ∀ (w : jWd) (a0 : Int32) (a1 : Int32), R w → ∃ (n : Nat) (v : Int32) (w1 w2 : jWd), fX11_share n a0 a1 w = some (v, w1) ∧ fX12_share n a0 a1 w1 = some (v, w2) ∧ R w2
theorem f_share {R : jWd → Prop} (h : fS_share R) : jS_share R := by
  intro w a0 a1 hw
  obtain ⟨n, v, w1, w2, h1, h2, h3⟩ := h w a0 a1 hw
  exact ⟨v, w1, w2, tX11_share h1, tX12_share h2, h3⟩
def fS_span (R : jWd → Prop) : Prop := ∀ (w : jWd) (a0 : Int32), R w → ∃ (n : Nat) (v : Int32) (w1 w2 : jWd), fX11_span n a0 w = some (v, w1) ∧ fX12_span n a0 w1 = some (v, w2) ∧ R w2
theorem f_span {R : jWd → Prop} (h : fS_span R) : jS_span R := by
  intro w a0 hw
  obtain ⟨n, v, w1, w2, h1, h2, h3⟩ := h w a0 hw
  exact ⟨v, w1, w2, tX11_span h1, tX12_span h2, h3⟩
def fS_chance (R : jWd → Prop) : Prop := ∀ (w : jWd) (a0 : Int32) (a1 : Int32), R w → ∃ (n : Nat) (v : Int32) (w1 w2 : jWd), fX11_chance n a0 a1 w = some (v, w1) ∧ fX12_chance n a0 a1 w1 = some (v, w2) ∧ R w2
theorem f_chance {R : jWd → Prop} (h : fS_chance R) : jS_chance R := by
  intro w a0 a1 hw
  obtain ⟨n, v, w1, w2, h1, h2, h3⟩ := h w a0 a1 hw
  exact ⟨v, w1, w2, tX11_chance h1, tX12_chance h2, h3⟩
def fS_odds (R : jWd → Prop) : Prop := ∀ (w : jWd) (a0 : Int32) (a1 : Int32), R w → ∃ (n : Nat) (v : Int64) (w1 w2 : jWd), fX11_odds n a0 a1 w = some (v, w1) ∧ fX12_odds n a0 a1 w1 = some (v, w2) ∧ R w2
theorem f_odds {R : jWd → Prop} (h : fS_odds R) : jS_odds R := by
  intro w a0 a1 hw
  obtain ⟨n, v, w1, w2, h1, h2, h3⟩ := h w a0 a1 hw
  exact ⟨v, w1, w2, tX11_odds h1, tX12_odds h2, h3⟩
def fS_matches (R : jWd → Prop) : Prop := ∀ (w : jWd) (a0 : Int32) (a1 : Int32), R w → ∃ (n : Nat) (v : Int32) (w1 w2 : jWd), fX11_matches n a0 a1 w = some (v, w1) ∧ fX12_matches n a0 a1 w1 = some (v, w2) ∧ R w2
theorem f_matches {R : jWd → Prop} (h : fS_matches R) : jS_matches R := by
  intro w a0 a1 hw
  obtain ⟨n, v, w1, w2, h1, h2, h3⟩ := h w a0 a1 hw
  exact ⟨v, w1, w2, tX11_matches h1, tX12_matches h2, h3⟩
def fS_most (R : jWd → Prop) : Prop := ∀ (w : jWd) (a0 : Int32) (a1 : Int32), R w → ∃ (n : Nat) (v : Int32) (w1 w2 : jWd), fX11_most n a0 a1 w = some (v, w1) ∧ fX12_most n a0 a1 w1 = some (v, w2) ∧ R w2
theorem f_most {R : jWd → Prop} (h : fS_most R) : jS_most R := by
  intro w a0 a1 hw
  obtain ⟨n, v, w1, w2, h1, h2, h3⟩ := h w a0 a1 hw
  exact ⟨v, w1, w2, tX11_most h1, tX12_most h2, h3⟩
def fS_adds (R : jWd → Prop) : Prop := ∀ (w : jWd) (a0 : Int32) (a1 : Int32), R w → ∃ (n : Nat) (v : Int32) (w1 w2 : jWd), fX11_adds n a0 a1 w = some (v, w1) ∧ fX12_adds n a0 a1 w1 = some (v, w2) ∧ R w2
theorem f_adds {R : jWd → Prop} (h : fS_adds R) : jS_adds R := by
  intro w a0 a1 hw
  obtain ⟨n, v, w1, w2, h1, h2, h3⟩ := h w a0 a1 hw
  exact ⟨v, w1, w2, tX11_adds h1, tX12_adds h2, h3⟩
def fS_added (R : jWd → Prop) : Prop := ∀ (w : jWd) (a0 : Int32) (a1 : Int32) (a2 : Int32), R w → ∃ (n : Nat) (v : Int32) (w1 w2 : jWd), fX11_added n a0 a1 a2 w = some (v, w1) ∧ fX12_added n a0 a1 a2 w1 = some (v, w2) ∧ R w2
theorem f_added {R : jWd → Prop} (h : fS_added R) : jS_added R := by
  intro w a0 a1 a2 hw
  obtain ⟨n, v, w1, w2, h1, h2, h3⟩ := h w a0 a1 a2 hw
  exact ⟨v, w1, w2, tX11_added h1, tX12_added h2, h3⟩
def fS_year (R : jWd → Prop) : Prop := ∀ (w : jWd) (a0 : Int32) (a1 : Int32), R w → ∃ (v : Int32) (w1 w2 : jWd), fX11_year a0 a1 w = some (v, w1) ∧ fX12_year a0 a1 w1 = some (v, w2) ∧ R w2
theorem f_year {R : jWd → Prop} (h : fS_year R) : jS_year R := by
  intro w a0 a1 hw
  obtain ⟨v, w1, w2, h1, h2, h3⟩ := h w a0 a1 hw
  exact ⟨v, w1, w2, tX11_year h1, tX12_year h2, h3⟩
def fS_version (R : jWd → Prop) : Prop := ∀ (w : jWd) (a0 : Int64) (a1 : Int64) (a2 : Int32) (a3 : Int32), R w → ∃ (n : Nat) (v : Int32) (w1 w2 : jWd), fX11_version n a0 a1 a2 a3 w = some (v, w1) ∧ fX12_version n a0 a1 a2 a3 w1 = some (v, w2) ∧ R w2
theorem f_version {R : jWd → Prop} (h : fS_version R) : jS_version R := by
  intro w a0 a1 a2 a3 hw
  obtain ⟨n, v, w1, w2, h1, h2, h3⟩ := h w a0 a1 a2 a3 hw
  exact ⟨v, w1, w2, tX11_version h1, tX12_version h2, h3⟩
def fS_which (R : jWd → Prop) : Prop := ∀ (w : jWd) (a0 : Int32), R w → ∃ (n : Nat) (v : Int32) (w1 w2 : jWd), fX11_which n a0 w = some (v, w1) ∧ fX12_which n a0 w1 = some (v, w2) ∧ R w2
theorem f_which {R : jWd → Prop} (h : fS_which R) : jS_which R := by
  intro w a0 hw
  obtain ⟨n, v, w1, w2, h1, h2, h3⟩ := h w a0 hw
  exact ⟨v, w1, w2, tX11_which h1, tX12_which h2, h3⟩
def fS_answer (R : jWd → Prop) : Prop := ∀ (w : jWd) (a0 : Int32) (a1 : Int32) (a2 : Int32) (a3 : Int32) (a4 : Int32) (a5 : Int64), R w → ∃ (n : Nat) (v : Int32) (w1 w2 : jWd), fX11_answer n a0 a1 a2 a3 a4 a5 w = some (v, w1) ∧ fX12_answer n a0 a1 a2 a3 a4 a5 w1 = some (v, w2) ∧ R w2
theorem f_answer {R : jWd → Prop} (h : fS_answer R) : jS_answer R := by
  intro w a0 a1 a2 a3 a4 a5 hw
  obtain ⟨n, v, w1, w2, h1, h2, h3⟩ := h w a0 a1 a2 a3 a4 a5 hw
  exact ⟨v, w1, w2, tX11_answer h1, tX12_answer h2, h3⟩
def fS_back (R : jWd → Prop) : Prop := ∀ (w : jWd) (a0 : Int32), R w → ∃ (n : Nat) (v : Int32) (w1 w2 : jWd), fX11_back n a0 w = some (v, w1) ∧ fX12_back n a0 w1 = some (v, w2) ∧ R w2
theorem f_back {R : jWd → Prop} (h : fS_back R) : jS_back R := by
  intro w a0 hw
  obtain ⟨n, v, w1, w2, h1, h2, h3⟩ := h w a0 hw
  exact ⟨v, w1, w2, tX11_back h1, tX12_back h2, h3⟩
def fS_backOdds (R : jWd → Prop) : Prop := ∀ (w : jWd) (a0 : Int32) (a1 : Int32), R w → ∃ (n : Nat) (v : Int32) (w1 w2 : jWd), fX11_backOdds n a0 a1 w = some (v, w1) ∧ fX12_backOdds n a0 a1 w1 = some (v, w2) ∧ R w2
theorem f_backOdds {R : jWd → Prop} (h : fS_backOdds R) : jS_backOdds R := by
  intro w a0 a1 hw
  obtain ⟨n, v, w1, w2, h1, h2, h3⟩ := h w a0 a1 hw
  exact ⟨v, w1, w2, tX11_backOdds h1, tX12_backOdds h2, h3⟩
def fS_parted (R : jWd → Prop) : Prop := ∀ (w : jWd) (a0 : Int32) (a1 : Int32), R w → ∃ (n : Nat) (v : Int32) (w1 w2 : jWd), fX11_parted n a0 a1 w = some (v, w1) ∧ fX12_parted n a0 a1 w1 = some (v, w2) ∧ R w2
theorem f_parted {R : jWd → Prop} (h : fS_parted R) : jS_parted R := by
  intro w a0 a1 hw
  obtain ⟨n, v, w1, w2, h1, h2, h3⟩ := h w a0 a1 hw
  exact ⟨v, w1, w2, tX11_parted h1, tX12_parted h2, h3⟩
def fS_muddled (R : jWd → Prop) : Prop := ∀ (w : jWd) (a0 : Int32), R w → ∃ (n : Nat) (v : Int32) (w1 w2 : jWd), fX11_muddled n a0 w = some (v, w1) ∧ fX12_muddled n a0 w1 = some (v, w2) ∧ R w2
theorem f_muddled {R : jWd → Prop} (h : fS_muddled R) : jS_muddled R := by
  intro w a0 hw
  obtain ⟨n, v, w1, w2, h1, h2, h3⟩ := h w a0 hw
  exact ⟨v, w1, w2, tX11_muddled h1, tX12_muddled h2, h3⟩
def fS_glen (R : jWd → Prop) : Prop := ∀ (w : jWd) (a0 : Int32) (a1 : Int32), R w → ∃ (n : Nat) (v : Int32) (w1 w2 : jWd), fX11_glen n a0 a1 w = some (v, w1) ∧ fX12_glen n a0 a1 w1 = some (v, w2) ∧ R w2
theorem f_glen {R : jWd → Prop} (h : fS_glen R) : jS_glen R := by
  intro w a0 a1 hw
  obtain ⟨n, v, w1, w2, h1, h2, h3⟩ := h w a0 a1 hw
  exact ⟨v, w1, w2, tX11_glen h1, tX12_glen h2, h3⟩
def fS_paid (R : jWd → Prop) : Prop := ∀ (w : jWd) (a0 : Int32) (a1 : Int32), R w → ∃ (v : Int32) (w1 w2 : jWd), fX11_paid a0 a1 w = some (v, w1) ∧ fX12_paid a0 a1 w1 = some (v, w2) ∧ R w2
theorem f_paid {R : jWd → Prop} (h : fS_paid R) : jS_paid R := by
  intro w a0 a1 hw
  obtain ⟨v, w1, w2, h1, h2, h3⟩ := h w a0 a1 hw
  exact ⟨v, w1, w2, tX11_paid h1, tX12_paid h2, h3⟩
def fS_pages (R : jWd → Prop) : Prop := ∀ (w : jWd) (a0 : Int32) (a1 : Int32), R w → ∃ (v : Int32) (w1 w2 : jWd), fX11_pages a0 a1 w = some (v, w1) ∧ fX12_pages a0 a1 w1 = some (v, w2) ∧ R w2
theorem f_pages {R : jWd → Prop} (h : fS_pages R) : jS_pages R := by
  intro w a0 a1 hw
  obtain ⟨v, w1, w2, h1, h2, h3⟩ := h w a0 a1 hw
  exact ⟨v, w1, w2, tX11_pages h1, tX12_pages h2, h3⟩
def fS_more (R : jWd → Prop) : Prop := ∀ (w : jWd) (a0 : Int32) (a1 : Int32), R w → ∃ (n : Nat) (v : Int32) (w1 w2 : jWd), fX11_more n a0 a1 w = some (v, w1) ∧ fX12_more n a0 a1 w1 = some (v, w2) ∧ R w2
theorem f_more {R : jWd → Prop} (h : fS_more R) : jS_more R := by
  intro w a0 a1 hw
  obtain ⟨n, v, w1, w2, h1, h2, h3⟩ := h w a0 a1 hw
  exact ⟨v, w1, w2, tX11_more h1, tX12_more h2, h3⟩
def fS_free (R : jWd → Prop) : Prop := ∀ (w : jWd) (a0 : Int32) (a1 : Int32), R w → ∃ (v : Int32) (w1 w2 : jWd), fX11_free a0 a1 w = some (v, w1) ∧ fX12_free a0 a1 w1 = some (v, w2) ∧ R w2
theorem f_free {R : jWd → Prop} (h : fS_free R) : jS_free R := by
  intro w a0 a1 hw
  obtain ⟨v, w1, w2, h1, h2, h3⟩ := h w a0 a1 hw
  exact ⟨v, w1, w2, tX11_free h1, tX12_free h2, h3⟩
def fS_rate (R : jWd → Prop) : Prop := ∀ (w : jWd) , R w → ∃ (n : Nat) (v : Int32) (w1 w2 : jWd), fX11_rate n w = some (v, w1) ∧ fX12_rate n w1 = some (v, w2) ∧ R w2
theorem f_rate {R : jWd → Prop} (h : fS_rate R) : jS_rate R := by
  intro w  hw
  obtain ⟨n, v, w1, w2, h1, h2, h3⟩ := h w  hw
  exact ⟨v, w1, w2, tX11_rate h1, tX12_rate h2, h3⟩
def fS_world (R : jWd → Prop) : Prop := ∀ (w : jWd) (a0 : Int32), R w → ∃ (n : Nat) (v : Int32) (w1 w2 : jWd), fX11_world a0 w = some (v, w1) ∧ fX12_world n a0 w1 = some (v, w2) ∧ R w2
theorem f_world {R : jWd → Prop} (h : fS_world R) : jS_world R := by
  intro w a0 hw
  obtain ⟨n, v, w1, w2, h1, h2, h3⟩ := h w a0 hw
  exact ⟨v, w1, w2, tX11_world h1, tX12_world h2, h3⟩
def fS_says (R : jWd → Prop) : Prop := ∀ (w : jWd) (a0 : Int32) (a1 : Int32) (a2 : Int32), R w → ∃ (v : Int32) (w1 w2 : jWd), fX11_says a0 a1 a2 w = some (v, w1) ∧ fX12_says a0 a1 a2 w1 = some (v, w2) ∧ R w2
theorem f_says {R : jWd → Prop} (h : fS_says R) : jS_says R := by
  intro w a0 a1 a2 hw
  obtain ⟨v, w1, w2, h1, h2, h3⟩ := h w a0 a1 a2 hw
  exact ⟨v, w1, w2, tX11_says h1, tX12_says h2, h3⟩
def fS_ask (R : jWd → Prop) : Prop := ∀ (w : jWd) (a0 : Int32) (a1 : Int32), R w → ∃ (n : Nat) (v : Int32) (w1 w2 : jWd), fX11_ask n a0 a1 w = some (v, w1) ∧ fX12_ask n a0 a1 w1 = some (v, w2) ∧ R w2
theorem f_ask {R : jWd → Prop} (h : fS_ask R) : jS_ask R := by
  intro w a0 a1 hw
  obtain ⟨n, v, w1, w2, h1, h2, h3⟩ := h w a0 a1 hw
  exact ⟨v, w1, w2, tX11_ask h1, tX12_ask h2, h3⟩
def fS_row (R : jWd → Prop) : Prop := ∀ (w : jWd) (a0 : Int32) (a1 : Int32) (a2 : Int32), R w → ∃ (n : Nat) (v : Int32) (w1 w2 : jWd), fX11_row n a0 a1 a2 w = some (v, w1) ∧ fX12_row n a0 a1 a2 w1 = some (v, w2) ∧ R w2
theorem f_row {R : jWd → Prop} (h : fS_row R) : jS_row R := by
  intro w a0 a1 a2 hw
  obtain ⟨n, v, w1, w2, h1, h2, h3⟩ := h w a0 a1 a2 hw
  exact ⟨v, w1, w2, tX11_row h1, tX12_row h2, h3⟩
def fS_write (R : jWd → Prop) : Prop := ∀ (w : jWd) (a0 : Int32) (a1 : Int32) (a2 : Int64), R w → ∃ (v : Int64) (w1 w2 : jWd), fX11_write a0 a1 a2 w = some (v, w1) ∧ fX12_write a0 a1 a2 w1 = some (v, w2) ∧ R w2
theorem f_write {R : jWd → Prop} (h : fS_write R) : jS_write R := by
  intro w a0 a1 a2 hw
  obtain ⟨v, w1, w2, h1, h2, h3⟩ := h w a0 a1 a2 hw
  exact ⟨v, w1, w2, tX11_write h1, tX12_write h2, h3⟩
def fS_minister (R : jWd → Prop) : Prop := ∀ (w : jWd) (a0 : Int32), R w → ∃ (n : Nat) (v : Int32) (w1 w2 : jWd), fX11_minister n a0 w = some (v, w1) ∧ fX12_minister n a0 w1 = some (v, w2) ∧ R w2
theorem f_minister {R : jWd → Prop} (h : fS_minister R) : jS_minister R := by
  intro w a0 hw
  obtain ⟨n, v, w1, w2, h1, h2, h3⟩ := h w a0 hw
  exact ⟨v, w1, w2, tX11_minister h1, tX12_minister h2, h3⟩
def fS_say (R : jWd → Prop) : Prop := ∀ (w : jWd) (a0 : Int32), R w → ∃ (n : Nat) (v : Int32) (w1 w2 : jWd), fX11_say n a0 w = some (v, w1) ∧ fX12_say n a0 w1 = some (v, w2) ∧ R w2
theorem f_say {R : jWd → Prop} (h : fS_say R) : jS_say R := by
  intro w a0 hw
  obtain ⟨n, v, w1, w2, h1, h2, h3⟩ := h w a0 hw
  exact ⟨v, w1, w2, tX11_say h1, tX12_say h2, h3⟩
def fS_image (R : jWd → Prop) : Prop := ∀ (w : jWd) (a0 : Int32), R w → ∃ (n : Nat) (v : Int32) (w1 w2 : jWd), fX11_image a0 w = some (v, w1) ∧ fX12_image n a0 w1 = some (v, w2) ∧ R w2
theorem f_image {R : jWd → Prop} (h : fS_image R) : jS_image R := by
  intro w a0 hw
  obtain ⟨n, v, w1, w2, h1, h2, h3⟩ := h w a0 hw
  exact ⟨v, w1, w2, tX11_image h1, tX12_image h2, h3⟩
def fS_restore (R : jWd → Prop) : Prop := ∀ (w : jWd) (a0 : Int32), R w → ∃ (n : Nat) (v : Int32) (w1 w2 : jWd), fX11_restore a0 w = some (v, w1) ∧ fX12_restore n a0 w1 = some (v, w2) ∧ R w2
theorem f_restore {R : jWd → Prop} (h : fS_restore R) : jS_restore R := by
  intro w a0 hw
  obtain ⟨n, v, w1, w2, h1, h2, h3⟩ := h w a0 hw
  exact ⟨v, w1, w2, tX11_restore h1, tX12_restore h2, h3⟩
def fS_status (R : jWd → Prop) : Prop := ∀ (w : jWd) (a0 : Int32), R w → ∃ (v : Int32) (w1 w2 : jWd), (fX11_status a0 w = some v ∧ w1 = w) ∧ fX12_status a0 w1 = some (v, w2) ∧ R w2
theorem f_status {R : jWd → Prop} (h : fS_status R) : jS_status R := by
  intro w a0 hw
  obtain ⟨v, w1, w2, ⟨h1, e1⟩, h2, h3⟩ := h w a0 hw
  subst e1
  exact ⟨v, w1, w2, tX11_status h1, tX12_status h2, h3⟩
def fS_count (R : jWd → Prop) : Prop := ∀ (w : jWd) (a0 : Int32), R w → ∃ (v : Int32) (w1 w2 : jWd), (fX11_count a0 w = some v ∧ w1 = w) ∧ fX12_count a0 w1 = some (v, w2) ∧ R w2
theorem f_count {R : jWd → Prop} (h : fS_count R) : jS_count R := by
  intro w a0 hw
  obtain ⟨v, w1, w2, ⟨h1, e1⟩, h2, h3⟩ := h w a0 hw
  subst e1
  exact ⟨v, w1, w2, tX11_count h1, tX12_count h2, h3⟩
def fSteps (R : jWd → Prop) : Prop := fS_open R ∧ fS_line R ∧ fS_print R ∧ fS_bounds R ∧ fS_words R ∧ fS_like R ∧ fS_feed R ∧ fS_text R ∧ fS_fault R ∧ fS_smoothed R ∧ fS_told R ∧ fS_whose R ∧ fS_late R ∧ fS_share R ∧ fS_span R ∧ fS_chance R ∧ fS_odds R ∧ fS_matches R ∧ fS_most R ∧ fS_adds R ∧ fS_added R ∧ fS_year R ∧ fS_version R ∧ fS_which R ∧ fS_answer R ∧ fS_back R ∧ fS_backOdds R ∧ fS_parted R ∧ fS_muddled R ∧ fS_glen R ∧ fS_paid R ∧ fS_pages R ∧ fS_more R ∧ fS_free R ∧ fS_rate R ∧ fS_world R ∧ fS_says R ∧ fS_ask R ∧ fS_row R ∧ fS_write R ∧ fS_minister R ∧ fS_say R ∧ fS_image R ∧ fS_restore R ∧ fS_status R ∧ fS_count R
theorem pure_of {R : jWd → Prop} (h : fSteps R) : jSteps R := by
  obtain ⟨h0, h1, h2, h3, h4, h5, h6, h7, h8, h9, h10, h11, h12, h13, h14, h15, h16, h17, h18, h19, h20, h21, h22, h23, h24, h25, h26, h27, h28, h29, h30, h31, h32, h33, h34, h35, h36, h37, h38, h39, h40, h41, h42, h43, h44, h45⟩ := h
  exact ⟨f_open h0, f_line h1, f_print h2, f_bounds h3, f_words h4, f_like h5, f_feed h6, f_text h7, f_fault h8, f_smoothed h9, f_told h10, f_whose h11, f_late h12, f_share h13, f_span h14, f_chance h15, f_odds h16, f_matches h17, f_most h18, f_adds h19, f_added h20, f_year h21, f_version h22, f_which h23, f_answer h24, f_back h25, f_backOdds h26, f_parted h27, f_muddled h28, f_glen h29, f_paid h30, f_pages h31, f_more h32, f_free h33, f_rate h34, f_world h35, f_says h36, f_ask h37, f_row h38, f_write h39, f_minister h40, f_say h41, f_image h42, f_restore h43, f_status h44, f_count h45⟩
