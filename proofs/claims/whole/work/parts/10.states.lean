/-! the state of each object, by its parts -/
abbrev lv_pickW (w : va_W) (is : List Nat) : va_W := is.filterMap (fun i => w[i]?)
abbrev FS : Type := (Nat → Int32) × (Nat → Int32) × (Nat → Int32) × (Nat → Int32) × (Int32)
def FS_kind (s : FS) : Nat → Int32 := s.1
def FS_kind_s (s : FS) (v : Nat → Int32) : FS := (v, s.2)
def FS_year (s : FS) : Nat → Int32 := s.2.1
def FS_year_s (s : FS) (v : Nat → Int32) : FS := (s.1, v, s.2.2)
def FS_low (s : FS) : Nat → Int32 := s.2.2.1
def FS_low_s (s : FS) (v : Nat → Int32) : FS := (s.1, s.2.1, v, s.2.2.2)
def FS_high (s : FS) : Nat → Int32 := s.2.2.2.1
def FS_high_s (s : FS) (v : Nat → Int32) : FS := (s.1, s.2.1, s.2.2.1, v, s.2.2.2.2)
def FS_size (s : FS) : Int32 := s.2.2.2.2
def FS_size_s (s : FS) (v : Int32) : FS := (s.1, s.2.1, s.2.2.1, s.2.2.2.1, v)
theorem FS_kind_kind (s : FS) (v : _) : FS_kind (FS_kind_s s v) = v := rfl
theorem FS_kind_year (s : FS) (v : _) : FS_kind (FS_year_s s v) = FS_kind s := rfl
theorem FS_kind_low (s : FS) (v : _) : FS_kind (FS_low_s s v) = FS_kind s := rfl
theorem FS_kind_high (s : FS) (v : _) : FS_kind (FS_high_s s v) = FS_kind s := rfl
theorem FS_kind_size (s : FS) (v : _) : FS_kind (FS_size_s s v) = FS_kind s := rfl
theorem FS_year_kind (s : FS) (v : _) : FS_year (FS_kind_s s v) = FS_year s := rfl
theorem FS_year_year (s : FS) (v : _) : FS_year (FS_year_s s v) = v := rfl
theorem FS_year_low (s : FS) (v : _) : FS_year (FS_low_s s v) = FS_year s := rfl
theorem FS_year_high (s : FS) (v : _) : FS_year (FS_high_s s v) = FS_year s := rfl
theorem FS_year_size (s : FS) (v : _) : FS_year (FS_size_s s v) = FS_year s := rfl
theorem FS_low_kind (s : FS) (v : _) : FS_low (FS_kind_s s v) = FS_low s := rfl
theorem FS_low_year (s : FS) (v : _) : FS_low (FS_year_s s v) = FS_low s := rfl
theorem FS_low_low (s : FS) (v : _) : FS_low (FS_low_s s v) = v := rfl
theorem FS_low_high (s : FS) (v : _) : FS_low (FS_high_s s v) = FS_low s := rfl
theorem FS_low_size (s : FS) (v : _) : FS_low (FS_size_s s v) = FS_low s := rfl
theorem FS_high_kind (s : FS) (v : _) : FS_high (FS_kind_s s v) = FS_high s := rfl
theorem FS_high_year (s : FS) (v : _) : FS_high (FS_year_s s v) = FS_high s := rfl
theorem FS_high_low (s : FS) (v : _) : FS_high (FS_low_s s v) = FS_high s := rfl
theorem FS_high_high (s : FS) (v : _) : FS_high (FS_high_s s v) = v := rfl
theorem FS_high_size (s : FS) (v : _) : FS_high (FS_size_s s v) = FS_high s := rfl
theorem FS_size_kind (s : FS) (v : _) : FS_size (FS_kind_s s v) = FS_size s := rfl
theorem FS_size_year (s : FS) (v : _) : FS_size (FS_year_s s v) = FS_size s := rfl
theorem FS_size_low (s : FS) (v : _) : FS_size (FS_low_s s v) = FS_size s := rfl
theorem FS_size_high (s : FS) (v : _) : FS_size (FS_high_s s v) = FS_size s := rfl
theorem FS_size_size (s : FS) (v : _) : FS_size (FS_size_s s v) = v := rfl
theorem FS_ext {s t : FS} (h0 : FS_kind s = FS_kind t) (h1 : FS_year s = FS_year t) (h2 : FS_low s = FS_low t) (h3 : FS_high s = FS_high t) (h4 : FS_size s = FS_size t) : s = t := (Prod.ext h0 (Prod.ext h1 (Prod.ext h2 (Prod.ext h3 h4))))
abbrev HS : Type := (Nat → Int32) × (Nat → Int32) × (Nat → Int32) × (Nat → Int32) × (Int32) × (Nat → Int32) × (Nat → Int32) × (Nat → Int64) × (Nat → Int32) × (Nat → Int64) × (Nat → Int64)
def HS_holder (s : HS) : Nat → Int32 := s.1
def HS_holder_s (s : HS) (v : Nat → Int32) : HS := (v, s.2)
def HS_held (s : HS) : Nat → Int32 := s.2.1
def HS_held_s (s : HS) (v : Nat → Int32) : HS := (s.1, v, s.2.2)
def HS_hundredths (s : HS) : Nat → Int32 := s.2.2.1
def HS_hundredths_s (s : HS) (v : Nat → Int32) : HS := (s.1, s.2.1, v, s.2.2.2)
def HS_day (s : HS) : Nat → Int32 := s.2.2.2.1
def HS_day_s (s : HS) (v : Nat → Int32) : HS := (s.1, s.2.1, s.2.2.1, v, s.2.2.2.2)
def HS_size (s : HS) : Int32 := s.2.2.2.2.1
def HS_size_s (s : HS) (v : Int32) : HS := (s.1, s.2.1, s.2.2.1, s.2.2.2.1, v, s.2.2.2.2.2)
def HS_tied (s : HS) : Nat → Int32 := s.2.2.2.2.2.1
def HS_tied_s (s : HS) (v : Nat → Int32) : HS := (s.1, s.2.1, s.2.2.1, s.2.2.2.1, s.2.2.2.2.1, v, s.2.2.2.2.2.2)
def HS_spanIsMade (s : HS) : Nat → Int32 := s.2.2.2.2.2.2.1
def HS_spanIsMade_s (s : HS) (v : Nat → Int32) : HS := (s.1, s.2.1, s.2.2.1, s.2.2.2.1, s.2.2.2.2.1, s.2.2.2.2.2.1, v, s.2.2.2.2.2.2.2)
def HS_spanShares (s : HS) : Nat → Int64 := s.2.2.2.2.2.2.2.1
def HS_spanShares_s (s : HS) (v : Nat → Int64) : HS := (s.1, s.2.1, s.2.2.1, s.2.2.2.1, s.2.2.2.2.1, s.2.2.2.2.2.1, s.2.2.2.2.2.2.1, v, s.2.2.2.2.2.2.2.2)
def HS_matrix (s : HS) : Nat → Int32 := s.2.2.2.2.2.2.2.2.1
def HS_matrix_s (s : HS) (v : Nat → Int32) : HS := (s.1, s.2.1, s.2.2.1, s.2.2.2.1, s.2.2.2.2.1, s.2.2.2.2.2.1, s.2.2.2.2.2.2.1, s.2.2.2.2.2.2.2.1, v, s.2.2.2.2.2.2.2.2.2)
def HS_reached (s : HS) : Nat → Int64 := s.2.2.2.2.2.2.2.2.2.1
def HS_reached_s (s : HS) (v : Nat → Int64) : HS := (s.1, s.2.1, s.2.2.1, s.2.2.2.1, s.2.2.2.2.1, s.2.2.2.2.2.1, s.2.2.2.2.2.2.1, s.2.2.2.2.2.2.2.1, s.2.2.2.2.2.2.2.2.1, v, s.2.2.2.2.2.2.2.2.2.2)
def HS_reachedNext (s : HS) : Nat → Int64 := s.2.2.2.2.2.2.2.2.2.2
def HS_reachedNext_s (s : HS) (v : Nat → Int64) : HS := (s.1, s.2.1, s.2.2.1, s.2.2.2.1, s.2.2.2.2.1, s.2.2.2.2.2.1, s.2.2.2.2.2.2.1, s.2.2.2.2.2.2.2.1, s.2.2.2.2.2.2.2.2.1, s.2.2.2.2.2.2.2.2.2.1, v)
theorem HS_holder_holder (s : HS) (v : _) : HS_holder (HS_holder_s s v) = v := rfl
theorem HS_holder_held (s : HS) (v : _) : HS_holder (HS_held_s s v) = HS_holder s := rfl
theorem HS_holder_hundredths (s : HS) (v : _) : HS_holder (HS_hundredths_s s v) = HS_holder s := rfl
theorem HS_holder_day (s : HS) (v : _) : HS_holder (HS_day_s s v) = HS_holder s := rfl
theorem HS_holder_size (s : HS) (v : _) : HS_holder (HS_size_s s v) = HS_holder s := rfl
theorem HS_holder_tied (s : HS) (v : _) : HS_holder (HS_tied_s s v) = HS_holder s := rfl
theorem HS_holder_spanIsMade (s : HS) (v : _) : HS_holder (HS_spanIsMade_s s v) = HS_holder s := rfl
theorem HS_holder_spanShares (s : HS) (v : _) : HS_holder (HS_spanShares_s s v) = HS_holder s := rfl
theorem HS_holder_matrix (s : HS) (v : _) : HS_holder (HS_matrix_s s v) = HS_holder s := rfl
theorem HS_holder_reached (s : HS) (v : _) : HS_holder (HS_reached_s s v) = HS_holder s := rfl
theorem HS_holder_reachedNext (s : HS) (v : _) : HS_holder (HS_reachedNext_s s v) = HS_holder s := rfl
theorem HS_held_holder (s : HS) (v : _) : HS_held (HS_holder_s s v) = HS_held s := rfl
theorem HS_held_held (s : HS) (v : _) : HS_held (HS_held_s s v) = v := rfl
theorem HS_held_hundredths (s : HS) (v : _) : HS_held (HS_hundredths_s s v) = HS_held s := rfl
theorem HS_held_day (s : HS) (v : _) : HS_held (HS_day_s s v) = HS_held s := rfl
theorem HS_held_size (s : HS) (v : _) : HS_held (HS_size_s s v) = HS_held s := rfl
theorem HS_held_tied (s : HS) (v : _) : HS_held (HS_tied_s s v) = HS_held s := rfl
theorem HS_held_spanIsMade (s : HS) (v : _) : HS_held (HS_spanIsMade_s s v) = HS_held s := rfl
theorem HS_held_spanShares (s : HS) (v : _) : HS_held (HS_spanShares_s s v) = HS_held s := rfl
theorem HS_held_matrix (s : HS) (v : _) : HS_held (HS_matrix_s s v) = HS_held s := rfl
theorem HS_held_reached (s : HS) (v : _) : HS_held (HS_reached_s s v) = HS_held s := rfl
theorem HS_held_reachedNext (s : HS) (v : _) : HS_held (HS_reachedNext_s s v) = HS_held s := rfl
theorem HS_hundredths_holder (s : HS) (v : _) : HS_hundredths (HS_holder_s s v) = HS_hundredths s := rfl
theorem HS_hundredths_held (s : HS) (v : _) : HS_hundredths (HS_held_s s v) = HS_hundredths s := rfl
theorem HS_hundredths_hundredths (s : HS) (v : _) : HS_hundredths (HS_hundredths_s s v) = v := rfl
theorem HS_hundredths_day (s : HS) (v : _) : HS_hundredths (HS_day_s s v) = HS_hundredths s := rfl
theorem HS_hundredths_size (s : HS) (v : _) : HS_hundredths (HS_size_s s v) = HS_hundredths s := rfl
theorem HS_hundredths_tied (s : HS) (v : _) : HS_hundredths (HS_tied_s s v) = HS_hundredths s := rfl
theorem HS_hundredths_spanIsMade (s : HS) (v : _) : HS_hundredths (HS_spanIsMade_s s v) = HS_hundredths s := rfl
theorem HS_hundredths_spanShares (s : HS) (v : _) : HS_hundredths (HS_spanShares_s s v) = HS_hundredths s := rfl
theorem HS_hundredths_matrix (s : HS) (v : _) : HS_hundredths (HS_matrix_s s v) = HS_hundredths s := rfl
theorem HS_hundredths_reached (s : HS) (v : _) : HS_hundredths (HS_reached_s s v) = HS_hundredths s := rfl
theorem HS_hundredths_reachedNext (s : HS) (v : _) : HS_hundredths (HS_reachedNext_s s v) = HS_hundredths s := rfl
theorem HS_day_holder (s : HS) (v : _) : HS_day (HS_holder_s s v) = HS_day s := rfl
theorem HS_day_held (s : HS) (v : _) : HS_day (HS_held_s s v) = HS_day s := rfl
theorem HS_day_hundredths (s : HS) (v : _) : HS_day (HS_hundredths_s s v) = HS_day s := rfl
theorem HS_day_day (s : HS) (v : _) : HS_day (HS_day_s s v) = v := rfl
theorem HS_day_size (s : HS) (v : _) : HS_day (HS_size_s s v) = HS_day s := rfl
theorem HS_day_tied (s : HS) (v : _) : HS_day (HS_tied_s s v) = HS_day s := rfl
theorem HS_day_spanIsMade (s : HS) (v : _) : HS_day (HS_spanIsMade_s s v) = HS_day s := rfl
theorem HS_day_spanShares (s : HS) (v : _) : HS_day (HS_spanShares_s s v) = HS_day s := rfl
theorem HS_day_matrix (s : HS) (v : _) : HS_day (HS_matrix_s s v) = HS_day s := rfl
theorem HS_day_reached (s : HS) (v : _) : HS_day (HS_reached_s s v) = HS_day s := rfl
theorem HS_day_reachedNext (s : HS) (v : _) : HS_day (HS_reachedNext_s s v) = HS_day s := rfl
theorem HS_size_holder (s : HS) (v : _) : HS_size (HS_holder_s s v) = HS_size s := rfl
theorem HS_size_held (s : HS) (v : _) : HS_size (HS_held_s s v) = HS_size s := rfl
theorem HS_size_hundredths (s : HS) (v : _) : HS_size (HS_hundredths_s s v) = HS_size s := rfl
theorem HS_size_day (s : HS) (v : _) : HS_size (HS_day_s s v) = HS_size s := rfl
theorem HS_size_size (s : HS) (v : _) : HS_size (HS_size_s s v) = v := rfl
theorem HS_size_tied (s : HS) (v : _) : HS_size (HS_tied_s s v) = HS_size s := rfl
theorem HS_size_spanIsMade (s : HS) (v : _) : HS_size (HS_spanIsMade_s s v) = HS_size s := rfl
theorem HS_size_spanShares (s : HS) (v : _) : HS_size (HS_spanShares_s s v) = HS_size s := rfl
theorem HS_size_matrix (s : HS) (v : _) : HS_size (HS_matrix_s s v) = HS_size s := rfl
theorem HS_size_reached (s : HS) (v : _) : HS_size (HS_reached_s s v) = HS_size s := rfl
theorem HS_size_reachedNext (s : HS) (v : _) : HS_size (HS_reachedNext_s s v) = HS_size s := rfl
theorem HS_tied_holder (s : HS) (v : _) : HS_tied (HS_holder_s s v) = HS_tied s := rfl
theorem HS_tied_held (s : HS) (v : _) : HS_tied (HS_held_s s v) = HS_tied s := rfl
theorem HS_tied_hundredths (s : HS) (v : _) : HS_tied (HS_hundredths_s s v) = HS_tied s := rfl
theorem HS_tied_day (s : HS) (v : _) : HS_tied (HS_day_s s v) = HS_tied s := rfl
theorem HS_tied_size (s : HS) (v : _) : HS_tied (HS_size_s s v) = HS_tied s := rfl
theorem HS_tied_tied (s : HS) (v : _) : HS_tied (HS_tied_s s v) = v := rfl
theorem HS_tied_spanIsMade (s : HS) (v : _) : HS_tied (HS_spanIsMade_s s v) = HS_tied s := rfl
theorem HS_tied_spanShares (s : HS) (v : _) : HS_tied (HS_spanShares_s s v) = HS_tied s := rfl
theorem HS_tied_matrix (s : HS) (v : _) : HS_tied (HS_matrix_s s v) = HS_tied s := rfl
theorem HS_tied_reached (s : HS) (v : _) : HS_tied (HS_reached_s s v) = HS_tied s := rfl
theorem HS_tied_reachedNext (s : HS) (v : _) : HS_tied (HS_reachedNext_s s v) = HS_tied s := rfl
theorem HS_spanIsMade_holder (s : HS) (v : _) : HS_spanIsMade (HS_holder_s s v) = HS_spanIsMade s := rfl
theorem HS_spanIsMade_held (s : HS) (v : _) : HS_spanIsMade (HS_held_s s v) = HS_spanIsMade s := rfl
theorem HS_spanIsMade_hundredths (s : HS) (v : _) : HS_spanIsMade (HS_hundredths_s s v) = HS_spanIsMade s := rfl
theorem HS_spanIsMade_day (s : HS) (v : _) : HS_spanIsMade (HS_day_s s v) = HS_spanIsMade s := rfl
theorem HS_spanIsMade_size (s : HS) (v : _) : HS_spanIsMade (HS_size_s s v) = HS_spanIsMade s := rfl
theorem HS_spanIsMade_tied (s : HS) (v : _) : HS_spanIsMade (HS_tied_s s v) = HS_spanIsMade s := rfl
theorem HS_spanIsMade_spanIsMade (s : HS) (v : _) : HS_spanIsMade (HS_spanIsMade_s s v) = v := rfl
theorem HS_spanIsMade_spanShares (s : HS) (v : _) : HS_spanIsMade (HS_spanShares_s s v) = HS_spanIsMade s := rfl
theorem HS_spanIsMade_matrix (s : HS) (v : _) : HS_spanIsMade (HS_matrix_s s v) = HS_spanIsMade s := rfl
theorem HS_spanIsMade_reached (s : HS) (v : _) : HS_spanIsMade (HS_reached_s s v) = HS_spanIsMade s := rfl
theorem HS_spanIsMade_reachedNext (s : HS) (v : _) : HS_spanIsMade (HS_reachedNext_s s v) = HS_spanIsMade s := rfl
theorem HS_spanShares_holder (s : HS) (v : _) : HS_spanShares (HS_holder_s s v) = HS_spanShares s := rfl
theorem HS_spanShares_held (s : HS) (v : _) : HS_spanShares (HS_held_s s v) = HS_spanShares s := rfl
theorem HS_spanShares_hundredths (s : HS) (v : _) : HS_spanShares (HS_hundredths_s s v) = HS_spanShares s := rfl
theorem HS_spanShares_day (s : HS) (v : _) : HS_spanShares (HS_day_s s v) = HS_spanShares s := rfl
theorem HS_spanShares_size (s : HS) (v : _) : HS_spanShares (HS_size_s s v) = HS_spanShares s := rfl
theorem HS_spanShares_tied (s : HS) (v : _) : HS_spanShares (HS_tied_s s v) = HS_spanShares s := rfl
theorem HS_spanShares_spanIsMade (s : HS) (v : _) : HS_spanShares (HS_spanIsMade_s s v) = HS_spanShares s := rfl
theorem HS_spanShares_spanShares (s : HS) (v : _) : HS_spanShares (HS_spanShares_s s v) = v := rfl
theorem HS_spanShares_matrix (s : HS) (v : _) : HS_spanShares (HS_matrix_s s v) = HS_spanShares s := rfl
theorem HS_spanShares_reached (s : HS) (v : _) : HS_spanShares (HS_reached_s s v) = HS_spanShares s := rfl
theorem HS_spanShares_reachedNext (s : HS) (v : _) : HS_spanShares (HS_reachedNext_s s v) = HS_spanShares s := rfl
theorem HS_matrix_holder (s : HS) (v : _) : HS_matrix (HS_holder_s s v) = HS_matrix s := rfl
theorem HS_matrix_held (s : HS) (v : _) : HS_matrix (HS_held_s s v) = HS_matrix s := rfl
theorem HS_matrix_hundredths (s : HS) (v : _) : HS_matrix (HS_hundredths_s s v) = HS_matrix s := rfl
theorem HS_matrix_day (s : HS) (v : _) : HS_matrix (HS_day_s s v) = HS_matrix s := rfl
theorem HS_matrix_size (s : HS) (v : _) : HS_matrix (HS_size_s s v) = HS_matrix s := rfl
theorem HS_matrix_tied (s : HS) (v : _) : HS_matrix (HS_tied_s s v) = HS_matrix s := rfl
theorem HS_matrix_spanIsMade (s : HS) (v : _) : HS_matrix (HS_spanIsMade_s s v) = HS_matrix s := rfl
theorem HS_matrix_spanShares (s : HS) (v : _) : HS_matrix (HS_spanShares_s s v) = HS_matrix s := rfl
theorem HS_matrix_matrix (s : HS) (v : _) : HS_matrix (HS_matrix_s s v) = v := rfl
theorem HS_matrix_reached (s : HS) (v : _) : HS_matrix (HS_reached_s s v) = HS_matrix s := rfl
theorem HS_matrix_reachedNext (s : HS) (v : _) : HS_matrix (HS_reachedNext_s s v) = HS_matrix s := rfl
theorem HS_reached_holder (s : HS) (v : _) : HS_reached (HS_holder_s s v) = HS_reached s := rfl
theorem HS_reached_held (s : HS) (v : _) : HS_reached (HS_held_s s v) = HS_reached s := rfl
theorem HS_reached_hundredths (s : HS) (v : _) : HS_reached (HS_hundredths_s s v) = HS_reached s := rfl
theorem HS_reached_day (s : HS) (v : _) : HS_reached (HS_day_s s v) = HS_reached s := rfl
theorem HS_reached_size (s : HS) (v : _) : HS_reached (HS_size_s s v) = HS_reached s := rfl
theorem HS_reached_tied (s : HS) (v : _) : HS_reached (HS_tied_s s v) = HS_reached s := rfl
theorem HS_reached_spanIsMade (s : HS) (v : _) : HS_reached (HS_spanIsMade_s s v) = HS_reached s := rfl
theorem HS_reached_spanShares (s : HS) (v : _) : HS_reached (HS_spanShares_s s v) = HS_reached s := rfl
theorem HS_reached_matrix (s : HS) (v : _) : HS_reached (HS_matrix_s s v) = HS_reached s := rfl
theorem HS_reached_reached (s : HS) (v : _) : HS_reached (HS_reached_s s v) = v := rfl
theorem HS_reached_reachedNext (s : HS) (v : _) : HS_reached (HS_reachedNext_s s v) = HS_reached s := rfl
theorem HS_reachedNext_holder (s : HS) (v : _) : HS_reachedNext (HS_holder_s s v) = HS_reachedNext s := rfl
theorem HS_reachedNext_held (s : HS) (v : _) : HS_reachedNext (HS_held_s s v) = HS_reachedNext s := rfl
theorem HS_reachedNext_hundredths (s : HS) (v : _) : HS_reachedNext (HS_hundredths_s s v) = HS_reachedNext s := rfl
theorem HS_reachedNext_day (s : HS) (v : _) : HS_reachedNext (HS_day_s s v) = HS_reachedNext s := rfl
theorem HS_reachedNext_size (s : HS) (v : _) : HS_reachedNext (HS_size_s s v) = HS_reachedNext s := rfl
theorem HS_reachedNext_tied (s : HS) (v : _) : HS_reachedNext (HS_tied_s s v) = HS_reachedNext s := rfl
theorem HS_reachedNext_spanIsMade (s : HS) (v : _) : HS_reachedNext (HS_spanIsMade_s s v) = HS_reachedNext s := rfl
theorem HS_reachedNext_spanShares (s : HS) (v : _) : HS_reachedNext (HS_spanShares_s s v) = HS_reachedNext s := rfl
theorem HS_reachedNext_matrix (s : HS) (v : _) : HS_reachedNext (HS_matrix_s s v) = HS_reachedNext s := rfl
theorem HS_reachedNext_reached (s : HS) (v : _) : HS_reachedNext (HS_reached_s s v) = HS_reachedNext s := rfl
theorem HS_reachedNext_reachedNext (s : HS) (v : _) : HS_reachedNext (HS_reachedNext_s s v) = v := rfl
theorem HS_ext {s t : HS} (h0 : HS_holder s = HS_holder t) (h1 : HS_held s = HS_held t) (h2 : HS_hundredths s = HS_hundredths t) (h3 : HS_day s = HS_day t) (h4 : HS_size s = HS_size t) (h5 : HS_tied s = HS_tied t) (h6 : HS_spanIsMade s = HS_spanIsMade t) (h7 : HS_spanShares s = HS_spanShares t) (h8 : HS_matrix s = HS_matrix t) (h9 : HS_reached s = HS_reached t) (h10 : HS_reachedNext s = HS_reachedNext t) : s = t := (Prod.ext h0 (Prod.ext h1 (Prod.ext h2 (Prod.ext h3 (Prod.ext h4 (Prod.ext h5 (Prod.ext h6 (Prod.ext h7 (Prod.ext h8 (Prod.ext h9 h10))))))))))
abbrev RS : Type := (Nat → Int32) × (Nat → Int32) × (Nat → Int32) × (Nat → Int32) × (Nat → Int32) × (Nat → Int32) × (Int32)
def RS_unit (s : RS) : Nat → Int32 := s.1
def RS_unit_s (s : RS) (v : Nat → Int32) : RS := (v, s.2)
def RS_kind (s : RS) : Nat → Int32 := s.2.1
def RS_kind_s (s : RS) (v : Nat → Int32) : RS := (s.1, v, s.2.2)
def RS_amount (s : RS) : Nat → Int32 := s.2.2.1
def RS_amount_s (s : RS) (v : Nat → Int32) : RS := (s.1, s.2.1, v, s.2.2.2)
def RS_day (s : RS) : Nat → Int32 := s.2.2.2.1
def RS_day_s (s : RS) (v : Nat → Int32) : RS := (s.1, s.2.1, s.2.2.1, v, s.2.2.2.2)
def RS_seller (s : RS) : Nat → Int32 := s.2.2.2.2.1
def RS_seller_s (s : RS) (v : Nat → Int32) : RS := (s.1, s.2.1, s.2.2.1, s.2.2.2.1, v, s.2.2.2.2.2)
def RS_covered (s : RS) : Nat → Int32 := s.2.2.2.2.2.1
def RS_covered_s (s : RS) (v : Nat → Int32) : RS := (s.1, s.2.1, s.2.2.1, s.2.2.2.1, s.2.2.2.2.1, v, s.2.2.2.2.2.2)
def RS_size (s : RS) : Int32 := s.2.2.2.2.2.2
def RS_size_s (s : RS) (v : Int32) : RS := (s.1, s.2.1, s.2.2.1, s.2.2.2.1, s.2.2.2.2.1, s.2.2.2.2.2.1, v)
theorem RS_unit_unit (s : RS) (v : _) : RS_unit (RS_unit_s s v) = v := rfl
theorem RS_unit_kind (s : RS) (v : _) : RS_unit (RS_kind_s s v) = RS_unit s := rfl
theorem RS_unit_amount (s : RS) (v : _) : RS_unit (RS_amount_s s v) = RS_unit s := rfl
theorem RS_unit_day (s : RS) (v : _) : RS_unit (RS_day_s s v) = RS_unit s := rfl
theorem RS_unit_seller (s : RS) (v : _) : RS_unit (RS_seller_s s v) = RS_unit s := rfl
theorem RS_unit_covered (s : RS) (v : _) : RS_unit (RS_covered_s s v) = RS_unit s := rfl
theorem RS_unit_size (s : RS) (v : _) : RS_unit (RS_size_s s v) = RS_unit s := rfl
theorem RS_kind_unit (s : RS) (v : _) : RS_kind (RS_unit_s s v) = RS_kind s := rfl
theorem RS_kind_kind (s : RS) (v : _) : RS_kind (RS_kind_s s v) = v := rfl
theorem RS_kind_amount (s : RS) (v : _) : RS_kind (RS_amount_s s v) = RS_kind s := rfl
theorem RS_kind_day (s : RS) (v : _) : RS_kind (RS_day_s s v) = RS_kind s := rfl
theorem RS_kind_seller (s : RS) (v : _) : RS_kind (RS_seller_s s v) = RS_kind s := rfl
theorem RS_kind_covered (s : RS) (v : _) : RS_kind (RS_covered_s s v) = RS_kind s := rfl
theorem RS_kind_size (s : RS) (v : _) : RS_kind (RS_size_s s v) = RS_kind s := rfl
theorem RS_amount_unit (s : RS) (v : _) : RS_amount (RS_unit_s s v) = RS_amount s := rfl
theorem RS_amount_kind (s : RS) (v : _) : RS_amount (RS_kind_s s v) = RS_amount s := rfl
theorem RS_amount_amount (s : RS) (v : _) : RS_amount (RS_amount_s s v) = v := rfl
theorem RS_amount_day (s : RS) (v : _) : RS_amount (RS_day_s s v) = RS_amount s := rfl
theorem RS_amount_seller (s : RS) (v : _) : RS_amount (RS_seller_s s v) = RS_amount s := rfl
theorem RS_amount_covered (s : RS) (v : _) : RS_amount (RS_covered_s s v) = RS_amount s := rfl
theorem RS_amount_size (s : RS) (v : _) : RS_amount (RS_size_s s v) = RS_amount s := rfl
theorem RS_day_unit (s : RS) (v : _) : RS_day (RS_unit_s s v) = RS_day s := rfl
theorem RS_day_kind (s : RS) (v : _) : RS_day (RS_kind_s s v) = RS_day s := rfl
theorem RS_day_amount (s : RS) (v : _) : RS_day (RS_amount_s s v) = RS_day s := rfl
theorem RS_day_day (s : RS) (v : _) : RS_day (RS_day_s s v) = v := rfl
theorem RS_day_seller (s : RS) (v : _) : RS_day (RS_seller_s s v) = RS_day s := rfl
theorem RS_day_covered (s : RS) (v : _) : RS_day (RS_covered_s s v) = RS_day s := rfl
theorem RS_day_size (s : RS) (v : _) : RS_day (RS_size_s s v) = RS_day s := rfl
theorem RS_seller_unit (s : RS) (v : _) : RS_seller (RS_unit_s s v) = RS_seller s := rfl
theorem RS_seller_kind (s : RS) (v : _) : RS_seller (RS_kind_s s v) = RS_seller s := rfl
theorem RS_seller_amount (s : RS) (v : _) : RS_seller (RS_amount_s s v) = RS_seller s := rfl
theorem RS_seller_day (s : RS) (v : _) : RS_seller (RS_day_s s v) = RS_seller s := rfl
theorem RS_seller_seller (s : RS) (v : _) : RS_seller (RS_seller_s s v) = v := rfl
theorem RS_seller_covered (s : RS) (v : _) : RS_seller (RS_covered_s s v) = RS_seller s := rfl
theorem RS_seller_size (s : RS) (v : _) : RS_seller (RS_size_s s v) = RS_seller s := rfl
theorem RS_covered_unit (s : RS) (v : _) : RS_covered (RS_unit_s s v) = RS_covered s := rfl
theorem RS_covered_kind (s : RS) (v : _) : RS_covered (RS_kind_s s v) = RS_covered s := rfl
theorem RS_covered_amount (s : RS) (v : _) : RS_covered (RS_amount_s s v) = RS_covered s := rfl
theorem RS_covered_day (s : RS) (v : _) : RS_covered (RS_day_s s v) = RS_covered s := rfl
theorem RS_covered_seller (s : RS) (v : _) : RS_covered (RS_seller_s s v) = RS_covered s := rfl
theorem RS_covered_covered (s : RS) (v : _) : RS_covered (RS_covered_s s v) = v := rfl
theorem RS_covered_size (s : RS) (v : _) : RS_covered (RS_size_s s v) = RS_covered s := rfl
theorem RS_size_unit (s : RS) (v : _) : RS_size (RS_unit_s s v) = RS_size s := rfl
theorem RS_size_kind (s : RS) (v : _) : RS_size (RS_kind_s s v) = RS_size s := rfl
theorem RS_size_amount (s : RS) (v : _) : RS_size (RS_amount_s s v) = RS_size s := rfl
theorem RS_size_day (s : RS) (v : _) : RS_size (RS_day_s s v) = RS_size s := rfl
theorem RS_size_seller (s : RS) (v : _) : RS_size (RS_seller_s s v) = RS_size s := rfl
theorem RS_size_covered (s : RS) (v : _) : RS_size (RS_covered_s s v) = RS_size s := rfl
theorem RS_size_size (s : RS) (v : _) : RS_size (RS_size_s s v) = v := rfl
theorem RS_ext {s t : RS} (h0 : RS_unit s = RS_unit t) (h1 : RS_kind s = RS_kind t) (h2 : RS_amount s = RS_amount t) (h3 : RS_day s = RS_day t) (h4 : RS_seller s = RS_seller t) (h5 : RS_covered s = RS_covered t) (h6 : RS_size s = RS_size t) : s = t := (Prod.ext h0 (Prod.ext h1 (Prod.ext h2 (Prod.ext h3 (Prod.ext h4 (Prod.ext h5 h6))))))
abbrev SS : Type := (Nat) × (Nat → Int32) × (Nat → Int32) × (Nat → Int32) × (Int32) × (Int32)
def SS_cap (s : SS) : Nat := s.1
def SS_cap_s (s : SS) (v : Nat) : SS := (v, s.2)
def SS_first (s : SS) : Nat → Int32 := s.2.1
def SS_first_s (s : SS) (v : Nat → Int32) : SS := (s.1, v, s.2.2)
def SS_owner (s : SS) : Nat → Int32 := s.2.2.1
def SS_owner_s (s : SS) (v : Nat → Int32) : SS := (s.1, s.2.1, v, s.2.2.2)
def SS_row (s : SS) : Nat → Int32 := s.2.2.2.1
def SS_row_s (s : SS) (v : Nat → Int32) : SS := (s.1, s.2.1, s.2.2.1, v, s.2.2.2.2)
def SS_size (s : SS) : Int32 := s.2.2.2.2.1
def SS_size_s (s : SS) (v : Int32) : SS := (s.1, s.2.1, s.2.2.1, s.2.2.2.1, v, s.2.2.2.2.2)
def SS_issued (s : SS) : Int32 := s.2.2.2.2.2
def SS_issued_s (s : SS) (v : Int32) : SS := (s.1, s.2.1, s.2.2.1, s.2.2.2.1, s.2.2.2.2.1, v)
theorem SS_cap_cap (s : SS) (v : _) : SS_cap (SS_cap_s s v) = v := rfl
theorem SS_cap_first (s : SS) (v : _) : SS_cap (SS_first_s s v) = SS_cap s := rfl
theorem SS_cap_owner (s : SS) (v : _) : SS_cap (SS_owner_s s v) = SS_cap s := rfl
theorem SS_cap_row (s : SS) (v : _) : SS_cap (SS_row_s s v) = SS_cap s := rfl
theorem SS_cap_size (s : SS) (v : _) : SS_cap (SS_size_s s v) = SS_cap s := rfl
theorem SS_cap_issued (s : SS) (v : _) : SS_cap (SS_issued_s s v) = SS_cap s := rfl
theorem SS_first_cap (s : SS) (v : _) : SS_first (SS_cap_s s v) = SS_first s := rfl
theorem SS_first_first (s : SS) (v : _) : SS_first (SS_first_s s v) = v := rfl
theorem SS_first_owner (s : SS) (v : _) : SS_first (SS_owner_s s v) = SS_first s := rfl
theorem SS_first_row (s : SS) (v : _) : SS_first (SS_row_s s v) = SS_first s := rfl
theorem SS_first_size (s : SS) (v : _) : SS_first (SS_size_s s v) = SS_first s := rfl
theorem SS_first_issued (s : SS) (v : _) : SS_first (SS_issued_s s v) = SS_first s := rfl
theorem SS_owner_cap (s : SS) (v : _) : SS_owner (SS_cap_s s v) = SS_owner s := rfl
theorem SS_owner_first (s : SS) (v : _) : SS_owner (SS_first_s s v) = SS_owner s := rfl
theorem SS_owner_owner (s : SS) (v : _) : SS_owner (SS_owner_s s v) = v := rfl
theorem SS_owner_row (s : SS) (v : _) : SS_owner (SS_row_s s v) = SS_owner s := rfl
theorem SS_owner_size (s : SS) (v : _) : SS_owner (SS_size_s s v) = SS_owner s := rfl
theorem SS_owner_issued (s : SS) (v : _) : SS_owner (SS_issued_s s v) = SS_owner s := rfl
theorem SS_row_cap (s : SS) (v : _) : SS_row (SS_cap_s s v) = SS_row s := rfl
theorem SS_row_first (s : SS) (v : _) : SS_row (SS_first_s s v) = SS_row s := rfl
theorem SS_row_owner (s : SS) (v : _) : SS_row (SS_owner_s s v) = SS_row s := rfl
theorem SS_row_row (s : SS) (v : _) : SS_row (SS_row_s s v) = v := rfl
theorem SS_row_size (s : SS) (v : _) : SS_row (SS_size_s s v) = SS_row s := rfl
theorem SS_row_issued (s : SS) (v : _) : SS_row (SS_issued_s s v) = SS_row s := rfl
theorem SS_size_cap (s : SS) (v : _) : SS_size (SS_cap_s s v) = SS_size s := rfl
theorem SS_size_first (s : SS) (v : _) : SS_size (SS_first_s s v) = SS_size s := rfl
theorem SS_size_owner (s : SS) (v : _) : SS_size (SS_owner_s s v) = SS_size s := rfl
theorem SS_size_row (s : SS) (v : _) : SS_size (SS_row_s s v) = SS_size s := rfl
theorem SS_size_size (s : SS) (v : _) : SS_size (SS_size_s s v) = v := rfl
theorem SS_size_issued (s : SS) (v : _) : SS_size (SS_issued_s s v) = SS_size s := rfl
theorem SS_issued_cap (s : SS) (v : _) : SS_issued (SS_cap_s s v) = SS_issued s := rfl
theorem SS_issued_first (s : SS) (v : _) : SS_issued (SS_first_s s v) = SS_issued s := rfl
theorem SS_issued_owner (s : SS) (v : _) : SS_issued (SS_owner_s s v) = SS_issued s := rfl
theorem SS_issued_row (s : SS) (v : _) : SS_issued (SS_row_s s v) = SS_issued s := rfl
theorem SS_issued_size (s : SS) (v : _) : SS_issued (SS_size_s s v) = SS_issued s := rfl
theorem SS_issued_issued (s : SS) (v : _) : SS_issued (SS_issued_s s v) = v := rfl
theorem SS_ext {s t : SS} (h0 : SS_cap s = SS_cap t) (h1 : SS_first s = SS_first t) (h2 : SS_owner s = SS_owner t) (h3 : SS_row s = SS_row t) (h4 : SS_size s = SS_size t) (h5 : SS_issued s = SS_issued t) : s = t := (Prod.ext h0 (Prod.ext h1 (Prod.ext h2 (Prod.ext h3 (Prod.ext h4 h5)))))
abbrev MS : Type := (Int32) × (Int32) × (Int32) × (Nat → Int32) × (Nat → Int32) × (Nat → Int32) × (Nat → Int32) × (Int32) × (Nat → Int32) × (Nat → Int32) × (Nat → Int32) × (Nat → Int32) × (Nat → Int32) × (Nat → Int32) × (Int32) × (Nat → Int32) × (Nat → Int32) × (Nat → Int32) × (Nat → Int32) × (Int32) × (Nat → Int32) × (Nat → Int32) × (Nat → Int32) × (Nat → Int64) × (Nat → Int32) × (Nat → Int32)
def MS_thrown (s : MS) : Int32 := s.1
def MS_thrown_s (s : MS) (v : Int32) : MS := (v, s.2)
def MS_units (s : MS) : Int32 := s.2.1
def MS_units_s (s : MS) (v : Int32) : MS := (s.1, v, s.2.2)
def MS_holdings (s : MS) : Int32 := s.2.2.1
def MS_holdings_s (s : MS) (v : Int32) : MS := (s.1, s.2.1, v, s.2.2.2)
def MS_who (s : MS) : Nat → Int32 := s.2.2.2.1
def MS_who_s (s : MS) (v : Nat → Int32) : MS := (s.1, s.2.1, s.2.2.1, v, s.2.2.2.2)
def MS_whom (s : MS) : Nat → Int32 := s.2.2.2.2.1
def MS_whom_s (s : MS) (v : Nat → Int32) : MS := (s.1, s.2.1, s.2.2.1, s.2.2.2.1, v, s.2.2.2.2.2)
def MS_part (s : MS) : Nat → Int32 := s.2.2.2.2.2.1
def MS_part_s (s : MS) (v : Nat → Int32) : MS := (s.1, s.2.1, s.2.2.1, s.2.2.2.1, s.2.2.2.2.1, v, s.2.2.2.2.2.2)
def MS_since (s : MS) : Nat → Int32 := s.2.2.2.2.2.2.1
def MS_since_s (s : MS) (v : Nat → Int32) : MS := (s.1, s.2.1, s.2.2.1, s.2.2.2.1, s.2.2.2.2.1, s.2.2.2.2.2.1, v, s.2.2.2.2.2.2.2)
def MS_rows (s : MS) : Int32 := s.2.2.2.2.2.2.2.1
def MS_rows_s (s : MS) (v : Int32) : MS := (s.1, s.2.1, s.2.2.1, s.2.2.2.1, s.2.2.2.2.1, s.2.2.2.2.2.1, s.2.2.2.2.2.2.1, v, s.2.2.2.2.2.2.2.2)
def MS_unitOf (s : MS) : Nat → Int32 := s.2.2.2.2.2.2.2.2.1
def MS_unitOf_s (s : MS) (v : Nat → Int32) : MS := (s.1, s.2.1, s.2.2.1, s.2.2.2.1, s.2.2.2.2.1, s.2.2.2.2.2.1, s.2.2.2.2.2.2.1, s.2.2.2.2.2.2.2.1, v, s.2.2.2.2.2.2.2.2.2)
def MS_kind (s : MS) : Nat → Int32 := s.2.2.2.2.2.2.2.2.2.1
def MS_kind_s (s : MS) (v : Nat → Int32) : MS := (s.1, s.2.1, s.2.2.1, s.2.2.2.1, s.2.2.2.2.1, s.2.2.2.2.2.1, s.2.2.2.2.2.2.1, s.2.2.2.2.2.2.2.1, s.2.2.2.2.2.2.2.2.1, v, s.2.2.2.2.2.2.2.2.2.2)
def MS_amount (s : MS) : Nat → Int32 := s.2.2.2.2.2.2.2.2.2.2.1
def MS_amount_s (s : MS) (v : Nat → Int32) : MS := (s.1, s.2.1, s.2.2.1, s.2.2.2.1, s.2.2.2.2.1, s.2.2.2.2.2.1, s.2.2.2.2.2.2.1, s.2.2.2.2.2.2.2.1, s.2.2.2.2.2.2.2.2.1, s.2.2.2.2.2.2.2.2.2.1, v, s.2.2.2.2.2.2.2.2.2.2.2)
def MS_day (s : MS) : Nat → Int32 := s.2.2.2.2.2.2.2.2.2.2.2.1
def MS_day_s (s : MS) (v : Nat → Int32) : MS := (s.1, s.2.1, s.2.2.1, s.2.2.2.1, s.2.2.2.2.1, s.2.2.2.2.2.1, s.2.2.2.2.2.2.1, s.2.2.2.2.2.2.2.1, s.2.2.2.2.2.2.2.2.1, s.2.2.2.2.2.2.2.2.2.1, s.2.2.2.2.2.2.2.2.2.2.1, v, s.2.2.2.2.2.2.2.2.2.2.2.2)
def MS_seller (s : MS) : Nat → Int32 := s.2.2.2.2.2.2.2.2.2.2.2.2.1
def MS_seller_s (s : MS) (v : Nat → Int32) : MS := (s.1, s.2.1, s.2.2.1, s.2.2.2.1, s.2.2.2.2.1, s.2.2.2.2.2.1, s.2.2.2.2.2.2.1, s.2.2.2.2.2.2.2.1, s.2.2.2.2.2.2.2.2.1, s.2.2.2.2.2.2.2.2.2.1, s.2.2.2.2.2.2.2.2.2.2.1, s.2.2.2.2.2.2.2.2.2.2.2.1, v, s.2.2.2.2.2.2.2.2.2.2.2.2.2)
def MS_covered (s : MS) : Nat → Int32 := s.2.2.2.2.2.2.2.2.2.2.2.2.2.1
def MS_covered_s (s : MS) (v : Nat → Int32) : MS := (s.1, s.2.1, s.2.2.1, s.2.2.2.1, s.2.2.2.2.1, s.2.2.2.2.2.1, s.2.2.2.2.2.2.1, s.2.2.2.2.2.2.2.1, s.2.2.2.2.2.2.2.2.1, s.2.2.2.2.2.2.2.2.2.1, s.2.2.2.2.2.2.2.2.2.2.1, s.2.2.2.2.2.2.2.2.2.2.2.1, s.2.2.2.2.2.2.2.2.2.2.2.2.1, v, s.2.2.2.2.2.2.2.2.2.2.2.2.2.2)
def MS_versions (s : MS) : Int32 := s.2.2.2.2.2.2.2.2.2.2.2.2.2.2.1
def MS_versions_s (s : MS) (v : Int32) : MS := (s.1, s.2.1, s.2.2.1, s.2.2.2.1, s.2.2.2.2.1, s.2.2.2.2.2.1, s.2.2.2.2.2.2.1, s.2.2.2.2.2.2.2.1, s.2.2.2.2.2.2.2.2.1, s.2.2.2.2.2.2.2.2.2.1, s.2.2.2.2.2.2.2.2.2.2.1, s.2.2.2.2.2.2.2.2.2.2.2.1, s.2.2.2.2.2.2.2.2.2.2.2.2.1, s.2.2.2.2.2.2.2.2.2.2.2.2.2.1, v, s.2.2.2.2.2.2.2.2.2.2.2.2.2.2.2)
def MS_ofKind (s : MS) : Nat → Int32 := s.2.2.2.2.2.2.2.2.2.2.2.2.2.2.2.1
def MS_ofKind_s (s : MS) (v : Nat → Int32) : MS := (s.1, s.2.1, s.2.2.1, s.2.2.2.1, s.2.2.2.2.1, s.2.2.2.2.2.1, s.2.2.2.2.2.2.1, s.2.2.2.2.2.2.2.1, s.2.2.2.2.2.2.2.2.1, s.2.2.2.2.2.2.2.2.2.1, s.2.2.2.2.2.2.2.2.2.2.1, s.2.2.2.2.2.2.2.2.2.2.2.1, s.2.2.2.2.2.2.2.2.2.2.2.2.1, s.2.2.2.2.2.2.2.2.2.2.2.2.2.1, s.2.2.2.2.2.2.2.2.2.2.2.2.2.2.1, v, s.2.2.2.2.2.2.2.2.2.2.2.2.2.2.2.2)
def MS_ofYear (s : MS) : Nat → Int32 := s.2.2.2.2.2.2.2.2.2.2.2.2.2.2.2.2.1
def MS_ofYear_s (s : MS) (v : Nat → Int32) : MS := (s.1, s.2.1, s.2.2.1, s.2.2.2.1, s.2.2.2.2.1, s.2.2.2.2.2.1, s.2.2.2.2.2.2.1, s.2.2.2.2.2.2.2.1, s.2.2.2.2.2.2.2.2.1, s.2.2.2.2.2.2.2.2.2.1, s.2.2.2.2.2.2.2.2.2.2.1, s.2.2.2.2.2.2.2.2.2.2.2.1, s.2.2.2.2.2.2.2.2.2.2.2.2.1, s.2.2.2.2.2.2.2.2.2.2.2.2.2.1, s.2.2.2.2.2.2.2.2.2.2.2.2.2.2.1, s.2.2.2.2.2.2.2.2.2.2.2.2.2.2.2.1, v, s.2.2.2.2.2.2.2.2.2.2.2.2.2.2.2.2.2)
def MS_low (s : MS) : Nat → Int32 := s.2.2.2.2.2.2.2.2.2.2.2.2.2.2.2.2.2.1
def MS_low_s (s : MS) (v : Nat → Int32) : MS := (s.1, s.2.1, s.2.2.1, s.2.2.2.1, s.2.2.2.2.1, s.2.2.2.2.2.1, s.2.2.2.2.2.2.1, s.2.2.2.2.2.2.2.1, s.2.2.2.2.2.2.2.2.1, s.2.2.2.2.2.2.2.2.2.1, s.2.2.2.2.2.2.2.2.2.2.1, s.2.2.2.2.2.2.2.2.2.2.2.1, s.2.2.2.2.2.2.2.2.2.2.2.2.1, s.2.2.2.2.2.2.2.2.2.2.2.2.2.1, s.2.2.2.2.2.2.2.2.2.2.2.2.2.2.1, s.2.2.2.2.2.2.2.2.2.2.2.2.2.2.2.1, s.2.2.2.2.2.2.2.2.2.2.2.2.2.2.2.2.1, v, s.2.2.2.2.2.2.2.2.2.2.2.2.2.2.2.2.2.2)
def MS_high (s : MS) : Nat → Int32 := s.2.2.2.2.2.2.2.2.2.2.2.2.2.2.2.2.2.2.1
def MS_high_s (s : MS) (v : Nat → Int32) : MS := (s.1, s.2.1, s.2.2.1, s.2.2.2.1, s.2.2.2.2.1, s.2.2.2.2.2.1, s.2.2.2.2.2.2.1, s.2.2.2.2.2.2.2.1, s.2.2.2.2.2.2.2.2.1, s.2.2.2.2.2.2.2.2.2.1, s.2.2.2.2.2.2.2.2.2.2.1, s.2.2.2.2.2.2.2.2.2.2.2.1, s.2.2.2.2.2.2.2.2.2.2.2.2.1, s.2.2.2.2.2.2.2.2.2.2.2.2.2.1, s.2.2.2.2.2.2.2.2.2.2.2.2.2.2.1, s.2.2.2.2.2.2.2.2.2.2.2.2.2.2.2.1, s.2.2.2.2.2.2.2.2.2.2.2.2.2.2.2.2.1, s.2.2.2.2.2.2.2.2.2.2.2.2.2.2.2.2.2.1, v, s.2.2.2.2.2.2.2.2.2.2.2.2.2.2.2.2.2.2.2)
def MS_serials (s : MS) : Int32 := s.2.2.2.2.2.2.2.2.2.2.2.2.2.2.2.2.2.2.2.1
def MS_serials_s (s : MS) (v : Int32) : MS := (s.1, s.2.1, s.2.2.1, s.2.2.2.1, s.2.2.2.2.1, s.2.2.2.2.2.1, s.2.2.2.2.2.2.1, s.2.2.2.2.2.2.2.1, s.2.2.2.2.2.2.2.2.1, s.2.2.2.2.2.2.2.2.2.1, s.2.2.2.2.2.2.2.2.2.2.1, s.2.2.2.2.2.2.2.2.2.2.2.1, s.2.2.2.2.2.2.2.2.2.2.2.2.1, s.2.2.2.2.2.2.2.2.2.2.2.2.2.1, s.2.2.2.2.2.2.2.2.2.2.2.2.2.2.1, s.2.2.2.2.2.2.2.2.2.2.2.2.2.2.2.1, s.2.2.2.2.2.2.2.2.2.2.2.2.2.2.2.2.1, s.2.2.2.2.2.2.2.2.2.2.2.2.2.2.2.2.2.1, s.2.2.2.2.2.2.2.2.2.2.2.2.2.2.2.2.2.2.1, v, s.2.2.2.2.2.2.2.2.2.2.2.2.2.2.2.2.2.2.2.2)
def MS_owner (s : MS) : Nat → Int32 := s.2.2.2.2.2.2.2.2.2.2.2.2.2.2.2.2.2.2.2.2.1
def MS_owner_s (s : MS) (v : Nat → Int32) : MS := (s.1, s.2.1, s.2.2.1, s.2.2.2.1, s.2.2.2.2.1, s.2.2.2.2.2.1, s.2.2.2.2.2.2.1, s.2.2.2.2.2.2.2.1, s.2.2.2.2.2.2.2.2.1, s.2.2.2.2.2.2.2.2.2.1, s.2.2.2.2.2.2.2.2.2.2.1, s.2.2.2.2.2.2.2.2.2.2.2.1, s.2.2.2.2.2.2.2.2.2.2.2.2.1, s.2.2.2.2.2.2.2.2.2.2.2.2.2.1, s.2.2.2.2.2.2.2.2.2.2.2.2.2.2.1, s.2.2.2.2.2.2.2.2.2.2.2.2.2.2.2.1, s.2.2.2.2.2.2.2.2.2.2.2.2.2.2.2.2.1, s.2.2.2.2.2.2.2.2.2.2.2.2.2.2.2.2.2.1, s.2.2.2.2.2.2.2.2.2.2.2.2.2.2.2.2.2.2.1, s.2.2.2.2.2.2.2.2.2.2.2.2.2.2.2.2.2.2.2.1, v, s.2.2.2.2.2.2.2.2.2.2.2.2.2.2.2.2.2.2.2.2.2)
def MS_used (s : MS) : Nat → Int32 := s.2.2.2.2.2.2.2.2.2.2.2.2.2.2.2.2.2.2.2.2.2.1
def MS_used_s (s : MS) (v : Nat → Int32) : MS := (s.1, s.2.1, s.2.2.1, s.2.2.2.1, s.2.2.2.2.1, s.2.2.2.2.2.1, s.2.2.2.2.2.2.1, s.2.2.2.2.2.2.2.1, s.2.2.2.2.2.2.2.2.1, s.2.2.2.2.2.2.2.2.2.1, s.2.2.2.2.2.2.2.2.2.2.1, s.2.2.2.2.2.2.2.2.2.2.2.1, s.2.2.2.2.2.2.2.2.2.2.2.2.1, s.2.2.2.2.2.2.2.2.2.2.2.2.2.1, s.2.2.2.2.2.2.2.2.2.2.2.2.2.2.1, s.2.2.2.2.2.2.2.2.2.2.2.2.2.2.2.1, s.2.2.2.2.2.2.2.2.2.2.2.2.2.2.2.2.1, s.2.2.2.2.2.2.2.2.2.2.2.2.2.2.2.2.2.1, s.2.2.2.2.2.2.2.2.2.2.2.2.2.2.2.2.2.2.1, s.2.2.2.2.2.2.2.2.2.2.2.2.2.2.2.2.2.2.2.1, s.2.2.2.2.2.2.2.2.2.2.2.2.2.2.2.2.2.2.2.2.1, v, s.2.2.2.2.2.2.2.2.2.2.2.2.2.2.2.2.2.2.2.2.2.2)
def MS_held (s : MS) : Nat → Int32 := s.2.2.2.2.2.2.2.2.2.2.2.2.2.2.2.2.2.2.2.2.2.2.1
def MS_held_s (s : MS) (v : Nat → Int32) : MS := (s.1, s.2.1, s.2.2.1, s.2.2.2.1, s.2.2.2.2.1, s.2.2.2.2.2.1, s.2.2.2.2.2.2.1, s.2.2.2.2.2.2.2.1, s.2.2.2.2.2.2.2.2.1, s.2.2.2.2.2.2.2.2.2.1, s.2.2.2.2.2.2.2.2.2.2.1, s.2.2.2.2.2.2.2.2.2.2.2.1, s.2.2.2.2.2.2.2.2.2.2.2.2.1, s.2.2.2.2.2.2.2.2.2.2.2.2.2.1, s.2.2.2.2.2.2.2.2.2.2.2.2.2.2.1, s.2.2.2.2.2.2.2.2.2.2.2.2.2.2.2.1, s.2.2.2.2.2.2.2.2.2.2.2.2.2.2.2.2.1, s.2.2.2.2.2.2.2.2.2.2.2.2.2.2.2.2.2.1, s.2.2.2.2.2.2.2.2.2.2.2.2.2.2.2.2.2.2.1, s.2.2.2.2.2.2.2.2.2.2.2.2.2.2.2.2.2.2.2.1, s.2.2.2.2.2.2.2.2.2.2.2.2.2.2.2.2.2.2.2.2.1, s.2.2.2.2.2.2.2.2.2.2.2.2.2.2.2.2.2.2.2.2.2.1, v, s.2.2.2.2.2.2.2.2.2.2.2.2.2.2.2.2.2.2.2.2.2.2.2)
def MS_share (s : MS) : Nat → Int64 := s.2.2.2.2.2.2.2.2.2.2.2.2.2.2.2.2.2.2.2.2.2.2.2.1
def MS_share_s (s : MS) (v : Nat → Int64) : MS := (s.1, s.2.1, s.2.2.1, s.2.2.2.1, s.2.2.2.2.1, s.2.2.2.2.2.1, s.2.2.2.2.2.2.1, s.2.2.2.2.2.2.2.1, s.2.2.2.2.2.2.2.2.1, s.2.2.2.2.2.2.2.2.2.1, s.2.2.2.2.2.2.2.2.2.2.1, s.2.2.2.2.2.2.2.2.2.2.2.1, s.2.2.2.2.2.2.2.2.2.2.2.2.1, s.2.2.2.2.2.2.2.2.2.2.2.2.2.1, s.2.2.2.2.2.2.2.2.2.2.2.2.2.2.1, s.2.2.2.2.2.2.2.2.2.2.2.2.2.2.2.1, s.2.2.2.2.2.2.2.2.2.2.2.2.2.2.2.2.1, s.2.2.2.2.2.2.2.2.2.2.2.2.2.2.2.2.2.1, s.2.2.2.2.2.2.2.2.2.2.2.2.2.2.2.2.2.2.1, s.2.2.2.2.2.2.2.2.2.2.2.2.2.2.2.2.2.2.2.1, s.2.2.2.2.2.2.2.2.2.2.2.2.2.2.2.2.2.2.2.2.1, s.2.2.2.2.2.2.2.2.2.2.2.2.2.2.2.2.2.2.2.2.2.1, s.2.2.2.2.2.2.2.2.2.2.2.2.2.2.2.2.2.2.2.2.2.2.1, v, s.2.2.2.2.2.2.2.2.2.2.2.2.2.2.2.2.2.2.2.2.2.2.2.2)
def MS_edge (s : MS) : Nat → Int32 := s.2.2.2.2.2.2.2.2.2.2.2.2.2.2.2.2.2.2.2.2.2.2.2.2.1
def MS_edge_s (s : MS) (v : Nat → Int32) : MS := (s.1, s.2.1, s.2.2.1, s.2.2.2.1, s.2.2.2.2.1, s.2.2.2.2.2.1, s.2.2.2.2.2.2.1, s.2.2.2.2.2.2.2.1, s.2.2.2.2.2.2.2.2.1, s.2.2.2.2.2.2.2.2.2.1, s.2.2.2.2.2.2.2.2.2.2.1, s.2.2.2.2.2.2.2.2.2.2.2.1, s.2.2.2.2.2.2.2.2.2.2.2.2.1, s.2.2.2.2.2.2.2.2.2.2.2.2.2.1, s.2.2.2.2.2.2.2.2.2.2.2.2.2.2.1, s.2.2.2.2.2.2.2.2.2.2.2.2.2.2.2.1, s.2.2.2.2.2.2.2.2.2.2.2.2.2.2.2.2.1, s.2.2.2.2.2.2.2.2.2.2.2.2.2.2.2.2.2.1, s.2.2.2.2.2.2.2.2.2.2.2.2.2.2.2.2.2.2.1, s.2.2.2.2.2.2.2.2.2.2.2.2.2.2.2.2.2.2.2.1, s.2.2.2.2.2.2.2.2.2.2.2.2.2.2.2.2.2.2.2.2.1, s.2.2.2.2.2.2.2.2.2.2.2.2.2.2.2.2.2.2.2.2.2.1, s.2.2.2.2.2.2.2.2.2.2.2.2.2.2.2.2.2.2.2.2.2.2.1, s.2.2.2.2.2.2.2.2.2.2.2.2.2.2.2.2.2.2.2.2.2.2.2.1, v, s.2.2.2.2.2.2.2.2.2.2.2.2.2.2.2.2.2.2.2.2.2.2.2.2.2)
def MS_deep (s : MS) : Nat → Int32 := s.2.2.2.2.2.2.2.2.2.2.2.2.2.2.2.2.2.2.2.2.2.2.2.2.2
def MS_deep_s (s : MS) (v : Nat → Int32) : MS := (s.1, s.2.1, s.2.2.1, s.2.2.2.1, s.2.2.2.2.1, s.2.2.2.2.2.1, s.2.2.2.2.2.2.1, s.2.2.2.2.2.2.2.1, s.2.2.2.2.2.2.2.2.1, s.2.2.2.2.2.2.2.2.2.1, s.2.2.2.2.2.2.2.2.2.2.1, s.2.2.2.2.2.2.2.2.2.2.2.1, s.2.2.2.2.2.2.2.2.2.2.2.2.1, s.2.2.2.2.2.2.2.2.2.2.2.2.2.1, s.2.2.2.2.2.2.2.2.2.2.2.2.2.2.1, s.2.2.2.2.2.2.2.2.2.2.2.2.2.2.2.1, s.2.2.2.2.2.2.2.2.2.2.2.2.2.2.2.2.1, s.2.2.2.2.2.2.2.2.2.2.2.2.2.2.2.2.2.1, s.2.2.2.2.2.2.2.2.2.2.2.2.2.2.2.2.2.2.1, s.2.2.2.2.2.2.2.2.2.2.2.2.2.2.2.2.2.2.2.1, s.2.2.2.2.2.2.2.2.2.2.2.2.2.2.2.2.2.2.2.2.1, s.2.2.2.2.2.2.2.2.2.2.2.2.2.2.2.2.2.2.2.2.2.1, s.2.2.2.2.2.2.2.2.2.2.2.2.2.2.2.2.2.2.2.2.2.2.1, s.2.2.2.2.2.2.2.2.2.2.2.2.2.2.2.2.2.2.2.2.2.2.2.1, s.2.2.2.2.2.2.2.2.2.2.2.2.2.2.2.2.2.2.2.2.2.2.2.2.1, v)
theorem MS_thrown_thrown (s : MS) (v : _) : MS_thrown (MS_thrown_s s v) = v := rfl
theorem MS_thrown_units (s : MS) (v : _) : MS_thrown (MS_units_s s v) = MS_thrown s := rfl
theorem MS_thrown_holdings (s : MS) (v : _) : MS_thrown (MS_holdings_s s v) = MS_thrown s := rfl
theorem MS_thrown_who (s : MS) (v : _) : MS_thrown (MS_who_s s v) = MS_thrown s := rfl
theorem MS_thrown_whom (s : MS) (v : _) : MS_thrown (MS_whom_s s v) = MS_thrown s := rfl
theorem MS_thrown_part (s : MS) (v : _) : MS_thrown (MS_part_s s v) = MS_thrown s := rfl
theorem MS_thrown_since (s : MS) (v : _) : MS_thrown (MS_since_s s v) = MS_thrown s := rfl
theorem MS_thrown_rows (s : MS) (v : _) : MS_thrown (MS_rows_s s v) = MS_thrown s := rfl
theorem MS_thrown_unitOf (s : MS) (v : _) : MS_thrown (MS_unitOf_s s v) = MS_thrown s := rfl
theorem MS_thrown_kind (s : MS) (v : _) : MS_thrown (MS_kind_s s v) = MS_thrown s := rfl
theorem MS_thrown_amount (s : MS) (v : _) : MS_thrown (MS_amount_s s v) = MS_thrown s := rfl
theorem MS_thrown_day (s : MS) (v : _) : MS_thrown (MS_day_s s v) = MS_thrown s := rfl
theorem MS_thrown_seller (s : MS) (v : _) : MS_thrown (MS_seller_s s v) = MS_thrown s := rfl
theorem MS_thrown_covered (s : MS) (v : _) : MS_thrown (MS_covered_s s v) = MS_thrown s := rfl
theorem MS_thrown_versions (s : MS) (v : _) : MS_thrown (MS_versions_s s v) = MS_thrown s := rfl
theorem MS_thrown_ofKind (s : MS) (v : _) : MS_thrown (MS_ofKind_s s v) = MS_thrown s := rfl
theorem MS_thrown_ofYear (s : MS) (v : _) : MS_thrown (MS_ofYear_s s v) = MS_thrown s := rfl
theorem MS_thrown_low (s : MS) (v : _) : MS_thrown (MS_low_s s v) = MS_thrown s := rfl
theorem MS_thrown_high (s : MS) (v : _) : MS_thrown (MS_high_s s v) = MS_thrown s := rfl
theorem MS_thrown_serials (s : MS) (v : _) : MS_thrown (MS_serials_s s v) = MS_thrown s := rfl
theorem MS_thrown_owner (s : MS) (v : _) : MS_thrown (MS_owner_s s v) = MS_thrown s := rfl
theorem MS_thrown_used (s : MS) (v : _) : MS_thrown (MS_used_s s v) = MS_thrown s := rfl
theorem MS_thrown_held (s : MS) (v : _) : MS_thrown (MS_held_s s v) = MS_thrown s := rfl
theorem MS_thrown_share (s : MS) (v : _) : MS_thrown (MS_share_s s v) = MS_thrown s := rfl
theorem MS_thrown_edge (s : MS) (v : _) : MS_thrown (MS_edge_s s v) = MS_thrown s := rfl
theorem MS_thrown_deep (s : MS) (v : _) : MS_thrown (MS_deep_s s v) = MS_thrown s := rfl
theorem MS_units_thrown (s : MS) (v : _) : MS_units (MS_thrown_s s v) = MS_units s := rfl
theorem MS_units_units (s : MS) (v : _) : MS_units (MS_units_s s v) = v := rfl
theorem MS_units_holdings (s : MS) (v : _) : MS_units (MS_holdings_s s v) = MS_units s := rfl
theorem MS_units_who (s : MS) (v : _) : MS_units (MS_who_s s v) = MS_units s := rfl
theorem MS_units_whom (s : MS) (v : _) : MS_units (MS_whom_s s v) = MS_units s := rfl
theorem MS_units_part (s : MS) (v : _) : MS_units (MS_part_s s v) = MS_units s := rfl
theorem MS_units_since (s : MS) (v : _) : MS_units (MS_since_s s v) = MS_units s := rfl
theorem MS_units_rows (s : MS) (v : _) : MS_units (MS_rows_s s v) = MS_units s := rfl
theorem MS_units_unitOf (s : MS) (v : _) : MS_units (MS_unitOf_s s v) = MS_units s := rfl
theorem MS_units_kind (s : MS) (v : _) : MS_units (MS_kind_s s v) = MS_units s := rfl
theorem MS_units_amount (s : MS) (v : _) : MS_units (MS_amount_s s v) = MS_units s := rfl
theorem MS_units_day (s : MS) (v : _) : MS_units (MS_day_s s v) = MS_units s := rfl
theorem MS_units_seller (s : MS) (v : _) : MS_units (MS_seller_s s v) = MS_units s := rfl
theorem MS_units_covered (s : MS) (v : _) : MS_units (MS_covered_s s v) = MS_units s := rfl
theorem MS_units_versions (s : MS) (v : _) : MS_units (MS_versions_s s v) = MS_units s := rfl
theorem MS_units_ofKind (s : MS) (v : _) : MS_units (MS_ofKind_s s v) = MS_units s := rfl
theorem MS_units_ofYear (s : MS) (v : _) : MS_units (MS_ofYear_s s v) = MS_units s := rfl
theorem MS_units_low (s : MS) (v : _) : MS_units (MS_low_s s v) = MS_units s := rfl
theorem MS_units_high (s : MS) (v : _) : MS_units (MS_high_s s v) = MS_units s := rfl
theorem MS_units_serials (s : MS) (v : _) : MS_units (MS_serials_s s v) = MS_units s := rfl
theorem MS_units_owner (s : MS) (v : _) : MS_units (MS_owner_s s v) = MS_units s := rfl
theorem MS_units_used (s : MS) (v : _) : MS_units (MS_used_s s v) = MS_units s := rfl
theorem MS_units_held (s : MS) (v : _) : MS_units (MS_held_s s v) = MS_units s := rfl
theorem MS_units_share (s : MS) (v : _) : MS_units (MS_share_s s v) = MS_units s := rfl
theorem MS_units_edge (s : MS) (v : _) : MS_units (MS_edge_s s v) = MS_units s := rfl
theorem MS_units_deep (s : MS) (v : _) : MS_units (MS_deep_s s v) = MS_units s := rfl
theorem MS_holdings_thrown (s : MS) (v : _) : MS_holdings (MS_thrown_s s v) = MS_holdings s := rfl
theorem MS_holdings_units (s : MS) (v : _) : MS_holdings (MS_units_s s v) = MS_holdings s := rfl
theorem MS_holdings_holdings (s : MS) (v : _) : MS_holdings (MS_holdings_s s v) = v := rfl
theorem MS_holdings_who (s : MS) (v : _) : MS_holdings (MS_who_s s v) = MS_holdings s := rfl
theorem MS_holdings_whom (s : MS) (v : _) : MS_holdings (MS_whom_s s v) = MS_holdings s := rfl
theorem MS_holdings_part (s : MS) (v : _) : MS_holdings (MS_part_s s v) = MS_holdings s := rfl
theorem MS_holdings_since (s : MS) (v : _) : MS_holdings (MS_since_s s v) = MS_holdings s := rfl
theorem MS_holdings_rows (s : MS) (v : _) : MS_holdings (MS_rows_s s v) = MS_holdings s := rfl
theorem MS_holdings_unitOf (s : MS) (v : _) : MS_holdings (MS_unitOf_s s v) = MS_holdings s := rfl
theorem MS_holdings_kind (s : MS) (v : _) : MS_holdings (MS_kind_s s v) = MS_holdings s := rfl
theorem MS_holdings_amount (s : MS) (v : _) : MS_holdings (MS_amount_s s v) = MS_holdings s := rfl
theorem MS_holdings_day (s : MS) (v : _) : MS_holdings (MS_day_s s v) = MS_holdings s := rfl
theorem MS_holdings_seller (s : MS) (v : _) : MS_holdings (MS_seller_s s v) = MS_holdings s := rfl
theorem MS_holdings_covered (s : MS) (v : _) : MS_holdings (MS_covered_s s v) = MS_holdings s := rfl
theorem MS_holdings_versions (s : MS) (v : _) : MS_holdings (MS_versions_s s v) = MS_holdings s := rfl
theorem MS_holdings_ofKind (s : MS) (v : _) : MS_holdings (MS_ofKind_s s v) = MS_holdings s := rfl
theorem MS_holdings_ofYear (s : MS) (v : _) : MS_holdings (MS_ofYear_s s v) = MS_holdings s := rfl
theorem MS_holdings_low (s : MS) (v : _) : MS_holdings (MS_low_s s v) = MS_holdings s := rfl
theorem MS_holdings_high (s : MS) (v : _) : MS_holdings (MS_high_s s v) = MS_holdings s := rfl
theorem MS_holdings_serials (s : MS) (v : _) : MS_holdings (MS_serials_s s v) = MS_holdings s := rfl
theorem MS_holdings_owner (s : MS) (v : _) : MS_holdings (MS_owner_s s v) = MS_holdings s := rfl
theorem MS_holdings_used (s : MS) (v : _) : MS_holdings (MS_used_s s v) = MS_holdings s := rfl
theorem MS_holdings_held (s : MS) (v : _) : MS_holdings (MS_held_s s v) = MS_holdings s := rfl
theorem MS_holdings_share (s : MS) (v : _) : MS_holdings (MS_share_s s v) = MS_holdings s := rfl
theorem MS_holdings_edge (s : MS) (v : _) : MS_holdings (MS_edge_s s v) = MS_holdings s := rfl
theorem MS_holdings_deep (s : MS) (v : _) : MS_holdings (MS_deep_s s v) = MS_holdings s := rfl
theorem MS_who_thrown (s : MS) (v : _) : MS_who (MS_thrown_s s v) = MS_who s := rfl
theorem MS_who_units (s : MS) (v : _) : MS_who (MS_units_s s v) = MS_who s := rfl
theorem MS_who_holdings (s : MS) (v : _) : MS_who (MS_holdings_s s v) = MS_who s := rfl
theorem MS_who_who (s : MS) (v : _) : MS_who (MS_who_s s v) = v := rfl
theorem MS_who_whom (s : MS) (v : _) : MS_who (MS_whom_s s v) = MS_who s := rfl
theorem MS_who_part (s : MS) (v : _) : MS_who (MS_part_s s v) = MS_who s := rfl
theorem MS_who_since (s : MS) (v : _) : MS_who (MS_since_s s v) = MS_who s := rfl
theorem MS_who_rows (s : MS) (v : _) : MS_who (MS_rows_s s v) = MS_who s := rfl
theorem MS_who_unitOf (s : MS) (v : _) : MS_who (MS_unitOf_s s v) = MS_who s := rfl
theorem MS_who_kind (s : MS) (v : _) : MS_who (MS_kind_s s v) = MS_who s := rfl
theorem MS_who_amount (s : MS) (v : _) : MS_who (MS_amount_s s v) = MS_who s := rfl
theorem MS_who_day (s : MS) (v : _) : MS_who (MS_day_s s v) = MS_who s := rfl
theorem MS_who_seller (s : MS) (v : _) : MS_who (MS_seller_s s v) = MS_who s := rfl
theorem MS_who_covered (s : MS) (v : _) : MS_who (MS_covered_s s v) = MS_who s := rfl
theorem MS_who_versions (s : MS) (v : _) : MS_who (MS_versions_s s v) = MS_who s := rfl
theorem MS_who_ofKind (s : MS) (v : _) : MS_who (MS_ofKind_s s v) = MS_who s := rfl
theorem MS_who_ofYear (s : MS) (v : _) : MS_who (MS_ofYear_s s v) = MS_who s := rfl
theorem MS_who_low (s : MS) (v : _) : MS_who (MS_low_s s v) = MS_who s := rfl
theorem MS_who_high (s : MS) (v : _) : MS_who (MS_high_s s v) = MS_who s := rfl
theorem MS_who_serials (s : MS) (v : _) : MS_who (MS_serials_s s v) = MS_who s := rfl
theorem MS_who_owner (s : MS) (v : _) : MS_who (MS_owner_s s v) = MS_who s := rfl
theorem MS_who_used (s : MS) (v : _) : MS_who (MS_used_s s v) = MS_who s := rfl
theorem MS_who_held (s : MS) (v : _) : MS_who (MS_held_s s v) = MS_who s := rfl
theorem MS_who_share (s : MS) (v : _) : MS_who (MS_share_s s v) = MS_who s := rfl
theorem MS_who_edge (s : MS) (v : _) : MS_who (MS_edge_s s v) = MS_who s := rfl
theorem MS_who_deep (s : MS) (v : _) : MS_who (MS_deep_s s v) = MS_who s := rfl
theorem MS_whom_thrown (s : MS) (v : _) : MS_whom (MS_thrown_s s v) = MS_whom s := rfl
theorem MS_whom_units (s : MS) (v : _) : MS_whom (MS_units_s s v) = MS_whom s := rfl
theorem MS_whom_holdings (s : MS) (v : _) : MS_whom (MS_holdings_s s v) = MS_whom s := rfl
theorem MS_whom_who (s : MS) (v : _) : MS_whom (MS_who_s s v) = MS_whom s := rfl
theorem MS_whom_whom (s : MS) (v : _) : MS_whom (MS_whom_s s v) = v := rfl
theorem MS_whom_part (s : MS) (v : _) : MS_whom (MS_part_s s v) = MS_whom s := rfl
theorem MS_whom_since (s : MS) (v : _) : MS_whom (MS_since_s s v) = MS_whom s := rfl
theorem MS_whom_rows (s : MS) (v : _) : MS_whom (MS_rows_s s v) = MS_whom s := rfl
theorem MS_whom_unitOf (s : MS) (v : _) : MS_whom (MS_unitOf_s s v) = MS_whom s := rfl
theorem MS_whom_kind (s : MS) (v : _) : MS_whom (MS_kind_s s v) = MS_whom s := rfl
theorem MS_whom_amount (s : MS) (v : _) : MS_whom (MS_amount_s s v) = MS_whom s := rfl
theorem MS_whom_day (s : MS) (v : _) : MS_whom (MS_day_s s v) = MS_whom s := rfl
theorem MS_whom_seller (s : MS) (v : _) : MS_whom (MS_seller_s s v) = MS_whom s := rfl
theorem MS_whom_covered (s : MS) (v : _) : MS_whom (MS_covered_s s v) = MS_whom s := rfl
theorem MS_whom_versions (s : MS) (v : _) : MS_whom (MS_versions_s s v) = MS_whom s := rfl
theorem MS_whom_ofKind (s : MS) (v : _) : MS_whom (MS_ofKind_s s v) = MS_whom s := rfl
theorem MS_whom_ofYear (s : MS) (v : _) : MS_whom (MS_ofYear_s s v) = MS_whom s := rfl
theorem MS_whom_low (s : MS) (v : _) : MS_whom (MS_low_s s v) = MS_whom s := rfl
theorem MS_whom_high (s : MS) (v : _) : MS_whom (MS_high_s s v) = MS_whom s := rfl
theorem MS_whom_serials (s : MS) (v : _) : MS_whom (MS_serials_s s v) = MS_whom s := rfl
theorem MS_whom_owner (s : MS) (v : _) : MS_whom (MS_owner_s s v) = MS_whom s := rfl
theorem MS_whom_used (s : MS) (v : _) : MS_whom (MS_used_s s v) = MS_whom s := rfl
theorem MS_whom_held (s : MS) (v : _) : MS_whom (MS_held_s s v) = MS_whom s := rfl
theorem MS_whom_share (s : MS) (v : _) : MS_whom (MS_share_s s v) = MS_whom s := rfl
theorem MS_whom_edge (s : MS) (v : _) : MS_whom (MS_edge_s s v) = MS_whom s := rfl
theorem MS_whom_deep (s : MS) (v : _) : MS_whom (MS_deep_s s v) = MS_whom s := rfl
theorem MS_part_thrown (s : MS) (v : _) : MS_part (MS_thrown_s s v) = MS_part s := rfl
theorem MS_part_units (s : MS) (v : _) : MS_part (MS_units_s s v) = MS_part s := rfl
theorem MS_part_holdings (s : MS) (v : _) : MS_part (MS_holdings_s s v) = MS_part s := rfl
theorem MS_part_who (s : MS) (v : _) : MS_part (MS_who_s s v) = MS_part s := rfl
theorem MS_part_whom (s : MS) (v : _) : MS_part (MS_whom_s s v) = MS_part s := rfl
theorem MS_part_part (s : MS) (v : _) : MS_part (MS_part_s s v) = v := rfl
theorem MS_part_since (s : MS) (v : _) : MS_part (MS_since_s s v) = MS_part s := rfl
theorem MS_part_rows (s : MS) (v : _) : MS_part (MS_rows_s s v) = MS_part s := rfl
theorem MS_part_unitOf (s : MS) (v : _) : MS_part (MS_unitOf_s s v) = MS_part s := rfl
theorem MS_part_kind (s : MS) (v : _) : MS_part (MS_kind_s s v) = MS_part s := rfl
theorem MS_part_amount (s : MS) (v : _) : MS_part (MS_amount_s s v) = MS_part s := rfl
theorem MS_part_day (s : MS) (v : _) : MS_part (MS_day_s s v) = MS_part s := rfl
theorem MS_part_seller (s : MS) (v : _) : MS_part (MS_seller_s s v) = MS_part s := rfl
theorem MS_part_covered (s : MS) (v : _) : MS_part (MS_covered_s s v) = MS_part s := rfl
theorem MS_part_versions (s : MS) (v : _) : MS_part (MS_versions_s s v) = MS_part s := rfl
theorem MS_part_ofKind (s : MS) (v : _) : MS_part (MS_ofKind_s s v) = MS_part s := rfl
theorem MS_part_ofYear (s : MS) (v : _) : MS_part (MS_ofYear_s s v) = MS_part s := rfl
theorem MS_part_low (s : MS) (v : _) : MS_part (MS_low_s s v) = MS_part s := rfl
theorem MS_part_high (s : MS) (v : _) : MS_part (MS_high_s s v) = MS_part s := rfl
theorem MS_part_serials (s : MS) (v : _) : MS_part (MS_serials_s s v) = MS_part s := rfl
theorem MS_part_owner (s : MS) (v : _) : MS_part (MS_owner_s s v) = MS_part s := rfl
theorem MS_part_used (s : MS) (v : _) : MS_part (MS_used_s s v) = MS_part s := rfl
theorem MS_part_held (s : MS) (v : _) : MS_part (MS_held_s s v) = MS_part s := rfl
theorem MS_part_share (s : MS) (v : _) : MS_part (MS_share_s s v) = MS_part s := rfl
theorem MS_part_edge (s : MS) (v : _) : MS_part (MS_edge_s s v) = MS_part s := rfl
theorem MS_part_deep (s : MS) (v : _) : MS_part (MS_deep_s s v) = MS_part s := rfl
theorem MS_since_thrown (s : MS) (v : _) : MS_since (MS_thrown_s s v) = MS_since s := rfl
theorem MS_since_units (s : MS) (v : _) : MS_since (MS_units_s s v) = MS_since s := rfl
theorem MS_since_holdings (s : MS) (v : _) : MS_since (MS_holdings_s s v) = MS_since s := rfl
theorem MS_since_who (s : MS) (v : _) : MS_since (MS_who_s s v) = MS_since s := rfl
theorem MS_since_whom (s : MS) (v : _) : MS_since (MS_whom_s s v) = MS_since s := rfl
theorem MS_since_part (s : MS) (v : _) : MS_since (MS_part_s s v) = MS_since s := rfl
theorem MS_since_since (s : MS) (v : _) : MS_since (MS_since_s s v) = v := rfl
theorem MS_since_rows (s : MS) (v : _) : MS_since (MS_rows_s s v) = MS_since s := rfl
theorem MS_since_unitOf (s : MS) (v : _) : MS_since (MS_unitOf_s s v) = MS_since s := rfl
theorem MS_since_kind (s : MS) (v : _) : MS_since (MS_kind_s s v) = MS_since s := rfl
theorem MS_since_amount (s : MS) (v : _) : MS_since (MS_amount_s s v) = MS_since s := rfl
theorem MS_since_day (s : MS) (v : _) : MS_since (MS_day_s s v) = MS_since s := rfl
theorem MS_since_seller (s : MS) (v : _) : MS_since (MS_seller_s s v) = MS_since s := rfl
theorem MS_since_covered (s : MS) (v : _) : MS_since (MS_covered_s s v) = MS_since s := rfl
theorem MS_since_versions (s : MS) (v : _) : MS_since (MS_versions_s s v) = MS_since s := rfl
theorem MS_since_ofKind (s : MS) (v : _) : MS_since (MS_ofKind_s s v) = MS_since s := rfl
theorem MS_since_ofYear (s : MS) (v : _) : MS_since (MS_ofYear_s s v) = MS_since s := rfl
theorem MS_since_low (s : MS) (v : _) : MS_since (MS_low_s s v) = MS_since s := rfl
theorem MS_since_high (s : MS) (v : _) : MS_since (MS_high_s s v) = MS_since s := rfl
theorem MS_since_serials (s : MS) (v : _) : MS_since (MS_serials_s s v) = MS_since s := rfl
theorem MS_since_owner (s : MS) (v : _) : MS_since (MS_owner_s s v) = MS_since s := rfl
theorem MS_since_used (s : MS) (v : _) : MS_since (MS_used_s s v) = MS_since s := rfl
theorem MS_since_held (s : MS) (v : _) : MS_since (MS_held_s s v) = MS_since s := rfl
theorem MS_since_share (s : MS) (v : _) : MS_since (MS_share_s s v) = MS_since s := rfl
theorem MS_since_edge (s : MS) (v : _) : MS_since (MS_edge_s s v) = MS_since s := rfl
theorem MS_since_deep (s : MS) (v : _) : MS_since (MS_deep_s s v) = MS_since s := rfl
theorem MS_rows_thrown (s : MS) (v : _) : MS_rows (MS_thrown_s s v) = MS_rows s := rfl
theorem MS_rows_units (s : MS) (v : _) : MS_rows (MS_units_s s v) = MS_rows s := rfl
theorem MS_rows_holdings (s : MS) (v : _) : MS_rows (MS_holdings_s s v) = MS_rows s := rfl
theorem MS_rows_who (s : MS) (v : _) : MS_rows (MS_who_s s v) = MS_rows s := rfl
theorem MS_rows_whom (s : MS) (v : _) : MS_rows (MS_whom_s s v) = MS_rows s := rfl
theorem MS_rows_part (s : MS) (v : _) : MS_rows (MS_part_s s v) = MS_rows s := rfl
theorem MS_rows_since (s : MS) (v : _) : MS_rows (MS_since_s s v) = MS_rows s := rfl
theorem MS_rows_rows (s : MS) (v : _) : MS_rows (MS_rows_s s v) = v := rfl
theorem MS_rows_unitOf (s : MS) (v : _) : MS_rows (MS_unitOf_s s v) = MS_rows s := rfl
theorem MS_rows_kind (s : MS) (v : _) : MS_rows (MS_kind_s s v) = MS_rows s := rfl
theorem MS_rows_amount (s : MS) (v : _) : MS_rows (MS_amount_s s v) = MS_rows s := rfl
theorem MS_rows_day (s : MS) (v : _) : MS_rows (MS_day_s s v) = MS_rows s := rfl
theorem MS_rows_seller (s : MS) (v : _) : MS_rows (MS_seller_s s v) = MS_rows s := rfl
theorem MS_rows_covered (s : MS) (v : _) : MS_rows (MS_covered_s s v) = MS_rows s := rfl
theorem MS_rows_versions (s : MS) (v : _) : MS_rows (MS_versions_s s v) = MS_rows s := rfl
theorem MS_rows_ofKind (s : MS) (v : _) : MS_rows (MS_ofKind_s s v) = MS_rows s := rfl
theorem MS_rows_ofYear (s : MS) (v : _) : MS_rows (MS_ofYear_s s v) = MS_rows s := rfl
theorem MS_rows_low (s : MS) (v : _) : MS_rows (MS_low_s s v) = MS_rows s := rfl
theorem MS_rows_high (s : MS) (v : _) : MS_rows (MS_high_s s v) = MS_rows s := rfl
theorem MS_rows_serials (s : MS) (v : _) : MS_rows (MS_serials_s s v) = MS_rows s := rfl
theorem MS_rows_owner (s : MS) (v : _) : MS_rows (MS_owner_s s v) = MS_rows s := rfl
theorem MS_rows_used (s : MS) (v : _) : MS_rows (MS_used_s s v) = MS_rows s := rfl
theorem MS_rows_held (s : MS) (v : _) : MS_rows (MS_held_s s v) = MS_rows s := rfl
theorem MS_rows_share (s : MS) (v : _) : MS_rows (MS_share_s s v) = MS_rows s := rfl
theorem MS_rows_edge (s : MS) (v : _) : MS_rows (MS_edge_s s v) = MS_rows s := rfl
theorem MS_rows_deep (s : MS) (v : _) : MS_rows (MS_deep_s s v) = MS_rows s := rfl
theorem MS_unitOf_thrown (s : MS) (v : _) : MS_unitOf (MS_thrown_s s v) = MS_unitOf s := rfl
theorem MS_unitOf_units (s : MS) (v : _) : MS_unitOf (MS_units_s s v) = MS_unitOf s := rfl
theorem MS_unitOf_holdings (s : MS) (v : _) : MS_unitOf (MS_holdings_s s v) = MS_unitOf s := rfl
theorem MS_unitOf_who (s : MS) (v : _) : MS_unitOf (MS_who_s s v) = MS_unitOf s := rfl
theorem MS_unitOf_whom (s : MS) (v : _) : MS_unitOf (MS_whom_s s v) = MS_unitOf s := rfl
theorem MS_unitOf_part (s : MS) (v : _) : MS_unitOf (MS_part_s s v) = MS_unitOf s := rfl
theorem MS_unitOf_since (s : MS) (v : _) : MS_unitOf (MS_since_s s v) = MS_unitOf s := rfl
theorem MS_unitOf_rows (s : MS) (v : _) : MS_unitOf (MS_rows_s s v) = MS_unitOf s := rfl
theorem MS_unitOf_unitOf (s : MS) (v : _) : MS_unitOf (MS_unitOf_s s v) = v := rfl
theorem MS_unitOf_kind (s : MS) (v : _) : MS_unitOf (MS_kind_s s v) = MS_unitOf s := rfl
theorem MS_unitOf_amount (s : MS) (v : _) : MS_unitOf (MS_amount_s s v) = MS_unitOf s := rfl
theorem MS_unitOf_day (s : MS) (v : _) : MS_unitOf (MS_day_s s v) = MS_unitOf s := rfl
theorem MS_unitOf_seller (s : MS) (v : _) : MS_unitOf (MS_seller_s s v) = MS_unitOf s := rfl
theorem MS_unitOf_covered (s : MS) (v : _) : MS_unitOf (MS_covered_s s v) = MS_unitOf s := rfl
theorem MS_unitOf_versions (s : MS) (v : _) : MS_unitOf (MS_versions_s s v) = MS_unitOf s := rfl
theorem MS_unitOf_ofKind (s : MS) (v : _) : MS_unitOf (MS_ofKind_s s v) = MS_unitOf s := rfl
theorem MS_unitOf_ofYear (s : MS) (v : _) : MS_unitOf (MS_ofYear_s s v) = MS_unitOf s := rfl
theorem MS_unitOf_low (s : MS) (v : _) : MS_unitOf (MS_low_s s v) = MS_unitOf s := rfl
theorem MS_unitOf_high (s : MS) (v : _) : MS_unitOf (MS_high_s s v) = MS_unitOf s := rfl
theorem MS_unitOf_serials (s : MS) (v : _) : MS_unitOf (MS_serials_s s v) = MS_unitOf s := rfl
theorem MS_unitOf_owner (s : MS) (v : _) : MS_unitOf (MS_owner_s s v) = MS_unitOf s := rfl
theorem MS_unitOf_used (s : MS) (v : _) : MS_unitOf (MS_used_s s v) = MS_unitOf s := rfl
theorem MS_unitOf_held (s : MS) (v : _) : MS_unitOf (MS_held_s s v) = MS_unitOf s := rfl
theorem MS_unitOf_share (s : MS) (v : _) : MS_unitOf (MS_share_s s v) = MS_unitOf s := rfl
theorem MS_unitOf_edge (s : MS) (v : _) : MS_unitOf (MS_edge_s s v) = MS_unitOf s := rfl
theorem MS_unitOf_deep (s : MS) (v : _) : MS_unitOf (MS_deep_s s v) = MS_unitOf s := rfl
theorem MS_kind_thrown (s : MS) (v : _) : MS_kind (MS_thrown_s s v) = MS_kind s := rfl
theorem MS_kind_units (s : MS) (v : _) : MS_kind (MS_units_s s v) = MS_kind s := rfl
theorem MS_kind_holdings (s : MS) (v : _) : MS_kind (MS_holdings_s s v) = MS_kind s := rfl
theorem MS_kind_who (s : MS) (v : _) : MS_kind (MS_who_s s v) = MS_kind s := rfl
theorem MS_kind_whom (s : MS) (v : _) : MS_kind (MS_whom_s s v) = MS_kind s := rfl
theorem MS_kind_part (s : MS) (v : _) : MS_kind (MS_part_s s v) = MS_kind s := rfl
theorem MS_kind_since (s : MS) (v : _) : MS_kind (MS_since_s s v) = MS_kind s := rfl
theorem MS_kind_rows (s : MS) (v : _) : MS_kind (MS_rows_s s v) = MS_kind s := rfl
theorem MS_kind_unitOf (s : MS) (v : _) : MS_kind (MS_unitOf_s s v) = MS_kind s := rfl
theorem MS_kind_kind (s : MS) (v : _) : MS_kind (MS_kind_s s v) = v := rfl
theorem MS_kind_amount (s : MS) (v : _) : MS_kind (MS_amount_s s v) = MS_kind s := rfl
theorem MS_kind_day (s : MS) (v : _) : MS_kind (MS_day_s s v) = MS_kind s := rfl
theorem MS_kind_seller (s : MS) (v : _) : MS_kind (MS_seller_s s v) = MS_kind s := rfl
theorem MS_kind_covered (s : MS) (v : _) : MS_kind (MS_covered_s s v) = MS_kind s := rfl
theorem MS_kind_versions (s : MS) (v : _) : MS_kind (MS_versions_s s v) = MS_kind s := rfl
theorem MS_kind_ofKind (s : MS) (v : _) : MS_kind (MS_ofKind_s s v) = MS_kind s := rfl
theorem MS_kind_ofYear (s : MS) (v : _) : MS_kind (MS_ofYear_s s v) = MS_kind s := rfl
theorem MS_kind_low (s : MS) (v : _) : MS_kind (MS_low_s s v) = MS_kind s := rfl
theorem MS_kind_high (s : MS) (v : _) : MS_kind (MS_high_s s v) = MS_kind s := rfl
theorem MS_kind_serials (s : MS) (v : _) : MS_kind (MS_serials_s s v) = MS_kind s := rfl
theorem MS_kind_owner (s : MS) (v : _) : MS_kind (MS_owner_s s v) = MS_kind s := rfl
theorem MS_kind_used (s : MS) (v : _) : MS_kind (MS_used_s s v) = MS_kind s := rfl
theorem MS_kind_held (s : MS) (v : _) : MS_kind (MS_held_s s v) = MS_kind s := rfl
theorem MS_kind_share (s : MS) (v : _) : MS_kind (MS_share_s s v) = MS_kind s := rfl
theorem MS_kind_edge (s : MS) (v : _) : MS_kind (MS_edge_s s v) = MS_kind s := rfl
theorem MS_kind_deep (s : MS) (v : _) : MS_kind (MS_deep_s s v) = MS_kind s := rfl
theorem MS_amount_thrown (s : MS) (v : _) : MS_amount (MS_thrown_s s v) = MS_amount s := rfl
theorem MS_amount_units (s : MS) (v : _) : MS_amount (MS_units_s s v) = MS_amount s := rfl
theorem MS_amount_holdings (s : MS) (v : _) : MS_amount (MS_holdings_s s v) = MS_amount s := rfl
theorem MS_amount_who (s : MS) (v : _) : MS_amount (MS_who_s s v) = MS_amount s := rfl
theorem MS_amount_whom (s : MS) (v : _) : MS_amount (MS_whom_s s v) = MS_amount s := rfl
theorem MS_amount_part (s : MS) (v : _) : MS_amount (MS_part_s s v) = MS_amount s := rfl
theorem MS_amount_since (s : MS) (v : _) : MS_amount (MS_since_s s v) = MS_amount s := rfl
theorem MS_amount_rows (s : MS) (v : _) : MS_amount (MS_rows_s s v) = MS_amount s := rfl
theorem MS_amount_unitOf (s : MS) (v : _) : MS_amount (MS_unitOf_s s v) = MS_amount s := rfl
theorem MS_amount_kind (s : MS) (v : _) : MS_amount (MS_kind_s s v) = MS_amount s := rfl
theorem MS_amount_amount (s : MS) (v : _) : MS_amount (MS_amount_s s v) = v := rfl
theorem MS_amount_day (s : MS) (v : _) : MS_amount (MS_day_s s v) = MS_amount s := rfl
theorem MS_amount_seller (s : MS) (v : _) : MS_amount (MS_seller_s s v) = MS_amount s := rfl
theorem MS_amount_covered (s : MS) (v : _) : MS_amount (MS_covered_s s v) = MS_amount s := rfl
theorem MS_amount_versions (s : MS) (v : _) : MS_amount (MS_versions_s s v) = MS_amount s := rfl
theorem MS_amount_ofKind (s : MS) (v : _) : MS_amount (MS_ofKind_s s v) = MS_amount s := rfl
theorem MS_amount_ofYear (s : MS) (v : _) : MS_amount (MS_ofYear_s s v) = MS_amount s := rfl
theorem MS_amount_low (s : MS) (v : _) : MS_amount (MS_low_s s v) = MS_amount s := rfl
theorem MS_amount_high (s : MS) (v : _) : MS_amount (MS_high_s s v) = MS_amount s := rfl
theorem MS_amount_serials (s : MS) (v : _) : MS_amount (MS_serials_s s v) = MS_amount s := rfl
theorem MS_amount_owner (s : MS) (v : _) : MS_amount (MS_owner_s s v) = MS_amount s := rfl
theorem MS_amount_used (s : MS) (v : _) : MS_amount (MS_used_s s v) = MS_amount s := rfl
theorem MS_amount_held (s : MS) (v : _) : MS_amount (MS_held_s s v) = MS_amount s := rfl
theorem MS_amount_share (s : MS) (v : _) : MS_amount (MS_share_s s v) = MS_amount s := rfl
theorem MS_amount_edge (s : MS) (v : _) : MS_amount (MS_edge_s s v) = MS_amount s := rfl
theorem MS_amount_deep (s : MS) (v : _) : MS_amount (MS_deep_s s v) = MS_amount s := rfl
theorem MS_day_thrown (s : MS) (v : _) : MS_day (MS_thrown_s s v) = MS_day s := rfl
theorem MS_day_units (s : MS) (v : _) : MS_day (MS_units_s s v) = MS_day s := rfl
theorem MS_day_holdings (s : MS) (v : _) : MS_day (MS_holdings_s s v) = MS_day s := rfl
theorem MS_day_who (s : MS) (v : _) : MS_day (MS_who_s s v) = MS_day s := rfl
theorem MS_day_whom (s : MS) (v : _) : MS_day (MS_whom_s s v) = MS_day s := rfl
theorem MS_day_part (s : MS) (v : _) : MS_day (MS_part_s s v) = MS_day s := rfl
theorem MS_day_since (s : MS) (v : _) : MS_day (MS_since_s s v) = MS_day s := rfl
theorem MS_day_rows (s : MS) (v : _) : MS_day (MS_rows_s s v) = MS_day s := rfl
theorem MS_day_unitOf (s : MS) (v : _) : MS_day (MS_unitOf_s s v) = MS_day s := rfl
theorem MS_day_kind (s : MS) (v : _) : MS_day (MS_kind_s s v) = MS_day s := rfl
theorem MS_day_amount (s : MS) (v : _) : MS_day (MS_amount_s s v) = MS_day s := rfl
theorem MS_day_day (s : MS) (v : _) : MS_day (MS_day_s s v) = v := rfl
theorem MS_day_seller (s : MS) (v : _) : MS_day (MS_seller_s s v) = MS_day s := rfl
theorem MS_day_covered (s : MS) (v : _) : MS_day (MS_covered_s s v) = MS_day s := rfl
theorem MS_day_versions (s : MS) (v : _) : MS_day (MS_versions_s s v) = MS_day s := rfl
theorem MS_day_ofKind (s : MS) (v : _) : MS_day (MS_ofKind_s s v) = MS_day s := rfl
theorem MS_day_ofYear (s : MS) (v : _) : MS_day (MS_ofYear_s s v) = MS_day s := rfl
theorem MS_day_low (s : MS) (v : _) : MS_day (MS_low_s s v) = MS_day s := rfl
theorem MS_day_high (s : MS) (v : _) : MS_day (MS_high_s s v) = MS_day s := rfl
theorem MS_day_serials (s : MS) (v : _) : MS_day (MS_serials_s s v) = MS_day s := rfl
theorem MS_day_owner (s : MS) (v : _) : MS_day (MS_owner_s s v) = MS_day s := rfl
theorem MS_day_used (s : MS) (v : _) : MS_day (MS_used_s s v) = MS_day s := rfl
theorem MS_day_held (s : MS) (v : _) : MS_day (MS_held_s s v) = MS_day s := rfl
theorem MS_day_share (s : MS) (v : _) : MS_day (MS_share_s s v) = MS_day s := rfl
theorem MS_day_edge (s : MS) (v : _) : MS_day (MS_edge_s s v) = MS_day s := rfl
theorem MS_day_deep (s : MS) (v : _) : MS_day (MS_deep_s s v) = MS_day s := rfl
theorem MS_seller_thrown (s : MS) (v : _) : MS_seller (MS_thrown_s s v) = MS_seller s := rfl
theorem MS_seller_units (s : MS) (v : _) : MS_seller (MS_units_s s v) = MS_seller s := rfl
theorem MS_seller_holdings (s : MS) (v : _) : MS_seller (MS_holdings_s s v) = MS_seller s := rfl
theorem MS_seller_who (s : MS) (v : _) : MS_seller (MS_who_s s v) = MS_seller s := rfl
theorem MS_seller_whom (s : MS) (v : _) : MS_seller (MS_whom_s s v) = MS_seller s := rfl
theorem MS_seller_part (s : MS) (v : _) : MS_seller (MS_part_s s v) = MS_seller s := rfl
theorem MS_seller_since (s : MS) (v : _) : MS_seller (MS_since_s s v) = MS_seller s := rfl
theorem MS_seller_rows (s : MS) (v : _) : MS_seller (MS_rows_s s v) = MS_seller s := rfl
theorem MS_seller_unitOf (s : MS) (v : _) : MS_seller (MS_unitOf_s s v) = MS_seller s := rfl
theorem MS_seller_kind (s : MS) (v : _) : MS_seller (MS_kind_s s v) = MS_seller s := rfl
theorem MS_seller_amount (s : MS) (v : _) : MS_seller (MS_amount_s s v) = MS_seller s := rfl
theorem MS_seller_day (s : MS) (v : _) : MS_seller (MS_day_s s v) = MS_seller s := rfl
theorem MS_seller_seller (s : MS) (v : _) : MS_seller (MS_seller_s s v) = v := rfl
theorem MS_seller_covered (s : MS) (v : _) : MS_seller (MS_covered_s s v) = MS_seller s := rfl
theorem MS_seller_versions (s : MS) (v : _) : MS_seller (MS_versions_s s v) = MS_seller s := rfl
theorem MS_seller_ofKind (s : MS) (v : _) : MS_seller (MS_ofKind_s s v) = MS_seller s := rfl
theorem MS_seller_ofYear (s : MS) (v : _) : MS_seller (MS_ofYear_s s v) = MS_seller s := rfl
theorem MS_seller_low (s : MS) (v : _) : MS_seller (MS_low_s s v) = MS_seller s := rfl
theorem MS_seller_high (s : MS) (v : _) : MS_seller (MS_high_s s v) = MS_seller s := rfl
theorem MS_seller_serials (s : MS) (v : _) : MS_seller (MS_serials_s s v) = MS_seller s := rfl
theorem MS_seller_owner (s : MS) (v : _) : MS_seller (MS_owner_s s v) = MS_seller s := rfl
theorem MS_seller_used (s : MS) (v : _) : MS_seller (MS_used_s s v) = MS_seller s := rfl
theorem MS_seller_held (s : MS) (v : _) : MS_seller (MS_held_s s v) = MS_seller s := rfl
theorem MS_seller_share (s : MS) (v : _) : MS_seller (MS_share_s s v) = MS_seller s := rfl
theorem MS_seller_edge (s : MS) (v : _) : MS_seller (MS_edge_s s v) = MS_seller s := rfl
theorem MS_seller_deep (s : MS) (v : _) : MS_seller (MS_deep_s s v) = MS_seller s := rfl
theorem MS_covered_thrown (s : MS) (v : _) : MS_covered (MS_thrown_s s v) = MS_covered s := rfl
theorem MS_covered_units (s : MS) (v : _) : MS_covered (MS_units_s s v) = MS_covered s := rfl
theorem MS_covered_holdings (s : MS) (v : _) : MS_covered (MS_holdings_s s v) = MS_covered s := rfl
theorem MS_covered_who (s : MS) (v : _) : MS_covered (MS_who_s s v) = MS_covered s := rfl
theorem MS_covered_whom (s : MS) (v : _) : MS_covered (MS_whom_s s v) = MS_covered s := rfl
theorem MS_covered_part (s : MS) (v : _) : MS_covered (MS_part_s s v) = MS_covered s := rfl
theorem MS_covered_since (s : MS) (v : _) : MS_covered (MS_since_s s v) = MS_covered s := rfl
theorem MS_covered_rows (s : MS) (v : _) : MS_covered (MS_rows_s s v) = MS_covered s := rfl
theorem MS_covered_unitOf (s : MS) (v : _) : MS_covered (MS_unitOf_s s v) = MS_covered s := rfl
theorem MS_covered_kind (s : MS) (v : _) : MS_covered (MS_kind_s s v) = MS_covered s := rfl
theorem MS_covered_amount (s : MS) (v : _) : MS_covered (MS_amount_s s v) = MS_covered s := rfl
theorem MS_covered_day (s : MS) (v : _) : MS_covered (MS_day_s s v) = MS_covered s := rfl
theorem MS_covered_seller (s : MS) (v : _) : MS_covered (MS_seller_s s v) = MS_covered s := rfl
theorem MS_covered_covered (s : MS) (v : _) : MS_covered (MS_covered_s s v) = v := rfl
theorem MS_covered_versions (s : MS) (v : _) : MS_covered (MS_versions_s s v) = MS_covered s := rfl
theorem MS_covered_ofKind (s : MS) (v : _) : MS_covered (MS_ofKind_s s v) = MS_covered s := rfl
theorem MS_covered_ofYear (s : MS) (v : _) : MS_covered (MS_ofYear_s s v) = MS_covered s := rfl
theorem MS_covered_low (s : MS) (v : _) : MS_covered (MS_low_s s v) = MS_covered s := rfl
theorem MS_covered_high (s : MS) (v : _) : MS_covered (MS_high_s s v) = MS_covered s := rfl
theorem MS_covered_serials (s : MS) (v : _) : MS_covered (MS_serials_s s v) = MS_covered s := rfl
theorem MS_covered_owner (s : MS) (v : _) : MS_covered (MS_owner_s s v) = MS_covered s := rfl
theorem MS_covered_used (s : MS) (v : _) : MS_covered (MS_used_s s v) = MS_covered s := rfl
theorem MS_covered_held (s : MS) (v : _) : MS_covered (MS_held_s s v) = MS_covered s := rfl
theorem MS_covered_share (s : MS) (v : _) : MS_covered (MS_share_s s v) = MS_covered s := rfl
theorem MS_covered_edge (s : MS) (v : _) : MS_covered (MS_edge_s s v) = MS_covered s := rfl
theorem MS_covered_deep (s : MS) (v : _) : MS_covered (MS_deep_s s v) = MS_covered s := rfl
theorem MS_versions_thrown (s : MS) (v : _) : MS_versions (MS_thrown_s s v) = MS_versions s := rfl
theorem MS_versions_units (s : MS) (v : _) : MS_versions (MS_units_s s v) = MS_versions s := rfl
theorem MS_versions_holdings (s : MS) (v : _) : MS_versions (MS_holdings_s s v) = MS_versions s := rfl
theorem MS_versions_who (s : MS) (v : _) : MS_versions (MS_who_s s v) = MS_versions s := rfl
theorem MS_versions_whom (s : MS) (v : _) : MS_versions (MS_whom_s s v) = MS_versions s := rfl
theorem MS_versions_part (s : MS) (v : _) : MS_versions (MS_part_s s v) = MS_versions s := rfl
theorem MS_versions_since (s : MS) (v : _) : MS_versions (MS_since_s s v) = MS_versions s := rfl
theorem MS_versions_rows (s : MS) (v : _) : MS_versions (MS_rows_s s v) = MS_versions s := rfl
theorem MS_versions_unitOf (s : MS) (v : _) : MS_versions (MS_unitOf_s s v) = MS_versions s := rfl
theorem MS_versions_kind (s : MS) (v : _) : MS_versions (MS_kind_s s v) = MS_versions s := rfl
theorem MS_versions_amount (s : MS) (v : _) : MS_versions (MS_amount_s s v) = MS_versions s := rfl
theorem MS_versions_day (s : MS) (v : _) : MS_versions (MS_day_s s v) = MS_versions s := rfl
theorem MS_versions_seller (s : MS) (v : _) : MS_versions (MS_seller_s s v) = MS_versions s := rfl
theorem MS_versions_covered (s : MS) (v : _) : MS_versions (MS_covered_s s v) = MS_versions s := rfl
theorem MS_versions_versions (s : MS) (v : _) : MS_versions (MS_versions_s s v) = v := rfl
theorem MS_versions_ofKind (s : MS) (v : _) : MS_versions (MS_ofKind_s s v) = MS_versions s := rfl
theorem MS_versions_ofYear (s : MS) (v : _) : MS_versions (MS_ofYear_s s v) = MS_versions s := rfl
theorem MS_versions_low (s : MS) (v : _) : MS_versions (MS_low_s s v) = MS_versions s := rfl
theorem MS_versions_high (s : MS) (v : _) : MS_versions (MS_high_s s v) = MS_versions s := rfl
theorem MS_versions_serials (s : MS) (v : _) : MS_versions (MS_serials_s s v) = MS_versions s := rfl
theorem MS_versions_owner (s : MS) (v : _) : MS_versions (MS_owner_s s v) = MS_versions s := rfl
theorem MS_versions_used (s : MS) (v : _) : MS_versions (MS_used_s s v) = MS_versions s := rfl
theorem MS_versions_held (s : MS) (v : _) : MS_versions (MS_held_s s v) = MS_versions s := rfl
theorem MS_versions_share (s : MS) (v : _) : MS_versions (MS_share_s s v) = MS_versions s := rfl
theorem MS_versions_edge (s : MS) (v : _) : MS_versions (MS_edge_s s v) = MS_versions s := rfl
theorem MS_versions_deep (s : MS) (v : _) : MS_versions (MS_deep_s s v) = MS_versions s := rfl
theorem MS_ofKind_thrown (s : MS) (v : _) : MS_ofKind (MS_thrown_s s v) = MS_ofKind s := rfl
theorem MS_ofKind_units (s : MS) (v : _) : MS_ofKind (MS_units_s s v) = MS_ofKind s := rfl
theorem MS_ofKind_holdings (s : MS) (v : _) : MS_ofKind (MS_holdings_s s v) = MS_ofKind s := rfl
theorem MS_ofKind_who (s : MS) (v : _) : MS_ofKind (MS_who_s s v) = MS_ofKind s := rfl
theorem MS_ofKind_whom (s : MS) (v : _) : MS_ofKind (MS_whom_s s v) = MS_ofKind s := rfl
theorem MS_ofKind_part (s : MS) (v : _) : MS_ofKind (MS_part_s s v) = MS_ofKind s := rfl
theorem MS_ofKind_since (s : MS) (v : _) : MS_ofKind (MS_since_s s v) = MS_ofKind s := rfl
theorem MS_ofKind_rows (s : MS) (v : _) : MS_ofKind (MS_rows_s s v) = MS_ofKind s := rfl
theorem MS_ofKind_unitOf (s : MS) (v : _) : MS_ofKind (MS_unitOf_s s v) = MS_ofKind s := rfl
theorem MS_ofKind_kind (s : MS) (v : _) : MS_ofKind (MS_kind_s s v) = MS_ofKind s := rfl
theorem MS_ofKind_amount (s : MS) (v : _) : MS_ofKind (MS_amount_s s v) = MS_ofKind s := rfl
theorem MS_ofKind_day (s : MS) (v : _) : MS_ofKind (MS_day_s s v) = MS_ofKind s := rfl
theorem MS_ofKind_seller (s : MS) (v : _) : MS_ofKind (MS_seller_s s v) = MS_ofKind s := rfl
theorem MS_ofKind_covered (s : MS) (v : _) : MS_ofKind (MS_covered_s s v) = MS_ofKind s := rfl
theorem MS_ofKind_versions (s : MS) (v : _) : MS_ofKind (MS_versions_s s v) = MS_ofKind s := rfl
theorem MS_ofKind_ofKind (s : MS) (v : _) : MS_ofKind (MS_ofKind_s s v) = v := rfl
theorem MS_ofKind_ofYear (s : MS) (v : _) : MS_ofKind (MS_ofYear_s s v) = MS_ofKind s := rfl
theorem MS_ofKind_low (s : MS) (v : _) : MS_ofKind (MS_low_s s v) = MS_ofKind s := rfl
theorem MS_ofKind_high (s : MS) (v : _) : MS_ofKind (MS_high_s s v) = MS_ofKind s := rfl
theorem MS_ofKind_serials (s : MS) (v : _) : MS_ofKind (MS_serials_s s v) = MS_ofKind s := rfl
theorem MS_ofKind_owner (s : MS) (v : _) : MS_ofKind (MS_owner_s s v) = MS_ofKind s := rfl
theorem MS_ofKind_used (s : MS) (v : _) : MS_ofKind (MS_used_s s v) = MS_ofKind s := rfl
theorem MS_ofKind_held (s : MS) (v : _) : MS_ofKind (MS_held_s s v) = MS_ofKind s := rfl
theorem MS_ofKind_share (s : MS) (v : _) : MS_ofKind (MS_share_s s v) = MS_ofKind s := rfl
theorem MS_ofKind_edge (s : MS) (v : _) : MS_ofKind (MS_edge_s s v) = MS_ofKind s := rfl
theorem MS_ofKind_deep (s : MS) (v : _) : MS_ofKind (MS_deep_s s v) = MS_ofKind s := rfl
theorem MS_ofYear_thrown (s : MS) (v : _) : MS_ofYear (MS_thrown_s s v) = MS_ofYear s := rfl
theorem MS_ofYear_units (s : MS) (v : _) : MS_ofYear (MS_units_s s v) = MS_ofYear s := rfl
theorem MS_ofYear_holdings (s : MS) (v : _) : MS_ofYear (MS_holdings_s s v) = MS_ofYear s := rfl
theorem MS_ofYear_who (s : MS) (v : _) : MS_ofYear (MS_who_s s v) = MS_ofYear s := rfl
theorem MS_ofYear_whom (s : MS) (v : _) : MS_ofYear (MS_whom_s s v) = MS_ofYear s := rfl
theorem MS_ofYear_part (s : MS) (v : _) : MS_ofYear (MS_part_s s v) = MS_ofYear s := rfl
theorem MS_ofYear_since (s : MS) (v : _) : MS_ofYear (MS_since_s s v) = MS_ofYear s := rfl
theorem MS_ofYear_rows (s : MS) (v : _) : MS_ofYear (MS_rows_s s v) = MS_ofYear s := rfl
theorem MS_ofYear_unitOf (s : MS) (v : _) : MS_ofYear (MS_unitOf_s s v) = MS_ofYear s := rfl
theorem MS_ofYear_kind (s : MS) (v : _) : MS_ofYear (MS_kind_s s v) = MS_ofYear s := rfl
theorem MS_ofYear_amount (s : MS) (v : _) : MS_ofYear (MS_amount_s s v) = MS_ofYear s := rfl
theorem MS_ofYear_day (s : MS) (v : _) : MS_ofYear (MS_day_s s v) = MS_ofYear s := rfl
theorem MS_ofYear_seller (s : MS) (v : _) : MS_ofYear (MS_seller_s s v) = MS_ofYear s := rfl
theorem MS_ofYear_covered (s : MS) (v : _) : MS_ofYear (MS_covered_s s v) = MS_ofYear s := rfl
theorem MS_ofYear_versions (s : MS) (v : _) : MS_ofYear (MS_versions_s s v) = MS_ofYear s := rfl
theorem MS_ofYear_ofKind (s : MS) (v : _) : MS_ofYear (MS_ofKind_s s v) = MS_ofYear s := rfl
theorem MS_ofYear_ofYear (s : MS) (v : _) : MS_ofYear (MS_ofYear_s s v) = v := rfl
theorem MS_ofYear_low (s : MS) (v : _) : MS_ofYear (MS_low_s s v) = MS_ofYear s := rfl
theorem MS_ofYear_high (s : MS) (v : _) : MS_ofYear (MS_high_s s v) = MS_ofYear s := rfl
theorem MS_ofYear_serials (s : MS) (v : _) : MS_ofYear (MS_serials_s s v) = MS_ofYear s := rfl
theorem MS_ofYear_owner (s : MS) (v : _) : MS_ofYear (MS_owner_s s v) = MS_ofYear s := rfl
theorem MS_ofYear_used (s : MS) (v : _) : MS_ofYear (MS_used_s s v) = MS_ofYear s := rfl
theorem MS_ofYear_held (s : MS) (v : _) : MS_ofYear (MS_held_s s v) = MS_ofYear s := rfl
theorem MS_ofYear_share (s : MS) (v : _) : MS_ofYear (MS_share_s s v) = MS_ofYear s := rfl
theorem MS_ofYear_edge (s : MS) (v : _) : MS_ofYear (MS_edge_s s v) = MS_ofYear s := rfl
theorem MS_ofYear_deep (s : MS) (v : _) : MS_ofYear (MS_deep_s s v) = MS_ofYear s := rfl
theorem MS_low_thrown (s : MS) (v : _) : MS_low (MS_thrown_s s v) = MS_low s := rfl
theorem MS_low_units (s : MS) (v : _) : MS_low (MS_units_s s v) = MS_low s := rfl
theorem MS_low_holdings (s : MS) (v : _) : MS_low (MS_holdings_s s v) = MS_low s := rfl
theorem MS_low_who (s : MS) (v : _) : MS_low (MS_who_s s v) = MS_low s := rfl
theorem MS_low_whom (s : MS) (v : _) : MS_low (MS_whom_s s v) = MS_low s := rfl
theorem MS_low_part (s : MS) (v : _) : MS_low (MS_part_s s v) = MS_low s := rfl
theorem MS_low_since (s : MS) (v : _) : MS_low (MS_since_s s v) = MS_low s := rfl
theorem MS_low_rows (s : MS) (v : _) : MS_low (MS_rows_s s v) = MS_low s := rfl
theorem MS_low_unitOf (s : MS) (v : _) : MS_low (MS_unitOf_s s v) = MS_low s := rfl
theorem MS_low_kind (s : MS) (v : _) : MS_low (MS_kind_s s v) = MS_low s := rfl
theorem MS_low_amount (s : MS) (v : _) : MS_low (MS_amount_s s v) = MS_low s := rfl
theorem MS_low_day (s : MS) (v : _) : MS_low (MS_day_s s v) = MS_low s := rfl
theorem MS_low_seller (s : MS) (v : _) : MS_low (MS_seller_s s v) = MS_low s := rfl
theorem MS_low_covered (s : MS) (v : _) : MS_low (MS_covered_s s v) = MS_low s := rfl
theorem MS_low_versions (s : MS) (v : _) : MS_low (MS_versions_s s v) = MS_low s := rfl
theorem MS_low_ofKind (s : MS) (v : _) : MS_low (MS_ofKind_s s v) = MS_low s := rfl
theorem MS_low_ofYear (s : MS) (v : _) : MS_low (MS_ofYear_s s v) = MS_low s := rfl
theorem MS_low_low (s : MS) (v : _) : MS_low (MS_low_s s v) = v := rfl
theorem MS_low_high (s : MS) (v : _) : MS_low (MS_high_s s v) = MS_low s := rfl
theorem MS_low_serials (s : MS) (v : _) : MS_low (MS_serials_s s v) = MS_low s := rfl
theorem MS_low_owner (s : MS) (v : _) : MS_low (MS_owner_s s v) = MS_low s := rfl
theorem MS_low_used (s : MS) (v : _) : MS_low (MS_used_s s v) = MS_low s := rfl
theorem MS_low_held (s : MS) (v : _) : MS_low (MS_held_s s v) = MS_low s := rfl
theorem MS_low_share (s : MS) (v : _) : MS_low (MS_share_s s v) = MS_low s := rfl
theorem MS_low_edge (s : MS) (v : _) : MS_low (MS_edge_s s v) = MS_low s := rfl
theorem MS_low_deep (s : MS) (v : _) : MS_low (MS_deep_s s v) = MS_low s := rfl
theorem MS_high_thrown (s : MS) (v : _) : MS_high (MS_thrown_s s v) = MS_high s := rfl
theorem MS_high_units (s : MS) (v : _) : MS_high (MS_units_s s v) = MS_high s := rfl
theorem MS_high_holdings (s : MS) (v : _) : MS_high (MS_holdings_s s v) = MS_high s := rfl
theorem MS_high_who (s : MS) (v : _) : MS_high (MS_who_s s v) = MS_high s := rfl
theorem MS_high_whom (s : MS) (v : _) : MS_high (MS_whom_s s v) = MS_high s := rfl
theorem MS_high_part (s : MS) (v : _) : MS_high (MS_part_s s v) = MS_high s := rfl
theorem MS_high_since (s : MS) (v : _) : MS_high (MS_since_s s v) = MS_high s := rfl
theorem MS_high_rows (s : MS) (v : _) : MS_high (MS_rows_s s v) = MS_high s := rfl
theorem MS_high_unitOf (s : MS) (v : _) : MS_high (MS_unitOf_s s v) = MS_high s := rfl
theorem MS_high_kind (s : MS) (v : _) : MS_high (MS_kind_s s v) = MS_high s := rfl
theorem MS_high_amount (s : MS) (v : _) : MS_high (MS_amount_s s v) = MS_high s := rfl
theorem MS_high_day (s : MS) (v : _) : MS_high (MS_day_s s v) = MS_high s := rfl
theorem MS_high_seller (s : MS) (v : _) : MS_high (MS_seller_s s v) = MS_high s := rfl
theorem MS_high_covered (s : MS) (v : _) : MS_high (MS_covered_s s v) = MS_high s := rfl
theorem MS_high_versions (s : MS) (v : _) : MS_high (MS_versions_s s v) = MS_high s := rfl
theorem MS_high_ofKind (s : MS) (v : _) : MS_high (MS_ofKind_s s v) = MS_high s := rfl
theorem MS_high_ofYear (s : MS) (v : _) : MS_high (MS_ofYear_s s v) = MS_high s := rfl
theorem MS_high_low (s : MS) (v : _) : MS_high (MS_low_s s v) = MS_high s := rfl
theorem MS_high_high (s : MS) (v : _) : MS_high (MS_high_s s v) = v := rfl
theorem MS_high_serials (s : MS) (v : _) : MS_high (MS_serials_s s v) = MS_high s := rfl
theorem MS_high_owner (s : MS) (v : _) : MS_high (MS_owner_s s v) = MS_high s := rfl
theorem MS_high_used (s : MS) (v : _) : MS_high (MS_used_s s v) = MS_high s := rfl
theorem MS_high_held (s : MS) (v : _) : MS_high (MS_held_s s v) = MS_high s := rfl
theorem MS_high_share (s : MS) (v : _) : MS_high (MS_share_s s v) = MS_high s := rfl
theorem MS_high_edge (s : MS) (v : _) : MS_high (MS_edge_s s v) = MS_high s := rfl
theorem MS_high_deep (s : MS) (v : _) : MS_high (MS_deep_s s v) = MS_high s := rfl
theorem MS_serials_thrown (s : MS) (v : _) : MS_serials (MS_thrown_s s v) = MS_serials s := rfl
theorem MS_serials_units (s : MS) (v : _) : MS_serials (MS_units_s s v) = MS_serials s := rfl
theorem MS_serials_holdings (s : MS) (v : _) : MS_serials (MS_holdings_s s v) = MS_serials s := rfl
theorem MS_serials_who (s : MS) (v : _) : MS_serials (MS_who_s s v) = MS_serials s := rfl
theorem MS_serials_whom (s : MS) (v : _) : MS_serials (MS_whom_s s v) = MS_serials s := rfl
theorem MS_serials_part (s : MS) (v : _) : MS_serials (MS_part_s s v) = MS_serials s := rfl
theorem MS_serials_since (s : MS) (v : _) : MS_serials (MS_since_s s v) = MS_serials s := rfl
theorem MS_serials_rows (s : MS) (v : _) : MS_serials (MS_rows_s s v) = MS_serials s := rfl
theorem MS_serials_unitOf (s : MS) (v : _) : MS_serials (MS_unitOf_s s v) = MS_serials s := rfl
theorem MS_serials_kind (s : MS) (v : _) : MS_serials (MS_kind_s s v) = MS_serials s := rfl
theorem MS_serials_amount (s : MS) (v : _) : MS_serials (MS_amount_s s v) = MS_serials s := rfl
theorem MS_serials_day (s : MS) (v : _) : MS_serials (MS_day_s s v) = MS_serials s := rfl
theorem MS_serials_seller (s : MS) (v : _) : MS_serials (MS_seller_s s v) = MS_serials s := rfl
theorem MS_serials_covered (s : MS) (v : _) : MS_serials (MS_covered_s s v) = MS_serials s := rfl
theorem MS_serials_versions (s : MS) (v : _) : MS_serials (MS_versions_s s v) = MS_serials s := rfl
theorem MS_serials_ofKind (s : MS) (v : _) : MS_serials (MS_ofKind_s s v) = MS_serials s := rfl
theorem MS_serials_ofYear (s : MS) (v : _) : MS_serials (MS_ofYear_s s v) = MS_serials s := rfl
theorem MS_serials_low (s : MS) (v : _) : MS_serials (MS_low_s s v) = MS_serials s := rfl
theorem MS_serials_high (s : MS) (v : _) : MS_serials (MS_high_s s v) = MS_serials s := rfl
theorem MS_serials_serials (s : MS) (v : _) : MS_serials (MS_serials_s s v) = v := rfl
theorem MS_serials_owner (s : MS) (v : _) : MS_serials (MS_owner_s s v) = MS_serials s := rfl
theorem MS_serials_used (s : MS) (v : _) : MS_serials (MS_used_s s v) = MS_serials s := rfl
theorem MS_serials_held (s : MS) (v : _) : MS_serials (MS_held_s s v) = MS_serials s := rfl
theorem MS_serials_share (s : MS) (v : _) : MS_serials (MS_share_s s v) = MS_serials s := rfl
theorem MS_serials_edge (s : MS) (v : _) : MS_serials (MS_edge_s s v) = MS_serials s := rfl
theorem MS_serials_deep (s : MS) (v : _) : MS_serials (MS_deep_s s v) = MS_serials s := rfl
theorem MS_owner_thrown (s : MS) (v : _) : MS_owner (MS_thrown_s s v) = MS_owner s := rfl
theorem MS_owner_units (s : MS) (v : _) : MS_owner (MS_units_s s v) = MS_owner s := rfl
theorem MS_owner_holdings (s : MS) (v : _) : MS_owner (MS_holdings_s s v) = MS_owner s := rfl
theorem MS_owner_who (s : MS) (v : _) : MS_owner (MS_who_s s v) = MS_owner s := rfl
theorem MS_owner_whom (s : MS) (v : _) : MS_owner (MS_whom_s s v) = MS_owner s := rfl
theorem MS_owner_part (s : MS) (v : _) : MS_owner (MS_part_s s v) = MS_owner s := rfl
theorem MS_owner_since (s : MS) (v : _) : MS_owner (MS_since_s s v) = MS_owner s := rfl
theorem MS_owner_rows (s : MS) (v : _) : MS_owner (MS_rows_s s v) = MS_owner s := rfl
theorem MS_owner_unitOf (s : MS) (v : _) : MS_owner (MS_unitOf_s s v) = MS_owner s := rfl
theorem MS_owner_kind (s : MS) (v : _) : MS_owner (MS_kind_s s v) = MS_owner s := rfl
theorem MS_owner_amount (s : MS) (v : _) : MS_owner (MS_amount_s s v) = MS_owner s := rfl
theorem MS_owner_day (s : MS) (v : _) : MS_owner (MS_day_s s v) = MS_owner s := rfl
theorem MS_owner_seller (s : MS) (v : _) : MS_owner (MS_seller_s s v) = MS_owner s := rfl
theorem MS_owner_covered (s : MS) (v : _) : MS_owner (MS_covered_s s v) = MS_owner s := rfl
theorem MS_owner_versions (s : MS) (v : _) : MS_owner (MS_versions_s s v) = MS_owner s := rfl
theorem MS_owner_ofKind (s : MS) (v : _) : MS_owner (MS_ofKind_s s v) = MS_owner s := rfl
theorem MS_owner_ofYear (s : MS) (v : _) : MS_owner (MS_ofYear_s s v) = MS_owner s := rfl
theorem MS_owner_low (s : MS) (v : _) : MS_owner (MS_low_s s v) = MS_owner s := rfl
theorem MS_owner_high (s : MS) (v : _) : MS_owner (MS_high_s s v) = MS_owner s := rfl
theorem MS_owner_serials (s : MS) (v : _) : MS_owner (MS_serials_s s v) = MS_owner s := rfl
theorem MS_owner_owner (s : MS) (v : _) : MS_owner (MS_owner_s s v) = v := rfl
theorem MS_owner_used (s : MS) (v : _) : MS_owner (MS_used_s s v) = MS_owner s := rfl
theorem MS_owner_held (s : MS) (v : _) : MS_owner (MS_held_s s v) = MS_owner s := rfl
theorem MS_owner_share (s : MS) (v : _) : MS_owner (MS_share_s s v) = MS_owner s := rfl
theorem MS_owner_edge (s : MS) (v : _) : MS_owner (MS_edge_s s v) = MS_owner s := rfl
theorem MS_owner_deep (s : MS) (v : _) : MS_owner (MS_deep_s s v) = MS_owner s := rfl
theorem MS_used_thrown (s : MS) (v : _) : MS_used (MS_thrown_s s v) = MS_used s := rfl
theorem MS_used_units (s : MS) (v : _) : MS_used (MS_units_s s v) = MS_used s := rfl
theorem MS_used_holdings (s : MS) (v : _) : MS_used (MS_holdings_s s v) = MS_used s := rfl
theorem MS_used_who (s : MS) (v : _) : MS_used (MS_who_s s v) = MS_used s := rfl
theorem MS_used_whom (s : MS) (v : _) : MS_used (MS_whom_s s v) = MS_used s := rfl
theorem MS_used_part (s : MS) (v : _) : MS_used (MS_part_s s v) = MS_used s := rfl
theorem MS_used_since (s : MS) (v : _) : MS_used (MS_since_s s v) = MS_used s := rfl
theorem MS_used_rows (s : MS) (v : _) : MS_used (MS_rows_s s v) = MS_used s := rfl
theorem MS_used_unitOf (s : MS) (v : _) : MS_used (MS_unitOf_s s v) = MS_used s := rfl
theorem MS_used_kind (s : MS) (v : _) : MS_used (MS_kind_s s v) = MS_used s := rfl
theorem MS_used_amount (s : MS) (v : _) : MS_used (MS_amount_s s v) = MS_used s := rfl
theorem MS_used_day (s : MS) (v : _) : MS_used (MS_day_s s v) = MS_used s := rfl
theorem MS_used_seller (s : MS) (v : _) : MS_used (MS_seller_s s v) = MS_used s := rfl
theorem MS_used_covered (s : MS) (v : _) : MS_used (MS_covered_s s v) = MS_used s := rfl
theorem MS_used_versions (s : MS) (v : _) : MS_used (MS_versions_s s v) = MS_used s := rfl
theorem MS_used_ofKind (s : MS) (v : _) : MS_used (MS_ofKind_s s v) = MS_used s := rfl
theorem MS_used_ofYear (s : MS) (v : _) : MS_used (MS_ofYear_s s v) = MS_used s := rfl
theorem MS_used_low (s : MS) (v : _) : MS_used (MS_low_s s v) = MS_used s := rfl
theorem MS_used_high (s : MS) (v : _) : MS_used (MS_high_s s v) = MS_used s := rfl
theorem MS_used_serials (s : MS) (v : _) : MS_used (MS_serials_s s v) = MS_used s := rfl
theorem MS_used_owner (s : MS) (v : _) : MS_used (MS_owner_s s v) = MS_used s := rfl
theorem MS_used_used (s : MS) (v : _) : MS_used (MS_used_s s v) = v := rfl
theorem MS_used_held (s : MS) (v : _) : MS_used (MS_held_s s v) = MS_used s := rfl
theorem MS_used_share (s : MS) (v : _) : MS_used (MS_share_s s v) = MS_used s := rfl
theorem MS_used_edge (s : MS) (v : _) : MS_used (MS_edge_s s v) = MS_used s := rfl
theorem MS_used_deep (s : MS) (v : _) : MS_used (MS_deep_s s v) = MS_used s := rfl
theorem MS_held_thrown (s : MS) (v : _) : MS_held (MS_thrown_s s v) = MS_held s := rfl
theorem MS_held_units (s : MS) (v : _) : MS_held (MS_units_s s v) = MS_held s := rfl
theorem MS_held_holdings (s : MS) (v : _) : MS_held (MS_holdings_s s v) = MS_held s := rfl
theorem MS_held_who (s : MS) (v : _) : MS_held (MS_who_s s v) = MS_held s := rfl
theorem MS_held_whom (s : MS) (v : _) : MS_held (MS_whom_s s v) = MS_held s := rfl
theorem MS_held_part (s : MS) (v : _) : MS_held (MS_part_s s v) = MS_held s := rfl
theorem MS_held_since (s : MS) (v : _) : MS_held (MS_since_s s v) = MS_held s := rfl
theorem MS_held_rows (s : MS) (v : _) : MS_held (MS_rows_s s v) = MS_held s := rfl
theorem MS_held_unitOf (s : MS) (v : _) : MS_held (MS_unitOf_s s v) = MS_held s := rfl
theorem MS_held_kind (s : MS) (v : _) : MS_held (MS_kind_s s v) = MS_held s := rfl
theorem MS_held_amount (s : MS) (v : _) : MS_held (MS_amount_s s v) = MS_held s := rfl
theorem MS_held_day (s : MS) (v : _) : MS_held (MS_day_s s v) = MS_held s := rfl
theorem MS_held_seller (s : MS) (v : _) : MS_held (MS_seller_s s v) = MS_held s := rfl
theorem MS_held_covered (s : MS) (v : _) : MS_held (MS_covered_s s v) = MS_held s := rfl
theorem MS_held_versions (s : MS) (v : _) : MS_held (MS_versions_s s v) = MS_held s := rfl
theorem MS_held_ofKind (s : MS) (v : _) : MS_held (MS_ofKind_s s v) = MS_held s := rfl
theorem MS_held_ofYear (s : MS) (v : _) : MS_held (MS_ofYear_s s v) = MS_held s := rfl
theorem MS_held_low (s : MS) (v : _) : MS_held (MS_low_s s v) = MS_held s := rfl
theorem MS_held_high (s : MS) (v : _) : MS_held (MS_high_s s v) = MS_held s := rfl
theorem MS_held_serials (s : MS) (v : _) : MS_held (MS_serials_s s v) = MS_held s := rfl
theorem MS_held_owner (s : MS) (v : _) : MS_held (MS_owner_s s v) = MS_held s := rfl
theorem MS_held_used (s : MS) (v : _) : MS_held (MS_used_s s v) = MS_held s := rfl
theorem MS_held_held (s : MS) (v : _) : MS_held (MS_held_s s v) = v := rfl
theorem MS_held_share (s : MS) (v : _) : MS_held (MS_share_s s v) = MS_held s := rfl
theorem MS_held_edge (s : MS) (v : _) : MS_held (MS_edge_s s v) = MS_held s := rfl
theorem MS_held_deep (s : MS) (v : _) : MS_held (MS_deep_s s v) = MS_held s := rfl
theorem MS_share_thrown (s : MS) (v : _) : MS_share (MS_thrown_s s v) = MS_share s := rfl
theorem MS_share_units (s : MS) (v : _) : MS_share (MS_units_s s v) = MS_share s := rfl
theorem MS_share_holdings (s : MS) (v : _) : MS_share (MS_holdings_s s v) = MS_share s := rfl
theorem MS_share_who (s : MS) (v : _) : MS_share (MS_who_s s v) = MS_share s := rfl
theorem MS_share_whom (s : MS) (v : _) : MS_share (MS_whom_s s v) = MS_share s := rfl
theorem MS_share_part (s : MS) (v : _) : MS_share (MS_part_s s v) = MS_share s := rfl
theorem MS_share_since (s : MS) (v : _) : MS_share (MS_since_s s v) = MS_share s := rfl
theorem MS_share_rows (s : MS) (v : _) : MS_share (MS_rows_s s v) = MS_share s := rfl
theorem MS_share_unitOf (s : MS) (v : _) : MS_share (MS_unitOf_s s v) = MS_share s := rfl
theorem MS_share_kind (s : MS) (v : _) : MS_share (MS_kind_s s v) = MS_share s := rfl
theorem MS_share_amount (s : MS) (v : _) : MS_share (MS_amount_s s v) = MS_share s := rfl
theorem MS_share_day (s : MS) (v : _) : MS_share (MS_day_s s v) = MS_share s := rfl
theorem MS_share_seller (s : MS) (v : _) : MS_share (MS_seller_s s v) = MS_share s := rfl
theorem MS_share_covered (s : MS) (v : _) : MS_share (MS_covered_s s v) = MS_share s := rfl
theorem MS_share_versions (s : MS) (v : _) : MS_share (MS_versions_s s v) = MS_share s := rfl
theorem MS_share_ofKind (s : MS) (v : _) : MS_share (MS_ofKind_s s v) = MS_share s := rfl
theorem MS_share_ofYear (s : MS) (v : _) : MS_share (MS_ofYear_s s v) = MS_share s := rfl
theorem MS_share_low (s : MS) (v : _) : MS_share (MS_low_s s v) = MS_share s := rfl
theorem MS_share_high (s : MS) (v : _) : MS_share (MS_high_s s v) = MS_share s := rfl
theorem MS_share_serials (s : MS) (v : _) : MS_share (MS_serials_s s v) = MS_share s := rfl
theorem MS_share_owner (s : MS) (v : _) : MS_share (MS_owner_s s v) = MS_share s := rfl
theorem MS_share_used (s : MS) (v : _) : MS_share (MS_used_s s v) = MS_share s := rfl
theorem MS_share_held (s : MS) (v : _) : MS_share (MS_held_s s v) = MS_share s := rfl
theorem MS_share_share (s : MS) (v : _) : MS_share (MS_share_s s v) = v := rfl
theorem MS_share_edge (s : MS) (v : _) : MS_share (MS_edge_s s v) = MS_share s := rfl
theorem MS_share_deep (s : MS) (v : _) : MS_share (MS_deep_s s v) = MS_share s := rfl
theorem MS_edge_thrown (s : MS) (v : _) : MS_edge (MS_thrown_s s v) = MS_edge s := rfl
theorem MS_edge_units (s : MS) (v : _) : MS_edge (MS_units_s s v) = MS_edge s := rfl
theorem MS_edge_holdings (s : MS) (v : _) : MS_edge (MS_holdings_s s v) = MS_edge s := rfl
theorem MS_edge_who (s : MS) (v : _) : MS_edge (MS_who_s s v) = MS_edge s := rfl
theorem MS_edge_whom (s : MS) (v : _) : MS_edge (MS_whom_s s v) = MS_edge s := rfl
theorem MS_edge_part (s : MS) (v : _) : MS_edge (MS_part_s s v) = MS_edge s := rfl
theorem MS_edge_since (s : MS) (v : _) : MS_edge (MS_since_s s v) = MS_edge s := rfl
theorem MS_edge_rows (s : MS) (v : _) : MS_edge (MS_rows_s s v) = MS_edge s := rfl
theorem MS_edge_unitOf (s : MS) (v : _) : MS_edge (MS_unitOf_s s v) = MS_edge s := rfl
theorem MS_edge_kind (s : MS) (v : _) : MS_edge (MS_kind_s s v) = MS_edge s := rfl
theorem MS_edge_amount (s : MS) (v : _) : MS_edge (MS_amount_s s v) = MS_edge s := rfl
theorem MS_edge_day (s : MS) (v : _) : MS_edge (MS_day_s s v) = MS_edge s := rfl
theorem MS_edge_seller (s : MS) (v : _) : MS_edge (MS_seller_s s v) = MS_edge s := rfl
theorem MS_edge_covered (s : MS) (v : _) : MS_edge (MS_covered_s s v) = MS_edge s := rfl
theorem MS_edge_versions (s : MS) (v : _) : MS_edge (MS_versions_s s v) = MS_edge s := rfl
theorem MS_edge_ofKind (s : MS) (v : _) : MS_edge (MS_ofKind_s s v) = MS_edge s := rfl
theorem MS_edge_ofYear (s : MS) (v : _) : MS_edge (MS_ofYear_s s v) = MS_edge s := rfl
theorem MS_edge_low (s : MS) (v : _) : MS_edge (MS_low_s s v) = MS_edge s := rfl
theorem MS_edge_high (s : MS) (v : _) : MS_edge (MS_high_s s v) = MS_edge s := rfl
theorem MS_edge_serials (s : MS) (v : _) : MS_edge (MS_serials_s s v) = MS_edge s := rfl
theorem MS_edge_owner (s : MS) (v : _) : MS_edge (MS_owner_s s v) = MS_edge s := rfl
theorem MS_edge_used (s : MS) (v : _) : MS_edge (MS_used_s s v) = MS_edge s := rfl
theorem MS_edge_held (s : MS) (v : _) : MS_edge (MS_held_s s v) = MS_edge s := rfl
theorem MS_edge_share (s : MS) (v : _) : MS_edge (MS_share_s s v) = MS_edge s := rfl
theorem MS_edge_edge (s : MS) (v : _) : MS_edge (MS_edge_s s v) = v := rfl
theorem MS_edge_deep (s : MS) (v : _) : MS_edge (MS_deep_s s v) = MS_edge s := rfl
theorem MS_deep_thrown (s : MS) (v : _) : MS_deep (MS_thrown_s s v) = MS_deep s := rfl
theorem MS_deep_units (s : MS) (v : _) : MS_deep (MS_units_s s v) = MS_deep s := rfl
theorem MS_deep_holdings (s : MS) (v : _) : MS_deep (MS_holdings_s s v) = MS_deep s := rfl
theorem MS_deep_who (s : MS) (v : _) : MS_deep (MS_who_s s v) = MS_deep s := rfl
theorem MS_deep_whom (s : MS) (v : _) : MS_deep (MS_whom_s s v) = MS_deep s := rfl
theorem MS_deep_part (s : MS) (v : _) : MS_deep (MS_part_s s v) = MS_deep s := rfl
theorem MS_deep_since (s : MS) (v : _) : MS_deep (MS_since_s s v) = MS_deep s := rfl
theorem MS_deep_rows (s : MS) (v : _) : MS_deep (MS_rows_s s v) = MS_deep s := rfl
theorem MS_deep_unitOf (s : MS) (v : _) : MS_deep (MS_unitOf_s s v) = MS_deep s := rfl
theorem MS_deep_kind (s : MS) (v : _) : MS_deep (MS_kind_s s v) = MS_deep s := rfl
theorem MS_deep_amount (s : MS) (v : _) : MS_deep (MS_amount_s s v) = MS_deep s := rfl
theorem MS_deep_day (s : MS) (v : _) : MS_deep (MS_day_s s v) = MS_deep s := rfl
theorem MS_deep_seller (s : MS) (v : _) : MS_deep (MS_seller_s s v) = MS_deep s := rfl
theorem MS_deep_covered (s : MS) (v : _) : MS_deep (MS_covered_s s v) = MS_deep s := rfl
theorem MS_deep_versions (s : MS) (v : _) : MS_deep (MS_versions_s s v) = MS_deep s := rfl
theorem MS_deep_ofKind (s : MS) (v : _) : MS_deep (MS_ofKind_s s v) = MS_deep s := rfl
theorem MS_deep_ofYear (s : MS) (v : _) : MS_deep (MS_ofYear_s s v) = MS_deep s := rfl
theorem MS_deep_low (s : MS) (v : _) : MS_deep (MS_low_s s v) = MS_deep s := rfl
theorem MS_deep_high (s : MS) (v : _) : MS_deep (MS_high_s s v) = MS_deep s := rfl
theorem MS_deep_serials (s : MS) (v : _) : MS_deep (MS_serials_s s v) = MS_deep s := rfl
theorem MS_deep_owner (s : MS) (v : _) : MS_deep (MS_owner_s s v) = MS_deep s := rfl
theorem MS_deep_used (s : MS) (v : _) : MS_deep (MS_used_s s v) = MS_deep s := rfl
theorem MS_deep_held (s : MS) (v : _) : MS_deep (MS_held_s s v) = MS_deep s := rfl
theorem MS_deep_share (s : MS) (v : _) : MS_deep (MS_share_s s v) = MS_deep s := rfl
theorem MS_deep_edge (s : MS) (v : _) : MS_deep (MS_edge_s s v) = MS_deep s := rfl
theorem MS_deep_deep (s : MS) (v : _) : MS_deep (MS_deep_s s v) = v := rfl
theorem MS_ext {s t : MS} (h0 : MS_thrown s = MS_thrown t) (h1 : MS_units s = MS_units t) (h2 : MS_holdings s = MS_holdings t) (h3 : MS_who s = MS_who t) (h4 : MS_whom s = MS_whom t) (h5 : MS_part s = MS_part t) (h6 : MS_since s = MS_since t) (h7 : MS_rows s = MS_rows t) (h8 : MS_unitOf s = MS_unitOf t) (h9 : MS_kind s = MS_kind t) (h10 : MS_amount s = MS_amount t) (h11 : MS_day s = MS_day t) (h12 : MS_seller s = MS_seller t) (h13 : MS_covered s = MS_covered t) (h14 : MS_versions s = MS_versions t) (h15 : MS_ofKind s = MS_ofKind t) (h16 : MS_ofYear s = MS_ofYear t) (h17 : MS_low s = MS_low t) (h18 : MS_high s = MS_high t) (h19 : MS_serials s = MS_serials t) (h20 : MS_owner s = MS_owner t) (h21 : MS_used s = MS_used t) (h22 : MS_held s = MS_held t) (h23 : MS_share s = MS_share t) (h24 : MS_edge s = MS_edge t) (h25 : MS_deep s = MS_deep t) : s = t := (Prod.ext h0 (Prod.ext h1 (Prod.ext h2 (Prod.ext h3 (Prod.ext h4 (Prod.ext h5 (Prod.ext h6 (Prod.ext h7 (Prod.ext h8 (Prod.ext h9 (Prod.ext h10 (Prod.ext h11 (Prod.ext h12 (Prod.ext h13 (Prod.ext h14 (Prod.ext h15 (Prod.ext h16 (Prod.ext h17 (Prod.ext h18 (Prod.ext h19 (Prod.ext h20 (Prod.ext h21 (Prod.ext h22 (Prod.ext h23 (Prod.ext h24 h25)))))))))))))))))))))))))
abbrev LG : Type := HS × RS × FS × SS × Int32
def LG_H (s : LG) : HS := s.1
def LG_R (s : LG) : RS := s.2.1
def LG_F (s : LG) : FS := s.2.2.1
def LG_S (s : LG) : SS := s.2.2.2.1
def LG_units (s : LG) : Int32 := s.2.2.2.2
abbrev LG_mk (h : HS) (r : RS) (f : FS) (t : SS) (u : Int32) : LG := (h, r, f, t, u)
/-! the worlds: cells by places -/
abbrev WX0 (a b : Nat → Nat) (cI cJ cZ : ClassId) (s : FS) : va_W := [((a 19), .inr (0, [.ref (a 20), .ref (a 21), .ref (a 22), .ref (a 23), .int (FS_size s)])), ((a 20), .inl (cI, 80, .inl (FS_kind s))), ((a 21), .inl (cI, 80, .inl (FS_year s))), ((a 22), .inl (cI, 80, .inl (FS_low s))), ((a 23), .inl (cI, 80, .inl (FS_high s)))]
abbrev WX1 (a b : Nat → Nat) (cI cJ cZ : ClassId) (s : HS) : va_W := [((a 1), .inr (1, [.ref (a 2), .ref (a 3), .ref (a 4), .ref (a 5), .int (HS_size s), .ref (a 6), .ref (a 7), .ref (a 8), .ref (a 9), .ref (a 10), .ref (a 11)])), ((a 2), .inl (cI, 100, .inl (HS_holder s))), ((a 3), .inl (cI, 100, .inl (HS_held s))), ((a 4), .inl (cI, 100, .inl (HS_hundredths s))), ((a 5), .inl (cI, 100, .inl (HS_day s))), ((a 6), .inl (cI, 10, .inl (HS_tied s))), ((a 7), .inl (cZ, 101, .inl (HS_spanIsMade s))), ((a 8), .inl (cJ, 1010, .inr (.inl (HS_spanShares s)))), ((a 9), .inl (cI, 100, .inl (HS_matrix s))), ((a 10), .inl (cJ, 10, .inr (.inl (HS_reached s)))), ((a 11), .inl (cJ, 10, .inr (.inl (HS_reachedNext s))))]
abbrev WX2 (a b : Nat → Nat) (cI cJ cZ : ClassId) (s : RS) : va_W := [((a 12), .inr (2, [.ref (a 13), .ref (a 14), .ref (a 15), .ref (a 16), .ref (a 17), .ref (a 18), .int (RS_size s)])), ((a 13), .inl (cI, 200, .inl (RS_unit s))), ((a 14), .inl (cI, 200, .inl (RS_kind s))), ((a 15), .inl (cI, 200, .inl (RS_amount s))), ((a 16), .inl (cI, 200, .inl (RS_day s))), ((a 17), .inl (cI, 200, .inl (RS_seller s))), ((a 18), .inl (cI, 200, .inl (RS_covered s)))]
abbrev WX3 (a b : Nat → Nat) (cI cJ cZ : ClassId) (s : SS) : va_W := [((a 24), .inr (3, [.ref (b 0), .ref (b 1), .ref (b 2), .int (SS_size s), .int (SS_issued s)])), ((b 0), .inl (cI, SS_cap s, .inl (SS_first s))), ((b 1), .inl (cI, SS_cap s, .inl (SS_owner s))), ((b 2), .inl (cI, SS_cap s, .inl (SS_row s)))]
abbrev WX6 (a b : Nat → Nat) (cI cJ cZ : ClassId) (s : MS) : va_W := [((a 0), .inr (6, [.int (MS_thrown s), .int (MS_units s), .int (MS_holdings s), .ref (a 1), .ref (a 2), .ref (a 3), .ref (a 4), .int (MS_rows s), .ref (a 5), .ref (a 6), .ref (a 7), .ref (a 8), .ref (a 9), .ref (a 10), .int (MS_versions s), .ref (a 11), .ref (a 12), .ref (a 13), .ref (a 14), .int (MS_serials s), .ref (a 15), .ref (a 16), .ref (a 17), .ref (a 18), .ref (a 19), .ref (a 20)])), ((a 1), .inl (cI, 100, .inl (MS_who s))), ((a 2), .inl (cI, 100, .inl (MS_whom s))), ((a 3), .inl (cI, 100, .inl (MS_part s))), ((a 4), .inl (cI, 100, .inl (MS_since s))), ((a 5), .inl (cI, 200, .inl (MS_unitOf s))), ((a 6), .inl (cI, 200, .inl (MS_kind s))), ((a 7), .inl (cI, 200, .inl (MS_amount s))), ((a 8), .inl (cI, 200, .inl (MS_day s))), ((a 9), .inl (cI, 200, .inl (MS_seller s))), ((a 10), .inl (cI, 200, .inl (MS_covered s))), ((a 11), .inl (cI, 80, .inl (MS_ofKind s))), ((a 12), .inl (cI, 80, .inl (MS_ofYear s))), ((a 13), .inl (cI, 80, .inl (MS_low s))), ((a 14), .inl (cI, 80, .inl (MS_high s))), ((a 15), .inl (cI, 20001, .inl (MS_owner s))), ((a 16), .inl (cI, 20001, .inl (MS_used s))), ((a 17), .inl (cI, 100, .inl (MS_held s))), ((a 18), .inl (cJ, 10, .inr (.inl (MS_share s)))), ((a 19), .inl (cZ, 100, .inl (MS_edge s))), ((a 20), .inl (cI, 10, .inl (MS_deep s)))]
abbrev WX5 (a b : Nat → Nat) (cI cJ cZ : ClassId) (s : LG) : va_W := (a 0, .inr (5, [.ref (a 1), .ref (a 12), .ref (a 19), .ref (a 24), .int (LG_units s)])) :: (WX1 a b cI cJ cZ (LG_H s) ++ (WX2 a b cI cJ cZ (LG_R s) ++ (WX0 a b cI cJ cZ (LG_F s) ++ WX3 a b cI cJ cZ (LG_S s))))
abbrev wayC (w : Nat) (wa wm wo wh : Int32) : Nat × va_E := (w, .inr (4, [.int wa, .int wm, .int wo, .int wh]))
abbrev tyT (cI cJ cZ : ClassId) : List (ClassId × FieldType) := [(cI, .int), (cJ, .long), (cZ, .boolean)]
def IN (D : va_G) (w : va_W) (A : Nat → Prop) (H0 H : Heap) (locs : List Loc) : Prop := va_P D vwCl w H ∧ va_D A w ∧ va_S A H0 H locs
