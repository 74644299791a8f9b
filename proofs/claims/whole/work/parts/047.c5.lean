def fW (cI : ClassId) (cG : ClassId) (h : Nat) (a : Nat → Nat) (mb : Nat → Nat) (pb : Nat → Nat) (y_size : Int32) (y_many : Int32) (y_by : Int32) (y_turns : Nat → Int32) (y_mem : Nat → Nat → Int32) (y_path : Nat → Nat → Int32) : va_W := [(h, .inr (0, [.ref (a 1), .ref (a 2), .ref (a 3), .int y_size, .int y_many, .int y_by])), ((a 1), .inl (cG, 16, .inr (.inr (.inr (.inr (fun i => if i < 16 then some (mb i) else none)))))), ((a 2), .inl (cI, 16, .inl y_turns)), ((a 3), .inl (cG, 16, .inr (.inr (.inr (.inr (fun i => if i < 16 then some (pb i) else none))))))] ++ (gr cI 6 mb y_mem 16 ++ gr cI 16 pb y_path 16)
theorem fW_g0 (cI : ClassId) (cG : ClassId) (h : Nat) (a : Nat → Nat) (mb : Nat → Nat) (pb : Nat → Nat) (y_size : Int32) (y_many : Int32) (y_by : Int32) (y_turns : Nat → Int32) (y_mem : Nat → Nat → Int32) (y_path : Nat → Nat → Int32) {i : Nat} (hi : i < 16) : (fW cI cG h a mb pb y_size y_many y_by y_turns y_mem y_path)[4 + i]? = some (mb i, .inl (cI, 6, .inl (y_mem i))) := gr_at0 hi
theorem fW_s0 (cI : ClassId) (cG : ClassId) (h : Nat) (a : Nat → Nat) (mb : Nat → Nat) (pb : Nat → Nat) (y_size : Int32) (y_many : Int32) (y_by : Int32) (y_turns : Nat → Int32) (y_mem : Nat → Nat → Int32) (y_path : Nat → Nat → Int32) {i : Nat} {gz : Nat → Int32} (hi : i < 16) : (fW cI cG h a mb pb y_size y_many y_by y_turns y_mem y_path).set (4 + i) (mb i, .inl (cI, 6, .inl gz)) = (fW cI cG h a mb pb y_size y_many y_by y_turns (va_up y_mem i gz) y_path) := gr_set0 hi
theorem fW_g1 (cI : ClassId) (cG : ClassId) (h : Nat) (a : Nat → Nat) (mb : Nat → Nat) (pb : Nat → Nat) (y_size : Int32) (y_many : Int32) (y_by : Int32) (y_turns : Nat → Int32) (y_mem : Nat → Nat → Int32) (y_path : Nat → Nat → Int32) {i : Nat} (hi : i < 16) : (fW cI cG h a mb pb y_size y_many y_by y_turns y_mem y_path)[20 + i]? = some (pb i, .inl (cI, 16, .inl (y_path i))) := gr_at1 hi
theorem fW_s1 (cI : ClassId) (cG : ClassId) (h : Nat) (a : Nat → Nat) (mb : Nat → Nat) (pb : Nat → Nat) (y_size : Int32) (y_many : Int32) (y_by : Int32) (y_turns : Nat → Int32) (y_mem : Nat → Nat → Int32) (y_path : Nat → Nat → Int32) {i : Nat} {gz : Nat → Int32} (hi : i < 16) : (fW cI cG h a mb pb y_size y_many y_by y_turns y_mem y_path).set (20 + i) (pb i, .inl (cI, 16, .inl gz)) = (fW cI cG h a mb pb y_size y_many y_by y_turns y_mem (va_up y_path i gz)) := gr_set1 hi
def fnW (cI : ClassId) (cG : ClassId) (h : Nat) (a : Nat → Nat) (b : Nat) (mb : Nat → Nat) (pb : Nat → Nat) (y_size : Int32) (y_many : Int32) (y_by : Int32) (y_turns : Nat → Int32) (numbers : Nat → Int32) (y_mem : Nat → Nat → Int32) (y_path : Nat → Nat → Int32) : va_W := [(h, .inr (0, [.ref (a 1), .ref (a 2), .ref (a 3), .int y_size, .int y_many, .int y_by])), ((a 1), .inl (cG, 16, .inr (.inr (.inr (.inr (fun i => if i < 16 then some (mb i) else none)))))), ((a 2), .inl (cI, 16, .inl y_turns)), ((a 3), .inl (cG, 16, .inr (.inr (.inr (.inr (fun i => if i < 16 then some (pb i) else none)))))), (b, .inl (cI, 6, .inl numbers))] ++ (gr cI 6 mb y_mem 16 ++ gr cI 16 pb y_path 16)
theorem fnW_g0 (cI : ClassId) (cG : ClassId) (h : Nat) (a : Nat → Nat) (b : Nat) (mb : Nat → Nat) (pb : Nat → Nat) (y_size : Int32) (y_many : Int32) (y_by : Int32) (y_turns : Nat → Int32) (numbers : Nat → Int32) (y_mem : Nat → Nat → Int32) (y_path : Nat → Nat → Int32) {i : Nat} (hi : i < 16) : (fnW cI cG h a b mb pb y_size y_many y_by y_turns numbers y_mem y_path)[5 + i]? = some (mb i, .inl (cI, 6, .inl (y_mem i))) := gr_at0 hi
theorem fnW_s0 (cI : ClassId) (cG : ClassId) (h : Nat) (a : Nat → Nat) (b : Nat) (mb : Nat → Nat) (pb : Nat → Nat) (y_size : Int32) (y_many : Int32) (y_by : Int32) (y_turns : Nat → Int32) (numbers : Nat → Int32) (y_mem : Nat → Nat → Int32) (y_path : Nat → Nat → Int32) {i : Nat} {gz : Nat → Int32} (hi : i < 16) : (fnW cI cG h a b mb pb y_size y_many y_by y_turns numbers y_mem y_path).set (5 + i) (mb i, .inl (cI, 6, .inl gz)) = (fnW cI cG h a b mb pb y_size y_many y_by y_turns numbers (va_up y_mem i gz) y_path) := gr_set0 hi
theorem fnW_g1 (cI : ClassId) (cG : ClassId) (h : Nat) (a : Nat → Nat) (b : Nat) (mb : Nat → Nat) (pb : Nat → Nat) (y_size : Int32) (y_many : Int32) (y_by : Int32) (y_turns : Nat → Int32) (numbers : Nat → Int32) (y_mem : Nat → Nat → Int32) (y_path : Nat → Nat → Int32) {i : Nat} (hi : i < 16) : (fnW cI cG h a b mb pb y_size y_many y_by y_turns numbers y_mem y_path)[21 + i]? = some (pb i, .inl (cI, 16, .inl (y_path i))) := gr_at1 hi
theorem fnW_s1 (cI : ClassId) (cG : ClassId) (h : Nat) (a : Nat → Nat) (b : Nat) (mb : Nat → Nat) (pb : Nat → Nat) (y_size : Int32) (y_many : Int32) (y_by : Int32) (y_turns : Nat → Int32) (numbers : Nat → Int32) (y_mem : Nat → Nat → Int32) (y_path : Nat → Nat → Int32) {i : Nat} {gz : Nat → Int32} (hi : i < 16) : (fnW cI cG h a b mb pb y_size y_many y_by y_turns numbers y_mem y_path).set (21 + i) (pb i, .inl (cI, 16, .inl gz)) = (fnW cI cG h a b mb pb y_size y_many y_by y_turns numbers y_mem (va_up y_path i gz)) := gr_set1 hi
def fbW (cI : ClassId) (cG : ClassId) (h : Nat) (a : Nat → Nat) (g : Nat) (ga : Nat → Nat) (mb : Nat → Nat) (pb : Nat → Nat) (y_size : Int32) (y_many : Int32) (y_by : Int32) (y_turns : Nat → Int32) (f_disc : Int32) (f_turns : Int32) (f_least : Nat → Int32) (y_mem : Nat → Nat → Int32) (y_path : Nat → Nat → Int32) : va_W := [(h, .inr (0, [.ref (a 1), .ref (a 2), .ref (a 3), .int y_size, .int y_many, .int y_by])), ((a 1), .inl (cG, 16, .inr (.inr (.inr (.inr (fun i => if i < 16 then some (mb i) else none)))))), ((a 2), .inl (cI, 16, .inl y_turns)), ((a 3), .inl (cG, 16, .inr (.inr (.inr (.inr (fun i => if i < 16 then some (pb i) else none)))))), (g, .inr (1, [.ref (ga 1), .ref (ga 2), .ref (ga 3), .ref (ga 4), .int f_disc, .int f_turns])), ((ga 2), .inl (cI, 6, .inl f_least))] ++ (gr cI 6 mb y_mem 16 ++ gr cI 16 pb y_path 16)
theorem fbW_g0 (cI : ClassId) (cG : ClassId) (h : Nat) (a : Nat → Nat) (g : Nat) (ga : Nat → Nat) (mb : Nat → Nat) (pb : Nat → Nat) (y_size : Int32) (y_many : Int32) (y_by : Int32) (y_turns : Nat → Int32) (f_disc : Int32) (f_turns : Int32) (f_least : Nat → Int32) (y_mem : Nat → Nat → Int32) (y_path : Nat → Nat → Int32) {i : Nat} (hi : i < 16) : (fbW cI cG h a g ga mb pb y_size y_many y_by y_turns f_disc f_turns f_least y_mem y_path)[6 + i]? = some (mb i, .inl (cI, 6, .inl (y_mem i))) := gr_at0 hi
theorem fbW_s0 (cI : ClassId) (cG : ClassId) (h : Nat) (a : Nat → Nat) (g : Nat) (ga : Nat → Nat) (mb : Nat → Nat) (pb : Nat → Nat) (y_size : Int32) (y_many : Int32) (y_by : Int32) (y_turns : Nat → Int32) (f_disc : Int32) (f_turns : Int32) (f_least : Nat → Int32) (y_mem : Nat → Nat → Int32) (y_path : Nat → Nat → Int32) {i : Nat} {gz : Nat → Int32} (hi : i < 16) : (fbW cI cG h a g ga mb pb y_size y_many y_by y_turns f_disc f_turns f_least y_mem y_path).set (6 + i) (mb i, .inl (cI, 6, .inl gz)) = (fbW cI cG h a g ga mb pb y_size y_many y_by y_turns f_disc f_turns f_least (va_up y_mem i gz) y_path) := gr_set0 hi
theorem fbW_g1 (cI : ClassId) (cG : ClassId) (h : Nat) (a : Nat → Nat) (g : Nat) (ga : Nat → Nat) (mb : Nat → Nat) (pb : Nat → Nat) (y_size : Int32) (y_many : Int32) (y_by : Int32) (y_turns : Nat → Int32) (f_disc : Int32) (f_turns : Int32) (f_least : Nat → Int32) (y_mem : Nat → Nat → Int32) (y_path : Nat → Nat → Int32) {i : Nat} (hi : i < 16) : (fbW cI cG h a g ga mb pb y_size y_many y_by y_turns f_disc f_turns f_least y_mem y_path)[22 + i]? = some (pb i, .inl (cI, 16, .inl (y_path i))) := gr_at1 hi
theorem fbW_s1 (cI : ClassId) (cG : ClassId) (h : Nat) (a : Nat → Nat) (g : Nat) (ga : Nat → Nat) (mb : Nat → Nat) (pb : Nat → Nat) (y_size : Int32) (y_many : Int32) (y_by : Int32) (y_turns : Nat → Int32) (f_disc : Int32) (f_turns : Int32) (f_least : Nat → Int32) (y_mem : Nat → Nat → Int32) (y_path : Nat → Nat → Int32) {i : Nat} {gz : Nat → Int32} (hi : i < 16) : (fbW cI cG h a g ga mb pb y_size y_many y_by y_turns f_disc f_turns f_least y_mem y_path).set (22 + i) (pb i, .inl (cI, 16, .inl gz)) = (fbW cI cG h a g ga mb pb y_size y_many y_by y_turns f_disc f_turns f_least y_mem (va_up y_path i gz)) := gr_set1 hi
def fvW (cI : ClassId) (cG : ClassId) (h : Nat) (a : Nat → Nat) (lh : Nat) (la : Nat → Nat) (rh : Nat) (ra : Nat → Nat) (mb : Nat → Nat) (pb : Nat → Nat) (y_size : Int32) (y_many : Int32) (y_by : Int32) (y_turns : Nat → Int32) (l_found : Int32) (l_p : Int32) (l_t : Int32) (l_u : Int32) (l_six : Nat → Int32) (l_all : Nat → Int32) (l_w : Nat → Int32) (l_basis : Nat → Int32) (l_crossed : Nat → Int32) (r_ties : Int32) (r_six : Nat → Int32) (r_rows : Nat → Int32) (r_box : Nat → Int32) (r_worth : Nat → Int32) (r_image : Nat → Int32) (r_best : Nat → Int32) (r_bestRows : Nat → Int32) (y_mem : Nat → Nat → Int32) (y_path : Nat → Nat → Int32) : va_W := [(h, .inr (0, [.ref (a 1), .ref (a 2), .ref (a 3), .int y_size, .int y_many, .int y_by])), ((a 1), .inl (cG, 16, .inr (.inr (.inr (.inr (fun i => if i < 16 then some (mb i) else none)))))), ((a 2), .inl (cI, 16, .inl y_turns)), ((a 3), .inl (cG, 16, .inr (.inr (.inr (.inr (fun i => if i < 16 then some (pb i) else none)))))), (lh, .inr (2, [.ref (la 1), .ref (la 2), .ref (la 3), .ref (la 4), .ref (la 5), .int l_found, .int l_p, .int l_t, .int l_u])), ((la 1), .inl (cI, 6, .inl l_six)), ((la 2), .inl (cI, 24, .inl l_all)), ((la 3), .inl (cI, 3, .inl l_w)), ((la 4), .inl (cI, 9, .inl l_basis)), ((la 5), .inl (cI, 6, .inl l_crossed)), (rh, .inr (3, [.ref (ra 1), .ref (ra 2), .ref (ra 3), .ref (ra 4), .ref (ra 5), .ref (ra 6), .ref (ra 7), .int r_ties])), ((ra 1), .inl (cI, 6, .inl r_six)), ((ra 2), .inl (cI, 9, .inl r_rows)), ((ra 3), .inl (cI, 81, .inl r_box)), ((ra 4), .inl (cI, 27, .inl r_worth)), ((ra 5), .inl (cI, 81, .inl r_image)), ((ra 6), .inl (cI, 6, .inl r_best)), ((ra 7), .inl (cI, 9, .inl r_bestRows))] ++ (gr cI 6 mb y_mem 16 ++ gr cI 16 pb y_path 16)
theorem fvW_g0 (cI : ClassId) (cG : ClassId) (h : Nat) (a : Nat → Nat) (lh : Nat) (la : Nat → Nat) (rh : Nat) (ra : Nat → Nat) (mb : Nat → Nat) (pb : Nat → Nat) (y_size : Int32) (y_many : Int32) (y_by : Int32) (y_turns : Nat → Int32) (l_found : Int32) (l_p : Int32) (l_t : Int32) (l_u : Int32) (l_six : Nat → Int32) (l_all : Nat → Int32) (l_w : Nat → Int32) (l_basis : Nat → Int32) (l_crossed : Nat → Int32) (r_ties : Int32) (r_six : Nat → Int32) (r_rows : Nat → Int32) (r_box : Nat → Int32) (r_worth : Nat → Int32) (r_image : Nat → Int32) (r_best : Nat → Int32) (r_bestRows : Nat → Int32) (y_mem : Nat → Nat → Int32) (y_path : Nat → Nat → Int32) {i : Nat} (hi : i < 16) : (fvW cI cG h a lh la rh ra mb pb y_size y_many y_by y_turns l_found l_p l_t l_u l_six l_all l_w l_basis l_crossed r_ties r_six r_rows r_box r_worth r_image r_best r_bestRows y_mem y_path)[18 + i]? = some (mb i, .inl (cI, 6, .inl (y_mem i))) := gr_at0 hi
theorem fvW_s0 (cI : ClassId) (cG : ClassId) (h : Nat) (a : Nat → Nat) (lh : Nat) (la : Nat → Nat) (rh : Nat) (ra : Nat → Nat) (mb : Nat → Nat) (pb : Nat → Nat) (y_size : Int32) (y_many : Int32) (y_by : Int32) (y_turns : Nat → Int32) (l_found : Int32) (l_p : Int32) (l_t : Int32) (l_u : Int32) (l_six : Nat → Int32) (l_all : Nat → Int32) (l_w : Nat → Int32) (l_basis : Nat → Int32) (l_crossed : Nat → Int32) (r_ties : Int32) (r_six : Nat → Int32) (r_rows : Nat → Int32) (r_box : Nat → Int32) (r_worth : Nat → Int32) (r_image : Nat → Int32) (r_best : Nat → Int32) (r_bestRows : Nat → Int32) (y_mem : Nat → Nat → Int32) (y_path : Nat → Nat → Int32) {i : Nat} {gz : Nat → Int32} (hi : i < 16) : (fvW cI cG h a lh la rh ra mb pb y_size y_many y_by y_turns l_found l_p l_t l_u l_six l_all l_w l_basis l_crossed r_ties r_six r_rows r_box r_worth r_image r_best r_bestRows y_mem y_path).set (18 + i) (mb i, .inl (cI, 6, .inl gz)) = (fvW cI cG h a lh la rh ra mb pb y_size y_many y_by y_turns l_found l_p l_t l_u l_six l_all l_w l_basis l_crossed r_ties r_six r_rows r_box r_worth r_image r_best r_bestRows (va_up y_mem i gz) y_path) := gr_set0 hi
theorem fvW_g1 (cI : ClassId) (cG : ClassId) (h : Nat) (a : Nat → Nat) (lh : Nat) (la : Nat → Nat) (rh : Nat) (ra : Nat → Nat) (mb : Nat → Nat) (pb : Nat → Nat) (y_size : Int32) (y_many : Int32) (y_by : Int32) (y_turns : Nat → Int32) (l_found : Int32) (l_p : Int32) (l_t : Int32) (l_u : Int32) (l_six : Nat → Int32) (l_all : Nat → Int32) (l_w : Nat → Int32) (l_basis : Nat → Int32) (l_crossed : Nat → Int32) (r_ties : Int32) (r_six : Nat → Int32) (r_rows : Nat → Int32) (r_box : Nat → Int32) (r_worth : Nat → Int32) (r_image : Nat → Int32) (r_best : Nat → Int32) (r_bestRows : Nat → Int32) (y_mem : Nat → Nat → Int32) (y_path : Nat → Nat → Int32) {i : Nat} (hi : i < 16) : (fvW cI cG h a lh la rh ra mb pb y_size y_many y_by y_turns l_found l_p l_t l_u l_six l_all l_w l_basis l_crossed r_ties r_six r_rows r_box r_worth r_image r_best r_bestRows y_mem y_path)[34 + i]? = some (pb i, .inl (cI, 16, .inl (y_path i))) := gr_at1 hi
theorem fvW_s1 (cI : ClassId) (cG : ClassId) (h : Nat) (a : Nat → Nat) (lh : Nat) (la : Nat → Nat) (rh : Nat) (ra : Nat → Nat) (mb : Nat → Nat) (pb : Nat → Nat) (y_size : Int32) (y_many : Int32) (y_by : Int32) (y_turns : Nat → Int32) (l_found : Int32) (l_p : Int32) (l_t : Int32) (l_u : Int32) (l_six : Nat → Int32) (l_all : Nat → Int32) (l_w : Nat → Int32) (l_basis : Nat → Int32) (l_crossed : Nat → Int32) (r_ties : Int32) (r_six : Nat → Int32) (r_rows : Nat → Int32) (r_box : Nat → Int32) (r_worth : Nat → Int32) (r_image : Nat → Int32) (r_best : Nat → Int32) (r_bestRows : Nat → Int32) (y_mem : Nat → Nat → Int32) (y_path : Nat → Nat → Int32) {i : Nat} {gz : Nat → Int32} (hi : i < 16) : (fvW cI cG h a lh la rh ra mb pb y_size y_many y_by y_turns l_found l_p l_t l_u l_six l_all l_w l_basis l_crossed r_ties r_six r_rows r_box r_worth r_image r_best r_bestRows y_mem y_path).set (34 + i) (pb i, .inl (cI, 16, .inl gz)) = (fvW cI cG h a lh la rh ra mb pb y_size y_many y_by y_turns l_found l_p l_t l_u l_six l_all l_w l_basis l_crossed r_ties r_six r_rows r_box r_worth r_image r_best r_bestRows y_mem (va_up y_path i gz)) := gr_set1 hi
def becW (cI : ClassId) (h : Nat) (a : Nat → Nat) (ya : Nat → Nat) (b : Nat) (rh : Nat) (ra : Nat → Nat) (f_disc : Int32) (f_turns : Int32) (f_num : Nat → Int32) (f_least : Nat → Int32) (f_tab : Nat → Int32) (y_size : Int32) (y_many : Int32) (y_by : Int32) (six : Nat → Int32) (r_ties : Int32) (r_six : Nat → Int32) (r_rows : Nat → Int32) (r_box : Nat → Int32) (r_worth : Nat → Int32) (r_image : Nat → Int32) (r_best : Nat → Int32) (r_bestRows : Nat → Int32) : va_W := [(h, .inr (1, [.ref (a 1), .ref (a 2), .ref (a 3), .ref (a 4), .int f_disc, .int f_turns])), ((a 1), .inl (cI, 6, .inl f_num)), ((a 2), .inl (cI, 6, .inl f_least)), ((a 3), .inl (cI, 9, .inl f_tab)), ((a 4), .inr (0, [.ref (ya 1), .ref (ya 2), .ref (ya 3), .int y_size, .int y_many, .int y_by])), (b, .inl (cI, 6, .inl six)), (rh, .inr (3, [.ref (ra 1), .ref (ra 2), .ref (ra 3), .ref (ra 4), .ref (ra 5), .ref (ra 6), .ref (ra 7), .int r_ties])), ((ra 1), .inl (cI, 6, .inl r_six)), ((ra 2), .inl (cI, 9, .inl r_rows)), ((ra 3), .inl (cI, 81, .inl r_box)), ((ra 4), .inl (cI, 27, .inl r_worth)), ((ra 5), .inl (cI, 81, .inl r_image)), ((ra 6), .inl (cI, 6, .inl r_best)), ((ra 7), .inl (cI, 9, .inl r_bestRows))]
def kdW (cI : ClassId) (cF : ClassId) (h : Nat) (a : Nat → Nat) (fo : Nat) (ga : Nat → Nat) (held : Int32) (p_ : Int32) (fr : Nat → Option Nat) (f_disc : Int32) (f_turns : Int32) : va_W := [(h, .inr (4, [.ref (a 1), .ref (a 2), .ref (a 3), .ref (a 4), .ref (a 5), .ref (a 6), .int held, .int p_])), ((a 1), .inl (cF, 12, .inr (.inr (.inr (.inr fr))))), (fo, .inr (1, [.ref (ga 1), .ref (ga 2), .ref (ga 3), .ref (ga 4), .int f_disc, .int f_turns]))]
def toW (cI : ClassId) (cF : ClassId) (h : Nat) (a : Nat → Nat) (fo : Nat) (ga : Nat → Nat) (held : Int32) (p_ : Int32) (fr : Nat → Option Nat) (f_disc : Int32) (f_turns : Int32) (f_num : Nat → Int32) (f_least : Nat → Int32) : va_W := [(h, .inr (4, [.ref (a 1), .ref (a 2), .ref (a 3), .ref (a 4), .ref (a 5), .ref (a 6), .int held, .int p_])), ((a 1), .inl (cF, 12, .inr (.inr (.inr (.inr fr))))), (fo, .inr (1, [.ref (ga 1), .ref (ga 2), .ref (ga 3), .ref (ga 4), .int f_disc, .int f_turns])), ((ga 1), .inl (cI, 6, .inl f_num)), ((ga 2), .inl (cI, 6, .inl f_least))]
def vaW (cI : ClassId) (cF : ClassId) (h : Nat) (a : Nat → Nat) (fo : Nat) (ga : Nat → Nat) (held : Int32) (p_ : Int32) (fr : Nat → Option Nat) (f_disc : Int32) (f_turns : Int32) (f_num : Nat → Int32) : va_W := [(h, .inr (4, [.ref (a 1), .ref (a 2), .ref (a 3), .ref (a 4), .ref (a 5), .ref (a 6), .int held, .int p_])), ((a 1), .inl (cF, 12, .inr (.inr (.inr (.inr fr))))), (fo, .inr (1, [.ref (ga 1), .ref (ga 2), .ref (ga 3), .ref (ga 4), .int f_disc, .int f_turns])), ((ga 1), .inl (cI, 6, .inl f_num))]
def leW (cI : ClassId) (cF : ClassId) (h : Nat) (a : Nat → Nat) (fo : Nat) (ga : Nat → Nat) (held : Int32) (p_ : Int32) (fr : Nat → Option Nat) (f_disc : Int32) (f_turns : Int32) (f_least : Nat → Int32) : va_W := [(h, .inr (4, [.ref (a 1), .ref (a 2), .ref (a 3), .ref (a 4), .ref (a 5), .ref (a 6), .int held, .int p_])), ((a 1), .inl (cF, 12, .inr (.inr (.inr (.inr fr))))), (fo, .inr (1, [.ref (ga 1), .ref (ga 2), .ref (ga 3), .ref (ga 4), .int f_disc, .int f_turns])), ((ga 2), .inl (cI, 6, .inl f_least))]
def taW (cI : ClassId) (cF : ClassId) (h : Nat) (a : Nat → Nat) (fo : Nat) (ga : Nat → Nat) (held : Int32) (p_ : Int32) (fr : Nat → Option Nat) (f_disc : Int32) (f_turns : Int32) (f_tab : Nat → Int32) : va_W := [(h, .inr (4, [.ref (a 1), .ref (a 2), .ref (a 3), .ref (a 4), .ref (a 5), .ref (a 6), .int held, .int p_])), ((a 1), .inl (cF, 12, .inr (.inr (.inr (.inr fr))))), (fo, .inr (1, [.ref (ga 1), .ref (ga 2), .ref (ga 3), .ref (ga 4), .int f_disc, .int f_turns])), ((ga 3), .inl (cI, 9, .inl f_tab))]
def saW (cI : ClassId) (cF : ClassId) (h : Nat) (a : Nat → Nat) (fo : Nat) (ga : Nat → Nat) (fo2 : Nat) (gb : Nat → Nat) (held : Int32) (p_ : Int32) (fr : Nat → Option Nat) (f_disc : Int32) (f_turns : Int32) (f_least : Nat → Int32) (f2_disc : Int32) (f2_turns : Int32) (f2_least : Nat → Int32) : va_W := [(h, .inr (4, [.ref (a 1), .ref (a 2), .ref (a 3), .ref (a 4), .ref (a 5), .ref (a 6), .int held, .int p_])), ((a 1), .inl (cF, 12, .inr (.inr (.inr (.inr fr))))), (fo, .inr (1, [.ref (ga 1), .ref (ga 2), .ref (ga 3), .ref (ga 4), .int f_disc, .int f_turns])), ((ga 2), .inl (cI, 6, .inl f_least)), (fo2, .inr (1, [.ref (gb 1), .ref (gb 2), .ref (gb 3), .ref (gb 4), .int f2_disc, .int f2_turns])), ((gb 2), .inl (cI, 6, .inl f2_least))]
def tuW (cI : ClassId) (cF : ClassId) (h : Nat) (a : Nat → Nat) (fo : Nat) (ga : Nat → Nat) (fo2 : Nat) (gb : Nat → Nat) (held : Int32) (p_ : Int32) (fr : Nat → Option Nat) (givenRows : Nat → Int32) (turned : Nat → Int32) (f_disc : Int32) (f_turns : Int32) (f_num : Nat → Int32) (f2_disc : Int32) (f2_turns : Int32) (f2_num : Nat → Int32) : va_W := [(h, .inr (4, [.ref (a 1), .ref (a 2), .ref (a 3), .ref (a 4), .ref (a 5), .ref (a 6), .int held, .int p_])), ((a 1), .inl (cF, 12, .inr (.inr (.inr (.inr fr))))), ((a 5), .inl (cI, 9, .inl givenRows)), ((a 6), .inl (cI, 6, .inl turned)), (fo, .inr (1, [.ref (ga 1), .ref (ga 2), .ref (ga 3), .ref (ga 4), .int f_disc, .int f_turns])), ((ga 1), .inl (cI, 6, .inl f_num)), (fo2, .inr (1, [.ref (gb 1), .ref (gb 2), .ref (gb 3), .ref (gb 4), .int f2_disc, .int f2_turns])), ((gb 1), .inl (cI, 6, .inl f2_num))]
def tuWb (cI : ClassId) (cF : ClassId) (h : Nat) (a : Nat → Nat) (fo : Nat) (ga : Nat → Nat) (held : Int32) (p_ : Int32) (fr : Nat → Option Nat) (givenRows : Nat → Int32) (turned : Nat → Int32) (f_disc : Int32) (f_turns : Int32) (f_num : Nat → Int32) : va_W := [(h, .inr (4, [.ref (a 1), .ref (a 2), .ref (a 3), .ref (a 4), .ref (a 5), .ref (a 6), .int held, .int p_])), ((a 1), .inl (cF, 12, .inr (.inr (.inr (.inr fr))))), ((a 5), .inl (cI, 9, .inl givenRows)), ((a 6), .inl (cI, 6, .inl turned)), (fo, .inr (1, [.ref (ga 1), .ref (ga 2), .ref (ga 3), .ref (ga 4), .int f_disc, .int f_turns])), ((ga 1), .inl (cI, 6, .inl f_num))]
def liW (cI : ClassId) (cF : ClassId) (h : Nat) (a : Nat → Nat) (fo : Nat) (ga : Nat → Nat) (la : Nat → Nat) (held : Int32) (p_ : Int32) (fr : Nat → Option Nat) (f_disc : Int32) (f_turns : Int32) (f_num : Nat → Int32) (l_found : Int32) (l_p : Int32) (l_t : Int32) (l_u : Int32) (l_six : Nat → Int32) (l_all : Nat → Int32) (l_w : Nat → Int32) (l_basis : Nat → Int32) (l_crossed : Nat → Int32) : va_W := [(h, .inr (4, [.ref (a 1), .ref (a 2), .ref (a 3), .ref (a 4), .ref (a 5), .ref (a 6), .int held, .int p_])), ((a 1), .inl (cF, 12, .inr (.inr (.inr (.inr fr))))), (fo, .inr (1, [.ref (ga 1), .ref (ga 2), .ref (ga 3), .ref (ga 4), .int f_disc, .int f_turns])), ((ga 1), .inl (cI, 6, .inl f_num)), ((a 3), .inr (2, [.ref (la 1), .ref (la 2), .ref (la 3), .ref (la 4), .ref (la 5), .int l_found, .int l_p, .int l_t, .int l_u])), ((la 1), .inl (cI, 6, .inl l_six)), ((la 2), .inl (cI, 24, .inl l_all)), ((la 3), .inl (cI, 3, .inl l_w)), ((la 4), .inl (cI, 9, .inl l_basis)), ((la 5), .inl (cI, 6, .inl l_crossed))]
def neW (cI : ClassId) (cF : ClassId) (h : Nat) (a : Nat → Nat) (fo : Nat) (ga : Nat → Nat) (la : Nat → Nat) (ra : Nat → Nat) (held : Int32) (p_ : Int32) (fr : Nat → Option Nat) (f_disc : Int32) (f_turns : Int32) (f_num : Nat → Int32) (l_found : Int32) (l_p : Int32) (l_t : Int32) (l_u : Int32) (l_six : Nat → Int32) (l_all : Nat → Int32) (l_w : Nat → Int32) (l_basis : Nat → Int32) (l_crossed : Nat → Int32) (r_ties : Int32) (r_six : Nat → Int32) (r_rows : Nat → Int32) (r_box : Nat → Int32) (r_worth : Nat → Int32) (r_image : Nat → Int32) (r_best : Nat → Int32) (r_bestRows : Nat → Int32) : va_W := [(h, .inr (4, [.ref (a 1), .ref (a 2), .ref (a 3), .ref (a 4), .ref (a 5), .ref (a 6), .int held, .int p_])), ((a 1), .inl (cF, 12, .inr (.inr (.inr (.inr fr))))), (fo, .inr (1, [.ref (ga 1), .ref (ga 2), .ref (ga 3), .ref (ga 4), .int f_disc, .int f_turns])), ((ga 1), .inl (cI, 6, .inl f_num)), ((a 3), .inr (2, [.ref (la 1), .ref (la 2), .ref (la 3), .ref (la 4), .ref (la 5), .int l_found, .int l_p, .int l_t, .int l_u])), ((la 1), .inl (cI, 6, .inl l_six)), ((la 2), .inl (cI, 24, .inl l_all)), ((la 3), .inl (cI, 3, .inl l_w)), ((la 4), .inl (cI, 9, .inl l_basis)), ((la 5), .inl (cI, 6, .inl l_crossed)), ((a 2), .inr (3, [.ref (ra 1), .ref (ra 2), .ref (ra 3), .ref (ra 4), .ref (ra 5), .ref (ra 6), .ref (ra 7), .int r_ties])), ((ra 1), .inl (cI, 6, .inl r_six)), ((ra 2), .inl (cI, 9, .inl r_rows)), ((ra 3), .inl (cI, 81, .inl r_box)), ((ra 4), .inl (cI, 27, .inl r_worth)), ((ra 5), .inl (cI, 81, .inl r_image)), ((ra 6), .inl (cI, 6, .inl r_best)), ((ra 7), .inl (cI, 9, .inl r_bestRows))]
def foW (cI : ClassId) (cF : ClassId) (h : Nat) (a : Nat → Nat) (fo : Nat) (ga : Nat → Nat) (ya : Nat → Nat) (ra : Nat → Nat) (held : Int32) (p_ : Int32) (fr : Nat → Option Nat) (given : Nat → Int32) (f_disc : Int32) (f_turns : Int32) (f_num : Nat → Int32) (f_least : Nat → Int32) (f_tab : Nat → Int32) (y_size : Int32) (y_many : Int32) (y_by : Int32) (r_ties : Int32) (r_six : Nat → Int32) (r_rows : Nat → Int32) (r_box : Nat → Int32) (r_worth : Nat → Int32) (r_image : Nat → Int32) (r_best : Nat → Int32) (r_bestRows : Nat → Int32) : va_W := [(h, .inr (4, [.ref (a 1), .ref (a 2), .ref (a 3), .ref (a 4), .ref (a 5), .ref (a 6), .int held, .int p_])), ((a 1), .inl (cF, 12, .inr (.inr (.inr (.inr fr))))), ((a 4), .inl (cI, 6, .inl given)), (fo, .inr (1, [.ref (ga 1), .ref (ga 2), .ref (ga 3), .ref (ga 4), .int f_disc, .int f_turns])), ((ga 1), .inl (cI, 6, .inl f_num)), ((ga 2), .inl (cI, 6, .inl f_least)), ((ga 3), .inl (cI, 9, .inl f_tab)), ((ga 4), .inr (0, [.ref (ya 1), .ref (ya 2), .ref (ya 3), .int y_size, .int y_many, .int y_by])), ((a 2), .inr (3, [.ref (ra 1), .ref (ra 2), .ref (ra 3), .ref (ra 4), .ref (ra 5), .ref (ra 6), .ref (ra 7), .int r_ties])), ((ra 1), .inl (cI, 6, .inl r_six)), ((ra 2), .inl (cI, 9, .inl r_rows)), ((ra 3), .inl (cI, 81, .inl r_box)), ((ra 4), .inl (cI, 27, .inl r_worth)), ((ra 5), .inl (cI, 81, .inl r_image)), ((ra 6), .inl (cI, 6, .inl r_best)), ((ra 7), .inl (cI, 9, .inl r_bestRows))]
def seW (cI : ClassId) (cF : ClassId) (h : Nat) (a : Nat → Nat) (fo : Nat) (ga : Nat → Nat) (ya : Nat → Nat) (ra : Nat → Nat) (held : Int32) (p_ : Int32) (fr : Nat → Option Nat) (given : Nat → Int32) (f_disc : Int32) (f_turns : Int32) (f_num : Nat → Int32) (f_least : Nat → Int32) (f_tab : Nat → Int32) (y_size : Int32) (y_many : Int32) (y_by : Int32) (r_ties : Int32) (r_six : Nat → Int32) (r_rows : Nat → Int32) (r_box : Nat → Int32) (r_worth : Nat → Int32) (r_image : Nat → Int32) (r_best : Nat → Int32) (r_bestRows : Nat → Int32) : va_W := [(h, .inr (4, [.ref (a 1), .ref (a 2), .ref (a 3), .ref (a 4), .ref (a 5), .ref (a 6), .int held, .int p_])), ((a 1), .inl (cF, 12, .inr (.inr (.inr (.inr fr))))), ((a 4), .inl (cI, 6, .inl given)), (fo, .inr (1, [.ref (ga 1), .ref (ga 2), .ref (ga 3), .ref (ga 4), .int f_disc, .int f_turns])), ((ga 1), .inl (cI, 6, .inl f_num)), ((ga 2), .inl (cI, 6, .inl f_least)), ((ga 3), .inl (cI, 9, .inl f_tab)), ((ga 4), .inr (0, [.ref (ya 1), .ref (ya 2), .ref (ya 3), .int y_size, .int y_many, .int y_by])), ((a 2), .inr (3, [.ref (ra 1), .ref (ra 2), .ref (ra 3), .ref (ra 4), .ref (ra 5), .ref (ra 6), .ref (ra 7), .int r_ties])), ((ra 1), .inl (cI, 6, .inl r_six)), ((ra 2), .inl (cI, 9, .inl r_rows)), ((ra 3), .inl (cI, 81, .inl r_box)), ((ra 4), .inl (cI, 27, .inl r_worth)), ((ra 5), .inl (cI, 81, .inl r_image)), ((ra 6), .inl (cI, 6, .inl r_best)), ((ra 7), .inl (cI, 9, .inl r_bestRows))]
def kiW (cI : ClassId) (cF : ClassId) (cG : ClassId) (h : Nat) (a : Nat → Nat) (fo : Nat) (ga : Nat → Nat) (ya : Nat → Nat) (la : Nat → Nat) (ra : Nat → Nat) (mb : Nat → Nat) (pb : Nat → Nat) (held : Int32) (p_ : Int32) (fr : Nat → Option Nat) (f_disc : Int32) (f_turns : Int32) (f_least : Nat → Int32) (y_size : Int32) (y_many : Int32) (y_by : Int32) (y_turns : Nat → Int32) (l_found : Int32) (l_p : Int32) (l_t : Int32) (l_u : Int32) (l_six : Nat → Int32) (l_all : Nat → Int32) (l_w : Nat → Int32) (l_basis : Nat → Int32) (l_crossed : Nat → Int32) (r_ties : Int32) (r_six : Nat → Int32) (r_rows : Nat → Int32) (r_box : Nat → Int32) (r_worth : Nat → Int32) (r_image : Nat → Int32) (r_best : Nat → Int32) (r_bestRows : Nat → Int32) (y_mem : Nat → Nat → Int32) (y_path : Nat → Nat → Int32) : va_W := [(h, .inr (4, [.ref (a 1), .ref (a 2), .ref (a 3), .ref (a 4), .ref (a 5), .ref (a 6), .int held, .int p_])), ((a 1), .inl (cF, 12, .inr (.inr (.inr (.inr fr))))), (fo, .inr (1, [.ref (ga 1), .ref (ga 2), .ref (ga 3), .ref (ga 4), .int f_disc, .int f_turns])), ((ga 2), .inl (cI, 6, .inl f_least)), ((ga 4), .inr (0, [.ref (ya 1), .ref (ya 2), .ref (ya 3), .int y_size, .int y_many, .int y_by])), ((ya 1), .inl (cG, 16, .inr (.inr (.inr (.inr (fun i => if i < 16 then some (mb i) else none)))))), ((ya 2), .inl (cI, 16, .inl y_turns)), ((ya 3), .inl (cG, 16, .inr (.inr (.inr (.inr (fun i => if i < 16 then some (pb i) else none)))))), ((a 3), .inr (2, [.ref (la 1), .ref (la 2), .ref (la 3), .ref (la 4), .ref (la 5), .int l_found, .int l_p, .int l_t, .int l_u])), ((la 1), .inl (cI, 6, .inl l_six)), ((la 2), .inl (cI, 24, .inl l_all)), ((la 3), .inl (cI, 3, .inl l_w)), ((la 4), .inl (cI, 9, .inl l_basis)), ((la 5), .inl (cI, 6, .inl l_crossed)), ((a 2), .inr (3, [.ref (ra 1), .ref (ra 2), .ref (ra 3), .ref (ra 4), .ref (ra 5), .ref (ra 6), .ref (ra 7), .int r_ties])), ((ra 1), .inl (cI, 6, .inl r_six)), ((ra 2), .inl (cI, 9, .inl r_rows)), ((ra 3), .inl (cI, 81, .inl r_box)), ((ra 4), .inl (cI, 27, .inl r_worth)), ((ra 5), .inl (cI, 81, .inl r_image)), ((ra 6), .inl (cI, 6, .inl r_best)), ((ra 7), .inl (cI, 9, .inl r_bestRows))] ++ (gr cI 6 mb y_mem 16 ++ gr cI 16 pb y_path 16)
theorem kiW_g0 (cI : ClassId) (cF : ClassId) (cG : ClassId) (h : Nat) (a : Nat → Nat) (fo : Nat) (ga : Nat → Nat) (ya : Nat → Nat) (la : Nat → Nat) (ra : Nat → Nat) (mb : Nat → Nat) (pb : Nat → Nat) (held : Int32) (p_ : Int32) (fr : Nat → Option Nat) (f_disc : Int32) (f_turns : Int32) (f_least : Nat → Int32) (y_size : Int32) (y_many : Int32) (y_by : Int32) (y_turns : Nat → Int32) (l_found : Int32) (l_p : Int32) (l_t : Int32) (l_u : Int32) (l_six : Nat → Int32) (l_all : Nat → Int32) (l_w : Nat → Int32) (l_basis : Nat → Int32) (l_crossed : Nat → Int32) (r_ties : Int32) (r_six : Nat → Int32) (r_rows : Nat → Int32) (r_box : Nat → Int32) (r_worth : Nat → Int32) (r_image : Nat → Int32) (r_best : Nat → Int32) (r_bestRows : Nat → Int32) (y_mem : Nat → Nat → Int32) (y_path : Nat → Nat → Int32) {i : Nat} (hi : i < 16) : (kiW cI cF cG h a fo ga ya la ra mb pb held p_ fr f_disc f_turns f_least y_size y_many y_by y_turns l_found l_p l_t l_u l_six l_all l_w l_basis l_crossed r_ties r_six r_rows r_box r_worth r_image r_best r_bestRows y_mem y_path)[22 + i]? = some (mb i, .inl (cI, 6, .inl (y_mem i))) := gr_at0 hi
theorem kiW_s0 (cI : ClassId) (cF : ClassId) (cG : ClassId) (h : Nat) (a : Nat → Nat) (fo : Nat) (ga : Nat → Nat) (ya : Nat → Nat) (la : Nat → Nat) (ra : Nat → Nat) (mb : Nat → Nat) (pb : Nat → Nat) (held : Int32) (p_ : Int32) (fr : Nat → Option Nat) (f_disc : Int32) (f_turns : Int32) (f_least : Nat → Int32) (y_size : Int32) (y_many : Int32) (y_by : Int32) (y_turns : Nat → Int32) (l_found : Int32) (l_p : Int32) (l_t : Int32) (l_u : Int32) (l_six : Nat → Int32) (l_all : Nat → Int32) (l_w : Nat → Int32) (l_basis : Nat → Int32) (l_crossed : Nat → Int32) (r_ties : Int32) (r_six : Nat → Int32) (r_rows : Nat → Int32) (r_box : Nat → Int32) (r_worth : Nat → Int32) (r_image : Nat → Int32) (r_best : Nat → Int32) (r_bestRows : Nat → Int32) (y_mem : Nat → Nat → Int32) (y_path : Nat → Nat → Int32) {i : Nat} {gz : Nat → Int32} (hi : i < 16) : (kiW cI cF cG h a fo ga ya la ra mb pb held p_ fr f_disc f_turns f_least y_size y_many y_by y_turns l_found l_p l_t l_u l_six l_all l_w l_basis l_crossed r_ties r_six r_rows r_box r_worth r_image r_best r_bestRows y_mem y_path).set (22 + i) (mb i, .inl (cI, 6, .inl gz)) = (kiW cI cF cG h a fo ga ya la ra mb pb held p_ fr f_disc f_turns f_least y_size y_many y_by y_turns l_found l_p l_t l_u l_six l_all l_w l_basis l_crossed r_ties r_six r_rows r_box r_worth r_image r_best r_bestRows (va_up y_mem i gz) y_path) := gr_set0 hi
theorem kiW_g1 (cI : ClassId) (cF : ClassId) (cG : ClassId) (h : Nat) (a : Nat → Nat) (fo : Nat) (ga : Nat → Nat) (ya : Nat → Nat) (la : Nat → Nat) (ra : Nat → Nat) (mb : Nat → Nat) (pb : Nat → Nat) (held : Int32) (p_ : Int32) (fr : Nat → Option Nat) (f_disc : Int32) (f_turns : Int32) (f_least : Nat → Int32) (y_size : Int32) (y_many : Int32) (y_by : Int32) (y_turns : Nat → Int32) (l_found : Int32) (l_p : Int32) (l_t : Int32) (l_u : Int32) (l_six : Nat → Int32) (l_all : Nat → Int32) (l_w : Nat → Int32) (l_basis : Nat → Int32) (l_crossed : Nat → Int32) (r_ties : Int32) (r_six : Nat → Int32) (r_rows : Nat → Int32) (r_box : Nat → Int32) (r_worth : Nat → Int32) (r_image : Nat → Int32) (r_best : Nat → Int32) (r_bestRows : Nat → Int32) (y_mem : Nat → Nat → Int32) (y_path : Nat → Nat → Int32) {i : Nat} (hi : i < 16) : (kiW cI cF cG h a fo ga ya la ra mb pb held p_ fr f_disc f_turns f_least y_size y_many y_by y_turns l_found l_p l_t l_u l_six l_all l_w l_basis l_crossed r_ties r_six r_rows r_box r_worth r_image r_best r_bestRows y_mem y_path)[38 + i]? = some (pb i, .inl (cI, 16, .inl (y_path i))) := gr_at1 hi
theorem kiW_s1 (cI : ClassId) (cF : ClassId) (cG : ClassId) (h : Nat) (a : Nat → Nat) (fo : Nat) (ga : Nat → Nat) (ya : Nat → Nat) (la : Nat → Nat) (ra : Nat → Nat) (mb : Nat → Nat) (pb : Nat → Nat) (held : Int32) (p_ : Int32) (fr : Nat → Option Nat) (f_disc : Int32) (f_turns : Int32) (f_least : Nat → Int32) (y_size : Int32) (y_many : Int32) (y_by : Int32) (y_turns : Nat → Int32) (l_found : Int32) (l_p : Int32) (l_t : Int32) (l_u : Int32) (l_six : Nat → Int32) (l_all : Nat → Int32) (l_w : Nat → Int32) (l_basis : Nat → Int32) (l_crossed : Nat → Int32) (r_ties : Int32) (r_six : Nat → Int32) (r_rows : Nat → Int32) (r_box : Nat → Int32) (r_worth : Nat → Int32) (r_image : Nat → Int32) (r_best : Nat → Int32) (r_bestRows : Nat → Int32) (y_mem : Nat → Nat → Int32) (y_path : Nat → Nat → Int32) {i : Nat} {gz : Nat → Int32} (hi : i < 16) : (kiW cI cF cG h a fo ga ya la ra mb pb held p_ fr f_disc f_turns f_least y_size y_many y_by y_turns l_found l_p l_t l_u l_six l_all l_w l_basis l_crossed r_ties r_six r_rows r_box r_worth r_image r_best r_bestRows y_mem y_path).set (38 + i) (pb i, .inl (cI, 16, .inl gz)) = (kiW cI cF cG h a fo ga ya la ra mb pb held p_ fr f_disc f_turns f_least y_size y_many y_by y_turns l_found l_p l_t l_u l_six l_all l_w l_basis l_crossed r_ties r_six r_rows r_box r_worth r_image r_best r_bestRows y_mem (va_up y_path i gz)) := gr_set1 hi
def amW (cI : ClassId) (cF : ClassId) (cG : ClassId) (h : Nat) (a : Nat → Nat) (fo : Nat) (ga : Nat → Nat) (ya : Nat → Nat) (la : Nat → Nat) (ra : Nat → Nat) (fo2 : Nat) (gb : Nat → Nat) (mb : Nat → Nat) (pb : Nat → Nat) (held : Int32) (p_ : Int32) (fr : Nat → Option Nat) (f_disc : Int32) (f_turns : Int32) (f_least : Nat → Int32) (y_size : Int32) (y_many : Int32) (y_by : Int32) (y_turns : Nat → Int32) (l_found : Int32) (l_p : Int32) (l_t : Int32) (l_u : Int32) (l_six : Nat → Int32) (l_all : Nat → Int32) (l_w : Nat → Int32) (l_basis : Nat → Int32) (l_crossed : Nat → Int32) (r_ties : Int32) (r_six : Nat → Int32) (r_rows : Nat → Int32) (r_box : Nat → Int32) (r_worth : Nat → Int32) (r_image : Nat → Int32) (r_best : Nat → Int32) (r_bestRows : Nat → Int32) (f2_disc : Int32) (f2_turns : Int32) (f2_least : Nat → Int32) (y_mem : Nat → Nat → Int32) (y_path : Nat → Nat → Int32) : va_W := [(h, .inr (4, [.ref (a 1), .ref (a 2), .ref (a 3), .ref (a 4), .ref (a 5), .ref (a 6), .int held, .int p_])), ((a 1), .inl (cF, 12, .inr (.inr (.inr (.inr fr))))), (fo, .inr (1, [.ref (ga 1), .ref (ga 2), .ref (ga 3), .ref (ga 4), .int f_disc, .int f_turns])), ((ga 2), .inl (cI, 6, .inl f_least)), ((ga 4), .inr (0, [.ref (ya 1), .ref (ya 2), .ref (ya 3), .int y_size, .int y_many, .int y_by])), ((ya 1), .inl (cG, 16, .inr (.inr (.inr (.inr (fun i => if i < 16 then some (mb i) else none)))))), ((ya 2), .inl (cI, 16, .inl y_turns)), ((ya 3), .inl (cG, 16, .inr (.inr (.inr (.inr (fun i => if i < 16 then some (pb i) else none)))))), ((a 3), .inr (2, [.ref (la 1), .ref (la 2), .ref (la 3), .ref (la 4), .ref (la 5), .int l_found, .int l_p, .int l_t, .int l_u])), ((la 1), .inl (cI, 6, .inl l_six)), ((la 2), .inl (cI, 24, .inl l_all)), ((la 3), .inl (cI, 3, .inl l_w)), ((la 4), .inl (cI, 9, .inl l_basis)), ((la 5), .inl (cI, 6, .inl l_crossed)), ((a 2), .inr (3, [.ref (ra 1), .ref (ra 2), .ref (ra 3), .ref (ra 4), .ref (ra 5), .ref (ra 6), .ref (ra 7), .int r_ties])), ((ra 1), .inl (cI, 6, .inl r_six)), ((ra 2), .inl (cI, 9, .inl r_rows)), ((ra 3), .inl (cI, 81, .inl r_box)), ((ra 4), .inl (cI, 27, .inl r_worth)), ((ra 5), .inl (cI, 81, .inl r_image)), ((ra 6), .inl (cI, 6, .inl r_best)), ((ra 7), .inl (cI, 9, .inl r_bestRows)), (fo2, .inr (1, [.ref (gb 1), .ref (gb 2), .ref (gb 3), .ref (gb 4), .int f2_disc, .int f2_turns])), ((gb 2), .inl (cI, 6, .inl f2_least))] ++ (gr cI 6 mb y_mem 16 ++ gr cI 16 pb y_path 16)
theorem amW_g0 (cI : ClassId) (cF : ClassId) (cG : ClassId) (h : Nat) (a : Nat → Nat) (fo : Nat) (ga : Nat → Nat) (ya : Nat → Nat) (la : Nat → Nat) (ra : Nat → Nat) (fo2 : Nat) (gb : Nat → Nat) (mb : Nat → Nat) (pb : Nat → Nat) (held : Int32) (p_ : Int32) (fr : Nat → Option Nat) (f_disc : Int32) (f_turns : Int32) (f_least : Nat → Int32) (y_size : Int32) (y_many : Int32) (y_by : Int32) (y_turns : Nat → Int32) (l_found : Int32) (l_p : Int32) (l_t : Int32) (l_u : Int32) (l_six : Nat → Int32) (l_all : Nat → Int32) (l_w : Nat → Int32) (l_basis : Nat → Int32) (l_crossed : Nat → Int32) (r_ties : Int32) (r_six : Nat → Int32) (r_rows : Nat → Int32) (r_box : Nat → Int32) (r_worth : Nat → Int32) (r_image : Nat → Int32) (r_best : Nat → Int32) (r_bestRows : Nat → Int32) (f2_disc : Int32) (f2_turns : Int32) (f2_least : Nat → Int32) (y_mem : Nat → Nat → Int32) (y_path : Nat → Nat → Int32) {i : Nat} (hi : i < 16) : (amW cI cF cG h a fo ga ya la ra fo2 gb mb pb held p_ fr f_disc f_turns f_least y_size y_many y_by y_turns l_found l_p l_t l_u l_six l_all l_w l_basis l_crossed r_ties r_six r_rows r_box r_worth r_image r_best r_bestRows f2_disc f2_turns f2_least y_mem y_path)[24 + i]? = some (mb i, .inl (cI, 6, .inl (y_mem i))) := gr_at0 hi
theorem amW_s0 (cI : ClassId) (cF : ClassId) (cG : ClassId) (h : Nat) (a : Nat → Nat) (fo : Nat) (ga : Nat → Nat) (ya : Nat → Nat) (la : Nat → Nat) (ra : Nat → Nat) (fo2 : Nat) (gb : Nat → Nat) (mb : Nat → Nat) (pb : Nat → Nat) (held : Int32) (p_ : Int32) (fr : Nat → Option Nat) (f_disc : Int32) (f_turns : Int32) (f_least : Nat → Int32) (y_size : Int32) (y_many : Int32) (y_by : Int32) (y_turns : Nat → Int32) (l_found : Int32) (l_p : Int32) (l_t : Int32) (l_u : Int32) (l_six : Nat → Int32) (l_all : Nat → Int32) (l_w : Nat → Int32) (l_basis : Nat → Int32) (l_crossed : Nat → Int32) (r_ties : Int32) (r_six : Nat → Int32) (r_rows : Nat → Int32) (r_box : Nat → Int32) (r_worth : Nat → Int32) (r_image : Nat → Int32) (r_best : Nat → Int32) (r_bestRows : Nat → Int32) (f2_disc : Int32) (f2_turns : Int32) (f2_least : Nat → Int32) (y_mem : Nat → Nat → Int32) (y_path : Nat → Nat → Int32) {i : Nat} {gz : Nat → Int32} (hi : i < 16) : (amW cI cF cG h a fo ga ya la ra fo2 gb mb pb held p_ fr f_disc f_turns f_least y_size y_many y_by y_turns l_found l_p l_t l_u l_six l_all l_w l_basis l_crossed r_ties r_six r_rows r_box r_worth r_image r_best r_bestRows f2_disc f2_turns f2_least y_mem y_path).set (24 + i) (mb i, .inl (cI, 6, .inl gz)) = (amW cI cF cG h a fo ga ya la ra fo2 gb mb pb held p_ fr f_disc f_turns f_least y_size y_many y_by y_turns l_found l_p l_t l_u l_six l_all l_w l_basis l_crossed r_ties r_six r_rows r_box r_worth r_image r_best r_bestRows f2_disc f2_turns f2_least (va_up y_mem i gz) y_path) := gr_set0 hi
theorem amW_g1 (cI : ClassId) (cF : ClassId) (cG : ClassId) (h : Nat) (a : Nat → Nat) (fo : Nat) (ga : Nat → Nat) (ya : Nat → Nat) (la : Nat → Nat) (ra : Nat → Nat) (fo2 : Nat) (gb : Nat → Nat) (mb : Nat → Nat) (pb : Nat → Nat) (held : Int32) (p_ : Int32) (fr : Nat → Option Nat) (f_disc : Int32) (f_turns : Int32) (f_least : Nat → Int32) (y_size : Int32) (y_many : Int32) (y_by : Int32) (y_turns : Nat → Int32) (l_found : Int32) (l_p : Int32) (l_t : Int32) (l_u : Int32) (l_six : Nat → Int32) (l_all : Nat → Int32) (l_w : Nat → Int32) (l_basis : Nat → Int32) (l_crossed : Nat → Int32) (r_ties : Int32) (r_six : Nat → Int32) (r_rows : Nat → Int32) (r_box : Nat → Int32) (r_worth : Nat → Int32) (r_image : Nat → Int32) (r_best : Nat → Int32) (r_bestRows : Nat → Int32) (f2_disc : Int32) (f2_turns : Int32) (f2_least : Nat → Int32) (y_mem : Nat → Nat → Int32) (y_path : Nat → Nat → Int32) {i : Nat} (hi : i < 16) : (amW cI cF cG h a fo ga ya la ra fo2 gb mb pb held p_ fr f_disc f_turns f_least y_size y_many y_by y_turns l_found l_p l_t l_u l_six l_all l_w l_basis l_crossed r_ties r_six r_rows r_box r_worth r_image r_best r_bestRows f2_disc f2_turns f2_least y_mem y_path)[40 + i]? = some (pb i, .inl (cI, 16, .inl (y_path i))) := gr_at1 hi
theorem amW_s1 (cI : ClassId) (cF : ClassId) (cG : ClassId) (h : Nat) (a : Nat → Nat) (fo : Nat) (ga : Nat → Nat) (ya : Nat → Nat) (la : Nat → Nat) (ra : Nat → Nat) (fo2 : Nat) (gb : Nat → Nat) (mb : Nat → Nat) (pb : Nat → Nat) (held : Int32) (p_ : Int32) (fr : Nat → Option Nat) (f_disc : Int32) (f_turns : Int32) (f_least : Nat → Int32) (y_size : Int32) (y_many : Int32) (y_by : Int32) (y_turns : Nat → Int32) (l_found : Int32) (l_p : Int32) (l_t : Int32) (l_u : Int32) (l_six : Nat → Int32) (l_all : Nat → Int32) (l_w : Nat → Int32) (l_basis : Nat → Int32) (l_crossed : Nat → Int32) (r_ties : Int32) (r_six : Nat → Int32) (r_rows : Nat → Int32) (r_box : Nat → Int32) (r_worth : Nat → Int32) (r_image : Nat → Int32) (r_best : Nat → Int32) (r_bestRows : Nat → Int32) (f2_disc : Int32) (f2_turns : Int32) (f2_least : Nat → Int32) (y_mem : Nat → Nat → Int32) (y_path : Nat → Nat → Int32) {i : Nat} {gz : Nat → Int32} (hi : i < 16) : (amW cI cF cG h a fo ga ya la ra fo2 gb mb pb held p_ fr f_disc f_turns f_least y_size y_many y_by y_turns l_found l_p l_t l_u l_six l_all l_w l_basis l_crossed r_ties r_six r_rows r_box r_worth r_image r_best r_bestRows f2_disc f2_turns f2_least y_mem y_path).set (40 + i) (pb i, .inl (cI, 16, .inl gz)) = (amW cI cF cG h a fo ga ya la ra fo2 gb mb pb held p_ fr f_disc f_turns f_least y_size y_many y_by y_turns l_found l_p l_t l_u l_six l_all l_w l_basis l_crossed r_ties r_six r_rows r_box r_worth r_image r_best r_bestRows f2_disc f2_turns f2_least y_mem (va_up y_path i gz)) := gr_set1 hi
def amWb (cI : ClassId) (cF : ClassId) (cG : ClassId) (h : Nat) (a : Nat → Nat) (fo : Nat) (ga : Nat → Nat) (ya : Nat → Nat) (la : Nat → Nat) (ra : Nat → Nat) (mb : Nat → Nat) (pb : Nat → Nat) (held : Int32) (p_ : Int32) (fr : Nat → Option Nat) (f_disc : Int32) (f_turns : Int32) (f_least : Nat → Int32) (y_size : Int32) (y_many : Int32) (y_by : Int32) (y_turns : Nat → Int32) (l_found : Int32) (l_p : Int32) (l_t : Int32) (l_u : Int32) (l_six : Nat → Int32) (l_all : Nat → Int32) (l_w : Nat → Int32) (l_basis : Nat → Int32) (l_crossed : Nat → Int32) (r_ties : Int32) (r_six : Nat → Int32) (r_rows : Nat → Int32) (r_box : Nat → Int32) (r_worth : Nat → Int32) (r_image : Nat → Int32) (r_best : Nat → Int32) (r_bestRows : Nat → Int32) (y_mem : Nat → Nat → Int32) (y_path : Nat → Nat → Int32) : va_W := [(h, .inr (4, [.ref (a 1), .ref (a 2), .ref (a 3), .ref (a 4), .ref (a 5), .ref (a 6), .int held, .int p_])), ((a 1), .inl (cF, 12, .inr (.inr (.inr (.inr fr))))), (fo, .inr (1, [.ref (ga 1), .ref (ga 2), .ref (ga 3), .ref (ga 4), .int f_disc, .int f_turns])), ((ga 2), .inl (cI, 6, .inl f_least)), ((ga 4), .inr (0, [.ref (ya 1), .ref (ya 2), .ref (ya 3), .int y_size, .int y_many, .int y_by])), ((ya 1), .inl (cG, 16, .inr (.inr (.inr (.inr (fun i => if i < 16 then some (mb i) else none)))))), ((ya 2), .inl (cI, 16, .inl y_turns)), ((ya 3), .inl (cG, 16, .inr (.inr (.inr (.inr (fun i => if i < 16 then some (pb i) else none)))))), ((a 3), .inr (2, [.ref (la 1), .ref (la 2), .ref (la 3), .ref (la 4), .ref (la 5), .int l_found, .int l_p, .int l_t, .int l_u])), ((la 1), .inl (cI, 6, .inl l_six)), ((la 2), .inl (cI, 24, .inl l_all)), ((la 3), .inl (cI, 3, .inl l_w)), ((la 4), .inl (cI, 9, .inl l_basis)), ((la 5), .inl (cI, 6, .inl l_crossed)), ((a 2), .inr (3, [.ref (ra 1), .ref (ra 2), .ref (ra 3), .ref (ra 4), .ref (ra 5), .ref (ra 6), .ref (ra 7), .int r_ties])), ((ra 1), .inl (cI, 6, .inl r_six)), ((ra 2), .inl (cI, 9, .inl r_rows)), ((ra 3), .inl (cI, 81, .inl r_box)), ((ra 4), .inl (cI, 27, .inl r_worth)), ((ra 5), .inl (cI, 81, .inl r_image)), ((ra 6), .inl (cI, 6, .inl r_best)), ((ra 7), .inl (cI, 9, .inl r_bestRows))] ++ (gr cI 6 mb y_mem 16 ++ gr cI 16 pb y_path 16)
theorem amWb_g0 (cI : ClassId) (cF : ClassId) (cG : ClassId) (h : Nat) (a : Nat → Nat) (fo : Nat) (ga : Nat → Nat) (ya : Nat → Nat) (la : Nat → Nat) (ra : Nat → Nat) (mb : Nat → Nat) (pb : Nat → Nat) (held : Int32) (p_ : Int32) (fr : Nat → Option Nat) (f_disc : Int32) (f_turns : Int32) (f_least : Nat → Int32) (y_size : Int32) (y_many : Int32) (y_by : Int32) (y_turns : Nat → Int32) (l_found : Int32) (l_p : Int32) (l_t : Int32) (l_u : Int32) (l_six : Nat → Int32) (l_all : Nat → Int32) (l_w : Nat → Int32) (l_basis : Nat → Int32) (l_crossed : Nat → Int32) (r_ties : Int32) (r_six : Nat → Int32) (r_rows : Nat → Int32) (r_box : Nat → Int32) (r_worth : Nat → Int32) (r_image : Nat → Int32) (r_best : Nat → Int32) (r_bestRows : Nat → Int32) (y_mem : Nat → Nat → Int32) (y_path : Nat → Nat → Int32) {i : Nat} (hi : i < 16) : (amWb cI cF cG h a fo ga ya la ra mb pb held p_ fr f_disc f_turns f_least y_size y_many y_by y_turns l_found l_p l_t l_u l_six l_all l_w l_basis l_crossed r_ties r_six r_rows r_box r_worth r_image r_best r_bestRows y_mem y_path)[22 + i]? = some (mb i, .inl (cI, 6, .inl (y_mem i))) := gr_at0 hi
theorem amWb_s0 (cI : ClassId) (cF : ClassId) (cG : ClassId) (h : Nat) (a : Nat → Nat) (fo : Nat) (ga : Nat → Nat) (ya : Nat → Nat) (la : Nat → Nat) (ra : Nat → Nat) (mb : Nat → Nat) (pb : Nat → Nat) (held : Int32) (p_ : Int32) (fr : Nat → Option Nat) (f_disc : Int32) (f_turns : Int32) (f_least : Nat → Int32) (y_size : Int32) (y_many : Int32) (y_by : Int32) (y_turns : Nat → Int32) (l_found : Int32) (l_p : Int32) (l_t : Int32) (l_u : Int32) (l_six : Nat → Int32) (l_all : Nat → Int32) (l_w : Nat → Int32) (l_basis : Nat → Int32) (l_crossed : Nat → Int32) (r_ties : Int32) (r_six : Nat → Int32) (r_rows : Nat → Int32) (r_box : Nat → Int32) (r_worth : Nat → Int32) (r_image : Nat → Int32) (r_best : Nat → Int32) (r_bestRows : Nat → Int32) (y_mem : Nat → Nat → Int32) (y_path : Nat → Nat → Int32) {i : Nat} {gz : Nat → Int32} (hi : i < 16) : (amWb cI cF cG h a fo ga ya la ra mb pb held p_ fr f_disc f_turns f_least y_size y_many y_by y_turns l_found l_p l_t l_u l_six l_all l_w l_basis l_crossed r_ties r_six r_rows r_box r_worth r_image r_best r_bestRows y_mem y_path).set (22 + i) (mb i, .inl (cI, 6, .inl gz)) = (amWb cI cF cG h a fo ga ya la ra mb pb held p_ fr f_disc f_turns f_least y_size y_many y_by y_turns l_found l_p l_t l_u l_six l_all l_w l_basis l_crossed r_ties r_six r_rows r_box r_worth r_image r_best r_bestRows (va_up y_mem i gz) y_path) := gr_set0 hi
theorem amWb_g1 (cI : ClassId) (cF : ClassId) (cG : ClassId) (h : Nat) (a : Nat → Nat) (fo : Nat) (ga : Nat → Nat) (ya : Nat → Nat) (la : Nat → Nat) (ra : Nat → Nat) (mb : Nat → Nat) (pb : Nat → Nat) (held : Int32) (p_ : Int32) (fr : Nat → Option Nat) (f_disc : Int32) (f_turns : Int32) (f_least : Nat → Int32) (y_size : Int32) (y_many : Int32) (y_by : Int32) (y_turns : Nat → Int32) (l_found : Int32) (l_p : Int32) (l_t : Int32) (l_u : Int32) (l_six : Nat → Int32) (l_all : Nat → Int32) (l_w : Nat → Int32) (l_basis : Nat → Int32) (l_crossed : Nat → Int32) (r_ties : Int32) (r_six : Nat → Int32) (r_rows : Nat → Int32) (r_box : Nat → Int32) (r_worth : Nat → Int32) (r_image : Nat → Int32) (r_best : Nat → Int32) (r_bestRows : Nat → Int32) (y_mem : Nat → Nat → Int32) (y_path : Nat → Nat → Int32) {i : Nat} (hi : i < 16) : (amWb cI cF cG h a fo ga ya la ra mb pb held p_ fr f_disc f_turns f_least y_size y_many y_by y_turns l_found l_p l_t l_u l_six l_all l_w l_basis l_crossed r_ties r_six r_rows r_box r_worth r_image r_best r_bestRows y_mem y_path)[38 + i]? = some (pb i, .inl (cI, 16, .inl (y_path i))) := gr_at1 hi
theorem amWb_s1 (cI : ClassId) (cF : ClassId) (cG : ClassId) (h : Nat) (a : Nat → Nat) (fo : Nat) (ga : Nat → Nat) (ya : Nat → Nat) (la : Nat → Nat) (ra : Nat → Nat) (mb : Nat → Nat) (pb : Nat → Nat) (held : Int32) (p_ : Int32) (fr : Nat → Option Nat) (f_disc : Int32) (f_turns : Int32) (f_least : Nat → Int32) (y_size : Int32) (y_many : Int32) (y_by : Int32) (y_turns : Nat → Int32) (l_found : Int32) (l_p : Int32) (l_t : Int32) (l_u : Int32) (l_six : Nat → Int32) (l_all : Nat → Int32) (l_w : Nat → Int32) (l_basis : Nat → Int32) (l_crossed : Nat → Int32) (r_ties : Int32) (r_six : Nat → Int32) (r_rows : Nat → Int32) (r_box : Nat → Int32) (r_worth : Nat → Int32) (r_image : Nat → Int32) (r_best : Nat → Int32) (r_bestRows : Nat → Int32) (y_mem : Nat → Nat → Int32) (y_path : Nat → Nat → Int32) {i : Nat} {gz : Nat → Int32} (hi : i < 16) : (amWb cI cF cG h a fo ga ya la ra mb pb held p_ fr f_disc f_turns f_least y_size y_many y_by y_turns l_found l_p l_t l_u l_six l_all l_w l_basis l_crossed r_ties r_six r_rows r_box r_worth r_image r_best r_bestRows y_mem y_path).set (38 + i) (pb i, .inl (cI, 16, .inl gz)) = (amWb cI cF cG h a fo ga ya la ra mb pb held p_ fr f_disc f_turns f_least y_size y_many y_by y_turns l_found l_p l_t l_u l_six l_all l_w l_basis l_crossed r_ties r_six r_rows r_box r_worth r_image r_best r_bestRows y_mem (va_up y_path i gz)) := gr_set1 hi
def fX0_welcome_L40 (k64 : (Nat → Nat → Int32) → Option (Int32 × (Int32) × (Nat → Int32) × (Nat → Nat → Int32) × (Nat → Nat → Int32))) (y_size : Int32) : Nat → (Int32) → (Nat → Nat → Int32) → Option (Int32 × (Int32) × (Nat → Int32) × (Nat → Nat → Int32) × (Nat → Nat → Int32))
  | 0, _, _ => none
  | n + 1, x3_4, y_path_5 => if (16 : Int32) ≤ x3_4 then ((k64 y_path_5)) else (if okI y_size 16 then if okI x3_4 16 then nm (va_up y_path_5 y_size.toNatClampNeg (upd (y_path_5 y_size.toNatClampNeg) x3_4.toNatClampNeg (0 : Int32))) (fun (y_path_7 : Nat → Nat → Int32) => nm (x3_4 + (1 : Int32)) (fun (x3_8 : Int32) => (fX0_welcome_L40 k64 y_size n x3_8 y_path_7))) else none else none)
def fX0_welcome (fu : Nat) (y_size : Int32) (y_turns : Nat → Int32) (numbers : Nat → Int32) (y_mem : Nat → Nat → Int32) (y_path : Nat → Nat → Int32) (p1 : Int32) : Option (Int32 × (Int32) × (Nat → Int32) × (Nat → Nat → Int32) × (Nat → Nat → Int32)) :=
  if y_size < (16 : Int32) then (if okI y_size 16 then nm (va_up y_mem y_size.toNatClampNeg (va_cpy numbers (y_mem y_size.toNatClampNeg) 0 0 6)) (fun (y_mem_2 : Nat → Nat → Int32) => if okI y_size 16 then nm (upd y_turns y_size.toNatClampNeg p1) (fun (y_turns_3 : Nat → Int32) => nm (fun (y_path_9 : Nat → Nat → Int32) => nm (y_size + (1 : Int32)) (fun (y_size_10 : Int32) => nm (y_size_10 - (1 : Int32)) (fun (v_11 : Int32) => some (v_11, y_size_10, y_turns_3, y_mem_2, y_path_9)))) (fun (k64 : (Nat → Nat → Int32) → Option (Int32 × (Int32) × (Nat → Int32) × (Nat → Nat → Int32) × (Nat → Nat → Int32))) => (fX0_welcome_L40 k64 y_size fu (0 : Int32) y_path))) else none) else none) else (some ((-1 : Int32), y_size, y_turns, y_mem, y_path))
def lkX0_welcome : List Cond := [.methodLink RX0 78 arraycopyName, .native arraycopyName, .static arraycopyName, .initialized "java/lang/System", .fieldLink RX0 31 "KinForms$Family" "size" "I", .fieldLink RX0 11 "KinForms$Family" "members" "[[I", .fieldLink RX0 16 "KinForms$Family" "memberTurns" "[I", .fieldLink RX0 20 "KinForms$Family" "paths" "[[I"]
def vX0_welcome : List Cond := .code yX0_welcome cX0_welcome 4 (some .int) :: (lkX0_welcome ++ (wsX00 ++ ([])))
theorem q_X0_welcome : ∀ w ∈ vX0_welcome, goodWord w = true := gd_cons rfl (gd_app (by decide +kernel) (gd_app q_wsX00 gd_nil))
abbrev rmX0_welcome : Room := { frames := 1, cells := 0, slots := 0, locals := 30 }
set_option maxHeartbeats 4000000 in
set_option maxRecDepth 100000 in
theorem c_X0_welcome (l : Launch) (dC : Nat → ClassId) (dI : Nat → Nat → Nat) (cI : ClassId) (cG : ClassId) (h : Nat) (a : Nat → Nat) (b : Nat) (mb : Nat → Nat) (pb : Nat → Nat) (fu : Nat) (sz : Nat) (y_size : Int32) (y_many : Int32) (y_by : Int32) (y_turns : Nat → Int32) (numbers : Nat → Int32) (y_mem : Nat → Nat → Int32) (y_path : Nat → Nat → Int32) (p1 : Int32) (ro : Int32) (o_y_size : Int32) (o_y_turns : Nat → Int32) (o_y_mem : Nat → Nat → Int32) (o_y_path : Nat → Nat → Int32) (hF : fX0_welcome fu y_size y_turns numbers y_mem y_path p1 = some (ro, o_y_size, o_y_turns, o_y_mem, o_y_path)) : Met l yX0_welcome vX0_welcome rmX0_welcome (va_Pc [.ref h, .ref b, .int p1] (mPk (dC, dI) vwCl (fnW cI cG h a b mb pb y_size y_many y_by y_turns numbers y_mem y_path) [(cI, .int), (cG, .array .int)] sz)) (va_Qi (fun x (_ : Unit) => x = ro) (mPo (dC, dI) vwCl (fnW cI cG h a b mb pb o_y_size y_many y_by o_y_turns numbers o_y_mem o_y_path) [(cI, .int), (cG, .array .int)] (va_A (fnW cI cG h a b mb pb y_size y_many y_by y_turns numbers y_mem y_path) sz)) (va_A (fnW cI cG h a b mb pb y_size y_many y_by y_turns numbers y_mem y_path) sz)) 0 0 (va_A (fnW cI cG h a b mb pb y_size y_many y_by y_turns numbers y_mem y_path) sz) := by
  refine Met.ofW (cc := cX0_welcome) (maxL := 4) (ret := (some .int)) (by decide) rfl ?_
  intro p e s m args below meth c s₁ B hml hv
  obtain ⟨rfl, hsz, hP, hK, hD0, hN⟩ := hv
  have hx := B.exec
  have hb := B.bytes
  have hr := B.returns
  have hts := atoms_spec (ws := vX0_welcome) B.pre
  have hlk : ∀ w ∈ lkX0_welcome, w.before _ s = true := fun w h => hts w (List.mem_cons_of_mem _ (List.mem_append_left _ h))
  have hown : s.vm.findClass RX0 = some m.cls := findClass_of_methodNamed B.named
  have hlocks := B.notSynchronized
  subst hsz
  have hD := hD0.self (sz := s.heap.size)
  generalize hAe : va_A (fnW cI cG h a b mb pb y_size y_many y_by y_turns numbers y_mem y_path) s.heap.size = A at hD ⊢
  have hA : ∀ q : Nat, s.heap.size ≤ q → A q := fun q h => by rw [← hAe]; exact Or.inr h
  have hS : va_S A s.heap s.heap [] := va_S.rf
  have hinX0 : ∀ w ∈ wsX00, w ∈ vX0_welcome := fun w h => List.mem_cons_of_mem _ (List.mem_append_right _ (List.mem_append_left _ h))
  have hf_31 := hlk (.fieldLink RX0 31 "KinForms$Family" "size" "I") (by decide +kernel)
  have hf_11 := hlk (.fieldLink RX0 11 "KinForms$Family" "members" "[[I") (by decide +kernel)
  have hf_16 := hlk (.fieldLink RX0 16 "KinForms$Family" "memberTurns" "[I") (by decide +kernel)
  have hf_20 := hlk (.fieldLink RX0 20 "KinForms$Family" "paths" "[[I") (by decide +kernel)
  have hl := lv_entry ([.ref h, .ref b, .int p1] : List Value) (n := 4) (Nat.le_of_ble_eq_true rfl)
  rw [lg_entry_eq]
  generalize (lg_sl ([.ref h, .ref b, .int p1] : List Value) ++ List.replicate (4 - (lg_sl ([.ref h, .ref b, .int p1] : List Value)).length) Slot.unset).toArray = ls at hl ⊢
  have hl : lv_has ls 4 [(0, .ref h), (1, .ref b), (2, .int p1)] := hl
  unfold fX0_welcome at hF
  refine W_Q (fun Q hQ => ?_)
  have hP : va_P (dC, dI) vwCl (fnW cI cG h a b mb pb y_size y_many y_by y_turns numbers y_mem y_path) s.heap := hP
  refine W_HL (fun H locs eH eL => ?_)
  rw [← eH] at hP
  have hS : va_S A s.heap H locs := by rw [eH, eL]; exact hS
  refine lv_aload_n hx hb dX0_welcome_0 rfl (lv_at hl 0 rfl) ?_
  refine va_get (D := (dC, dI)) (ci := 0) (v := .int y_size) (C := RX0) (T := TX0) (N := 6) hx hb hts hinX0 hown hK hP 0 rfl rfl 3 (by decide) hf_31 (fun _ h9 => h9) rfl dX0_welcome_1 ?_
  refine lv_bipush (v := (16)) hx hb dX0_welcome_4 (by decide) ?_
  refine lv_icmp_lt (tgt := 11) hx hb dX0_welcome_6 (by decide) (fun c0 => ?_) (fun c0 => ?_)
  · have hF := if_t hF c0
    refine lv_aload_n hx hb dX0_welcome_11 rfl (lv_at hl 1 rfl) ?_
    refine lv_iconst (v := 0) hx hb dX0_welcome_12 (by decide) ?_
    refine lv_aload_n hx hb dX0_welcome_13 rfl (lv_at hl 0 rfl) ?_
    refine va_get (D := (dC, dI)) (ci := 0) (v := .ref (a 1)) (C := RX0) (T := TX0) (N := 6) hx hb hts hinX0 hown hK hP 0 rfl rfl 0 (by decide) hf_11 (fun _ h9 => h9) rfl dX0_welcome_14 ?_
    refine lv_aload_n hx hb dX0_welcome_17 rfl (lv_at hl 0 rfl) ?_
    refine va_get (D := (dC, dI)) (ci := 0) (v := .int y_size) (C := RX0) (T := TX0) (N := 6) hx hb hts hinX0 hown hK hP 0 rfl rfl 3 (by decide) hf_31 (fun _ h9 => h9) rfl dX0_welcome_18 ?_
    obtain ⟨hg_1, hF⟩ := ck_of hF
    refine kc_aalA (y := (mb y_size.toNatClampNeg)) hx hb hK hP 1 1 rfl rfl (if_pos (ok_lt hg_1)) hg_1 dX0_welcome_21 ?_
    refine lv_iconst (v := 0) hx hb dX0_welcome_22 (by decide) ?_
    refine lv_bipush (v := (6)) hx hb dX0_welcome_23 (by decide) ?_
    obtain ⟨y_mem_2, e_y_mem_2, hF⟩ := nm_ex hF
    refine kc_copyG (N := 6) (SP := 0) (DP := 0) (wf := (fnW cI cG h a b mb pb y_size y_many y_by y_turns numbers y_mem_2 y_path)) hx hb (hml.trans hl.1.symm) hown (hlk (.methodLink RX0 78 arraycopyName) (by decide +kernel)) (hlk (.native arraycopyName) (by decide +kernel)) (hlk (.static arraycopyName) (by decide +kernel)) (hlk (.initialized "java/lang/System") (by decide +kernel)) hK hP hD hS 4 (5 + y_size.toNatClampNeg) 0 0 rfl (fnW_g0 cI cG h a b mb pb y_size y_many y_by y_turns numbers y_mem y_path (ok_lt hg_1)) rfl rfl (by decide) (by decide) (by decide) (by decide) (by decide) (by decide) (by decide) (by decide) (Nat.le_of_ble_eq_true rfl) (Nat.le_of_ble_eq_true rfl) dX0_welcome_25 rfl (by rw [e_y_mem_2]; exact fnW_s0 cI cG h a b mb pb y_size y_many y_by y_turns numbers y_mem y_path (ok_lt hg_1)) (fun H locs hP hD hS => ?_)
    refine lv_aload_n hx hb dX0_welcome_28 rfl (lv_at hl 0 rfl) ?_
    refine va_get (D := (dC, dI)) (ci := 0) (v := .ref (a 2)) (C := RX0) (T := TX0) (N := 6) hx hb hts hinX0 hown hK hP 0 rfl rfl 1 (by decide) hf_16 (fun _ h9 => h9) rfl dX0_welcome_29 ?_
    refine lv_aload_n hx hb dX0_welcome_32 rfl (lv_at hl 0 rfl) ?_
    refine va_get (D := (dC, dI)) (ci := 0) (v := .int y_size) (C := RX0) (T := TX0) (N := 6) hx hb hts hinX0 hown hK hP 0 rfl rfl 3 (by decide) hf_31 (fun _ h9 => h9) rfl dX0_welcome_33 ?_
    refine lv_iload_n hx hb dX0_welcome_36 rfl (lv_at hl 2 rfl) ?_
    obtain ⟨hi, hF⟩ := ck_of hF
    obtain ⟨y_turns_3, e_y_turns_3, hF⟩ := nm_ex hF
    refine kc_iast (j := y_size.toNatClampNeg) (g := y_turns_3) hx hb hK hP hD hS 2 0 rfl rfl rfl hi dX0_welcome_37 e_y_turns_3 (fun H locs hP hD hS => ?_)
    have hP : va_P (dC, dI) vwCl (fnW cI cG h a b mb pb y_size y_many y_by y_turns_3 numbers y_mem_2 y_path) H := hP
    have hD : va_D A (fnW cI cG h a b mb pb y_size y_many y_by y_turns_3 numbers y_mem_2 y_path) := hD
    refine lv_iconst (v := 0) hx hb dX0_welcome_38 (by decide) ?_
    refine lv_istore_n (lv' := [(3, .int (0 : Int32)), (0, .ref h), (1, .ref b), (2, .int p1)]) hx hb dX0_welcome_39 rfl hl (by decide) rfl (fun ls hl => ?_)
    obtain ⟨k64, e_k64, hF⟩ := nm_ex hF
    have hk64 : ∀ (y_path_9 : Nat → Nat → Int32) (H : Heap) (locs : List Loc) (ls : Array Slot), va_P (dC, dI) vwCl (fnW cI cG h a b mb pb y_size y_many y_by y_turns_3 numbers y_mem_2 y_path_9) H → va_D A (fnW cI cG h a b mb pb y_size y_many y_by y_turns_3 numbers y_mem_2 y_path_9) → va_S A s.heap H locs → lv_has ls 4 [(0, .ref h)] → k64 y_path_9 = some (ro, o_y_size, o_y_turns, o_y_mem, o_y_path) → W p l e rmX0_welcome s m ([.ref h, .ref b, .int p1] : List Value).toArray below meth c H locs 0 0 Q (F0 m 64 ls []) := by
      intro y_path_9 H locs ls hP hD hS hl hF
      have hF := ka1 e_k64 hF
      refine lv_aload_n hx hb dX0_welcome_64 rfl (lv_at hl 0 rfl) ?_
      refine lv_dup hx hb dX0_welcome_65 rfl ?_
      refine va_get (D := (dC, dI)) (ci := 0) (v := .int y_size) (C := RX0) (T := TX0) (N := 6) hx hb hts hinX0 hown hK hP 0 rfl rfl 3 (by decide) hf_31 (fun _ h9 => h9) rfl dX0_welcome_66 ?_
      refine lv_iconst (v := 1) hx hb dX0_welcome_69 (by decide) ?_
      refine lv_iadd hx hb dX0_welcome_70 ?_
      refine lv_topi (fun y_size_10 e_y_size_10 => ?_)
      have hF := nm_at hF e_y_size_10
      refine va_put (D := (dC, dI)) (ci := 0) (v := .int y_size_10) (ty := .int) (C := RX0) (T := TX0) (N := 6) hx hb hts hinX0 tyX0 tyX0_ok nmX0 hown hK hP hD hS 0 rfl rfl 3 (by decide) hf_31 (fun _ h9 => h9) rfl (by decide +kernel) rfl rfl (Nat.le_of_ble_eq_true rfl) dX0_welcome_71 (fun H locs hP hD hS => ?_)
      have hP : va_P (dC, dI) vwCl (fnW cI cG h a b mb pb y_size_10 y_many y_by y_turns_3 numbers y_mem_2 y_path_9) H := hP
      have hD : va_D A (fnW cI cG h a b mb pb y_size_10 y_many y_by y_turns_3 numbers y_mem_2 y_path_9) := hD
      refine lv_aload_n hx hb dX0_welcome_74 rfl (lv_at hl 0 rfl) ?_
      refine va_get (D := (dC, dI)) (ci := 0) (v := .int y_size_10) (C := RX0) (T := TX0) (N := 6) hx hb hts hinX0 hown hK hP 0 rfl rfl 3 (by decide) hf_31 (fun _ h9 => h9) rfl dX0_welcome_75 ?_
      refine lv_iconst (v := 1) hx hb dX0_welcome_78 (by decide) ?_
      refine lv_isub hx hb dX0_welcome_79 ?_
      refine lv_topi (fun v_11 e_v_11 => ?_)
      have hF := nm_at hF e_v_11
      obtain ⟨q0, q1, q2, q3, q4⟩ := sm5 hF
      have hP : va_P (dC, dI) vwCl (fnW cI cG h a b mb pb o_y_size y_many y_by o_y_turns numbers o_y_mem o_y_path) H := by rw [← q1, ← q2, ← q3, ← q4]; exact hP
      have hD : va_D A (fnW cI cG h a b mb pb o_y_size y_many y_by o_y_turns numbers o_y_mem o_y_path) := by rw [← q1, ← q2, ← q3, ← q4]; exact hD
      refine W_Qe hQ ?_
      exact W.iret hx hb hr (fun t ht hW => ⟨⟨v_11, (), rfl, q0, by rw [ht]; exact hP, va_K.moved hW.alike hK, hD⟩, hS.F ht⟩) hS.2.2 dX0_welcome_80
    clear e_k64
    have hL40 : ∀ n : Nat, ∀ (x3_4 : Int32) (y_path_5 : Nat → Nat → Int32) (H : Heap) (locs : List Loc) (ls : Array Slot), va_P (dC, dI) vwCl (fnW cI cG h a b mb pb y_size y_many y_by y_turns_3 numbers y_mem_2 y_path_5) H → va_D A (fnW cI cG h a b mb pb y_size y_many y_by y_turns_3 numbers y_mem_2 y_path_5) → va_S A s.heap H locs → lv_has ls 4 [(0, .ref h), (3, .int x3_4)] → fX0_welcome_L40 k64 y_size n x3_4 y_path_5 = some (ro, o_y_size, o_y_turns, o_y_mem, o_y_path) → W p l e rmX0_welcome s m ([.ref h, .ref b, .int p1] : List Value).toArray below meth c H locs 0 0 Q (F0 m 40 ls []) := by
      intro n
      induction n with
      | zero => intro x3_4 y_path_5 H locs ls hP hD hS hl hF; rw [fX0_welcome_L40] at hF; cases hF
      | succ n ih40 =>
        intro x3_4 y_path_5 H locs ls hP hD hS hl hF
        rw [fX0_welcome_L40] at hF
        refine lv_iload_n hx hb dX0_welcome_40 rfl (lv_at hl 1 rfl) ?_
        refine lv_bipush (v := (16)) hx hb dX0_welcome_41 (by decide) ?_
        refine lv_icmp_ge (tgt := 64) hx hb dX0_welcome_43 (by decide) (fun c0 => ?_) (fun c0 => ?_)
        · have hF := if_t hF c0
          exact hk64 y_path_5 H locs ls hP hD hS (lv_sub hl [0] rfl) hF
        · have hF := if_f hF c0
          refine lv_aload_n hx hb dX0_welcome_46 rfl (lv_at hl 0 rfl) ?_
          refine va_get (D := (dC, dI)) (ci := 0) (v := .ref (a 3)) (C := RX0) (T := TX0) (N := 6) hx hb hts hinX0 hown hK hP 0 rfl rfl 2 (by decide) hf_20 (fun _ h9 => h9) rfl dX0_welcome_47 ?_
          refine lv_aload_n hx hb dX0_welcome_50 rfl (lv_at hl 0 rfl) ?_
          refine va_get (D := (dC, dI)) (ci := 0) (v := .int y_size) (C := RX0) (T := TX0) (N := 6) hx hb hts hinX0 hown hK hP 0 rfl rfl 3 (by decide) hf_31 (fun _ h9 => h9) rfl dX0_welcome_51 ?_
          obtain ⟨hg_6, hF⟩ := ck_of hF
          refine kc_aalA (y := (pb y_size.toNatClampNeg)) hx hb hK hP 3 1 rfl rfl (if_pos (ok_lt hg_6)) hg_6 dX0_welcome_54 ?_
          refine lv_iload_n hx hb dX0_welcome_55 rfl (lv_at hl 1 rfl) ?_
          refine lv_iconst (v := 0) hx hb dX0_welcome_56 (by decide) ?_
          obtain ⟨hi, hF⟩ := ck_of hF
          obtain ⟨y_path_7, e_y_path_7, hF⟩ := nm_ex hF
          refine kc_iastG (j := x3_4.toNatClampNeg) (wf := (fnW cI cG h a b mb pb y_size y_many y_by y_turns_3 numbers y_mem_2 y_path_7)) hx hb hK hP hD hS (21 + y_size.toNatClampNeg) 0 (fnW_g1 cI cG h a b mb pb y_size y_many y_by y_turns_3 numbers y_mem_2 y_path_5 (ok_lt hg_6)) rfl rfl hi dX0_welcome_57 rfl (by rw [e_y_path_7]; exact fnW_s1 cI cG h a b mb pb y_size y_many y_by y_turns_3 numbers y_mem_2 y_path_5 (ok_lt hg_6)) (fun H locs hP hD hS => ?_)
          obtain ⟨x3_8, e_x3_8, hF⟩ := nm_ex hF
          refine lv_iinc (v := x3_8) (lv' := [(3, .int x3_8), (0, .ref h)]) hx hb dX0_welcome_58 hl (k := 1) rfl (by rw [e_x3_8]; rfl) (by decide) rfl (fun ls hl => ?_)
          refine lv_goto (tgt := 40) hx hb dX0_welcome_61 (by decide) ?_
          exact ih40 x3_8 y_path_7 H locs ls hP hD hS (lv_sub hl [1, 0] rfl) hF
    exact hL40 fu (0 : Int32) y_path H locs ls hP hD hS (lv_sub hl [1, 0] rfl) hF
  · have hF := if_f hF c0
    refine lv_iconst (v := (-1)) hx hb dX0_welcome_9 (by decide) ?_
    obtain ⟨q0, q1, q2, q3, q4⟩ := sm5 hF
    have hP : va_P (dC, dI) vwCl (fnW cI cG h a b mb pb o_y_size y_many y_by o_y_turns numbers o_y_mem o_y_path) H := by rw [← q1, ← q2, ← q3, ← q4]; exact hP
    have hD : va_D A (fnW cI cG h a b mb pb o_y_size y_many y_by o_y_turns numbers o_y_mem o_y_path) := by rw [← q1, ← q2, ← q3, ← q4]; exact hD
    refine W_Qe hQ ?_
    exact W.iret hx hb hr (fun t ht hW => ⟨⟨(-1 : Int32), (), rfl, q0, by rw [ht]; exact hP, va_K.moved hW.alike hK, hD⟩, hS.F ht⟩) hS.2.2 dX0_welcome_10
def fX0_placeOf_L2 (y_size : Int32) (fu : Nat) (y_mem : Nat → Nat → Int32) (numbers : Nat → Int32) : Nat → (Int32) → Option (Int32)
  | 0, _ => none
  | n + 1, x2_1 => if y_size ≤ x2_1 then (some (-1 : Int32)) else (if okI x2_1 16 then bd1 (fX4_areAlike fu (y_mem x2_1.toNatClampNeg) numbers) (fun (r_3 : Int32) => if r_3 = 0 then (nm (x2_1 + (1 : Int32)) (fun (x2_4 : Int32) => (fX0_placeOf_L2 y_size fu y_mem numbers n x2_4))) else (some x2_1)) else none)
def fX0_placeOf (fu : Nat) (y_size : Int32) (numbers : Nat → Int32) (y_mem : Nat → Nat → Int32)  : Option (Int32) :=
  (fX0_placeOf_L2 y_size fu y_mem numbers fu (0 : Int32))
def lkX0_placeOf : List Cond := [.initialized RX4, .static yX4_areAlike, .fieldLink RX0 31 "KinForms$Family" "size" "I", .fieldLink RX0 11 "KinForms$Family" "members" "[[I"]
def vX0_placeOf : List Cond := .code yX0_placeOf cX0_placeOf 3 (some .int) :: (lkX0_placeOf ++ (wsX00 ++ (vX4_areAlike ++ ([]))))
theorem q_X0_placeOf : ∀ w ∈ vX0_placeOf, goodWord w = true := gd_cons rfl (gd_app (by decide +kernel) (gd_app q_wsX00 (gd_app q_X4_areAlike gd_nil)))
theorem g_X0_placeOf_X4_areAlike : GoodIn vX0_placeOf (vX4_areAlike) := gi_of (fun w h => List.mem_cons_of_mem _ (List.mem_append_right _ (List.mem_append_right _ (List.mem_append_left _ h)))) q_X4_areAlike
abbrev rmX0_placeOf : Room := { frames := 1, cells := 0, slots := 0, locals := 22 }
set_option maxHeartbeats 4000000 in
set_option maxRecDepth 100000 in
theorem c_X0_placeOf (l : Launch) (dC : Nat → ClassId) (dI : Nat → Nat → Nat) (cI : ClassId) (cG : ClassId) (h : Nat) (a : Nat → Nat) (b : Nat) (mb : Nat → Nat) (pb : Nat → Nat) (fu : Nat) (y_size : Int32) (y_many : Int32) (y_by : Int32) (y_turns : Nat → Int32) (numbers : Nat → Int32) (y_mem : Nat → Nat → Int32) (y_path : Nat → Nat → Int32)  (ro : Int32) (hF : fX0_placeOf fu y_size numbers y_mem = some ro) : Met l yX0_placeOf vX0_placeOf rmX0_placeOf (va_Pc [.ref h, .ref b] (rPk (dC, dI) vwCl (fnW cI cG h a b mb pb y_size y_many y_by y_turns numbers y_mem y_path) [(cI, .int), (cG, .array .int)])) (vp_Si (fun x => x = ro)) 0 0 (fun _ => False) := by
  refine Met.ofW (cc := cX0_placeOf) (maxL := 3) (ret := (some .int)) (by decide) rfl ?_
  intro p e s m args below meth c s₁ B hml hv
  obtain ⟨rfl, hP, hK, hN⟩ := hv
  have hx := B.exec
  have hb := B.bytes
  have hr := B.returns
  have hts := atoms_spec (ws := vX0_placeOf) B.pre
  have hlk : ∀ w ∈ lkX0_placeOf, w.before _ s = true := fun w h => hts w (List.mem_cons_of_mem _ (List.mem_append_left _ h))
  have hown : s.vm.findClass RX0 = some m.cls := findClass_of_methodNamed B.named
  have hlocks := B.notSynchronized
  have hinX0 : ∀ w ∈ wsX00, w ∈ vX0_placeOf := fun w h => List.mem_cons_of_mem _ (List.mem_append_right _ (List.mem_append_left _ h))
  have hf_31 := hlk (.fieldLink RX0 31 "KinForms$Family" "size" "I") (by decide +kernel)
  have hf_11 := hlk (.fieldLink RX0 11 "KinForms$Family" "members" "[[I") (by decide +kernel)
  have hl := lv_entry ([.ref h, .ref b] : List Value) (n := 3) (Nat.le_of_ble_eq_true rfl)
  rw [lg_entry_eq]
  generalize (lg_sl ([.ref h, .ref b] : List Value) ++ List.replicate (3 - (lg_sl ([.ref h, .ref b] : List Value)).length) Slot.unset).toArray = ls at hl ⊢
  have hl : lv_has ls 3 [(0, .ref h), (1, .ref b)] := hl
  unfold fX0_placeOf at hF
  refine W_Q (fun Q hQ => ?_)
  refine lv_iconst (v := 0) hx hb dX0_placeOf_0 (by decide) ?_
  refine lv_istore_n (lv' := [(2, .int (0 : Int32)), (0, .ref h), (1, .ref b)]) hx hb dX0_placeOf_1 rfl hl (by decide) rfl (fun ls hl => ?_)
  have hL2 : ∀ n : Nat, ∀ (x2_1 : Int32) (ls : Array Slot), lv_has ls 3 [(0, .ref h), (1, .ref b), (2, .int x2_1)] → fX0_placeOf_L2 y_size fu y_mem numbers n x2_1 = some ro → W p l e rmX0_placeOf s m ([.ref h, .ref b] : List Value).toArray below meth c s.heap [] 0 0 Q (F0 m 2 ls []) := by
    intro n
    induction n with
    | zero => intro x2_1 ls hl hF; rw [fX0_placeOf_L2] at hF; cases hF
    | succ n ih2 =>
      intro x2_1 ls hl hF
      rw [fX0_placeOf_L2] at hF
      refine lv_iload_n hx hb dX0_placeOf_2 rfl (lv_at hl 2 rfl) ?_
      refine lv_aload_n hx hb dX0_placeOf_3 rfl (lv_at hl 0 rfl) ?_
      refine va_get (D := (dC, dI)) (ci := 0) (v := .int y_size) (C := RX0) (T := TX0) (N := 6) hx hb hts hinX0 hown hK hP 0 rfl rfl 3 (by decide) hf_31 (fun _ h9 => h9) rfl dX0_placeOf_4 ?_
      refine lv_icmp_ge (tgt := 31) hx hb dX0_placeOf_7 (by decide) (fun c0 => ?_) (fun c0 => ?_)
      · have hF := if_t hF c0
        refine lv_iconst (v := (-1)) hx hb dX0_placeOf_31 (by decide) ?_
        have q0 := sm1 hF
        refine W_Qe hQ ?_
        exact W.iret hx hb hr (fun t ht hW => ⟨_, rfl, q0, ht⟩) (fun _ h9 => by cases h9) dX0_placeOf_32
      · have hF := if_f hF c0
        refine lv_aload_n hx hb dX0_placeOf_10 rfl (lv_at hl 0 rfl) ?_
        refine va_get (D := (dC, dI)) (ci := 0) (v := .ref (a 1)) (C := RX0) (T := TX0) (N := 6) hx hb hts hinX0 hown hK hP 0 rfl rfl 0 (by decide) hf_11 (fun _ h9 => h9) rfl dX0_placeOf_11 ?_
        refine lv_iload_n hx hb dX0_placeOf_14 rfl (lv_at hl 2 rfl) ?_
        obtain ⟨hg_2, hF⟩ := ck_of hF
        refine kc_aalA (y := (mb x2_1.toNatClampNeg)) hx hb hK hP 1 1 rfl rfl (if_pos (ok_lt hg_2)) hg_2 dX0_placeOf_15 ?_
        refine lv_aload_n hx hb dX0_placeOf_16 rfl (lv_at hl 1 rfl) ?_
        obtain ⟨r_3, hc, hF⟩ := bd1_of hF
        refine rc_i (va_runSN (As := [.ref (mb x2_1.toNatClampNeg), .ref b]) (rest := []) ⟨hx, hb, hml, hown, hts⟩ (c_X4_areAlike l dC dI cI (mb x2_1.toNatClampNeg) b fu (y_mem x2_1.toNatClampNeg) numbers  r_3 hc) ⟨va_cnB 2 hts g_X0_placeOf_X4_areAlike rfl rfl rfl (hN.2 (RX0, 84, yX4_areAlike, "KinForms") (by decide +kernel)) (hlk (.initialized RX4) (by decide +kernel)) (by decide +kernel) ⟨Nat.le_of_ble_eq_true rfl, Nat.le_of_ble_eq_true rfl⟩, hlk (.static yX4_areAlike) (by decide +kernel), trivial⟩ ⟨rPk_blind, rPk_at (hK.sub (tys' := [(cI, .int)]) [0] rfl) (vp2 (hP _ _ (fnW_g0 cI cG h a b mb pb y_size y_many y_by y_turns numbers y_mem y_path (ok_lt hg_2))) (hP 4 _ rfl)) hN⟩ rfl rfl hl.1 rfl (lv_room (Nat.le_of_ble_eq_true rfl)) dX0_placeOf_17 ⟨Nat.zero_le _, Nat.zero_le _⟩) ?_
        refine lv_if_eq (tgt := 25) hx hb dX0_placeOf_20 (by decide) (fun c0 => ?_) (fun c0 => ?_)
        · have hF := if_t hF c0
          obtain ⟨x2_4, e_x2_4, hF⟩ := nm_ex hF
          refine lv_iinc (v := x2_4) (lv' := [(2, .int x2_4), (0, .ref h), (1, .ref b)]) hx hb dX0_placeOf_25 hl (k := 2) rfl (by rw [e_x2_4]; rfl) (by decide) rfl (fun ls hl => ?_)
          refine lv_goto (tgt := 2) hx hb dX0_placeOf_28 (by decide) ?_
          exact ih2 x2_4 ls (lv_sub hl [1, 2, 0] rfl) hF
        · have hF := if_f hF c0
          refine lv_iload_n hx hb dX0_placeOf_23 rfl (lv_at hl 2 rfl) ?_
          have q0 := sm1 hF
          refine W_Qe hQ ?_
          exact W.iret hx hb hr (fun t ht hW => ⟨_, rfl, q0, ht⟩) (fun _ h9 => by cases h9) dX0_placeOf_24
  exact hL2 fu (0 : Int32) ls (lv_sub hl [1, 2, 0] rfl) hF
def fX0_begin (fu : Nat) (y_turns : Nat → Int32) (f_turns : Int32) (f_least : Nat → Int32) (y_mem : Nat → Nat → Int32) (y_path : Nat → Nat → Int32) (p1 : Int32) : Option ((Int32) × (Int32) × (Int32) × (Nat → Int32) × (Nat → Nat → Int32) × (Nat → Nat → Int32)) :=
  bd5 (fX0_welcome fu (0 : Int32) y_turns f_least y_mem y_path f_turns) (fun (r_1 : Int32) (y_size_2 : Int32) (y_turns_3 : Nat → Int32) (y_mem_4 : Nat → Nat → Int32) (y_path_5 : Nat → Nat → Int32) => some (y_size_2, (0 : Int32), p1, y_turns_3, y_mem_4, y_path_5))
def lkX0_begin : List Cond := [.fieldLink RX0 23 "KinForms$Family" "foundBy" "I", .fieldLink RX0 27 "KinForms$Family" "many" "Z", .fieldLink RX0 31 "KinForms$Family" "size" "I"]
def vX0_begin : List Cond := .code yX0_begin cX0_begin 3 none :: (lkX0_begin ++ (wsX00 ++ (wsX10 ++ (wsV RX0 42 RX0 yX0_welcome vX0_welcome ++ ([])))))
theorem q_X0_begin : ∀ w ∈ vX0_begin, goodWord w = true := gd_cons rfl (gd_app (by decide +kernel) (gd_app q_wsX00 (gd_app q_wsX10 (gd_app (gd_V q_X0_welcome) gd_nil))))
theorem g_X0_begin_X0_welcome : GoodIn vX0_begin (wsV RX0 42 RX0 yX0_welcome vX0_welcome) := gi_of (fun w h => List.mem_cons_of_mem _ (List.mem_append_right _ (List.mem_append_right _ (List.mem_append_right _ (List.mem_append_left _ h))))) (gd_V q_X0_welcome)
abbrev rmX0_begin : Room := { frames := 2, cells := 0, slots := 0, locals := 53 }
set_option maxHeartbeats 4000000 in
set_option maxRecDepth 100000 in
theorem c_X0_begin (l : Launch) (dC : Nat → ClassId) (dI : Nat → Nat → Nat) (cI : ClassId) (cG : ClassId) (h : Nat) (a : Nat → Nat) (g : Nat) (ga : Nat → Nat) (mb : Nat → Nat) (pb : Nat → Nat) (fu : Nat) (sz : Nat) (y_size : Int32) (y_many : Int32) (y_by : Int32) (y_turns : Nat → Int32) (f_disc : Int32) (f_turns : Int32) (f_least : Nat → Int32) (y_mem : Nat → Nat → Int32) (y_path : Nat → Nat → Int32) (p1 : Int32) (o_y_size : Int32) (o_y_many : Int32) (o_y_by : Int32) (o_y_turns : Nat → Int32) (o_y_mem : Nat → Nat → Int32) (o_y_path : Nat → Nat → Int32) (hF : fX0_begin fu y_turns f_turns f_least y_mem y_path p1 = some (o_y_size, o_y_many, o_y_by, o_y_turns, o_y_mem, o_y_path)) : Met l yX0_begin vX0_begin rmX0_begin (va_Pc [.ref h, .ref g, .int p1] (mPk (dC, dI) vwCl (fbW cI cG h a g ga mb pb y_size y_many y_by y_turns f_disc f_turns f_least y_mem y_path) [(cI, .int), (cG, .array .int)] sz)) (va_Qv (fun (_ : Unit) => True) (mPo (dC, dI) vwCl (fbW cI cG h a g ga mb pb o_y_size o_y_many o_y_by o_y_turns f_disc f_turns f_least o_y_mem o_y_path) [(cI, .int), (cG, .array .int)] (va_A (fbW cI cG h a g ga mb pb y_size y_many y_by y_turns f_disc f_turns f_least y_mem y_path) sz)) (va_A (fbW cI cG h a g ga mb pb y_size y_many y_by y_turns f_disc f_turns f_least y_mem y_path) sz)) 0 0 (va_A (fbW cI cG h a g ga mb pb y_size y_many y_by y_turns f_disc f_turns f_least y_mem y_path) sz) := by
  refine Met.ofW (cc := cX0_begin) (maxL := 3) (ret := none) (by decide) rfl ?_
  intro p e s m args below meth c s₁ B hml hv
  obtain ⟨rfl, hsz, hP, hK, hD0, hN⟩ := hv
  have hx := B.exec
  have hb := B.bytes
  have hr := B.returns
  have hts := atoms_spec (ws := vX0_begin) B.pre
  have hlk : ∀ w ∈ lkX0_begin, w.before _ s = true := fun w h => hts w (List.mem_cons_of_mem _ (List.mem_append_left _ h))
  have hown : s.vm.findClass RX0 = some m.cls := findClass_of_methodNamed B.named
  have hlocks := B.notSynchronized
  subst hsz
  have hD := hD0.self (sz := s.heap.size)
  generalize hAe : va_A (fbW cI cG h a g ga mb pb y_size y_many y_by y_turns f_disc f_turns f_least y_mem y_path) s.heap.size = A at hD ⊢
  have hA : ∀ q : Nat, s.heap.size ≤ q → A q := fun q h => by rw [← hAe]; exact Or.inr h
  have hS : va_S A s.heap s.heap [] := va_S.rf
  have hinX0 : ∀ w ∈ wsX00, w ∈ vX0_begin := fun w h => List.mem_cons_of_mem _ (List.mem_append_right _ (List.mem_append_left _ h))
  have hinX1 : ∀ w ∈ wsX10, w ∈ vX0_begin := fun w h => List.mem_cons_of_mem _ (List.mem_append_right _ (List.mem_append_right _ (List.mem_append_left _ h)))
  have hf_23 := hlk (.fieldLink RX0 23 "KinForms$Family" "foundBy" "I") (by decide +kernel)
  have hf_27 := hlk (.fieldLink RX0 27 "KinForms$Family" "many" "Z") (by decide +kernel)
  have hf_31 := hlk (.fieldLink RX0 31 "KinForms$Family" "size" "I") (by decide +kernel)
  have hf_34 := va_Nw.use (A := ([.ref h, .ref g, .int p1] : List Value).toArray) rfl (hN.1 (RX0, 34, "KinForms$Form", "leastNumbers", "[I", "KinForms") (by decide +kernel))
  have hf_39 := va_Nw.use (A := ([.ref h, .ref g, .int p1] : List Value).toArray) rfl (hN.1 (RX0, 39, "KinForms$Form", "ownTurns", "I", "KinForms") (by decide +kernel))
  have hl := lv_entry ([.ref h, .ref g, .int p1] : List Value) (n := 3) (Nat.le_of_ble_eq_true rfl)
  rw [lg_entry_eq]
  generalize (lg_sl ([.ref h, .ref g, .int p1] : List Value) ++ List.replicate (3 - (lg_sl ([.ref h, .ref g, .int p1] : List Value)).length) Slot.unset).toArray = ls at hl ⊢
  have hl : lv_has ls 3 [(0, .ref h), (1, .ref g), (2, .int p1)] := hl
  unfold fX0_begin at hF
  refine W_Q (fun Q hQ => ?_)
  have hP : va_P (dC, dI) vwCl (fbW cI cG h a g ga mb pb y_size y_many y_by y_turns f_disc f_turns f_least y_mem y_path) s.heap := hP
  refine W_HL (fun H locs eH eL => ?_)
  rw [← eH] at hP
  have hS : va_S A s.heap H locs := by rw [eH, eL]; exact hS
  refine lv_aload_n hx hb dX0_begin_0 rfl (lv_at hl 0 rfl) ?_
  refine lv_iload_n hx hb dX0_begin_1 rfl (lv_at hl 2 rfl) ?_
  refine va_put (D := (dC, dI)) (ci := 0) (v := .int p1) (ty := .int) (C := RX0) (T := TX0) (N := 6) hx hb hts hinX0 tyX0 tyX0_ok nmX0 hown hK hP hD hS 0 rfl rfl 5 (by decide) hf_23 (fun _ h9 => h9) rfl (by decide +kernel) rfl rfl (Nat.le_of_ble_eq_true rfl) dX0_begin_2 (fun H locs hP hD hS => ?_)
  have hP : va_P (dC, dI) vwCl (fbW cI cG h a g ga mb pb y_size y_many p1 y_turns f_disc f_turns f_least y_mem y_path) H := hP
  have hD : va_D A (fbW cI cG h a g ga mb pb y_size y_many p1 y_turns f_disc f_turns f_least y_mem y_path) := hD
  refine lv_aload_n hx hb dX0_begin_5 rfl (lv_at hl 0 rfl) ?_
  refine lv_iconst (v := 0) hx hb dX0_begin_6 (by decide) ?_
  refine va_put (D := (dC, dI)) (ci := 0) (v := .int (0 : Int32)) (ty := .boolean) (C := RX0) (T := TX0) (N := 6) hx hb hts hinX0 tyX0 tyX0_ok nmX0 hown hK hP hD hS 0 rfl rfl 4 (by decide) hf_27 (fun _ h9 => h9) rfl (by decide +kernel) rfl rfl (Nat.le_of_ble_eq_true rfl) dX0_begin_7 (fun H locs hP hD hS => ?_)
  have hP : va_P (dC, dI) vwCl (fbW cI cG h a g ga mb pb y_size (0 : Int32) p1 y_turns f_disc f_turns f_least y_mem y_path) H := hP
  have hD : va_D A (fbW cI cG h a g ga mb pb y_size (0 : Int32) p1 y_turns f_disc f_turns f_least y_mem y_path) := hD
  refine lv_aload_n hx hb dX0_begin_10 rfl (lv_at hl 0 rfl) ?_
  refine lv_iconst (v := 0) hx hb dX0_begin_11 (by decide) ?_
  refine va_put (D := (dC, dI)) (ci := 0) (v := .int (0 : Int32)) (ty := .int) (C := RX0) (T := TX0) (N := 6) hx hb hts hinX0 tyX0 tyX0_ok nmX0 hown hK hP hD hS 0 rfl rfl 3 (by decide) hf_31 (fun _ h9 => h9) rfl (by decide +kernel) rfl rfl (Nat.le_of_ble_eq_true rfl) dX0_begin_12 (fun H locs hP hD hS => ?_)
  have hP : va_P (dC, dI) vwCl (fbW cI cG h a g ga mb pb (0 : Int32) (0 : Int32) p1 y_turns f_disc f_turns f_least y_mem y_path) H := hP
  have hD : va_D A (fbW cI cG h a g ga mb pb (0 : Int32) (0 : Int32) p1 y_turns f_disc f_turns f_least y_mem y_path) := hD
  refine lv_aload_n hx hb dX0_begin_15 rfl (lv_at hl 0 rfl) ?_
  refine lv_aload_n hx hb dX0_begin_16 rfl (lv_at hl 1 rfl) ?_
  refine va_getN (D := (dC, dI)) (ci := 1) (v := .ref (ga 2)) (C := RX1) (T := TX1) (N := 6) hx hb hts hinX1 hown hK hP 4 rfl rfl 1 (by decide) hf_34 (fun _ h9 => h9) rfl dX0_begin_17 ?_
  refine lv_aload_n hx hb dX0_begin_20 rfl (lv_at hl 1 rfl) ?_
  refine va_getN (D := (dC, dI)) (ci := 1) (v := .int f_turns) (C := RX1) (T := TX1) (N := 6) hx hb hts hinX1 hown hK hP 4 rfl rfl 5 (by decide) hf_39 (fun _ h9 => h9) rfl dX0_begin_21 ?_
  obtain ⟨r_1, y_size_2, y_turns_3, y_mem_4, y_path_5, hc, hF⟩ := bd5_of hF
  refine stT_i (wf := (fbW cI cG h a g ga mb pb y_size_2 (0 : Int32) p1 y_turns_3 f_disc f_turns f_least y_mem_4 y_path_5)) (va_runV (As := [.ref (ga 2), .int f_turns]) (rest := []) ⟨hx, hb, hml, hown, hts⟩ (c_X0_welcome l dC dI cI cG h a (ga 2) mb pb fu H.size (0 : Int32) (0 : Int32) p1 y_turns f_least y_mem y_path f_turns r_1 y_size_2 y_turns_3 y_mem_4 y_path_5 hc) (cwV 2 hts g_X0_begin_X0_welcome rfl rfl rfl (by decide +kernel) ⟨Nat.le_of_ble_eq_true rfl, Nat.le_of_ble_eq_true rfl⟩) ⟨mPk_blind, va_recv hK hP (ci := 0) (q0 := 0) rfl rfl, mPk_at hK (hP.tail (ws' := (fnW cI cG h a (ga 2) mb pb (0 : Int32) (0 : Int32) p1 y_turns f_least y_mem y_path)) [0, 1, 2, 3, 5] rfl rfl) (hD.tail (ws' := (fnW cI cG h a (ga 2) mb pb (0 : Int32) (0 : Int32) p1 y_turns f_least y_mem y_path)) [0, 1, 2, 3, 5] rfl rfl (by decide) rfl) hN⟩ rfl rfl hl.1 rfl (lv_room (Nat.le_of_ble_eq_true rfl)) dX0_begin_24 ⟨Nat.zero_le _, Nat.zero_le _⟩) hP hD hS hA [0, 1, 2, 3, 5] [4] rfl rfl rfl rfl rfl rfl rfl rfl rfl rfl rfl (fun H locs hP hD hS => ?_)
  refine lv_pop hx hb dX0_begin_27 rfl ?_
  obtain ⟨q0, q1, q2, q3, q4, q5⟩ := sm6 hF
  have hP : va_P (dC, dI) vwCl (fbW cI cG h a g ga mb pb o_y_size o_y_many o_y_by o_y_turns f_disc f_turns f_least o_y_mem o_y_path) H := by rw [← q0, ← q1, ← q2, ← q3, ← q4, ← q5]; exact hP
  have hD : va_D A (fbW cI cG h a g ga mb pb o_y_size o_y_many o_y_by o_y_turns f_disc f_turns f_least o_y_mem o_y_path) := by rw [← q0, ← q1, ← q2, ← q3, ← q4, ← q5]; exact hD
  refine W_Qe hQ ?_
  exact W.vret hx hb hr (fun t ht hW => ⟨⟨(), rfl, trivial, by rw [ht]; exact hP, va_K.moved hW.alike hK, hD⟩, hS.F ht⟩) hS.2.2 dX0_begin_28
def fX0_partsOf (y_turns : Nat → Int32) (p0 : Int32) : Option (Int64) :=
  if okI p0 16 then nm (fun (s_2 : Int64) => some s_2) (fun (k23 : (Int64) → Option (Int64)) => if (y_turns p0.toNatClampNeg) ≤ 0 then ((k23 (0 : Int64))) else (if okI p0 16 then nm (y_turns p0.toNatClampNeg) (fun (v_1 : Int32) => if ¬ v_1 = 0 then (k23 ((48 : Int32) / v_1).toInt64) else none) else none)) else none
def lkX0_partsOf : List Cond := [.fieldLink RX0 16 "KinForms$Family" "memberTurns" "[I"]
def vX0_partsOf : List Cond := .code yX0_partsOf cX0_partsOf 2 (some .long) :: (lkX0_partsOf ++ (wsX00 ++ ([])))
theorem q_X0_partsOf : ∀ w ∈ vX0_partsOf, goodWord w = true := gd_cons rfl (gd_app (by decide +kernel) (gd_app q_wsX00 gd_nil))
abbrev rmX0_partsOf : Room := { frames := 0, cells := 0, slots := 0, locals := 0 }
set_option maxHeartbeats 4000000 in
set_option maxRecDepth 100000 in
theorem c_X0_partsOf (l : Launch) (dC : Nat → ClassId) (dI : Nat → Nat → Nat) (cI : ClassId) (cG : ClassId) (h : Nat) (a : Nat → Nat) (mb : Nat → Nat) (pb : Nat → Nat) (y_size : Int32) (y_many : Int32) (y_by : Int32) (y_turns : Nat → Int32) (y_mem : Nat → Nat → Int32) (y_path : Nat → Nat → Int32) (p0 : Int32) (ro : Int64) (hF : fX0_partsOf y_turns p0 = some ro) : Met l yX0_partsOf vX0_partsOf rmX0_partsOf (va_Pc [.ref h, .int p0] (rPk (dC, dI) vwCl (fW cI cG h a mb pb y_size y_many y_by y_turns y_mem y_path) [(cI, .int), (cG, .array .int)])) (vp_Sl (fun x => x = ro)) 0 0 (fun _ => False) := by
  refine Met.ofW (cc := cX0_partsOf) (maxL := 2) (ret := (some .long)) (by decide) rfl ?_
  intro p e s m args below meth c s₁ B hml hv
  obtain ⟨rfl, hP, hK, hN⟩ := hv
  have hx := B.exec
  have hb := B.bytes
  have hr := B.returns
  have hts := atoms_spec (ws := vX0_partsOf) B.pre
  have hlk : ∀ w ∈ lkX0_partsOf, w.before _ s = true := fun w h => hts w (List.mem_cons_of_mem _ (List.mem_append_left _ h))
  have hown : s.vm.findClass RX0 = some m.cls := findClass_of_methodNamed B.named
  have hlocks := B.notSynchronized
  have hinX0 : ∀ w ∈ wsX00, w ∈ vX0_partsOf := fun w h => List.mem_cons_of_mem _ (List.mem_append_right _ (List.mem_append_left _ h))
  have hf_16 := hlk (.fieldLink RX0 16 "KinForms$Family" "memberTurns" "[I") (by decide +kernel)
  have hl := lv_entry ([.ref h, .int p0] : List Value) (n := 2) (Nat.le_of_ble_eq_true rfl)
  rw [lg_entry_eq]
  generalize (lg_sl ([.ref h, .int p0] : List Value) ++ List.replicate (2 - (lg_sl ([.ref h, .int p0] : List Value)).length) Slot.unset).toArray = ls at hl ⊢
  have hl : lv_has ls 2 [(0, .ref h), (1, .int p0)] := hl
  unfold fX0_partsOf at hF
  refine W_Q (fun Q hQ => ?_)
  refine lv_aload_n hx hb dX0_partsOf_0 rfl (lv_at hl 0 rfl) ?_
  refine va_get (D := (dC, dI)) (ci := 0) (v := .ref (a 2)) (C := RX0) (T := TX0) (N := 6) hx hb hts hinX0 hown hK hP 0 rfl rfl 1 (by decide) hf_16 (fun _ h9 => h9) rfl dX0_partsOf_1 ?_
  refine lv_iload_n hx hb dX0_partsOf_4 rfl (lv_at hl 1 rfl) ?_
  obtain ⟨hi, hF⟩ := ck_of hF
  refine va_iald hx hb hK hP 2 0 rfl rfl hi dX0_partsOf_5 ?_
  obtain ⟨k23, e_k23, hF⟩ := nm_ex hF
  have hk23 : ∀ (s_2 : Int64) (ls : Array Slot), lv_has ls 2 [] → k23 s_2 = some ro → W p l e rmX0_partsOf s m ([.ref h, .int p0] : List Value).toArray below meth c s.heap [] 0 0 Q (F0 m 23 ls [.long s_2]) := by
    intro s_2 ls hl hF
    have hF := ka1 e_k23 hF
    have q0 := sm1 hF
    refine W_Qe hQ ?_
    exact W.lret hx hb hr (fun t ht hW => ⟨_, rfl, q0, ht⟩) (fun _ h9 => by cases h9) dX0_partsOf_23
  clear e_k23
  refine lv_if_le (tgt := 22) hx hb dX0_partsOf_6 (by decide) (fun c0 => ?_) (fun c0 => ?_)
  · have hF := if_t hF c0
    refine lv_lconst (v := 0) hx hb dX0_partsOf_22 (by decide) ?_
    exact hk23 (0 : Int64) ls (lv_sub hl [] rfl) hF
  · have hF := if_f hF c0
    refine lv_bipush (v := (48)) hx hb dX0_partsOf_9 (by decide) ?_
    refine lv_aload_n hx hb dX0_partsOf_11 rfl (lv_at hl 0 rfl) ?_
    refine va_get (D := (dC, dI)) (ci := 0) (v := .ref (a 2)) (C := RX0) (T := TX0) (N := 6) hx hb hts hinX0 hown hK hP 0 rfl rfl 1 (by decide) hf_16 (fun _ h9 => h9) rfl dX0_partsOf_12 ?_
    refine lv_iload_n hx hb dX0_partsOf_15 rfl (lv_at hl 1 rfl) ?_
    obtain ⟨hi, hF⟩ := ck_of hF
    refine va_iald hx hb hK hP 2 0 rfl rfl hi dX0_partsOf_16 ?_
    refine lv_topi (fun v_1 e_v_1 => ?_)
    have hF := nm_at hF e_v_1
    obtain ⟨hz, hF⟩ := ck_of hF
    refine lv_idiv hx hb dX0_partsOf_17 hz ?_
    refine lv_i2l (v := ((48 : Int32) / v_1).toInt64) hx hb dX0_partsOf_18 rfl ?_
    refine lv_goto (tgt := 23) hx hb dX0_partsOf_19 (by decide) ?_
    exact hk23 ((48 : Int32) / v_1).toInt64 ls (lv_sub hl [] rfl) hF
def fX0_partsOfAll_L4 (y_size : Int32) (y_turns : Nat → Int32) : Nat → (Int64) → (Int32) → Option (Int64)
  | 0, _, _ => none
  | n + 1, x1_1, x3_2 => if y_size ≤ x3_2 then (some x1_1) else (bd1 (fX0_partsOf y_turns x3_2) (fun (r_3 : Int64) => nm (x1_1 + r_3) (fun (x1_4 : Int64) => nm (x3_2 + (1 : Int32)) (fun (x3_5 : Int32) => (fX0_partsOfAll_L4 y_size y_turns n x1_4 x3_5)))))
def fX0_partsOfAll (fu : Nat) (y_size : Int32) (y_turns : Nat → Int32)  : Option (Int64) :=
  (fX0_partsOfAll_L4 y_size y_turns fu (0 : Int64) (0 : Int32))
def lkX0_partsOfAll : List Cond := [.fieldLink RX0 31 "KinForms$Family" "size" "I"]
def vX0_partsOfAll : List Cond := .code yX0_partsOfAll cX0_partsOfAll 4 (some .long) :: (lkX0_partsOfAll ++ (wsX00 ++ (wsV RX0 90 RX0 yX0_partsOf vX0_partsOf ++ ([]))))
theorem q_X0_partsOfAll : ∀ w ∈ vX0_partsOfAll, goodWord w = true := gd_cons rfl (gd_app (by decide +kernel) (gd_app q_wsX00 (gd_app (gd_V q_X0_partsOf) gd_nil)))
theorem g_X0_partsOfAll_X0_partsOf : GoodIn vX0_partsOfAll (wsV RX0 90 RX0 yX0_partsOf vX0_partsOf) := gi_of (fun w h => List.mem_cons_of_mem _ (List.mem_append_right _ (List.mem_append_right _ (List.mem_append_left _ h)))) (gd_V q_X0_partsOf)
abbrev rmX0_partsOfAll : Room := { frames := 1, cells := 0, slots := 0, locals := 21 }
set_option maxHeartbeats 4000000 in
set_option maxRecDepth 100000 in
theorem c_X0_partsOfAll (l : Launch) (dC : Nat → ClassId) (dI : Nat → Nat → Nat) (cI : ClassId) (cG : ClassId) (h : Nat) (a : Nat → Nat) (mb : Nat → Nat) (pb : Nat → Nat) (fu : Nat) (y_size : Int32) (y_many : Int32) (y_by : Int32) (y_turns : Nat → Int32) (y_mem : Nat → Nat → Int32) (y_path : Nat → Nat → Int32)  (ro : Int64) (hF : fX0_partsOfAll fu y_size y_turns = some ro) : Met l yX0_partsOfAll vX0_partsOfAll rmX0_partsOfAll (va_Pc [.ref h] (rPk (dC, dI) vwCl (fW cI cG h a mb pb y_size y_many y_by y_turns y_mem y_path) [(cI, .int), (cG, .array .int)])) (vp_Sl (fun x => x = ro)) 0 0 (fun _ => False) := by
  refine Met.ofW (cc := cX0_partsOfAll) (maxL := 4) (ret := (some .long)) (by decide) rfl ?_
  intro p e s m args below meth c s₁ B hml hv
  obtain ⟨rfl, hP, hK, hN⟩ := hv
  have hx := B.exec
  have hb := B.bytes
  have hr := B.returns
  have hts := atoms_spec (ws := vX0_partsOfAll) B.pre
  have hlk : ∀ w ∈ lkX0_partsOfAll, w.before _ s = true := fun w h => hts w (List.mem_cons_of_mem _ (List.mem_append_left _ h))
  have hown : s.vm.findClass RX0 = some m.cls := findClass_of_methodNamed B.named
  have hlocks := B.notSynchronized
  have hinX0 : ∀ w ∈ wsX00, w ∈ vX0_partsOfAll := fun w h => List.mem_cons_of_mem _ (List.mem_append_right _ (List.mem_append_left _ h))
  have hf_31 := hlk (.fieldLink RX0 31 "KinForms$Family" "size" "I") (by decide +kernel)
  have hl := lv_entry ([.ref h] : List Value) (n := 4) (Nat.le_of_ble_eq_true rfl)
  rw [lg_entry_eq]
  generalize (lg_sl ([.ref h] : List Value) ++ List.replicate (4 - (lg_sl ([.ref h] : List Value)).length) Slot.unset).toArray = ls at hl ⊢
  have hl : lv_has ls 4 [(0, .ref h)] := hl
  unfold fX0_partsOfAll at hF
  refine W_Q (fun Q hQ => ?_)
  refine lv_lconst (v := 0) hx hb dX0_partsOfAll_0 (by decide) ?_
  refine lv_lstore_n (lv' := [(1, .long (0 : Int64)), (0, .ref h)]) hx hb dX0_partsOfAll_1 rfl hl (by decide) rfl (fun ls hl => ?_)
  refine lv_iconst (v := 0) hx hb dX0_partsOfAll_2 (by decide) ?_
  refine lv_istore_n (lv' := [(3, .int (0 : Int32)), (1, .long (0 : Int64)), (0, .ref h)]) hx hb dX0_partsOfAll_3 rfl hl (by decide) rfl (fun ls hl => ?_)
  have hL4 : ∀ n : Nat, ∀ (x1_1 : Int64) (x3_2 : Int32) (ls : Array Slot), lv_has ls 4 [(0, .ref h), (1, .long x1_1), (3, .int x3_2)] → fX0_partsOfAll_L4 y_size y_turns n x1_1 x3_2 = some ro → W p l e rmX0_partsOfAll s m ([.ref h] : List Value).toArray below meth c s.heap [] 0 0 Q (F0 m 4 ls []) := by
    intro n
    induction n with
    | zero => intro x1_1 x3_2 ls hl hF; rw [fX0_partsOfAll_L4] at hF; cases hF
    | succ n ih4 =>
      intro x1_1 x3_2 ls hl hF
      rw [fX0_partsOfAll_L4] at hF
      refine lv_iload_n hx hb dX0_partsOfAll_4 rfl (lv_at hl 2 rfl) ?_
      refine lv_aload_n hx hb dX0_partsOfAll_5 rfl (lv_at hl 0 rfl) ?_
      refine va_get (D := (dC, dI)) (ci := 0) (v := .int y_size) (C := RX0) (T := TX0) (N := 6) hx hb hts hinX0 hown hK hP 0 rfl rfl 3 (by decide) hf_31 (fun _ h9 => h9) rfl dX0_partsOfAll_6 ?_
      refine lv_icmp_ge (tgt := 26) hx hb dX0_partsOfAll_9 (by decide) (fun c0 => ?_) (fun c0 => ?_)
      · have hF := if_t hF c0
        refine lv_lload_n hx hb dX0_partsOfAll_26 rfl (lv_at hl 1 rfl) ?_
        have q0 := sm1 hF
        refine W_Qe hQ ?_
        exact W.lret hx hb hr (fun t ht hW => ⟨_, rfl, q0, ht⟩) (fun _ h9 => by cases h9) dX0_partsOfAll_27
      · have hF := if_f hF c0
        refine lv_lload_n hx hb dX0_partsOfAll_12 rfl (lv_at hl 1 rfl) ?_
        refine lv_aload_n hx hb dX0_partsOfAll_13 rfl (lv_at hl 0 rfl) ?_
        refine lv_iload_n hx hb dX0_partsOfAll_14 rfl (lv_at hl 2 rfl) ?_
        obtain ⟨r_3, hc, hF⟩ := bd1_of hF
        refine rc_l (va_runV (As := [.int x3_2]) (rest := [.long x1_1]) ⟨hx, hb, hml, hown, hts⟩ (c_X0_partsOf l dC dI cI cG h a mb pb y_size y_many y_by y_turns y_mem y_path x3_2 r_3 hc) (cwV 1 hts g_X0_partsOfAll_X0_partsOf rfl rfl rfl (by decide +kernel) ⟨Nat.le_of_ble_eq_true rfl, Nat.le_of_ble_eq_true rfl⟩) ⟨rPk_blind, va_recv hK hP (ci := 0) (q0 := 0) rfl rfl, rPk_at hK hP hN⟩ rfl rfl hl.1 rfl (lv_room (Nat.le_of_ble_eq_true rfl)) dX0_partsOfAll_15 ⟨Nat.zero_le _, Nat.zero_le _⟩) ?_
        refine lv_ladd hx hb dX0_partsOfAll_18 ?_
        refine lv_topl (fun x1_4 e_x1_4 => ?_)
        have hF := nm_at hF e_x1_4
        refine lv_lstore_n (lv' := [(1, .long x1_4), (0, .ref h), (3, .int x3_2)]) hx hb dX0_partsOfAll_19 rfl hl (by decide) rfl (fun ls hl => ?_)
        obtain ⟨x3_5, e_x3_5, hF⟩ := nm_ex hF
        refine lv_iinc (v := x3_5) (lv' := [(3, .int x3_5), (1, .long x1_4), (0, .ref h)]) hx hb dX0_partsOfAll_20 hl (k := 2) rfl (by rw [e_x3_5]; rfl) (by decide) rfl (fun ls hl => ?_)
        refine lv_goto (tgt := 4) hx hb dX0_partsOfAll_23 (by decide) ?_
        exact ih4 x1_4 x3_5 ls (lv_sub hl [2, 1, 0] rfl) hF
  exact hL4 fu (0 : Int64) (0 : Int32) ls (lv_sub hl [2, 1, 0] rfl) hF
def fX0_partsTaking_L5 (y_size : Int32) (y_turns : Nat → Int32) (fu : Nat) (y_mem : Nat → Nat → Int32) (p0 : Int32) : Nat → (Int64) → (Int32) → Option (Int64)
  | 0, _, _ => none
  | n + 1, x2_1, x4_2 => if y_size ≤ x4_2 then (some x2_1) else (bd1 (fX0_partsOf y_turns x4_2) (fun (r_3 : Int64) => if okI x4_2 16 then bd1 (fX5_timesOf fu (y_mem x4_2.toNatClampNeg) p0) (fun (r_5 : Int32) => nm (x2_1 + (r_3 * r_5.toInt64)) (fun (x2_6 : Int64) => nm (x4_2 + (1 : Int32)) (fun (x4_7 : Int32) => (fX0_partsTaking_L5 y_size y_turns fu y_mem p0 n x2_6 x4_7)))) else none))
def fX0_partsTaking (fu : Nat) (y_size : Int32) (y_turns : Nat → Int32) (y_mem : Nat → Nat → Int32) (p0 : Int32) : Option (Int64) :=
  (fX0_partsTaking_L5 y_size y_turns fu y_mem p0 fu (0 : Int64) (0 : Int32))
def lkX0_partsTaking : List Cond := [.initialized RX5, .static yX5_timesOf, .fieldLink RX0 31 "KinForms$Family" "size" "I", .fieldLink RX0 11 "KinForms$Family" "members" "[[I"]
def vX0_partsTaking : List Cond := .code yX0_partsTaking cX0_partsTaking 5 (some .long) :: (lkX0_partsTaking ++ (wsX00 ++ (wsV RX0 90 RX0 yX0_partsOf vX0_partsOf ++ (vX5_timesOf ++ ([])))))
theorem q_X0_partsTaking : ∀ w ∈ vX0_partsTaking, goodWord w = true := gd_cons rfl (gd_app (by decide +kernel) (gd_app q_wsX00 (gd_app (gd_V q_X0_partsOf) (gd_app q_X5_timesOf gd_nil))))
theorem g_X0_partsTaking_X0_partsOf : GoodIn vX0_partsTaking (wsV RX0 90 RX0 yX0_partsOf vX0_partsOf) := gi_of (fun w h => List.mem_cons_of_mem _ (List.mem_append_right _ (List.mem_append_right _ (List.mem_append_left _ h)))) (gd_V q_X0_partsOf)
theorem g_X0_partsTaking_X5_timesOf : GoodIn vX0_partsTaking (vX5_timesOf) := gi_of (fun w h => List.mem_cons_of_mem _ (List.mem_append_right _ (List.mem_append_right _ (List.mem_append_right _ (List.mem_append_left _ h))))) q_X5_timesOf
abbrev rmX0_partsTaking : Room := { frames := 3, cells := 0, slots := 0, locals := 78 }
set_option maxHeartbeats 4000000 in
set_option maxRecDepth 100000 in
theorem c_X0_partsTaking (l : Launch) (dC : Nat → ClassId) (dI : Nat → Nat → Nat) (cI : ClassId) (cG : ClassId) (h : Nat) (a : Nat → Nat) (mb : Nat → Nat) (pb : Nat → Nat) (fu : Nat) (y_size : Int32) (y_many : Int32) (y_by : Int32) (y_turns : Nat → Int32) (y_mem : Nat → Nat → Int32) (y_path : Nat → Nat → Int32) (p0 : Int32) (ro : Int64) (hF : fX0_partsTaking fu y_size y_turns y_mem p0 = some ro) : Met l yX0_partsTaking vX0_partsTaking rmX0_partsTaking (va_Pc [.ref h, .int p0] (rPk (dC, dI) vwCl (fW cI cG h a mb pb y_size y_many y_by y_turns y_mem y_path) [(cI, .int), (cG, .array .int)])) (vp_Sl (fun x => x = ro)) 0 0 (fun _ => False) := by
  refine Met.ofW (cc := cX0_partsTaking) (maxL := 5) (ret := (some .long)) (by decide) rfl ?_
  intro p e s m args below meth c s₁ B hml hv
  obtain ⟨rfl, hP, hK, hN⟩ := hv
  have hx := B.exec
  have hb := B.bytes
  have hr := B.returns
  have hts := atoms_spec (ws := vX0_partsTaking) B.pre
  have hlk : ∀ w ∈ lkX0_partsTaking, w.before _ s = true := fun w h => hts w (List.mem_cons_of_mem _ (List.mem_append_left _ h))
  have hown : s.vm.findClass RX0 = some m.cls := findClass_of_methodNamed B.named
  have hlocks := B.notSynchronized
  have hinX0 : ∀ w ∈ wsX00, w ∈ vX0_partsTaking := fun w h => List.mem_cons_of_mem _ (List.mem_append_right _ (List.mem_append_left _ h))
  have hf_31 := hlk (.fieldLink RX0 31 "KinForms$Family" "size" "I") (by decide +kernel)
  have hf_11 := hlk (.fieldLink RX0 11 "KinForms$Family" "members" "[[I") (by decide +kernel)
  have hl := lv_entry ([.ref h, .int p0] : List Value) (n := 5) (Nat.le_of_ble_eq_true rfl)
  rw [lg_entry_eq]
  generalize (lg_sl ([.ref h, .int p0] : List Value) ++ List.replicate (5 - (lg_sl ([.ref h, .int p0] : List Value)).length) Slot.unset).toArray = ls at hl ⊢
  have hl : lv_has ls 5 [(0, .ref h), (1, .int p0)] := hl
  unfold fX0_partsTaking at hF
  refine W_Q (fun Q hQ => ?_)
  refine lv_lconst (v := 0) hx hb dX0_partsTaking_0 (by decide) ?_
  refine lv_lstore_n (lv' := [(2, .long (0 : Int64)), (0, .ref h), (1, .int p0)]) hx hb dX0_partsTaking_1 rfl hl (by decide) rfl (fun ls hl => ?_)
  refine lv_iconst (v := 0) hx hb dX0_partsTaking_2 (by decide) ?_
  refine lv_istore (lv' := [(4, .int (0 : Int32)), (2, .long (0 : Int64)), (0, .ref h), (1, .int p0)]) hx hb dX0_partsTaking_3 hl (by decide) rfl (fun ls hl => ?_)
  have hL5 : ∀ n : Nat, ∀ (x2_1 : Int64) (x4_2 : Int32) (ls : Array Slot), lv_has ls 5 [(0, .ref h), (1, .int p0), (2, .long x2_1), (4, .int x4_2)] → fX0_partsTaking_L5 y_size y_turns fu y_mem p0 n x2_1 x4_2 = some ro → W p l e rmX0_partsTaking s m ([.ref h, .int p0] : List Value).toArray below meth c s.heap [] 0 0 Q (F0 m 5 ls []) := by
    intro n
    induction n with
    | zero => intro x2_1 x4_2 ls hl hF; rw [fX0_partsTaking_L5] at hF; cases hF
    | succ n ih5 =>
      intro x2_1 x4_2 ls hl hF
      rw [fX0_partsTaking_L5] at hF
      refine lv_iload hx hb dX0_partsTaking_5 (lv_at hl 3 rfl) ?_
      refine lv_aload_n hx hb dX0_partsTaking_7 rfl (lv_at hl 0 rfl) ?_
      refine va_get (D := (dC, dI)) (ci := 0) (v := .int y_size) (C := RX0) (T := TX0) (N := 6) hx hb hts hinX0 hown hK hP 0 rfl rfl 3 (by decide) hf_31 (fun _ h9 => h9) rfl dX0_partsTaking_8 ?_
      refine lv_icmp_ge (tgt := 42) hx hb dX0_partsTaking_11 (by decide) (fun c0 => ?_) (fun c0 => ?_)
      · have hF := if_t hF c0
        refine lv_lload_n hx hb dX0_partsTaking_42 rfl (lv_at hl 2 rfl) ?_
        have q0 := sm1 hF
        refine W_Qe hQ ?_
        exact W.lret hx hb hr (fun t ht hW => ⟨_, rfl, q0, ht⟩) (fun _ h9 => by cases h9) dX0_partsTaking_43
      · have hF := if_f hF c0
        refine lv_lload_n hx hb dX0_partsTaking_14 rfl (lv_at hl 2 rfl) ?_
        refine lv_aload_n hx hb dX0_partsTaking_15 rfl (lv_at hl 0 rfl) ?_
        refine lv_iload hx hb dX0_partsTaking_16 (lv_at hl 3 rfl) ?_
        obtain ⟨r_3, hc, hF⟩ := bd1_of hF
        refine rc_l (va_runV (As := [.int x4_2]) (rest := [.long x2_1]) ⟨hx, hb, hml, hown, hts⟩ (c_X0_partsOf l dC dI cI cG h a mb pb y_size y_many y_by y_turns y_mem y_path x4_2 r_3 hc) (cwV 1 hts g_X0_partsTaking_X0_partsOf rfl rfl rfl (by decide +kernel) ⟨Nat.le_of_ble_eq_true rfl, Nat.le_of_ble_eq_true rfl⟩) ⟨rPk_blind, va_recv hK hP (ci := 0) (q0 := 0) rfl rfl, rPk_at hK hP hN⟩ rfl rfl hl.1 rfl (lv_room (Nat.le_of_ble_eq_true rfl)) dX0_partsTaking_18 ⟨Nat.zero_le _, Nat.zero_le _⟩) ?_
        refine lv_aload_n hx hb dX0_partsTaking_21 rfl (lv_at hl 0 rfl) ?_
        refine va_get (D := (dC, dI)) (ci := 0) (v := .ref (a 1)) (C := RX0) (T := TX0) (N := 6) hx hb hts hinX0 hown hK hP 0 rfl rfl 0 (by decide) hf_11 (fun _ h9 => h9) rfl dX0_partsTaking_22 ?_
        refine lv_iload hx hb dX0_partsTaking_25 (lv_at hl 3 rfl) ?_
        obtain ⟨hg_4, hF⟩ := ck_of hF
        refine kc_aalA (y := (mb x4_2.toNatClampNeg)) hx hb hK hP 1 1 rfl rfl (if_pos (ok_lt hg_4)) hg_4 dX0_partsTaking_27 ?_
        refine lv_iload_n hx hb dX0_partsTaking_28 rfl (lv_at hl 1 rfl) ?_
        obtain ⟨r_5, hc, hF⟩ := bd1_of hF
        refine rc_i (va_runSN (As := [.ref (mb x4_2.toNatClampNeg), .int p0]) (rest := [.long r_3, .long x2_1]) ⟨hx, hb, hml, hown, hts⟩ (c_X5_timesOf l dC dI cI (mb x4_2.toNatClampNeg) fu (y_mem x4_2.toNatClampNeg) p0 r_5 hc) ⟨va_cnB 2 hts g_X0_partsTaking_X5_timesOf rfl rfl rfl (hN.2 (RX0, 94, yX5_timesOf, "KinForms") (by decide +kernel)) (hlk (.initialized RX5) (by decide +kernel)) (by decide +kernel) ⟨Nat.le_of_ble_eq_true rfl, Nat.le_of_ble_eq_true rfl⟩, hlk (.static yX5_timesOf) (by decide +kernel), trivial⟩ ⟨rPk_blind, rPk_at (hK.sub (tys' := [(cI, .int)]) [0] rfl) (vp1 (hP _ _ (fW_g0 cI cG h a mb pb y_size y_many y_by y_turns y_mem y_path (ok_lt hg_4)))) hN⟩ rfl rfl hl.1 rfl (lv_room (Nat.le_of_ble_eq_true rfl)) dX0_partsTaking_29 ⟨Nat.zero_le _, Nat.zero_le _⟩) ?_
        refine lv_i2l (v := r_5.toInt64) hx hb dX0_partsTaking_32 rfl ?_
        refine lv_lmul hx hb dX0_partsTaking_33 ?_
        refine lv_ladd hx hb dX0_partsTaking_34 ?_
        refine lv_topl (fun x2_6 e_x2_6 => ?_)
        have hF := nm_at hF e_x2_6
        refine lv_lstore_n (lv' := [(2, .long x2_6), (0, .ref h), (1, .int p0), (4, .int x4_2)]) hx hb dX0_partsTaking_35 rfl hl (by decide) rfl (fun ls hl => ?_)
        obtain ⟨x4_7, e_x4_7, hF⟩ := nm_ex hF
        refine lv_iinc (v := x4_7) (lv' := [(4, .int x4_7), (2, .long x2_6), (0, .ref h), (1, .int p0)]) hx hb dX0_partsTaking_36 hl (k := 3) rfl (by rw [e_x4_7]; rfl) (by decide) rfl (fun ls hl => ?_)
        refine lv_goto (tgt := 5) hx hb dX0_partsTaking_39 (by decide) ?_
        exact ih5 x2_6 x4_7 ls (lv_sub hl [2, 3, 1, 0] rfl) hF
  exact hL5 fu (0 : Int64) (0 : Int32) ls (lv_sub hl [2, 3, 1, 0] rfl) hF
def fX1_become (fu : Nat) (f_num : Nat → Int32) (f_least : Nat → Int32) (f_tab : Nat → Int32) (six : Nat → Int32) (r_six : Nat → Int32) (r_rows : Nat → Int32) (r_box : Nat → Int32) (r_worth : Nat → Int32) (r_image : Nat → Int32) (r_best : Nat → Int32) (r_bestRows : Nat → Int32)  : Option ((Int32) × (Int32) × (Nat → Int32) × (Nat → Int32) × (Nat → Int32) × (Int32) × (Int32) × (Nat → Int32) × (Nat → Int32) × (Nat → Int32) × (Nat → Int32) × (Nat → Int32) × (Nat → Int32)) :=
  nm (va_cpy six f_num 0 0 6) (fun (f_num_1 : Nat → Int32) => bd1 (fX4_discOf f_num_1) (fun (r_2 : Int32) => bd7 (fX3_settle fu r_six r_rows r_box r_worth r_image r_best r_bestRows f_num_1) (fun (r_ties_3 : Int32) (r_six_4 : Nat → Int32) (r_rows_5 : Nat → Int32) (r_worth_6 : Nat → Int32) (r_image_7 : Nat → Int32) (r_best_8 : Nat → Int32) (r_bestRows_9 : Nat → Int32) => nm (va_cpy r_best_8 f_least 0 0 6) (fun (f_least_10 : Nat → Int32) => nm (va_cpy r_bestRows_9 f_tab 0 0 9) (fun (f_tab_11 : Nat → Int32) => some (r_2, r_ties_3, f_num_1, f_least_10, f_tab_11, (0 : Int32), r_ties_3, r_six_4, r_rows_5, r_worth_6, r_image_7, r_best_8, r_bestRows_9))))))
def lkX1_become : List Cond := [.methodLink RX1 26 arraycopyName, .native arraycopyName, .static arraycopyName, .initialized "java/lang/System", .initialized RX4, .static yX4_discOf, .initialized RX3, .instanceMethod yX3_settle, .selects RX3 yX3_settle yX3_settle, .fieldLink RX1 7 "KinForms$Form" "numbers" "[I", .fieldLink RX1 38 "KinForms$Form" "disc" "I", .fieldLink RX1 13 "KinForms$Form" "leastNumbers" "[I", .fieldLink RX1 16 "KinForms$Form" "toLeast" "[I", .fieldLink RX1 57 "KinForms$Form" "ownTurns" "I", .fieldLink RX1 22 "KinForms$Form" "family" "LKinForms$Family;"]
def vX1_become : List Cond := .code yX1_become cX1_become 3 none :: (lkX1_become ++ (wsX10 ++ (wsX30 ++ (wsX00 ++ (vX4_discOf ++ (vX3_settle ++ ([])))))))
theorem q_X1_become : ∀ w ∈ vX1_become, goodWord w = true := gd_cons rfl (gd_app (by decide +kernel) (gd_app q_wsX10 (gd_app q_wsX30 (gd_app q_wsX00 (gd_app q_X4_discOf (gd_app q_X3_settle gd_nil))))))
theorem g_X1_become_X4_discOf : GoodIn vX1_become (vX4_discOf) := gi_of (fun w h => List.mem_cons_of_mem _ (List.mem_append_right _ (List.mem_append_right _ (List.mem_append_right _ (List.mem_append_right _ (List.mem_append_left _ h)))))) q_X4_discOf
theorem g_X1_become_X3_settle : GoodIn vX1_become (vX3_settle) := gi_of (fun w h => List.mem_cons_of_mem _ (List.mem_append_right _ (List.mem_append_right _ (List.mem_append_right _ (List.mem_append_right _ (List.mem_append_right _ (List.mem_append_left _ h))))))) q_X3_settle
abbrev rmX1_become : Room := { frames := 5, cells := 0, slots := 0, locals := 117 }
set_option maxHeartbeats 4000000 in
set_option maxRecDepth 100000 in
theorem c_X1_become (l : Launch) (dC : Nat → ClassId) (dI : Nat → Nat → Nat) (cI : ClassId) (h : Nat) (a : Nat → Nat) (ya : Nat → Nat) (b : Nat) (rh : Nat) (ra : Nat → Nat) (fu : Nat) (sz : Nat) (f_disc : Int32) (f_turns : Int32) (f_num : Nat → Int32) (f_least : Nat → Int32) (f_tab : Nat → Int32) (y_size : Int32) (y_many : Int32) (y_by : Int32) (six : Nat → Int32) (r_ties : Int32) (r_six : Nat → Int32) (r_rows : Nat → Int32) (r_box : Nat → Int32) (r_worth : Nat → Int32) (r_image : Nat → Int32) (r_best : Nat → Int32) (r_bestRows : Nat → Int32)  (o_f_disc : Int32) (o_f_turns : Int32) (o_f_num : Nat → Int32) (o_f_least : Nat → Int32) (o_f_tab : Nat → Int32) (o_y_by : Int32) (o_r_ties : Int32) (o_r_six : Nat → Int32) (o_r_rows : Nat → Int32) (o_r_worth : Nat → Int32) (o_r_image : Nat → Int32) (o_r_best : Nat → Int32) (o_r_bestRows : Nat → Int32) (hF : fX1_become fu f_num f_least f_tab six r_six r_rows r_box r_worth r_image r_best r_bestRows = some (o_f_disc, o_f_turns, o_f_num, o_f_least, o_f_tab, o_y_by, o_r_ties, o_r_six, o_r_rows, o_r_worth, o_r_image, o_r_best, o_r_bestRows)) : Met l yX1_become vX1_become rmX1_become (va_Pc [.ref h, .ref b, .ref rh] (mPk (dC, dI) vwCl (becW cI h a ya b rh ra f_disc f_turns f_num f_least f_tab y_size y_many y_by six r_ties r_six r_rows r_box r_worth r_image r_best r_bestRows) [(cI, .int)] sz)) (va_Qv (fun (_ : Unit) => True) (mPo (dC, dI) vwCl (becW cI h a ya b rh ra o_f_disc o_f_turns o_f_num o_f_least o_f_tab y_size y_many o_y_by six o_r_ties o_r_six o_r_rows r_box o_r_worth o_r_image o_r_best o_r_bestRows) [(cI, .int)] (va_A (becW cI h a ya b rh ra f_disc f_turns f_num f_least f_tab y_size y_many y_by six r_ties r_six r_rows r_box r_worth r_image r_best r_bestRows) sz)) (va_A (becW cI h a ya b rh ra f_disc f_turns f_num f_least f_tab y_size y_many y_by six r_ties r_six r_rows r_box r_worth r_image r_best r_bestRows) sz)) 0 0 (va_A (becW cI h a ya b rh ra f_disc f_turns f_num f_least f_tab y_size y_many y_by six r_ties r_six r_rows r_box r_worth r_image r_best r_bestRows) sz) := by
  refine Met.ofW (cc := cX1_become) (maxL := 3) (ret := none) (by decide) rfl ?_
  intro p e s m args below meth c s₁ B hml hv
  obtain ⟨rfl, hsz, hP, hK, hD0, hN⟩ := hv
  have hx := B.exec
  have hb := B.bytes
  have hr := B.returns
  have hts := atoms_spec (ws := vX1_become) B.pre
  have hlk : ∀ w ∈ lkX1_become, w.before _ s = true := fun w h => hts w (List.mem_cons_of_mem _ (List.mem_append_left _ h))
  have hown : s.vm.findClass RX1 = some m.cls := findClass_of_methodNamed B.named
  have hlocks := B.notSynchronized
  subst hsz
  have hD := hD0.self (sz := s.heap.size)
  generalize hAe : va_A (becW cI h a ya b rh ra f_disc f_turns f_num f_least f_tab y_size y_many y_by six r_ties r_six r_rows r_box r_worth r_image r_best r_bestRows) s.heap.size = A at hD ⊢
  have hA : ∀ q : Nat, s.heap.size ≤ q → A q := fun q h => by rw [← hAe]; exact Or.inr h
  have hS : va_S A s.heap s.heap [] := va_S.rf
  have hinX1 : ∀ w ∈ wsX10, w ∈ vX1_become := fun w h => List.mem_cons_of_mem _ (List.mem_append_right _ (List.mem_append_left _ h))
  have hinX3 : ∀ w ∈ wsX30, w ∈ vX1_become := fun w h => List.mem_cons_of_mem _ (List.mem_append_right _ (List.mem_append_right _ (List.mem_append_left _ h)))
  have hinX0 : ∀ w ∈ wsX00, w ∈ vX1_become := fun w h => List.mem_cons_of_mem _ (List.mem_append_right _ (List.mem_append_right _ (List.mem_append_right _ (List.mem_append_left _ h))))
  have hf_7 := hlk (.fieldLink RX1 7 "KinForms$Form" "numbers" "[I") (by decide +kernel)
  have hf_38 := hlk (.fieldLink RX1 38 "KinForms$Form" "disc" "I") (by decide +kernel)
  have hf_48 := va_Nw.use (A := ([.ref h, .ref b, .ref rh] : List Value).toArray) rfl (hN.1 (RX1, 48, "KinForms$Reducer", "best", "[I", "KinForms") (by decide +kernel))
  have hf_13 := hlk (.fieldLink RX1 13 "KinForms$Form" "leastNumbers" "[I") (by decide +kernel)
  have hf_51 := va_Nw.use (A := ([.ref h, .ref b, .ref rh] : List Value).toArray) rfl (hN.1 (RX1, 51, "KinForms$Reducer", "bestRows", "[I", "KinForms") (by decide +kernel))
  have hf_16 := hlk (.fieldLink RX1 16 "KinForms$Form" "toLeast" "[I") (by decide +kernel)
  have hf_54 := va_Nw.use (A := ([.ref h, .ref b, .ref rh] : List Value).toArray) rfl (hN.1 (RX1, 54, "KinForms$Reducer", "ties", "I", "KinForms") (by decide +kernel))
  have hf_57 := hlk (.fieldLink RX1 57 "KinForms$Form" "ownTurns" "I") (by decide +kernel)
  have hf_22 := hlk (.fieldLink RX1 22 "KinForms$Form" "family" "LKinForms$Family;") (by decide +kernel)
  have hf_60 := va_Nw.use (A := ([.ref h, .ref b, .ref rh] : List Value).toArray) rfl (hN.1 (RX1, 60, "KinForms$Family", "foundBy", "I", "KinForms") (by decide +kernel))
  have hl := lv_entry ([.ref h, .ref b, .ref rh] : List Value) (n := 3) (Nat.le_of_ble_eq_true rfl)
  rw [lg_entry_eq]
  generalize (lg_sl ([.ref h, .ref b, .ref rh] : List Value) ++ List.replicate (3 - (lg_sl ([.ref h, .ref b, .ref rh] : List Value)).length) Slot.unset).toArray = ls at hl ⊢
  have hl : lv_has ls 3 [(0, .ref h), (1, .ref b), (2, .ref rh)] := hl
  unfold fX1_become at hF
  refine W_Q (fun Q hQ => ?_)
  have hP : va_P (dC, dI) vwCl (becW cI h a ya b rh ra f_disc f_turns f_num f_least f_tab y_size y_many y_by six r_ties r_six r_rows r_box r_worth r_image r_best r_bestRows) s.heap := hP
  refine W_HL (fun H locs eH eL => ?_)
  rw [← eH] at hP
  have hS : va_S A s.heap H locs := by rw [eH, eL]; exact hS
  refine lv_aload_n hx hb dX1_become_0 rfl (lv_at hl 1 rfl) ?_
  refine lv_iconst (v := 0) hx hb dX1_become_1 (by decide) ?_
  refine lv_aload_n hx hb dX1_become_2 rfl (lv_at hl 0 rfl) ?_
  refine va_get (D := (dC, dI)) (ci := 1) (v := .ref (a 1)) (C := RX1) (T := TX1) (N := 6) hx hb hts hinX1 hown hK hP 0 rfl rfl 0 (by decide) hf_7 (fun _ h9 => h9) rfl dX1_become_3 ?_
  refine lv_iconst (v := 0) hx hb dX1_become_6 (by decide) ?_
  refine lv_bipush (v := (6)) hx hb dX1_become_7 (by decide) ?_
  obtain ⟨f_num_1, e_f_num_1, hF⟩ := nm_ex hF
  refine kc_copy (N := 6) (SP := 0) (DP := 0) (g1 := f_num_1) hx hb (hml.trans hl.1.symm) hown (hlk (.methodLink RX1 26 arraycopyName) (by decide +kernel)) (hlk (.native arraycopyName) (by decide +kernel)) (hlk (.static arraycopyName) (by decide +kernel)) (hlk (.initialized "java/lang/System") (by decide +kernel)) hK hP hD hS 5 1 0 0 rfl rfl rfl rfl (by decide) (by decide) (by decide) (by decide) (by decide) (by decide) (by decide) (by decide) (Nat.le_of_ble_eq_true rfl) (Nat.le_of_ble_eq_true rfl) dX1_become_9 e_f_num_1 (fun H locs hP hD hS => ?_)
  have hP : va_P (dC, dI) vwCl (becW cI h a ya b rh ra f_disc f_turns f_num_1 f_least f_tab y_size y_many y_by six r_ties r_six r_rows r_box r_worth r_image r_best r_bestRows) H := hP
  have hD : va_D A (becW cI h a ya b rh ra f_disc f_turns f_num_1 f_least f_tab y_size y_many y_by six r_ties r_six r_rows r_box r_worth r_image r_best r_bestRows) := hD
  refine lv_aload_n hx hb dX1_become_12 rfl (lv_at hl 0 rfl) ?_
  refine lv_aload_n hx hb dX1_become_13 rfl (lv_at hl 0 rfl) ?_
  refine va_get (D := (dC, dI)) (ci := 1) (v := .ref (a 1)) (C := RX1) (T := TX1) (N := 6) hx hb hts hinX1 hown hK hP 0 rfl rfl 0 (by decide) hf_7 (fun _ h9 => h9) rfl dX1_become_14 ?_
  obtain ⟨r_2, hc, hF⟩ := bd1_of hF
  refine rc_i (va_runSN (As := [.ref (a 1)]) (rest := [.ref h]) ⟨hx, hb, hml, hown, hts⟩ (c_X4_discOf l dC dI cI (a 1) f_num_1  r_2 hc) ⟨va_cnB 1 hts g_X1_become_X4_discOf rfl rfl rfl (hN.2 (RX1, 32, yX4_discOf, "KinForms") (by decide +kernel)) (hlk (.initialized RX4) (by decide +kernel)) (by decide +kernel) ⟨Nat.le_of_ble_eq_true rfl, Nat.le_of_ble_eq_true rfl⟩, hlk (.static yX4_discOf) (by decide +kernel), trivial⟩ ⟨rPk_blind, rPk_at hK (hP.sub (ws' := (sW1 cI (a 1) f_num_1)) [1] rfl) hN⟩ rfl rfl hl.1 rfl (lv_room (Nat.le_of_ble_eq_true rfl)) dX1_become_17 ⟨Nat.zero_le _, Nat.zero_le _⟩) ?_
  refine va_put (D := (dC, dI)) (ci := 1) (v := .int r_2) (ty := .int) (C := RX1) (T := TX1) (N := 6) hx hb hts hinX1 tyX1 tyX1_ok nmX1 hown hK hP hD hS 0 rfl rfl 4 (by decide) hf_38 (fun _ h9 => h9) rfl (by decide +kernel) rfl rfl (Nat.le_of_ble_eq_true rfl) dX1_become_20 (fun H locs hP hD hS => ?_)
  have hP : va_P (dC, dI) vwCl (becW cI h a ya b rh ra r_2 f_turns f_num_1 f_least f_tab y_size y_many y_by six r_ties r_six r_rows r_box r_worth r_image r_best r_bestRows) H := hP
  have hD : va_D A (becW cI h a ya b rh ra r_2 f_turns f_num_1 f_least f_tab y_size y_many y_by six r_ties r_six r_rows r_box r_worth r_image r_best r_bestRows) := hD
  refine lv_aload_n hx hb dX1_become_23 rfl (lv_at hl 2 rfl) ?_
  refine lv_aload_n hx hb dX1_become_24 rfl (lv_at hl 0 rfl) ?_
  refine va_get (D := (dC, dI)) (ci := 1) (v := .ref (a 1)) (C := RX1) (T := TX1) (N := 6) hx hb hts hinX1 hown hK hP 0 rfl rfl 0 (by decide) hf_7 (fun _ h9 => h9) rfl dX1_become_25 ?_
  obtain ⟨r_ties_3, r_six_4, r_rows_5, r_worth_6, r_image_7, r_best_8, r_bestRows_9, hc, hF⟩ := bd7_of hF
  refine sc_v (wf := (becW cI h a ya b rh ra r_2 f_turns f_num_1 f_least f_tab y_size y_many y_by six r_ties_3 r_six_4 r_rows_5 r_box r_worth_6 r_image_7 r_best_8 r_bestRows_9)) (va_runVN (As := [.ref (a 1)]) (rest := []) ⟨hx, hb, hml, hown, hts⟩ (c_X3_settle l dC dI cI rh ra (a 1) fu H.size r_ties r_six r_rows r_box r_worth r_image r_best r_bestRows f_num_1  r_ties_3 r_six_4 r_rows_5 r_worth_6 r_image_7 r_best_8 r_bestRows_9 hc) ⟨va_cnB 1 hts g_X1_become_X3_settle rfl rfl rfl (hN.2 (RX1, 42, yX3_settle, "KinForms") (by decide +kernel)) (hlk (.initialized RX3) (by decide +kernel)) (by decide +kernel) ⟨Nat.le_of_ble_eq_true rfl, Nat.le_of_ble_eq_true rfl⟩, hlk (.instanceMethod yX3_settle) (by decide +kernel), hlk (.selects RX3 yX3_settle yX3_settle) (by decide +kernel)⟩ ⟨mPk_blind, va_recv hK hP (ci := 3) (q0 := 6) rfl rfl, mPk_at hK (hP.sub (ws' := (rnW cI rh ra (a 1) r_ties r_six r_rows r_box r_worth r_image r_best r_bestRows f_num_1)) [6, 7, 8, 9, 10, 11, 12, 13, 1] rfl) (hD.sub (ws' := (rnW cI rh ra (a 1) r_ties r_six r_rows r_box r_worth r_image r_best r_bestRows f_num_1)) [6, 7, 8, 9, 10, 11, 12, 13, 1] (by decide) rfl) hN⟩ rfl rfl hl.1 rfl (lv_room (Nat.le_of_ble_eq_true rfl)) dX1_become_28 ⟨Nat.zero_le _, Nat.zero_le _⟩) hP hD hS hA [6, 7, 8, 9, 10, 11, 12, 13, 1] [0, 2, 3, 4, 5] rfl rfl rfl rfl rfl (by decide) (fun H locs hP hD hS => ?_)
  refine lv_aload_n hx hb dX1_become_31 rfl (lv_at hl 2 rfl) ?_
  refine va_getN (D := (dC, dI)) (ci := 3) (v := .ref (ra 6)) (C := RX3) (T := TX3) (N := 8) hx hb hts hinX3 hown hK hP 6 rfl rfl 5 (by decide) hf_48 (fun _ h9 => h9) rfl dX1_become_32 ?_
  refine lv_iconst (v := 0) hx hb dX1_become_35 (by decide) ?_
  refine lv_aload_n hx hb dX1_become_36 rfl (lv_at hl 0 rfl) ?_
  refine va_get (D := (dC, dI)) (ci := 1) (v := .ref (a 2)) (C := RX1) (T := TX1) (N := 6) hx hb hts hinX1 hown hK hP 0 rfl rfl 1 (by decide) hf_13 (fun _ h9 => h9) rfl dX1_become_37 ?_
  refine lv_iconst (v := 0) hx hb dX1_become_40 (by decide) ?_
  refine lv_bipush (v := (6)) hx hb dX1_become_41 (by decide) ?_
  obtain ⟨f_least_10, e_f_least_10, hF⟩ := nm_ex hF
  refine kc_copy (N := 6) (SP := 0) (DP := 0) (g1 := f_least_10) hx hb (hml.trans hl.1.symm) hown (hlk (.methodLink RX1 26 arraycopyName) (by decide +kernel)) (hlk (.native arraycopyName) (by decide +kernel)) (hlk (.static arraycopyName) (by decide +kernel)) (hlk (.initialized "java/lang/System") (by decide +kernel)) hK hP hD hS 12 2 0 0 rfl rfl rfl rfl (by decide) (by decide) (by decide) (by decide) (by decide) (by decide) (by decide) (by decide) (Nat.le_of_ble_eq_true rfl) (Nat.le_of_ble_eq_true rfl) dX1_become_43 e_f_least_10 (fun H locs hP hD hS => ?_)
  have hP : va_P (dC, dI) vwCl (becW cI h a ya b rh ra r_2 f_turns f_num_1 f_least_10 f_tab y_size y_many y_by six r_ties_3 r_six_4 r_rows_5 r_box r_worth_6 r_image_7 r_best_8 r_bestRows_9) H := hP
  have hD : va_D A (becW cI h a ya b rh ra r_2 f_turns f_num_1 f_least_10 f_tab y_size y_many y_by six r_ties_3 r_six_4 r_rows_5 r_box r_worth_6 r_image_7 r_best_8 r_bestRows_9) := hD
  refine lv_aload_n hx hb dX1_become_46 rfl (lv_at hl 2 rfl) ?_
  refine va_getN (D := (dC, dI)) (ci := 3) (v := .ref (ra 7)) (C := RX3) (T := TX3) (N := 8) hx hb hts hinX3 hown hK hP 6 rfl rfl 6 (by decide) hf_51 (fun _ h9 => h9) rfl dX1_become_47 ?_
  refine lv_iconst (v := 0) hx hb dX1_become_50 (by decide) ?_
  refine lv_aload_n hx hb dX1_become_51 rfl (lv_at hl 0 rfl) ?_
  refine va_get (D := (dC, dI)) (ci := 1) (v := .ref (a 3)) (C := RX1) (T := TX1) (N := 6) hx hb hts hinX1 hown hK hP 0 rfl rfl 2 (by decide) hf_16 (fun _ h9 => h9) rfl dX1_become_52 ?_
  refine lv_iconst (v := 0) hx hb dX1_become_55 (by decide) ?_
  refine lv_bipush (v := (9)) hx hb dX1_become_56 (by decide) ?_
  obtain ⟨f_tab_11, e_f_tab_11, hF⟩ := nm_ex hF
  refine kc_copy (N := 9) (SP := 0) (DP := 0) (g1 := f_tab_11) hx hb (hml.trans hl.1.symm) hown (hlk (.methodLink RX1 26 arraycopyName) (by decide +kernel)) (hlk (.native arraycopyName) (by decide +kernel)) (hlk (.static arraycopyName) (by decide +kernel)) (hlk (.initialized "java/lang/System") (by decide +kernel)) hK hP hD hS 13 3 0 0 rfl rfl rfl rfl (by decide) (by decide) (by decide) (by decide) (by decide) (by decide) (by decide) (by decide) (Nat.le_of_ble_eq_true rfl) (Nat.le_of_ble_eq_true rfl) dX1_become_58 e_f_tab_11 (fun H locs hP hD hS => ?_)
  have hP : va_P (dC, dI) vwCl (becW cI h a ya b rh ra r_2 f_turns f_num_1 f_least_10 f_tab_11 y_size y_many y_by six r_ties_3 r_six_4 r_rows_5 r_box r_worth_6 r_image_7 r_best_8 r_bestRows_9) H := hP
  have hD : va_D A (becW cI h a ya b rh ra r_2 f_turns f_num_1 f_least_10 f_tab_11 y_size y_many y_by six r_ties_3 r_six_4 r_rows_5 r_box r_worth_6 r_image_7 r_best_8 r_bestRows_9) := hD
  refine lv_aload_n hx hb dX1_become_61 rfl (lv_at hl 0 rfl) ?_
  refine lv_aload_n hx hb dX1_become_62 rfl (lv_at hl 2 rfl) ?_
  refine va_getN (D := (dC, dI)) (ci := 3) (v := .int r_ties_3) (C := RX3) (T := TX3) (N := 8) hx hb hts hinX3 hown hK hP 6 rfl rfl 7 (by decide) hf_54 (fun _ h9 => h9) rfl dX1_become_63 ?_
  refine va_put (D := (dC, dI)) (ci := 1) (v := .int r_ties_3) (ty := .int) (C := RX1) (T := TX1) (N := 6) hx hb hts hinX1 tyX1 tyX1_ok nmX1 hown hK hP hD hS 0 rfl rfl 5 (by decide) hf_57 (fun _ h9 => h9) rfl (by decide +kernel) rfl rfl (Nat.le_of_ble_eq_true rfl) dX1_become_66 (fun H locs hP hD hS => ?_)
  have hP : va_P (dC, dI) vwCl (becW cI h a ya b rh ra r_2 r_ties_3 f_num_1 f_least_10 f_tab_11 y_size y_many y_by six r_ties_3 r_six_4 r_rows_5 r_box r_worth_6 r_image_7 r_best_8 r_bestRows_9) H := hP
  have hD : va_D A (becW cI h a ya b rh ra r_2 r_ties_3 f_num_1 f_least_10 f_tab_11 y_size y_many y_by six r_ties_3 r_six_4 r_rows_5 r_box r_worth_6 r_image_7 r_best_8 r_bestRows_9) := hD
  refine lv_aload_n hx hb dX1_become_69 rfl (lv_at hl 0 rfl) ?_
  refine va_get (D := (dC, dI)) (ci := 1) (v := .ref (a 4)) (C := RX1) (T := TX1) (N := 6) hx hb hts hinX1 hown hK hP 0 rfl rfl 3 (by decide) hf_22 (fun _ h9 => h9) rfl dX1_become_70 ?_
  refine lv_iconst (v := 0) hx hb dX1_become_73 (by decide) ?_
  refine va_putN (D := (dC, dI)) (ci := 0) (v := .int (0 : Int32)) (ty := .int) (C := RX0) (T := TX0) (N := 6) hx hb hts hinX0 tyX0 tyX0_ok nmX0 hown hK hP hD hS 4 rfl rfl 5 (by decide) hf_60 (fun _ h9 => h9) rfl (by decide +kernel) rfl rfl (Nat.le_of_ble_eq_true rfl) dX1_become_74 (fun H locs hP hD hS => ?_)
  have hP : va_P (dC, dI) vwCl (becW cI h a ya b rh ra r_2 r_ties_3 f_num_1 f_least_10 f_tab_11 y_size y_many (0 : Int32) six r_ties_3 r_six_4 r_rows_5 r_box r_worth_6 r_image_7 r_best_8 r_bestRows_9) H := hP
  have hD : va_D A (becW cI h a ya b rh ra r_2 r_ties_3 f_num_1 f_least_10 f_tab_11 y_size y_many (0 : Int32) six r_ties_3 r_six_4 r_rows_5 r_box r_worth_6 r_image_7 r_best_8 r_bestRows_9) := hD
  obtain ⟨q0, q1, q2, q3, q4, q5, q6, q7, q8, q9, q10, q11, q12⟩ := sm13 hF
  have hP : va_P (dC, dI) vwCl (becW cI h a ya b rh ra o_f_disc o_f_turns o_f_num o_f_least o_f_tab y_size y_many o_y_by six o_r_ties o_r_six o_r_rows r_box o_r_worth o_r_image o_r_best o_r_bestRows) H := by rw [← q0, ← q1, ← q2, ← q3, ← q4, ← q5, ← q6, ← q7, ← q8, ← q9, ← q10, ← q11, ← q12]; exact hP
  have hD : va_D A (becW cI h a ya b rh ra o_f_disc o_f_turns o_f_num o_f_least o_f_tab y_size y_many o_y_by six o_r_ties o_r_six o_r_rows r_box o_r_worth o_r_image o_r_best o_r_bestRows) := by rw [← q0, ← q1, ← q2, ← q3, ← q4, ← q5, ← q6, ← q7, ← q8, ← q9, ← q10, ← q11, ← q12]; exact hD
  refine W_Qe hQ ?_
  exact W.vret hx hb hr (fun t ht hW => ⟨⟨(), rfl, trivial, by rw [ht]; exact hP, va_K.moved hW.alike hK, hD⟩, hS.F ht⟩) hS.2.2 dX1_become_77
