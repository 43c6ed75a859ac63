theorem st_all : STALL Inv := sorry
