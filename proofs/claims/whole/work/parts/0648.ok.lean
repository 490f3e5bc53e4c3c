theorem am_kl15 : (List.range 43).all (fun k => am_okA 299 (1590 + k)) = true := by decide +kernel
