/-! the methods' code, printed by wip/p/gen/tabs.py -/
abbrev cec (a b : Nat) (i : Instr) (x : XI) (l : List CE) : List CE := (a, b, i, x) :: l
abbrev xi0 : XI := (0, 0, 0, 0)
noncomputable def cs_0_30 : List CE := cec 1998 0 (.iload_n 3) xi0
  (cec 1999 0 (.iconst 1) xi0
  (cec 2000 0 .iadd xi0
  (cec 2001 0 .iaload xi0
  (cec 2002 0 (.invokevirtual 225) (68, 2, 0, 10)
  (cec 2005 0 .pop xi0
  (cec 2006 0 (.aload_n 2) xi0
  (cec 2007 0 (.aload_n 0) xi0
  (cec 2008 0 (.iload_n 3) xi0
  (cec 2009 0 (.iconst 1) xi0
  (cec 2010 0 .iadd xi0
  (cec 2011 0 .iaload xi0
  (cec 2012 0 (.invokevirtual 228) (318, 2, 0, 22)
  (cec 2015 0 .pop xi0
  (cec 2016 0 (.goto 26) xi0
  (cec 2019 31 (.aload_n 1) xi0
  (cec 2020 0 (.aload_n 0) xi0
  (cec 2021 0 (.iload_n 3) xi0
  (cec 2022 0 (.iconst 1) xi0
  (cec 2023 0 .iadd xi0
  (cec 2024 0 .iaload xi0
  (cec 2025 0 (.invokevirtual 229) (69, 2, 1, 10)
  (cec 2028 0 .pop2 xi0
  (cec 2029 0 (.aload_n 2) xi0
  (cec 2030 0 (.aload_n 0) xi0
  (cec 2031 0 (.iload_n 3) xi0
  (cec 2032 0 (.iconst 1) xi0
  (cec 2033 0 .iadd xi0
  (cec 2034 0 .iaload xi0
  (cec 2035 0 (.invokevirtual 232) (319, 2, 1, 22)
  (cec 2038 0 .pop2 xi0
  (cec 2039 0 (.goto 3) xi0
  (cec 2042 31 (.iinc 3 7) xi0
  (cec 2045 0 (.goto (-2027)) xi0
  (cec 2048 0 (.iconst 1) xi0
  (cec 2049 0 .ireturn xi0 [])))))))))))))))))))))))))))))))))))
noncomputable def cs_0_29 : List CE := cec 1938 0 (.iconst 2) xi0
  (cec 1939 0 .iadd xi0
  (cec 1940 0 .iaload xi0
  (cec 1941 0 (.invokevirtual 217) (66, 3, 0, 10)
  (cec 1944 0 .pop xi0
  (cec 1945 0 (.aload_n 2) xi0
  (cec 1946 0 (.aload_n 0) xi0
  (cec 1947 0 (.iload_n 3) xi0
  (cec 1948 0 (.iconst 1) xi0
  (cec 1949 0 .iadd xi0
  (cec 1950 0 .iaload xi0
  (cec 1951 0 (.aload_n 0) xi0
  (cec 1952 0 (.iload_n 3) xi0
  (cec 1953 0 (.iconst 2) xi0
  (cec 1954 0 .iadd xi0
  (cec 1955 0 .iaload xi0
  (cec 1956 0 (.invokevirtual 220) (316, 3, 0, 22)
  (cec 1959 0 .pop xi0
  (cec 1960 0 (.goto 82) xi0
  (cec 1963 31 (.aload_n 1) xi0
  (cec 1964 0 (.aload_n 0) xi0
  (cec 1965 0 (.iload_n 3) xi0
  (cec 1966 0 (.iconst 1) xi0
  (cec 1967 0 .iadd xi0
  (cec 1968 0 .iaload xi0
  (cec 1969 0 (.aload_n 0) xi0
  (cec 1970 0 (.iload_n 3) xi0
  (cec 1971 0 (.iconst 2) xi0
  (cec 1972 0 .iadd xi0
  (cec 1973 0 .iaload xi0
  (cec 1974 0 (.invokevirtual 221) (67, 3, 0, 10)
  (cec 1977 0 .pop xi0
  (cec 1978 0 (.aload_n 2) xi0
  (cec 1979 0 (.aload_n 0) xi0
  (cec 1980 0 (.iload_n 3) xi0
  (cec 1981 0 (.iconst 1) xi0
  (cec 1982 0 .iadd xi0
  (cec 1983 0 .iaload xi0
  (cec 1984 0 (.aload_n 0) xi0
  (cec 1985 0 (.iload_n 3) xi0
  (cec 1986 0 (.iconst 2) xi0
  (cec 1987 0 .iadd xi0
  (cec 1988 0 .iaload xi0
  (cec 1989 0 (.invokevirtual 224) (317, 3, 0, 22)
  (cec 1992 0 .pop xi0
  (cec 1993 0 (.goto 49) xi0
  (cec 1996 31 (.aload_n 1) xi0
  (cec 1997 0 (.aload_n 0) xi0 cs_0_30)))))))))))))))))))))))))))))))))))))))))))))))
noncomputable def cs_0_28 : List CE := cec 1878 0 .iadd xi0
  (cec 1879 0 .iaload xi0
  (cec 1880 0 (.invokevirtual 209) (62, 2, 0, 10)
  (cec 1883 0 .pop xi0
  (cec 1884 0 (.aload_n 2) xi0
  (cec 1885 0 (.aload_n 0) xi0
  (cec 1886 0 (.iload_n 3) xi0
  (cec 1887 0 (.iconst 1) xi0
  (cec 1888 0 .iadd xi0
  (cec 1889 0 .iaload xi0
  (cec 1890 0 (.invokevirtual 212) (311, 2, 0, 22)
  (cec 1893 0 .pop xi0
  (cec 1894 0 (.goto 148) xi0
  (cec 1897 31 (.aload_n 1) xi0
  (cec 1898 0 (.aload_n 0) xi0
  (cec 1899 0 (.iload_n 3) xi0
  (cec 1900 0 (.iconst 1) xi0
  (cec 1901 0 .iadd xi0
  (cec 1902 0 .iaload xi0
  (cec 1903 0 (.aload_n 0) xi0
  (cec 1904 0 (.iload_n 3) xi0
  (cec 1905 0 (.iconst 2) xi0
  (cec 1906 0 .iadd xi0
  (cec 1907 0 .iaload xi0
  (cec 1908 0 (.invokevirtual 213) (63, 3, 0, 10)
  (cec 1911 0 .pop xi0
  (cec 1912 0 (.aload_n 2) xi0
  (cec 1913 0 (.aload_n 0) xi0
  (cec 1914 0 (.iload_n 3) xi0
  (cec 1915 0 (.iconst 1) xi0
  (cec 1916 0 .iadd xi0
  (cec 1917 0 .iaload xi0
  (cec 1918 0 (.aload_n 0) xi0
  (cec 1919 0 (.iload_n 3) xi0
  (cec 1920 0 (.iconst 2) xi0
  (cec 1921 0 .iadd xi0
  (cec 1922 0 .iaload xi0
  (cec 1923 0 (.invokevirtual 216) (313, 3, 0, 22)
  (cec 1926 0 .pop xi0
  (cec 1927 0 (.goto 115) xi0
  (cec 1930 31 (.aload_n 1) xi0
  (cec 1931 0 (.aload_n 0) xi0
  (cec 1932 0 (.iload_n 3) xi0
  (cec 1933 0 (.iconst 1) xi0
  (cec 1934 0 .iadd xi0
  (cec 1935 0 .iaload xi0
  (cec 1936 0 (.aload_n 0) xi0
  (cec 1937 0 (.iload_n 3) xi0 cs_0_29)))))))))))))))))))))))))))))))))))))))))))))))
noncomputable def cs_0_27 : List CE := cec 1820 0 (.iload_n 3) xi0
  (cec 1821 0 (.iconst 2) xi0
  (cec 1822 0 .iadd xi0
  (cec 1823 0 .iaload xi0
  (cec 1824 0 (.invokevirtual 204) (308, 3, 0, 22)
  (cec 1827 0 .pop xi0
  (cec 1828 0 (.goto 214) xi0
  (cec 1831 31 (.aload_n 1) xi0
  (cec 1832 0 (.aload_n 0) xi0
  (cec 1833 0 (.iload_n 3) xi0
  (cec 1834 0 (.iconst 1) xi0
  (cec 1835 0 .iadd xi0
  (cec 1836 0 .iaload xi0
  (cec 1837 0 (.aload_n 0) xi0
  (cec 1838 0 (.iload_n 3) xi0
  (cec 1839 0 (.iconst 2) xi0
  (cec 1840 0 .iadd xi0
  (cec 1841 0 .iaload xi0
  (cec 1842 0 (.aload_n 0) xi0
  (cec 1843 0 (.iload_n 3) xi0
  (cec 1844 0 (.iconst 3) xi0
  (cec 1845 0 .iadd xi0
  (cec 1846 0 .iaload xi0
  (cec 1847 0 (.invokevirtual 205) (61, 4, 1, 10)
  (cec 1850 0 .pop2 xi0
  (cec 1851 0 (.aload_n 2) xi0
  (cec 1852 0 (.aload_n 0) xi0
  (cec 1853 0 (.iload_n 3) xi0
  (cec 1854 0 (.iconst 1) xi0
  (cec 1855 0 .iadd xi0
  (cec 1856 0 .iaload xi0
  (cec 1857 0 (.aload_n 0) xi0
  (cec 1858 0 (.iload_n 3) xi0
  (cec 1859 0 (.iconst 2) xi0
  (cec 1860 0 .iadd xi0
  (cec 1861 0 .iaload xi0
  (cec 1862 0 (.aload_n 0) xi0
  (cec 1863 0 (.iload_n 3) xi0
  (cec 1864 0 (.iconst 3) xi0
  (cec 1865 0 .iadd xi0
  (cec 1866 0 .iaload xi0
  (cec 1867 0 (.invokevirtual 208) (309, 4, 1, 22)
  (cec 1870 0 .pop2 xi0
  (cec 1871 0 (.goto 171) xi0
  (cec 1874 31 (.aload_n 1) xi0
  (cec 1875 0 (.aload_n 0) xi0
  (cec 1876 0 (.iload_n 3) xi0
  (cec 1877 0 (.iconst 1) xi0 cs_0_28)))))))))))))))))))))))))))))))))))))))))))))))
noncomputable def cs_0_26 : List CE := cec 1758 0 (.invokevirtual 193) (57, 2, 1, 10)
  (cec 1761 0 .pop2 xi0
  (cec 1762 0 (.aload_n 2) xi0
  (cec 1763 0 (.aload_n 0) xi0
  (cec 1764 0 (.iload_n 3) xi0
  (cec 1765 0 (.iconst 1) xi0
  (cec 1766 0 .iadd xi0
  (cec 1767 0 .iaload xi0
  (cec 1768 0 (.invokevirtual 196) (306, 2, 1, 22)
  (cec 1771 0 .pop2 xi0
  (cec 1772 0 (.goto 270) xi0
  (cec 1775 31 (.aload_n 1) xi0
  (cec 1776 0 (.aload_n 0) xi0
  (cec 1777 0 (.iload_n 3) xi0
  (cec 1778 0 (.iconst 1) xi0
  (cec 1779 0 .iadd xi0
  (cec 1780 0 .iaload xi0
  (cec 1781 0 (.invokevirtual 197) (59, 2, 1, 10)
  (cec 1784 0 .pop2 xi0
  (cec 1785 0 (.aload_n 2) xi0
  (cec 1786 0 (.aload_n 0) xi0
  (cec 1787 0 (.iload_n 3) xi0
  (cec 1788 0 (.iconst 1) xi0
  (cec 1789 0 .iadd xi0
  (cec 1790 0 .iaload xi0
  (cec 1791 0 (.invokevirtual 200) (307, 2, 1, 22)
  (cec 1794 0 .pop2 xi0
  (cec 1795 0 (.goto 247) xi0
  (cec 1798 31 (.aload_n 1) xi0
  (cec 1799 0 (.aload_n 0) xi0
  (cec 1800 0 (.iload_n 3) xi0
  (cec 1801 0 (.iconst 1) xi0
  (cec 1802 0 .iadd xi0
  (cec 1803 0 .iaload xi0
  (cec 1804 0 (.aload_n 0) xi0
  (cec 1805 0 (.iload_n 3) xi0
  (cec 1806 0 (.iconst 2) xi0
  (cec 1807 0 .iadd xi0
  (cec 1808 0 .iaload xi0
  (cec 1809 0 (.invokevirtual 201) (60, 3, 0, 10)
  (cec 1812 0 .pop xi0
  (cec 1813 0 (.aload_n 2) xi0
  (cec 1814 0 (.aload_n 0) xi0
  (cec 1815 0 (.iload_n 3) xi0
  (cec 1816 0 (.iconst 1) xi0
  (cec 1817 0 .iadd xi0
  (cec 1818 0 .iaload xi0
  (cec 1819 0 (.aload_n 0) xi0 cs_0_27)))))))))))))))))))))))))))))))))))))))))))))))
noncomputable def cs_0_25 : List CE := cec 1692 0 (.iload_n 3) xi0
  (cec 1693 0 (.iconst 1) xi0
  (cec 1694 0 .iadd xi0
  (cec 1695 0 .iaload xi0
  (cec 1696 0 (.invokevirtual 187) (303, 2, 0, 22)
  (cec 1699 0 .pop xi0
  (cec 1700 0 (.goto 342) xi0
  (cec 1703 31 (.aload_n 1) xi0
  (cec 1704 0 (.aload_n 0) xi0
  (cec 1705 0 (.iload_n 3) xi0
  (cec 1706 0 (.iconst 1) xi0
  (cec 1707 0 .iadd xi0
  (cec 1708 0 .iaload xi0
  (cec 1709 0 (.aload_n 0) xi0
  (cec 1710 0 (.iload_n 3) xi0
  (cec 1711 0 (.iconst 2) xi0
  (cec 1712 0 .iadd xi0
  (cec 1713 0 .iaload xi0
  (cec 1714 0 (.ifCond .eq 7) xi0
  (cec 1717 0 (.iconst 1) xi0
  (cec 1718 0 (.goto 4) xi0
  (cec 1721 0 (.iconst 0) xi0
  (cec 1722 31 (.invokevirtual 188) (56, 3, 0, 10)
  (cec 1725 0 .pop xi0
  (cec 1726 0 (.aload_n 2) xi0
  (cec 1727 0 (.aload_n 0) xi0
  (cec 1728 0 (.iload_n 3) xi0
  (cec 1729 0 (.iconst 1) xi0
  (cec 1730 0 .iadd xi0
  (cec 1731 0 .iaload xi0
  (cec 1732 0 (.aload_n 0) xi0
  (cec 1733 0 (.iload_n 3) xi0
  (cec 1734 0 (.iconst 2) xi0
  (cec 1735 0 .iadd xi0
  (cec 1736 0 .iaload xi0
  (cec 1737 0 (.ifCond .eq 7) xi0
  (cec 1740 0 (.iconst 1) xi0
  (cec 1741 0 (.goto 4) xi0
  (cec 1744 0 (.iconst 0) xi0
  (cec 1745 0 (.invokevirtual 192) (304, 3, 0, 22)
  (cec 1748 0 .pop xi0
  (cec 1749 0 (.goto 293) xi0
  (cec 1752 31 (.aload_n 1) xi0
  (cec 1753 0 (.aload_n 0) xi0
  (cec 1754 0 (.iload_n 3) xi0
  (cec 1755 0 (.iconst 1) xi0
  (cec 1756 0 .iadd xi0
  (cec 1757 0 .iaload xi0 cs_0_26)))))))))))))))))))))))))))))))))))))))))))))))
noncomputable def cs_0_24 : List CE := cec 1632 0 (.iconst 1) xi0
  (cec 1633 0 .iadd xi0
  (cec 1634 0 .iaload xi0
  (cec 1635 0 (.aload_n 0) xi0
  (cec 1636 0 (.iload_n 3) xi0
  (cec 1637 0 (.iconst 2) xi0
  (cec 1638 0 .iadd xi0
  (cec 1639 0 .iaload xi0
  (cec 1640 0 (.invokevirtual 179) (301, 3, 0, 22)
  (cec 1643 0 .pop xi0
  (cec 1644 0 (.goto 398) xi0
  (cec 1647 31 (.aload_n 1) xi0
  (cec 1648 0 (.aload_n 0) xi0
  (cec 1649 0 (.iload_n 3) xi0
  (cec 1650 0 (.iconst 1) xi0
  (cec 1651 0 .iadd xi0
  (cec 1652 0 .iaload xi0
  (cec 1653 0 (.aload_n 0) xi0
  (cec 1654 0 (.iload_n 3) xi0
  (cec 1655 0 (.iconst 2) xi0
  (cec 1656 0 .iadd xi0
  (cec 1657 0 .iaload xi0
  (cec 1658 0 (.invokevirtual 180) (54, 3, 1, 10)
  (cec 1661 0 .pop2 xi0
  (cec 1662 0 (.aload_n 2) xi0
  (cec 1663 0 (.aload_n 0) xi0
  (cec 1664 0 (.iload_n 3) xi0
  (cec 1665 0 (.iconst 1) xi0
  (cec 1666 0 .iadd xi0
  (cec 1667 0 .iaload xi0
  (cec 1668 0 (.aload_n 0) xi0
  (cec 1669 0 (.iload_n 3) xi0
  (cec 1670 0 (.iconst 2) xi0
  (cec 1671 0 .iadd xi0
  (cec 1672 0 .iaload xi0
  (cec 1673 0 (.invokevirtual 183) (302, 3, 1, 22)
  (cec 1676 0 .pop2 xi0
  (cec 1677 0 (.goto 365) xi0
  (cec 1680 31 (.aload_n 1) xi0
  (cec 1681 0 (.aload_n 0) xi0
  (cec 1682 0 (.iload_n 3) xi0
  (cec 1683 0 (.iconst 1) xi0
  (cec 1684 0 .iadd xi0
  (cec 1685 0 .iaload xi0
  (cec 1686 0 (.invokevirtual 184) (55, 2, 0, 10)
  (cec 1689 0 .pop xi0
  (cec 1690 0 (.aload_n 2) xi0
  (cec 1691 0 (.aload_n 0) xi0 cs_0_25)))))))))))))))))))))))))))))))))))))))))))))))
noncomputable def cs_0_23 : List CE := cec 1572 0 .iadd xi0
  (cec 1573 0 .iaload xi0
  (cec 1574 0 (.invokevirtual 171) (299, 4, 0, 22)
  (cec 1577 0 .pop xi0
  (cec 1578 0 (.goto 464) xi0
  (cec 1581 31 (.aload_n 1) xi0
  (cec 1582 0 (.aload_n 0) xi0
  (cec 1583 0 (.iload_n 3) xi0
  (cec 1584 0 (.iconst 1) xi0
  (cec 1585 0 .iadd xi0
  (cec 1586 0 .iaload xi0
  (cec 1587 0 (.aload_n 0) xi0
  (cec 1588 0 (.iload_n 3) xi0
  (cec 1589 0 (.iconst 2) xi0
  (cec 1590 0 .iadd xi0
  (cec 1591 0 .iaload xi0
  (cec 1592 0 (.invokevirtual 172) (52, 3, 0, 10)
  (cec 1595 0 .pop xi0
  (cec 1596 0 (.aload_n 2) xi0
  (cec 1597 0 (.aload_n 0) xi0
  (cec 1598 0 (.iload_n 3) xi0
  (cec 1599 0 (.iconst 1) xi0
  (cec 1600 0 .iadd xi0
  (cec 1601 0 .iaload xi0
  (cec 1602 0 (.aload_n 0) xi0
  (cec 1603 0 (.iload_n 3) xi0
  (cec 1604 0 (.iconst 2) xi0
  (cec 1605 0 .iadd xi0
  (cec 1606 0 .iaload xi0
  (cec 1607 0 (.invokevirtual 175) (300, 3, 0, 22)
  (cec 1610 0 .pop xi0
  (cec 1611 0 (.goto 431) xi0
  (cec 1614 31 (.aload_n 1) xi0
  (cec 1615 0 (.aload_n 0) xi0
  (cec 1616 0 (.iload_n 3) xi0
  (cec 1617 0 (.iconst 1) xi0
  (cec 1618 0 .iadd xi0
  (cec 1619 0 .iaload xi0
  (cec 1620 0 (.aload_n 0) xi0
  (cec 1621 0 (.iload_n 3) xi0
  (cec 1622 0 (.iconst 2) xi0
  (cec 1623 0 .iadd xi0
  (cec 1624 0 .iaload xi0
  (cec 1625 0 (.invokevirtual 176) (53, 3, 0, 10)
  (cec 1628 0 .pop xi0
  (cec 1629 0 (.aload_n 2) xi0
  (cec 1630 0 (.aload_n 0) xi0
  (cec 1631 0 (.iload_n 3) xi0 cs_0_24)))))))))))))))))))))))))))))))))))))))))))))))
noncomputable def cs_0_22 : List CE := cec 1516 0 (.invokevirtual 164) (50, 3, 1, 10)
  (cec 1519 0 .pop2 xi0
  (cec 1520 0 (.aload_n 2) xi0
  (cec 1521 0 (.aload_n 0) xi0
  (cec 1522 0 (.iload_n 3) xi0
  (cec 1523 0 (.iconst 1) xi0
  (cec 1524 0 .iadd xi0
  (cec 1525 0 .iaload xi0
  (cec 1526 0 (.aload_n 0) xi0
  (cec 1527 0 (.iload_n 3) xi0
  (cec 1528 0 (.iconst 2) xi0
  (cec 1529 0 .iadd xi0
  (cec 1530 0 .iaload xi0
  (cec 1531 0 (.invokevirtual 167) (298, 3, 1, 22)
  (cec 1534 0 .pop2 xi0
  (cec 1535 0 (.goto 507) xi0
  (cec 1538 31 (.aload_n 1) xi0
  (cec 1539 0 (.aload_n 0) xi0
  (cec 1540 0 (.iload_n 3) xi0
  (cec 1541 0 (.iconst 1) xi0
  (cec 1542 0 .iadd xi0
  (cec 1543 0 .iaload xi0
  (cec 1544 0 (.aload_n 0) xi0
  (cec 1545 0 (.iload_n 3) xi0
  (cec 1546 0 (.iconst 2) xi0
  (cec 1547 0 .iadd xi0
  (cec 1548 0 .iaload xi0
  (cec 1549 0 (.aload_n 0) xi0
  (cec 1550 0 (.iload_n 3) xi0
  (cec 1551 0 (.iconst 3) xi0
  (cec 1552 0 .iadd xi0
  (cec 1553 0 .iaload xi0
  (cec 1554 0 (.invokevirtual 168) (51, 4, 0, 10)
  (cec 1557 0 .pop xi0
  (cec 1558 0 (.aload_n 2) xi0
  (cec 1559 0 (.aload_n 0) xi0
  (cec 1560 0 (.iload_n 3) xi0
  (cec 1561 0 (.iconst 1) xi0
  (cec 1562 0 .iadd xi0
  (cec 1563 0 .iaload xi0
  (cec 1564 0 (.aload_n 0) xi0
  (cec 1565 0 (.iload_n 3) xi0
  (cec 1566 0 (.iconst 2) xi0
  (cec 1567 0 .iadd xi0
  (cec 1568 0 .iaload xi0
  (cec 1569 0 (.aload_n 0) xi0
  (cec 1570 0 (.iload_n 3) xi0
  (cec 1571 0 (.iconst 3) xi0 cs_0_23)))))))))))))))))))))))))))))))))))))))))))))))
noncomputable def cs_0_21 : List CE := cec 1452 31 (.invokevirtual 155) (48, 3, 0, 10)
  (cec 1455 0 .pop xi0
  (cec 1456 0 (.aload_n 2) xi0
  (cec 1457 0 (.aload_n 0) xi0
  (cec 1458 0 (.iload_n 3) xi0
  (cec 1459 0 (.iconst 1) xi0
  (cec 1460 0 .iadd xi0
  (cec 1461 0 .iaload xi0
  (cec 1462 0 (.aload_n 0) xi0
  (cec 1463 0 (.iload_n 3) xi0
  (cec 1464 0 (.iconst 2) xi0
  (cec 1465 0 .iadd xi0
  (cec 1466 0 .iaload xi0
  (cec 1467 0 (.ifCond .eq 7) xi0
  (cec 1470 0 (.iconst 1) xi0
  (cec 1471 0 (.goto 4) xi0
  (cec 1474 0 (.iconst 0) xi0
  (cec 1475 0 (.invokevirtual 159) (293, 3, 0, 22)
  (cec 1478 0 .pop xi0
  (cec 1479 0 (.goto 563) xi0
  (cec 1482 31 (.aload_n 1) xi0
  (cec 1483 0 (.aload_n 0) xi0
  (cec 1484 0 (.iload_n 3) xi0
  (cec 1485 0 (.iconst 1) xi0
  (cec 1486 0 .iadd xi0
  (cec 1487 0 .iaload xi0
  (cec 1488 0 (.invokevirtual 160) (49, 2, 0, 10)
  (cec 1491 0 .pop xi0
  (cec 1492 0 (.aload_n 2) xi0
  (cec 1493 0 (.aload_n 0) xi0
  (cec 1494 0 (.iload_n 3) xi0
  (cec 1495 0 (.iconst 1) xi0
  (cec 1496 0 .iadd xi0
  (cec 1497 0 .iaload xi0
  (cec 1498 0 (.invokevirtual 163) (296, 2, 0, 22)
  (cec 1501 0 .pop xi0
  (cec 1502 0 (.goto 540) xi0
  (cec 1505 31 (.aload_n 1) xi0
  (cec 1506 0 (.aload_n 0) xi0
  (cec 1507 0 (.iload_n 3) xi0
  (cec 1508 0 (.iconst 1) xi0
  (cec 1509 0 .iadd xi0
  (cec 1510 0 .iaload xi0
  (cec 1511 0 (.aload_n 0) xi0
  (cec 1512 0 (.iload_n 3) xi0
  (cec 1513 0 (.iconst 2) xi0
  (cec 1514 0 .iadd xi0
  (cec 1515 0 .iaload xi0 cs_0_22)))))))))))))))))))))))))))))))))))))))))))))))
noncomputable def cs_0_20 : List CE := cec 1390 0 (.iconst 1) xi0
  (cec 1391 0 .iadd xi0
  (cec 1392 0 .iaload xi0
  (cec 1393 0 (.invokevirtual 150) (291, 2, 1, 22)
  (cec 1396 0 .pop2 xi0
  (cec 1397 0 (.goto 645) xi0
  (cec 1400 31 (.aload_n 1) xi0
  (cec 1401 0 (.aload_n 0) xi0
  (cec 1402 0 (.iload_n 3) xi0
  (cec 1403 0 (.iconst 1) xi0
  (cec 1404 0 .iadd xi0
  (cec 1405 0 .iaload xi0
  (cec 1406 0 (.aload_n 0) xi0
  (cec 1407 0 (.iload_n 3) xi0
  (cec 1408 0 (.iconst 2) xi0
  (cec 1409 0 .iadd xi0
  (cec 1410 0 .iaload xi0
  (cec 1411 0 (.invokevirtual 151) (47, 3, 0, 10)
  (cec 1414 0 .pop xi0
  (cec 1415 0 (.aload_n 2) xi0
  (cec 1416 0 (.aload_n 0) xi0
  (cec 1417 0 (.iload_n 3) xi0
  (cec 1418 0 (.iconst 1) xi0
  (cec 1419 0 .iadd xi0
  (cec 1420 0 .iaload xi0
  (cec 1421 0 (.aload_n 0) xi0
  (cec 1422 0 (.iload_n 3) xi0
  (cec 1423 0 (.iconst 2) xi0
  (cec 1424 0 .iadd xi0
  (cec 1425 0 .iaload xi0
  (cec 1426 0 (.invokevirtual 154) (292, 3, 0, 22)
  (cec 1429 0 .pop xi0
  (cec 1430 0 (.goto 612) xi0
  (cec 1433 31 (.aload_n 1) xi0
  (cec 1434 0 (.aload_n 0) xi0
  (cec 1435 0 (.iload_n 3) xi0
  (cec 1436 0 (.iconst 1) xi0
  (cec 1437 0 .iadd xi0
  (cec 1438 0 .iaload xi0
  (cec 1439 0 (.aload_n 0) xi0
  (cec 1440 0 (.iload_n 3) xi0
  (cec 1441 0 (.iconst 2) xi0
  (cec 1442 0 .iadd xi0
  (cec 1443 0 .iaload xi0
  (cec 1444 0 (.ifCond .eq 7) xi0
  (cec 1447 0 (.iconst 1) xi0
  (cec 1448 0 (.goto 4) xi0
  (cec 1451 0 (.iconst 0) xi0 cs_0_21)))))))))))))))))))))))))))))))))))))))))))))))
noncomputable def cs_0_19 : List CE := cec 1328 0 (.iload_n 3) xi0
  (cec 1329 0 (.iconst 4) xi0
  (cec 1330 0 .iadd xi0
  (cec 1331 0 .iaload xi0
  (cec 1332 0 (.invokevirtual 139) (44, 5, 0, 10)
  (cec 1335 0 .pop xi0
  (cec 1336 0 (.aload_n 2) xi0
  (cec 1337 0 (.aload_n 0) xi0
  (cec 1338 0 (.iload_n 3) xi0
  (cec 1339 0 (.iconst 1) xi0
  (cec 1340 0 .iadd xi0
  (cec 1341 0 .iaload xi0
  (cec 1342 0 (.aload_n 0) xi0
  (cec 1343 0 (.iload_n 3) xi0
  (cec 1344 0 (.iconst 2) xi0
  (cec 1345 0 .iadd xi0
  (cec 1346 0 .iaload xi0
  (cec 1347 0 (.aload_n 0) xi0
  (cec 1348 0 (.iload_n 3) xi0
  (cec 1349 0 (.iconst 3) xi0
  (cec 1350 0 .iadd xi0
  (cec 1351 0 .iaload xi0
  (cec 1352 0 (.aload_n 0) xi0
  (cec 1353 0 (.iload_n 3) xi0
  (cec 1354 0 (.iconst 4) xi0
  (cec 1355 0 .iadd xi0
  (cec 1356 0 .iaload xi0
  (cec 1357 0 (.invokevirtual 142) (287, 5, 0, 22)
  (cec 1360 0 .pop xi0
  (cec 1361 0 (.goto 681) xi0
  (cec 1364 31 (.aload_n 1) xi0
  (cec 1365 0 (.invokevirtual 143) (45, 1, 0, 10)
  (cec 1368 0 .pop xi0
  (cec 1369 0 (.aload_n 2) xi0
  (cec 1370 0 (.invokevirtual 146) (288, 1, 0, 22)
  (cec 1373 0 .pop xi0
  (cec 1374 0 (.goto 668) xi0
  (cec 1377 31 (.aload_n 1) xi0
  (cec 1378 0 (.aload_n 0) xi0
  (cec 1379 0 (.iload_n 3) xi0
  (cec 1380 0 (.iconst 1) xi0
  (cec 1381 0 .iadd xi0
  (cec 1382 0 .iaload xi0
  (cec 1383 0 (.invokevirtual 147) (46, 2, 1, 10)
  (cec 1386 0 .pop2 xi0
  (cec 1387 0 (.aload_n 2) xi0
  (cec 1388 0 (.aload_n 0) xi0
  (cec 1389 0 (.iload_n 3) xi0 cs_0_20)))))))))))))))))))))))))))))))))))))))))))))))
noncomputable def cs_0_18 : List CE := cec 1268 0 (.iconst 1) xi0
  (cec 1269 0 .iadd xi0
  (cec 1270 0 .iaload xi0
  (cec 1271 0 (.aload_n 0) xi0
  (cec 1272 0 (.iload_n 3) xi0
  (cec 1273 0 (.iconst 2) xi0
  (cec 1274 0 .iadd xi0
  (cec 1275 0 .iaload xi0
  (cec 1276 0 (.invokevirtual 130) (42, 3, 0, 10)
  (cec 1279 0 .pop xi0
  (cec 1280 0 (.aload_n 2) xi0
  (cec 1281 0 (.aload_n 0) xi0
  (cec 1282 0 (.iload_n 3) xi0
  (cec 1283 0 (.iconst 1) xi0
  (cec 1284 0 .iadd xi0
  (cec 1285 0 .iaload xi0
  (cec 1286 0 (.aload_n 0) xi0
  (cec 1287 0 (.iload_n 3) xi0
  (cec 1288 0 (.iconst 2) xi0
  (cec 1289 0 .iadd xi0
  (cec 1290 0 .iaload xi0
  (cec 1291 0 (.invokevirtual 133) (284, 3, 0, 22)
  (cec 1294 0 .pop xi0
  (cec 1295 0 (.goto 747) xi0
  (cec 1298 31 (.aload_n 1) xi0
  (cec 1299 0 (.invokevirtual 134) (43, 1, 0, 10)
  (cec 1302 0 .pop xi0
  (cec 1303 0 (.aload_n 2) xi0
  (cec 1304 0 (.invokevirtual 138) (285, 1, 0, 22)
  (cec 1307 0 .pop xi0
  (cec 1308 0 (.goto 734) xi0
  (cec 1311 31 (.aload_n 1) xi0
  (cec 1312 0 (.aload_n 0) xi0
  (cec 1313 0 (.iload_n 3) xi0
  (cec 1314 0 (.iconst 1) xi0
  (cec 1315 0 .iadd xi0
  (cec 1316 0 .iaload xi0
  (cec 1317 0 (.aload_n 0) xi0
  (cec 1318 0 (.iload_n 3) xi0
  (cec 1319 0 (.iconst 2) xi0
  (cec 1320 0 .iadd xi0
  (cec 1321 0 .iaload xi0
  (cec 1322 0 (.aload_n 0) xi0
  (cec 1323 0 (.iload_n 3) xi0
  (cec 1324 0 (.iconst 3) xi0
  (cec 1325 0 .iadd xi0
  (cec 1326 0 .iaload xi0
  (cec 1327 0 (.aload_n 0) xi0 cs_0_19)))))))))))))))))))))))))))))))))))))))))))))))
noncomputable def cs_0_17 : List CE := cec 1210 0 (.aload_n 0) xi0
  (cec 1211 0 (.iload_n 3) xi0
  (cec 1212 0 (.iconst 3) xi0
  (cec 1213 0 .iadd xi0
  (cec 1214 0 .iaload xi0
  (cec 1215 0 (.invokevirtual 125) (281, 4, 1, 22)
  (cec 1218 0 .pop2 xi0
  (cec 1219 0 (.goto 823) xi0
  (cec 1222 31 (.aload_n 1) xi0
  (cec 1223 0 (.aload_n 0) xi0
  (cec 1224 0 (.iload_n 3) xi0
  (cec 1225 0 (.iconst 1) xi0
  (cec 1226 0 .iadd xi0
  (cec 1227 0 .iaload xi0
  (cec 1228 0 (.aload_n 0) xi0
  (cec 1229 0 (.iload_n 3) xi0
  (cec 1230 0 (.iconst 2) xi0
  (cec 1231 0 .iadd xi0
  (cec 1232 0 .iaload xi0
  (cec 1233 0 (.aload_n 0) xi0
  (cec 1234 0 (.iload_n 3) xi0
  (cec 1235 0 (.iconst 3) xi0
  (cec 1236 0 .iadd xi0
  (cec 1237 0 .iaload xi0
  (cec 1238 0 (.invokevirtual 126) (41, 4, 1, 10)
  (cec 1241 0 .pop2 xi0
  (cec 1242 0 (.aload_n 2) xi0
  (cec 1243 0 (.aload_n 0) xi0
  (cec 1244 0 (.iload_n 3) xi0
  (cec 1245 0 (.iconst 1) xi0
  (cec 1246 0 .iadd xi0
  (cec 1247 0 .iaload xi0
  (cec 1248 0 (.aload_n 0) xi0
  (cec 1249 0 (.iload_n 3) xi0
  (cec 1250 0 (.iconst 2) xi0
  (cec 1251 0 .iadd xi0
  (cec 1252 0 .iaload xi0
  (cec 1253 0 (.aload_n 0) xi0
  (cec 1254 0 (.iload_n 3) xi0
  (cec 1255 0 (.iconst 3) xi0
  (cec 1256 0 .iadd xi0
  (cec 1257 0 .iaload xi0
  (cec 1258 0 (.invokevirtual 129) (282, 4, 1, 22)
  (cec 1261 0 .pop2 xi0
  (cec 1262 0 (.goto 780) xi0
  (cec 1265 31 (.aload_n 1) xi0
  (cec 1266 0 (.aload_n 0) xi0
  (cec 1267 0 (.iload_n 3) xi0 cs_0_18)))))))))))))))))))))))))))))))))))))))))))))))
noncomputable def cs_0_16 : List CE := cec 1154 0 (.iconst 2) xi0
  (cec 1155 0 .iadd xi0
  (cec 1156 0 .iaload xi0
  (cec 1157 0 (.invokevirtual 117) (36, 3, 0, 10)
  (cec 1160 0 .pop xi0
  (cec 1161 0 (.aload_n 2) xi0
  (cec 1162 0 (.aload_n 0) xi0
  (cec 1163 0 (.iload_n 3) xi0
  (cec 1164 0 (.iconst 1) xi0
  (cec 1165 0 .iadd xi0
  (cec 1166 0 .iaload xi0
  (cec 1167 0 (.aload_n 0) xi0
  (cec 1168 0 (.iload_n 3) xi0
  (cec 1169 0 (.iconst 2) xi0
  (cec 1170 0 .iadd xi0
  (cec 1171 0 .iaload xi0
  (cec 1172 0 (.invokevirtual 120) (278, 3, 0, 22)
  (cec 1175 0 .pop xi0
  (cec 1176 0 (.goto 866) xi0
  (cec 1179 31 (.aload_n 1) xi0
  (cec 1180 0 (.aload_n 0) xi0
  (cec 1181 0 (.iload_n 3) xi0
  (cec 1182 0 (.iconst 1) xi0
  (cec 1183 0 .iadd xi0
  (cec 1184 0 .iaload xi0
  (cec 1185 0 (.aload_n 0) xi0
  (cec 1186 0 (.iload_n 3) xi0
  (cec 1187 0 (.iconst 2) xi0
  (cec 1188 0 .iadd xi0
  (cec 1189 0 .iaload xi0
  (cec 1190 0 (.aload_n 0) xi0
  (cec 1191 0 (.iload_n 3) xi0
  (cec 1192 0 (.iconst 3) xi0
  (cec 1193 0 .iadd xi0
  (cec 1194 0 .iaload xi0
  (cec 1195 0 (.invokevirtual 121) (39, 4, 1, 10)
  (cec 1198 0 .pop2 xi0
  (cec 1199 0 (.aload_n 2) xi0
  (cec 1200 0 (.aload_n 0) xi0
  (cec 1201 0 (.iload_n 3) xi0
  (cec 1202 0 (.iconst 1) xi0
  (cec 1203 0 .iadd xi0
  (cec 1204 0 .iaload xi0
  (cec 1205 0 (.aload_n 0) xi0
  (cec 1206 0 (.iload_n 3) xi0
  (cec 1207 0 (.iconst 2) xi0
  (cec 1208 0 .iadd xi0
  (cec 1209 0 .iaload xi0 cs_0_17)))))))))))))))))))))))))))))))))))))))))))))))
noncomputable def cs_0_15 : List CE := cec 1088 0 (.iconst 1) xi0
  (cec 1089 0 (.goto 4) xi0
  (cec 1092 0 (.iconst 0) xi0
  (cec 1093 0 (.invokevirtual 107) (272, 5, 0, 22)
  (cec 1096 0 .pop xi0
  (cec 1097 0 (.goto 945) xi0
  (cec 1100 31 (.aload_n 1) xi0
  (cec 1101 0 (.aload_n 0) xi0
  (cec 1102 0 (.iload_n 3) xi0
  (cec 1103 0 (.iconst 1) xi0
  (cec 1104 0 .iadd xi0
  (cec 1105 0 .iaload xi0
  (cec 1106 0 (.invokevirtual 108) (34, 2, 0, 10)
  (cec 1109 0 .pop xi0
  (cec 1110 0 (.aload_n 2) xi0
  (cec 1111 0 (.aload_n 0) xi0
  (cec 1112 0 (.iload_n 3) xi0
  (cec 1113 0 (.iconst 1) xi0
  (cec 1114 0 .iadd xi0
  (cec 1115 0 .iaload xi0
  (cec 1116 0 (.invokevirtual 111) (273, 2, 0, 22)
  (cec 1119 0 .pop xi0
  (cec 1120 0 (.goto 922) xi0
  (cec 1123 31 (.aload_n 1) xi0
  (cec 1124 0 (.aload_n 0) xi0
  (cec 1125 0 (.iload_n 3) xi0
  (cec 1126 0 (.iconst 1) xi0
  (cec 1127 0 .iadd xi0
  (cec 1128 0 .iaload xi0
  (cec 1129 0 (.invokevirtual 112) (35, 2, 1, 10)
  (cec 1132 0 .pop2 xi0
  (cec 1133 0 (.aload_n 2) xi0
  (cec 1134 0 (.aload_n 0) xi0
  (cec 1135 0 (.iload_n 3) xi0
  (cec 1136 0 (.iconst 1) xi0
  (cec 1137 0 .iadd xi0
  (cec 1138 0 .iaload xi0
  (cec 1139 0 (.invokevirtual 116) (277, 2, 1, 22)
  (cec 1142 0 .pop2 xi0
  (cec 1143 0 (.goto 899) xi0
  (cec 1146 31 (.aload_n 1) xi0
  (cec 1147 0 (.aload_n 0) xi0
  (cec 1148 0 (.iload_n 3) xi0
  (cec 1149 0 (.iconst 1) xi0
  (cec 1150 0 .iadd xi0
  (cec 1151 0 .iaload xi0
  (cec 1152 0 (.aload_n 0) xi0
  (cec 1153 0 (.iload_n 3) xi0 cs_0_16)))))))))))))))))))))))))))))))))))))))))))))))
noncomputable def cs_0_14 : List CE := cec 1032 0 (.aload_n 0) xi0
  (cec 1033 0 (.iload_n 3) xi0
  (cec 1034 0 (.iconst 1) xi0
  (cec 1035 0 .iadd xi0
  (cec 1036 0 .iaload xi0
  (cec 1037 0 (.aload_n 0) xi0
  (cec 1038 0 (.iload_n 3) xi0
  (cec 1039 0 (.iconst 2) xi0
  (cec 1040 0 .iadd xi0
  (cec 1041 0 .iaload xi0
  (cec 1042 0 (.aload_n 0) xi0
  (cec 1043 0 (.iload_n 3) xi0
  (cec 1044 0 (.iconst 3) xi0
  (cec 1045 0 .iadd xi0
  (cec 1046 0 .iaload xi0
  (cec 1047 0 (.aload_n 0) xi0
  (cec 1048 0 (.iload_n 3) xi0
  (cec 1049 0 (.iconst 4) xi0
  (cec 1050 0 .iadd xi0
  (cec 1051 0 .iaload xi0
  (cec 1052 0 (.ifCond .eq 7) xi0
  (cec 1055 0 (.iconst 1) xi0
  (cec 1056 0 (.goto 4) xi0
  (cec 1059 0 (.iconst 0) xi0
  (cec 1060 31 (.invokevirtual 103) (33, 5, 0, 10)
  (cec 1063 0 .pop xi0
  (cec 1064 0 (.aload_n 2) xi0
  (cec 1065 0 (.aload_n 0) xi0
  (cec 1066 0 (.iload_n 3) xi0
  (cec 1067 0 (.iconst 1) xi0
  (cec 1068 0 .iadd xi0
  (cec 1069 0 .iaload xi0
  (cec 1070 0 (.aload_n 0) xi0
  (cec 1071 0 (.iload_n 3) xi0
  (cec 1072 0 (.iconst 2) xi0
  (cec 1073 0 .iadd xi0
  (cec 1074 0 .iaload xi0
  (cec 1075 0 (.aload_n 0) xi0
  (cec 1076 0 (.iload_n 3) xi0
  (cec 1077 0 (.iconst 3) xi0
  (cec 1078 0 .iadd xi0
  (cec 1079 0 .iaload xi0
  (cec 1080 0 (.aload_n 0) xi0
  (cec 1081 0 (.iload_n 3) xi0
  (cec 1082 0 (.iconst 4) xi0
  (cec 1083 0 .iadd xi0
  (cec 1084 0 .iaload xi0
  (cec 1085 0 (.ifCond .eq 7) xi0 cs_0_15)))))))))))))))))))))))))))))))))))))))))))))))
noncomputable def cs_0_13 : List CE := cec 968 0 (.aload_n 0) xi0
  (cec 969 0 (.iload_n 3) xi0
  (cec 970 0 (.iconst 1) xi0
  (cec 971 0 .iadd xi0
  (cec 972 0 .iaload xi0
  (cec 973 0 (.aload_n 0) xi0
  (cec 974 0 (.iload_n 3) xi0
  (cec 975 0 (.iconst 2) xi0
  (cec 976 0 .iadd xi0
  (cec 977 0 .iaload xi0
  (cec 978 0 (.invokevirtual 94) (258, 3, 0, 22)
  (cec 981 0 .pop xi0
  (cec 982 0 (.goto 1060) xi0
  (cec 985 31 (.aload_n 1) xi0
  (cec 986 0 (.aload_n 0) xi0
  (cec 987 0 (.iload_n 3) xi0
  (cec 988 0 (.iconst 1) xi0
  (cec 989 0 .iadd xi0
  (cec 990 0 .iaload xi0
  (cec 991 0 (.invokevirtual 95) (27, 2, 0, 10)
  (cec 994 0 .pop xi0
  (cec 995 0 (.aload_n 2) xi0
  (cec 996 0 (.aload_n 0) xi0
  (cec 997 0 (.iload_n 3) xi0
  (cec 998 0 (.iconst 1) xi0
  (cec 999 0 .iadd xi0
  (cec 1000 0 .iaload xi0
  (cec 1001 0 (.invokevirtual 98) (260, 2, 0, 22)
  (cec 1004 0 .pop xi0
  (cec 1005 0 (.goto 1037) xi0
  (cec 1008 31 (.aload_n 1) xi0
  (cec 1009 0 (.aload_n 0) xi0
  (cec 1010 0 (.iload_n 3) xi0
  (cec 1011 0 (.iconst 1) xi0
  (cec 1012 0 .iadd xi0
  (cec 1013 0 .iaload xi0
  (cec 1014 0 (.invokevirtual 99) (32, 2, 0, 10)
  (cec 1017 0 .pop xi0
  (cec 1018 0 (.aload_n 2) xi0
  (cec 1019 0 (.aload_n 0) xi0
  (cec 1020 0 (.iload_n 3) xi0
  (cec 1021 0 (.iconst 1) xi0
  (cec 1022 0 .iadd xi0
  (cec 1023 0 .iaload xi0
  (cec 1024 0 (.invokevirtual 102) (271, 2, 0, 22)
  (cec 1027 0 .pop xi0
  (cec 1028 0 (.goto 1014) xi0
  (cec 1031 31 (.aload_n 1) xi0 cs_0_14)))))))))))))))))))))))))))))))))))))))))))))))
noncomputable def cs_0_12 : List CE := cec 909 0 .iadd xi0
  (cec 910 0 .iaload xi0
  (cec 911 0 (.aload_n 0) xi0
  (cec 912 0 (.iload_n 3) xi0
  (cec 913 0 (.iconst 2) xi0
  (cec 914 0 .iadd xi0
  (cec 915 0 .iaload xi0
  (cec 916 0 (.aload_n 0) xi0
  (cec 917 0 (.iload_n 3) xi0
  (cec 918 0 (.iconst 3) xi0
  (cec 919 0 .iadd xi0
  (cec 920 0 .iaload xi0
  (cec 921 0 (.aload_n 0) xi0
  (cec 922 0 (.iload_n 3) xi0
  (cec 923 0 (.iconst 4) xi0
  (cec 924 0 .iadd xi0
  (cec 925 0 .iaload xi0
  (cec 926 0 (.aload_n 0) xi0
  (cec 927 0 (.iload_n 3) xi0
  (cec 928 0 (.iconst 5) xi0
  (cec 929 0 .iadd xi0
  (cec 930 0 .iaload xi0
  (cec 931 0 (.aload_n 0) xi0
  (cec 932 0 (.iload_n 3) xi0
  (cec 933 0 (.bipush 6) xi0
  (cec 935 0 .iadd xi0
  (cec 936 0 .iaload xi0
  (cec 937 0 (.ifCond .eq 7) xi0
  (cec 940 0 (.iconst 1) xi0
  (cec 941 0 (.goto 4) xi0
  (cec 944 0 (.iconst 0) xi0
  (cec 945 0 (.invokevirtual 90) (256, 7, 0, 22)
  (cec 948 0 .pop xi0
  (cec 949 0 (.goto 1093) xi0
  (cec 952 31 (.aload_n 1) xi0
  (cec 953 0 (.aload_n 0) xi0
  (cec 954 0 (.iload_n 3) xi0
  (cec 955 0 (.iconst 1) xi0
  (cec 956 0 .iadd xi0
  (cec 957 0 .iaload xi0
  (cec 958 0 (.aload_n 0) xi0
  (cec 959 0 (.iload_n 3) xi0
  (cec 960 0 (.iconst 2) xi0
  (cec 961 0 .iadd xi0
  (cec 962 0 .iaload xi0
  (cec 963 0 (.invokevirtual 91) (26, 3, 0, 10)
  (cec 966 0 .pop xi0
  (cec 967 0 (.aload_n 2) xi0 cs_0_13)))))))))))))))))))))))))))))))))))))))))))))))
noncomputable def cs_0_11 : List CE := cec 850 0 .iadd xi0
  (cec 851 0 .iaload xi0
  (cec 852 0 (.invokevirtual 85) (244, 3, 1, 22)
  (cec 855 0 .lcmp xi0
  (cec 856 0 (.ifCond .eq 1186) xi0
  (cec 859 0 (.iconst 0) xi0
  (cec 860 0 .ireturn xi0
  (cec 861 31 (.aload_n 1) xi0
  (cec 862 0 (.aload_n 0) xi0
  (cec 863 0 (.iload_n 3) xi0
  (cec 864 0 (.iconst 1) xi0
  (cec 865 0 .iadd xi0
  (cec 866 0 .iaload xi0
  (cec 867 0 (.aload_n 0) xi0
  (cec 868 0 (.iload_n 3) xi0
  (cec 869 0 (.iconst 2) xi0
  (cec 870 0 .iadd xi0
  (cec 871 0 .iaload xi0
  (cec 872 0 (.aload_n 0) xi0
  (cec 873 0 (.iload_n 3) xi0
  (cec 874 0 (.iconst 3) xi0
  (cec 875 0 .iadd xi0
  (cec 876 0 .iaload xi0
  (cec 877 0 (.aload_n 0) xi0
  (cec 878 0 (.iload_n 3) xi0
  (cec 879 0 (.iconst 4) xi0
  (cec 880 0 .iadd xi0
  (cec 881 0 .iaload xi0
  (cec 882 0 (.aload_n 0) xi0
  (cec 883 0 (.iload_n 3) xi0
  (cec 884 0 (.iconst 5) xi0
  (cec 885 0 .iadd xi0
  (cec 886 0 .iaload xi0
  (cec 887 0 (.aload_n 0) xi0
  (cec 888 0 (.iload_n 3) xi0
  (cec 889 0 (.bipush 6) xi0
  (cec 891 0 .iadd xi0
  (cec 892 0 .iaload xi0
  (cec 893 0 (.ifCond .eq 7) xi0
  (cec 896 0 (.iconst 1) xi0
  (cec 897 0 (.goto 4) xi0
  (cec 900 0 (.iconst 0) xi0
  (cec 901 31 (.invokevirtual 86) (25, 7, 0, 10)
  (cec 904 0 .pop xi0
  (cec 905 0 (.aload_n 2) xi0
  (cec 906 0 (.aload_n 0) xi0
  (cec 907 0 (.iload_n 3) xi0
  (cec 908 0 (.iconst 1) xi0 cs_0_12)))))))))))))))))))))))))))))))))))))))))))))))
noncomputable def cs_0_10 : List CE := cec 794 0 .iaload xi0
  (cec 795 0 (.invokevirtual 76) (23, 5, 0, 10)
  (cec 798 0 .pop xi0
  (cec 799 0 (.aload_n 2) xi0
  (cec 800 0 (.aload_n 0) xi0
  (cec 801 0 (.iload_n 3) xi0
  (cec 802 0 (.iconst 1) xi0
  (cec 803 0 .iadd xi0
  (cec 804 0 .iaload xi0
  (cec 805 0 (.aload_n 0) xi0
  (cec 806 0 (.iload_n 3) xi0
  (cec 807 0 (.iconst 2) xi0
  (cec 808 0 .iadd xi0
  (cec 809 0 .iaload xi0
  (cec 810 0 (.aload_n 0) xi0
  (cec 811 0 (.iload_n 3) xi0
  (cec 812 0 (.iconst 3) xi0
  (cec 813 0 .iadd xi0
  (cec 814 0 .iaload xi0
  (cec 815 0 (.aload_n 0) xi0
  (cec 816 0 (.iload_n 3) xi0
  (cec 817 0 (.iconst 4) xi0
  (cec 818 0 .iadd xi0
  (cec 819 0 .iaload xi0
  (cec 820 0 (.invokevirtual 80) (251, 5, 0, 22)
  (cec 823 0 .pop xi0
  (cec 824 0 (.goto 1218) xi0
  (cec 827 31 (.aload_n 1) xi0
  (cec 828 0 (.aload_n 0) xi0
  (cec 829 0 (.iload_n 3) xi0
  (cec 830 0 (.iconst 1) xi0
  (cec 831 0 .iadd xi0
  (cec 832 0 .iaload xi0
  (cec 833 0 (.aload_n 0) xi0
  (cec 834 0 (.iload_n 3) xi0
  (cec 835 0 (.iconst 2) xi0
  (cec 836 0 .iadd xi0
  (cec 837 0 .iaload xi0
  (cec 838 0 (.invokevirtual 81) (24, 3, 1, 10)
  (cec 841 0 (.aload_n 2) xi0
  (cec 842 0 (.aload_n 0) xi0
  (cec 843 0 (.iload_n 3) xi0
  (cec 844 0 (.iconst 1) xi0
  (cec 845 0 .iadd xi0
  (cec 846 0 .iaload xi0
  (cec 847 0 (.aload_n 0) xi0
  (cec 848 0 (.iload_n 3) xi0
  (cec 849 0 (.iconst 2) xi0 cs_0_11)))))))))))))))))))))))))))))))))))))))))))))))
noncomputable def cs_0_9 : List CE := cec 740 0 .iadd xi0
  (cec 741 0 .iaload xi0
  (cec 742 0 (.aload_n 0) xi0
  (cec 743 0 (.iload_n 3) xi0
  (cec 744 0 (.iconst 3) xi0
  (cec 745 0 .iadd xi0
  (cec 746 0 .iaload xi0
  (cec 747 0 (.invokevirtual 71) (22, 4, 0, 10)
  (cec 750 0 .pop xi0
  (cec 751 0 (.aload_n 2) xi0
  (cec 752 0 (.aload_n 0) xi0
  (cec 753 0 (.iload_n 3) xi0
  (cec 754 0 (.iconst 1) xi0
  (cec 755 0 .iadd xi0
  (cec 756 0 .iaload xi0
  (cec 757 0 (.aload_n 0) xi0
  (cec 758 0 (.iload_n 3) xi0
  (cec 759 0 (.iconst 2) xi0
  (cec 760 0 .iadd xi0
  (cec 761 0 .iaload xi0
  (cec 762 0 (.aload_n 0) xi0
  (cec 763 0 (.iload_n 3) xi0
  (cec 764 0 (.iconst 3) xi0
  (cec 765 0 .iadd xi0
  (cec 766 0 .iaload xi0
  (cec 767 0 (.invokevirtual 75) (252, 4, 0, 22)
  (cec 770 0 .pop xi0
  (cec 771 0 (.goto 1271) xi0
  (cec 774 31 (.aload_n 1) xi0
  (cec 775 0 (.aload_n 0) xi0
  (cec 776 0 (.iload_n 3) xi0
  (cec 777 0 (.iconst 1) xi0
  (cec 778 0 .iadd xi0
  (cec 779 0 .iaload xi0
  (cec 780 0 (.aload_n 0) xi0
  (cec 781 0 (.iload_n 3) xi0
  (cec 782 0 (.iconst 2) xi0
  (cec 783 0 .iadd xi0
  (cec 784 0 .iaload xi0
  (cec 785 0 (.aload_n 0) xi0
  (cec 786 0 (.iload_n 3) xi0
  (cec 787 0 (.iconst 3) xi0
  (cec 788 0 .iadd xi0
  (cec 789 0 .iaload xi0
  (cec 790 0 (.aload_n 0) xi0
  (cec 791 0 (.iload_n 3) xi0
  (cec 792 0 (.iconst 4) xi0
  (cec 793 0 .iadd xi0 cs_0_10)))))))))))))))))))))))))))))))))))))))))))))))
noncomputable def cs_0_8 : List CE := cec 680 0 .iaload xi0
  (cec 681 0 (.aload_n 0) xi0
  (cec 682 0 (.iload_n 3) xi0
  (cec 683 0 (.iconst 2) xi0
  (cec 684 0 .iadd xi0
  (cec 685 0 .iaload xi0
  (cec 686 0 (.invokevirtual 62) (18, 3, 0, 10)
  (cec 689 0 .pop xi0
  (cec 690 0 (.aload_n 2) xi0
  (cec 691 0 (.aload_n 0) xi0
  (cec 692 0 (.iload_n 3) xi0
  (cec 693 0 (.iconst 1) xi0
  (cec 694 0 .iadd xi0
  (cec 695 0 .iaload xi0
  (cec 696 0 (.aload_n 0) xi0
  (cec 697 0 (.iload_n 3) xi0
  (cec 698 0 (.iconst 2) xi0
  (cec 699 0 .iadd xi0
  (cec 700 0 .iaload xi0
  (cec 701 0 (.invokevirtual 66) (254, 3, 0, 22)
  (cec 704 0 .pop xi0
  (cec 705 0 (.goto 1337) xi0
  (cec 708 31 (.aload_n 1) xi0
  (cec 709 0 (.aload_n 0) xi0
  (cec 710 0 (.iload_n 3) xi0
  (cec 711 0 (.iconst 1) xi0
  (cec 712 0 .iadd xi0
  (cec 713 0 .iaload xi0
  (cec 714 0 (.invokevirtual 67) (21, 2, 0, 10)
  (cec 717 0 .pop xi0
  (cec 718 0 (.aload_n 2) xi0
  (cec 719 0 (.aload_n 0) xi0
  (cec 720 0 (.iload_n 3) xi0
  (cec 721 0 (.iconst 1) xi0
  (cec 722 0 .iadd xi0
  (cec 723 0 .iaload xi0
  (cec 724 0 (.invokevirtual 70) (255, 2, 0, 22)
  (cec 727 0 .pop xi0
  (cec 728 0 (.goto 1314) xi0
  (cec 731 31 (.aload_n 1) xi0
  (cec 732 0 (.aload_n 0) xi0
  (cec 733 0 (.iload_n 3) xi0
  (cec 734 0 (.iconst 1) xi0
  (cec 735 0 .iadd xi0
  (cec 736 0 .iaload xi0
  (cec 737 0 (.aload_n 0) xi0
  (cec 738 0 (.iload_n 3) xi0
  (cec 739 0 (.iconst 2) xi0 cs_0_9)))))))))))))))))))))))))))))))))))))))))))))))
noncomputable def cs_0_7 : List CE := cec 622 0 (.iconst 1) xi0
  (cec 623 0 .iadd xi0
  (cec 624 0 .iaload xi0
  (cec 625 0 (.aload_n 0) xi0
  (cec 626 0 (.iload_n 3) xi0
  (cec 627 0 (.iconst 2) xi0
  (cec 628 0 .iadd xi0
  (cec 629 0 .iaload xi0
  (cec 630 0 (.aload_n 0) xi0
  (cec 631 0 (.iload_n 3) xi0
  (cec 632 0 (.iconst 3) xi0
  (cec 633 0 .iadd xi0
  (cec 634 0 .iaload xi0
  (cec 635 0 (.invokevirtual 57) (240, 4, 0, 22)
  (cec 638 0 .pop xi0
  (cec 639 0 (.goto 1403) xi0
  (cec 642 31 (.aload_n 1) xi0
  (cec 643 0 (.aload_n 0) xi0
  (cec 644 0 (.iload_n 3) xi0
  (cec 645 0 (.iconst 1) xi0
  (cec 646 0 .iadd xi0
  (cec 647 0 .iaload xi0
  (cec 648 0 (.aload_n 0) xi0
  (cec 649 0 (.iload_n 3) xi0
  (cec 650 0 (.iconst 2) xi0
  (cec 651 0 .iadd xi0
  (cec 652 0 .iaload xi0
  (cec 653 0 (.invokevirtual 58) (16, 3, 0, 10)
  (cec 656 0 .pop xi0
  (cec 657 0 (.aload_n 2) xi0
  (cec 658 0 (.aload_n 0) xi0
  (cec 659 0 (.iload_n 3) xi0
  (cec 660 0 (.iconst 1) xi0
  (cec 661 0 .iadd xi0
  (cec 662 0 .iaload xi0
  (cec 663 0 (.aload_n 0) xi0
  (cec 664 0 (.iload_n 3) xi0
  (cec 665 0 (.iconst 2) xi0
  (cec 666 0 .iadd xi0
  (cec 667 0 .iaload xi0
  (cec 668 0 (.invokevirtual 61) (242, 3, 0, 22)
  (cec 671 0 .pop xi0
  (cec 672 0 (.goto 1370) xi0
  (cec 675 31 (.aload_n 1) xi0
  (cec 676 0 (.aload_n 0) xi0
  (cec 677 0 (.iload_n 3) xi0
  (cec 678 0 (.iconst 1) xi0
  (cec 679 0 .iadd xi0 cs_0_8)))))))))))))))))))))))))))))))))))))))))))))))
noncomputable def cs_0_6 : List CE := cec 568 0 (.iload_n 3) xi0
  (cec 569 0 (.iconst 1) xi0
  (cec 570 0 .iadd xi0
  (cec 571 0 .iaload xi0
  (cec 572 0 (.aload_n 0) xi0
  (cec 573 0 (.iload_n 3) xi0
  (cec 574 0 (.iconst 2) xi0
  (cec 575 0 .iadd xi0
  (cec 576 0 .iaload xi0
  (cec 577 0 (.aload_n 0) xi0
  (cec 578 0 (.iload_n 3) xi0
  (cec 579 0 (.iconst 3) xi0
  (cec 580 0 .iadd xi0
  (cec 581 0 .iaload xi0
  (cec 582 0 (.aload_n 0) xi0
  (cec 583 0 (.iload_n 3) xi0
  (cec 584 0 (.iconst 4) xi0
  (cec 585 0 .iadd xi0
  (cec 586 0 .iaload xi0
  (cec 587 0 (.aload_n 0) xi0
  (cec 588 0 (.iload_n 3) xi0
  (cec 589 0 (.iconst 5) xi0
  (cec 590 0 .iadd xi0
  (cec 591 0 .iaload xi0
  (cec 592 0 (.invokevirtual 53) (237, 6, 0, 22)
  (cec 595 0 .pop xi0
  (cec 596 0 (.goto 1446) xi0
  (cec 599 31 (.aload_n 1) xi0
  (cec 600 0 (.aload_n 0) xi0
  (cec 601 0 (.iload_n 3) xi0
  (cec 602 0 (.iconst 1) xi0
  (cec 603 0 .iadd xi0
  (cec 604 0 .iaload xi0
  (cec 605 0 (.aload_n 0) xi0
  (cec 606 0 (.iload_n 3) xi0
  (cec 607 0 (.iconst 2) xi0
  (cec 608 0 .iadd xi0
  (cec 609 0 .iaload xi0
  (cec 610 0 (.aload_n 0) xi0
  (cec 611 0 (.iload_n 3) xi0
  (cec 612 0 (.iconst 3) xi0
  (cec 613 0 .iadd xi0
  (cec 614 0 .iaload xi0
  (cec 615 0 (.invokevirtual 54) (15, 4, 0, 10)
  (cec 618 0 .pop xi0
  (cec 619 0 (.aload_n 2) xi0
  (cec 620 0 (.aload_n 0) xi0
  (cec 621 0 (.iload_n 3) xi0 cs_0_7)))))))))))))))))))))))))))))))))))))))))))))))
noncomputable def cs_0_5 : List CE := cec 512 0 .iadd xi0
  (cec 513 0 .iaload xi0
  (cec 514 0 (.invokevirtual 46) (11, 3, 0, 10)
  (cec 517 0 .pop xi0
  (cec 518 0 (.aload_n 2) xi0
  (cec 519 0 (.aload_n 0) xi0
  (cec 520 0 (.iload_n 3) xi0
  (cec 521 0 (.iconst 1) xi0
  (cec 522 0 .iadd xi0
  (cec 523 0 .iaload xi0
  (cec 524 0 (.aload_n 0) xi0
  (cec 525 0 (.iload_n 3) xi0
  (cec 526 0 (.iconst 2) xi0
  (cec 527 0 .iadd xi0
  (cec 528 0 .iaload xi0
  (cec 529 0 (.invokevirtual 49) (235, 3, 0, 22)
  (cec 532 0 .pop xi0
  (cec 533 0 (.goto 1509) xi0
  (cec 536 31 (.aload_n 1) xi0
  (cec 537 0 (.aload_n 0) xi0
  (cec 538 0 (.iload_n 3) xi0
  (cec 539 0 (.iconst 1) xi0
  (cec 540 0 .iadd xi0
  (cec 541 0 .iaload xi0
  (cec 542 0 (.aload_n 0) xi0
  (cec 543 0 (.iload_n 3) xi0
  (cec 544 0 (.iconst 2) xi0
  (cec 545 0 .iadd xi0
  (cec 546 0 .iaload xi0
  (cec 547 0 (.aload_n 0) xi0
  (cec 548 0 (.iload_n 3) xi0
  (cec 549 0 (.iconst 3) xi0
  (cec 550 0 .iadd xi0
  (cec 551 0 .iaload xi0
  (cec 552 0 (.aload_n 0) xi0
  (cec 553 0 (.iload_n 3) xi0
  (cec 554 0 (.iconst 4) xi0
  (cec 555 0 .iadd xi0
  (cec 556 0 .iaload xi0
  (cec 557 0 (.aload_n 0) xi0
  (cec 558 0 (.iload_n 3) xi0
  (cec 559 0 (.iconst 5) xi0
  (cec 560 0 .iadd xi0
  (cec 561 0 .iaload xi0
  (cec 562 0 (.invokevirtual 50) (12, 6, 0, 10)
  (cec 565 0 .pop xi0
  (cec 566 0 (.aload_n 2) xi0
  (cec 567 0 (.aload_n 0) xi0 cs_0_6)))))))))))))))))))))))))))))))))))))))))))))))
noncomputable def cs_0_4 : List CE := cec 454 0 (.iload_n 3) xi0
  (cec 455 0 (.iconst 2) xi0
  (cec 456 0 .iadd xi0
  (cec 457 0 .iaload xi0
  (cec 458 0 (.aload_n 0) xi0
  (cec 459 0 (.iload_n 3) xi0
  (cec 460 0 (.iconst 3) xi0
  (cec 461 0 .iadd xi0
  (cec 462 0 .iaload xi0
  (cec 463 0 (.invokevirtual 41) (203, 4, 0, 22)
  (cec 466 0 .pop xi0
  (cec 467 0 (.goto 1575) xi0
  (cec 470 31 (.aload_n 1) xi0
  (cec 471 0 (.aload_n 0) xi0
  (cec 472 0 (.iload_n 3) xi0
  (cec 473 0 (.iconst 1) xi0
  (cec 474 0 .iadd xi0
  (cec 475 0 .iaload xi0
  (cec 476 0 (.aload_n 0) xi0
  (cec 477 0 (.iload_n 3) xi0
  (cec 478 0 (.iconst 2) xi0
  (cec 479 0 .iadd xi0
  (cec 480 0 .iaload xi0
  (cec 481 0 (.invokevirtual 42) (10, 3, 0, 10)
  (cec 484 0 .pop xi0
  (cec 485 0 (.aload_n 2) xi0
  (cec 486 0 (.aload_n 0) xi0
  (cec 487 0 (.iload_n 3) xi0
  (cec 488 0 (.iconst 1) xi0
  (cec 489 0 .iadd xi0
  (cec 490 0 .iaload xi0
  (cec 491 0 (.aload_n 0) xi0
  (cec 492 0 (.iload_n 3) xi0
  (cec 493 0 (.iconst 2) xi0
  (cec 494 0 .iadd xi0
  (cec 495 0 .iaload xi0
  (cec 496 0 (.invokevirtual 45) (231, 3, 0, 22)
  (cec 499 0 .pop xi0
  (cec 500 0 (.goto 1542) xi0
  (cec 503 31 (.aload_n 1) xi0
  (cec 504 0 (.aload_n 0) xi0
  (cec 505 0 (.iload_n 3) xi0
  (cec 506 0 (.iconst 1) xi0
  (cec 507 0 .iadd xi0
  (cec 508 0 .iaload xi0
  (cec 509 0 (.aload_n 0) xi0
  (cec 510 0 (.iload_n 3) xi0
  (cec 511 0 (.iconst 2) xi0 cs_0_5)))))))))))))))))))))))))))))))))))))))))))))))
noncomputable def cs_0_3 : List CE := cec 400 0 (.aload_n 0) xi0
  (cec 401 0 (.iload_n 3) xi0
  (cec 402 0 (.iconst 2) xi0
  (cec 403 0 .iadd xi0
  (cec 404 0 .iaload xi0
  (cec 405 0 (.aload_n 0) xi0
  (cec 406 0 (.iload_n 3) xi0
  (cec 407 0 (.iconst 3) xi0
  (cec 408 0 .iadd xi0
  (cec 409 0 .iaload xi0
  (cec 410 0 (.aload_n 0) xi0
  (cec 411 0 (.iload_n 3) xi0
  (cec 412 0 (.iconst 4) xi0
  (cec 413 0 .iadd xi0
  (cec 414 0 .iaload xi0
  (cec 415 0 (.aload_n 0) xi0
  (cec 416 0 (.iload_n 3) xi0
  (cec 417 0 (.iconst 5) xi0
  (cec 418 0 .iadd xi0
  (cec 419 0 .iaload xi0
  (cec 420 0 (.invokevirtual 36) (201, 6, 0, 22)
  (cec 423 0 .pop xi0
  (cec 424 0 (.goto 1618) xi0
  (cec 427 31 (.aload_n 1) xi0
  (cec 428 0 (.aload_n 0) xi0
  (cec 429 0 (.iload_n 3) xi0
  (cec 430 0 (.iconst 1) xi0
  (cec 431 0 .iadd xi0
  (cec 432 0 .iaload xi0
  (cec 433 0 (.aload_n 0) xi0
  (cec 434 0 (.iload_n 3) xi0
  (cec 435 0 (.iconst 2) xi0
  (cec 436 0 .iadd xi0
  (cec 437 0 .iaload xi0
  (cec 438 0 (.aload_n 0) xi0
  (cec 439 0 (.iload_n 3) xi0
  (cec 440 0 (.iconst 3) xi0
  (cec 441 0 .iadd xi0
  (cec 442 0 .iaload xi0
  (cec 443 0 (.invokevirtual 37) (9, 4, 0, 10)
  (cec 446 0 .pop xi0
  (cec 447 0 (.aload_n 2) xi0
  (cec 448 0 (.aload_n 0) xi0
  (cec 449 0 (.iload_n 3) xi0
  (cec 450 0 (.iconst 1) xi0
  (cec 451 0 .iadd xi0
  (cec 452 0 .iaload xi0
  (cec 453 0 (.aload_n 0) xi0 cs_0_4)))))))))))))))))))))))))))))))))))))))))))))))
noncomputable def cs_0_2 : List CE := cec 346 0 (.aload_n 2) xi0
  (cec 347 0 (.aload_n 0) xi0
  (cec 348 0 (.iload_n 3) xi0
  (cec 349 0 (.iconst 1) xi0
  (cec 350 0 .iadd xi0
  (cec 351 0 .iaload xi0
  (cec 352 0 (.aload_n 0) xi0
  (cec 353 0 (.iload_n 3) xi0
  (cec 354 0 (.iconst 2) xi0
  (cec 355 0 .iadd xi0
  (cec 356 0 .iaload xi0
  (cec 357 0 (.invokevirtual 31) (200, 3, 0, 22)
  (cec 360 0 .pop xi0
  (cec 361 0 (.goto 1681) xi0
  (cec 364 31 (.aload_n 1) xi0
  (cec 365 0 (.aload_n 0) xi0
  (cec 366 0 (.iload_n 3) xi0
  (cec 367 0 (.iconst 1) xi0
  (cec 368 0 .iadd xi0
  (cec 369 0 .iaload xi0
  (cec 370 0 (.aload_n 0) xi0
  (cec 371 0 (.iload_n 3) xi0
  (cec 372 0 (.iconst 2) xi0
  (cec 373 0 .iadd xi0
  (cec 374 0 .iaload xi0
  (cec 375 0 (.aload_n 0) xi0
  (cec 376 0 (.iload_n 3) xi0
  (cec 377 0 (.iconst 3) xi0
  (cec 378 0 .iadd xi0
  (cec 379 0 .iaload xi0
  (cec 380 0 (.aload_n 0) xi0
  (cec 381 0 (.iload_n 3) xi0
  (cec 382 0 (.iconst 4) xi0
  (cec 383 0 .iadd xi0
  (cec 384 0 .iaload xi0
  (cec 385 0 (.aload_n 0) xi0
  (cec 386 0 (.iload_n 3) xi0
  (cec 387 0 (.iconst 5) xi0
  (cec 388 0 .iadd xi0
  (cec 389 0 .iaload xi0
  (cec 390 0 (.invokevirtual 32) (7, 6, 0, 10)
  (cec 393 0 .pop xi0
  (cec 394 0 (.aload_n 2) xi0
  (cec 395 0 (.aload_n 0) xi0
  (cec 396 0 (.iload_n 3) xi0
  (cec 397 0 (.iconst 1) xi0
  (cec 398 0 .iadd xi0
  (cec 399 0 .iaload xi0 cs_0_3)))))))))))))))))))))))))))))))))))))))))))))))
noncomputable def cs_0_1 : List CE := cec 286 0 (.aload_n 0) xi0
  (cec 287 0 (.iload_n 3) xi0
  (cec 288 0 (.iconst 1) xi0
  (cec 289 0 .iadd xi0
  (cec 290 0 .iaload xi0
  (cec 291 0 (.invokevirtual 22) (196, 2, 0, 22)
  (cec 294 0 .pop xi0
  (cec 295 0 (.goto 1747) xi0
  (cec 298 31 (.aload_n 1) xi0
  (cec 299 0 (.aload_n 0) xi0
  (cec 300 0 (.iload_n 3) xi0
  (cec 301 0 (.iconst 1) xi0
  (cec 302 0 .iadd xi0
  (cec 303 0 .iaload xi0
  (cec 304 0 (.aload_n 0) xi0
  (cec 305 0 (.iload_n 3) xi0
  (cec 306 0 (.iconst 2) xi0
  (cec 307 0 .iadd xi0
  (cec 308 0 .iaload xi0
  (cec 309 0 (.invokevirtual 23) (5, 3, 0, 10)
  (cec 312 0 .pop xi0
  (cec 313 0 (.aload_n 2) xi0
  (cec 314 0 (.aload_n 0) xi0
  (cec 315 0 (.iload_n 3) xi0
  (cec 316 0 (.iconst 1) xi0
  (cec 317 0 .iadd xi0
  (cec 318 0 .iaload xi0
  (cec 319 0 (.aload_n 0) xi0
  (cec 320 0 (.iload_n 3) xi0
  (cec 321 0 (.iconst 2) xi0
  (cec 322 0 .iadd xi0
  (cec 323 0 .iaload xi0
  (cec 324 0 (.invokevirtual 27) (198, 3, 0, 22)
  (cec 327 0 .pop xi0
  (cec 328 0 (.goto 1714) xi0
  (cec 331 31 (.aload_n 1) xi0
  (cec 332 0 (.aload_n 0) xi0
  (cec 333 0 (.iload_n 3) xi0
  (cec 334 0 (.iconst 1) xi0
  (cec 335 0 .iadd xi0
  (cec 336 0 .iaload xi0
  (cec 337 0 (.aload_n 0) xi0
  (cec 338 0 (.iload_n 3) xi0
  (cec 339 0 (.iconst 2) xi0
  (cec 340 0 .iadd xi0
  (cec 341 0 .iaload xi0
  (cec 342 0 (.invokevirtual 28) (6, 3, 0, 10)
  (cec 345 0 .pop xi0 cs_0_2)))))))))))))))))))))))))))))))))))))))))))))))
/-- SupplyBookLaw.law([I)Z -/
noncomputable def cs_0 : List CE := cec 0 0 (.new 7) (0, 14, 0, 0)
  (cec 3 0 .dup xi0
  (cec 4 0 (.invokespecial 9) (1, 1, 9, 10)
  (cec 7 0 (.astore_n 1) xi0
  (cec 8 0 (.new 10) (12, 107, 0, 0)
  (cec 11 0 .dup xi0
  (cec 12 0 (.invokespecial 12) (193, 1, 9, 22)
  (cec 15 0 (.astore_n 2) xi0
  (cec 16 0 (.iconst 0) xi0
  (cec 17 0 (.istore_n 3) xi0
  (cec 18 31 (.iload_n 3) xi0
  (cec 19 0 (.aload_n 0) xi0
  (cec 20 0 .arraylength xi0
  (cec 21 0 (.bipush 7) xi0
  (cec 23 0 .isub xi0
  (cec 24 0 (.if_icmp .gt 2024) xi0
  (cec 27 0 (.aload_n 0) xi0
  (cec 28 0 (.iload_n 3) xi0
  (cec 29 0 .iaload xi0
  (cec 30 0 (.bipush 63) xi0
  (cec 32 0 .iand xi0
  (cec 33 0 (.tableswitch 2009 0 50 #[219, 242, 265, 298, 331, 394, 437, 470, 503, 566, 609, 642, 675, 698, 741, 794, 828, 919, 952, 975, 998, 1067, 1090, 1113, 1146, 1189, 1232, 1265, 1278, 1331, 1344, 1367, 1400, 1449, 1472, 1505, 1548, 1581, 1614, 1647, 1670, 1719, 1742, 1765, 1798, 1841, 1864, 1897, 1930, 1963, 1986]) xi0
  (cec 252 31 (.aload_n 1) xi0
  (cec 253 0 (.aload_n 0) xi0
  (cec 254 0 (.iload_n 3) xi0
  (cec 255 0 (.iconst 1) xi0
  (cec 256 0 .iadd xi0
  (cec 257 0 .iaload xi0
  (cec 258 0 (.invokevirtual 13) (2, 2, 0, 10)
  (cec 261 0 .pop xi0
  (cec 262 0 (.aload_n 2) xi0
  (cec 263 0 (.aload_n 0) xi0
  (cec 264 0 (.iload_n 3) xi0
  (cec 265 0 (.iconst 1) xi0
  (cec 266 0 .iadd xi0
  (cec 267 0 .iaload xi0
  (cec 268 0 (.invokevirtual 17) (194, 2, 0, 22)
  (cec 271 0 .pop xi0
  (cec 272 0 (.goto 1770) xi0
  (cec 275 31 (.aload_n 1) xi0
  (cec 276 0 (.aload_n 0) xi0
  (cec 277 0 (.iload_n 3) xi0
  (cec 278 0 (.iconst 1) xi0
  (cec 279 0 .iadd xi0
  (cec 280 0 .iaload xi0
  (cec 281 0 (.invokevirtual 18) (4, 2, 0, 10)
  (cec 284 0 .pop xi0
  (cec 285 0 (.aload_n 2) xi0 cs_0_1)))))))))))))))))))))))))))))))))))))))))))))))
noncomputable def cs_1_1 : List CE := cec 94 0 (.putfield 60) (0, 9, 2, 0)
  (cec 97 0 (.aload_n 0) xi0
  (cec 98 0 (.new 64) (3, 10, 0, 0)
  (cec 101 0 .dup xi0
  (cec 102 0 (.invokespecial 66) (79, 1, 9, 13)
  (cec 105 0 (.putfield 67) (0, 10, 2, 0)
  (cec 108 0 (.aload_n 0) xi0
  (cec 109 0 (.new 71) (4, 9, 0, 0)
  (cec 112 0 .dup xi0
  (cec 113 0 (.invokespecial 73) (93, 1, 9, 14)
  (cec 116 0 (.putfield 74) (0, 11, 2, 0)
  (cec 119 0 (.aload_n 0) xi0
  (cec 120 0 (.new 78) (11, 11, 0, 0)
  (cec 123 0 .dup xi0
  (cec 124 0 (.invokespecial 80) (178, 1, 9, 21)
  (cec 127 0 (.putfield 81) (0, 12, 2, 0)
  (cec 130 0 (.aload_n 0) xi0
  (cec 131 0 (.new 85) (6, 12, 0, 0)
  (cec 134 0 .dup xi0
  (cec 135 0 (.invokespecial 87) (109, 1, 9, 16)
  (cec 138 0 (.putfield 88) (0, 13, 2, 0)
  (cec 141 0 .return_ xi0 [])))))))))))))))))))))
/-- SupplyBook.<init>()V -/
noncomputable def cs_1 : List CE := cec 0 0 (.aload_n 0) xi0
  (cec 1 0 (.invokespecial 1) (9999, 1, 9, 10)
  (cec 4 0 (.aload_n 0) xi0
  (cec 5 0 (.iconst 0) xi0
  (cec 6 0 (.putfield 7) xi0
  (cec 9 0 (.aload_n 0) xi0
  (cec 10 0 (.lconst 0) xi0
  (cec 11 0 (.putfield 13) (0, 1, 1, 0)
  (cec 14 0 (.aload_n 0) xi0
  (cec 15 0 (.iconst 0) xi0
  (cec 16 0 (.putfield 17) (0, 2, 0, 0)
  (cec 19 0 (.aload_n 0) xi0
  (cec 20 0 (.sipush 400) xi0
  (cec 23 0 (.newarray .byte) xi0
  (cec 25 0 (.putfield 20) (0, 3, 2, 0)
  (cec 28 0 (.aload_n 0) xi0
  (cec 29 0 (.iconst 0) xi0
  (cec 30 0 (.putfield 24) (0, 4, 0, 0)
  (cec 33 0 (.aload_n 0) xi0
  (cec 34 0 (.new 27) (7, 6, 0, 0)
  (cec 37 0 .dup xi0
  (cec 38 0 (.invokespecial 29) (123, 1, 9, 17)
  (cec 41 0 (.putfield 30) (0, 5, 2, 0)
  (cec 44 0 (.aload_n 0) xi0
  (cec 45 0 (.new 34) (8, 13, 0, 0)
  (cec 48 0 .dup xi0
  (cec 49 0 (.invokespecial 36) (134, 1, 9, 18)
  (cec 52 0 (.putfield 37) (0, 6, 2, 0)
  (cec 55 0 (.aload_n 0) xi0
  (cec 56 0 (.new 41) (9, 3, 0, 0)
  (cec 59 0 .dup xi0
  (cec 60 0 (.iconst 0) xi0
  (cec 61 0 (.newarray .byte) xi0
  (cec 63 0 (.iconst 0) xi0
  (cec 64 0 (.newarray .int) xi0
  (cec 66 0 (.iconst 0) xi0
  (cec 67 0 (.newarray .int) xi0
  (cec 69 0 (.invokespecial 43) (160, 4, 9, 19)
  (cec 72 0 (.putfield 46) (0, 7, 2, 0)
  (cec 75 0 (.aload_n 0) xi0
  (cec 76 0 (.new 50) (5, 5, 0, 0)
  (cec 79 0 .dup xi0
  (cec 80 0 (.invokespecial 52) (100, 1, 9, 15)
  (cec 83 0 (.putfield 53) (0, 8, 2, 0)
  (cec 86 0 (.aload_n 0) xi0
  (cec 87 0 (.new 57) (10, 8, 0, 0)
  (cec 90 0 .dup xi0
  (cec 91 0 (.invokespecial 59) (165, 1, 9, 20) cs_1_1)))))))))))))))))))))))))))))))))))))))))))))))
/-- SupplyBook.now(I)Z -/
noncomputable def cs_2 : List CE := cec 0 0 (.iload_n 1) xi0
  (cec 1 0 (.invokestatic 92) (3, 1, 0, 0)
  (cec 4 0 (.ifCond .eq 11) xi0
  (cec 7 0 (.iload_n 1) xi0
  (cec 8 0 (.aload_n 0) xi0
  (cec 9 0 (.getfield 7) xi0
  (cec 12 0 (.if_icmp .ge 5) xi0
  (cec 15 0 (.iconst 0) xi0
  (cec 16 0 .ireturn xi0
  (cec 17 0 (.aload_n 0) xi0
  (cec 18 0 (.iload_n 1) xi0
  (cec 19 0 (.putfield 7) xi0
  (cec 22 0 (.iconst 1) xi0
  (cec 23 0 .ireturn xi0 [])))))))))))))
/-- SupplyBook.isDay(I)Z -/
noncomputable def cs_3 : List CE := cec 0 0 (.iload_n 0) xi0
  (cec 1 0 (.ifCond .lt 14) xi0
  (cec 4 0 (.iload_n 0) xi0
  (cec 5 0 (.sipush 3600) xi0
  (cec 8 0 (.if_icmp .ge 7) xi0
  (cec 11 0 (.iconst 1) xi0
  (cec 12 0 (.goto 4) xi0
  (cec 15 0 (.iconst 0) xi0
  (cec 16 0 .ireturn xi0 []))))))))
/-- SupplyBook.head(I)I -/
noncomputable def cs_4 : List CE := cec 0 0 (.aload_n 0) xi0
  (cec 1 0 (.getfield 30) (0, 5, 2, 0)
  (cec 4 0 (.iload_n 1) xi0
  (cec 5 0 (.invokevirtual 96) (124, 2, 0, 17)
  (cec 8 0 .ireturn xi0 []))))
/-- SupplyBook.under(II)I -/
noncomputable def cs_5 : List CE := cec 0 0 (.aload_n 0) xi0
  (cec 1 0 (.getfield 30) (0, 5, 2, 0)
  (cec 4 0 (.iload_n 1) xi0
  (cec 5 0 (.invokevirtual 100) (125, 2, 0, 17)
  (cec 8 0 (.ifCond .eq 14) xi0
  (cec 11 0 (.aload_n 0) xi0
  (cec 12 0 (.getfield 30) (0, 5, 2, 0)
  (cec 15 0 (.iload_n 2) xi0
  (cec 16 0 (.invokevirtual 100) (125, 2, 0, 17)
  (cec 19 0 (.ifCond .ne 5) xi0
  (cec 22 0 (.iconst (-1)) xi0
  (cec 23 0 .ireturn xi0
  (cec 24 0 (.aload_n 0) xi0
  (cec 25 0 (.getfield 30) (0, 5, 2, 0)
  (cec 28 0 (.iload_n 1) xi0
  (cec 29 0 (.iload_n 2) xi0
  (cec 30 0 (.invokevirtual 103) (127, 3, 0, 17)
  (cec 33 0 (.ifCond .eq 7) xi0
  (cec 36 0 (.iconst 1) xi0
  (cec 37 0 (.goto 4) xi0
  (cec 40 0 (.iconst 0) xi0
  (cec 41 0 .ireturn xi0 [])))))))))))))))))))))
/-- SupplyBook.hand(II)I -/
noncomputable def cs_6 : List CE := cec 0 0 (.aload_n 0) xi0
  (cec 1 0 (.getfield 30) (0, 5, 2, 0)
  (cec 4 0 (.iload_n 1) xi0
  (cec 5 0 (.iload_n 2) xi0
  (cec 6 0 (.invokevirtual 107) (128, 3, 0, 17)
  (cec 9 0 .ireturn xi0 [])))))
/-- SupplyBook.feed(IIIII)I -/
noncomputable def cs_7 : List CE := cec 0 0 (.aload_n 0) xi0
  (cec 1 0 (.getfield 24) (0, 4, 0, 0)
  (cec 4 0 (.bipush 20) xi0
  (cec 6 0 .iadd xi0
  (cec 7 0 (.sipush 400) xi0
  (cec 10 0 (.if_icmp .le 5) xi0
  (cec 13 0 (.iconst (-1)) xi0
  (cec 14 0 .ireturn xi0
  (cec 15 0 (.aload_n 0) xi0
  (cec 16 0 (.iload_n 1) xi0
  (cec 17 0 (.invokevirtual 111) (8, 2, 9, 10)
  (cec 20 0 (.aload_n 0) xi0
  (cec 21 0 (.iload_n 2) xi0
  (cec 22 0 (.invokevirtual 111) (8, 2, 9, 10)
  (cec 25 0 (.aload_n 0) xi0
  (cec 26 0 (.iload_n 3) xi0
  (cec 27 0 (.invokevirtual 111) (8, 2, 9, 10)
  (cec 30 0 (.aload_n 0) xi0
  (cec 31 0 (.iload 4) xi0
  (cec 33 0 (.invokevirtual 111) (8, 2, 9, 10)
  (cec 36 0 (.aload_n 0) xi0
  (cec 37 0 (.iload 5) xi0
  (cec 39 0 (.invokevirtual 111) (8, 2, 9, 10)
  (cec 42 0 (.aload_n 0) xi0
  (cec 43 0 (.getfield 24) (0, 4, 0, 0)
  (cec 46 0 .ireturn xi0 [])))))))))))))))))))))))))
/-- SupplyBook.feedInt(I)V -/
noncomputable def cs_8 : List CE := cec 0 0 (.iconst 3) xi0
  (cec 1 0 (.istore_n 2) xi0
  (cec 2 15 (.iload_n 2) xi0
  (cec 3 0 (.ifCond .lt 47) xi0
  (cec 6 0 (.aload_n 0) xi0
  (cec 7 0 (.getfield 24) (0, 4, 0, 0)
  (cec 10 0 (.aload_n 0) xi0
  (cec 11 0 (.getfield 20) (0, 3, 2, 0)
  (cec 14 0 .arraylength xi0
  (cec 15 0 (.if_icmp .ge 35) xi0
  (cec 18 0 (.aload_n 0) xi0
  (cec 19 0 (.getfield 20) (0, 3, 2, 0)
  (cec 22 0 (.aload_n 0) xi0
  (cec 23 0 (.getfield 24) (0, 4, 0, 0)
  (cec 26 0 (.iload_n 1) xi0
  (cec 27 0 (.bipush 8) xi0
  (cec 29 0 (.iload_n 2) xi0
  (cec 30 0 .imul xi0
  (cec 31 0 .ishr xi0
  (cec 32 0 .i2b xi0
  (cec 33 0 .bastore xi0
  (cec 34 0 (.aload_n 0) xi0
  (cec 35 0 .dup xi0
  (cec 36 0 (.getfield 24) (0, 4, 0, 0)
  (cec 39 0 (.iconst 1) xi0
  (cec 40 0 .iadd xi0
  (cec 41 0 (.putfield 24) (0, 4, 0, 0)
  (cec 44 0 (.iinc 2 (-1)) xi0
  (cec 47 0 (.goto (-45)) xi0
  (cec 50 0 .return_ xi0 [])))))))))))))))))))))))))))))
noncomputable def cs_9_1 : List CE := cec 93 0 (.iload_n 2) xi0
  (cec 94 0 (.invokevirtual 127) (102, 4, 0, 15)
  (cec 97 0 .ireturn xi0 []))
/-- SupplyBook.law(III)I -/
noncomputable def cs_9 : List CE := cec 0 0 (.iload_n 1) xi0
  (cec 1 0 (.invokestatic 92) (3, 1, 0, 0)
  (cec 4 0 (.ifCond .eq 25) xi0
  (cec 7 0 (.iload_n 2) xi0
  (cec 8 0 (.invokestatic 92) (3, 1, 0, 0)
  (cec 11 0 (.ifCond .eq 18) xi0
  (cec 14 0 (.iload_n 1) xi0
  (cec 15 0 (.iload_n 2) xi0
  (cec 16 0 (.if_icmp .gt 13) xi0
  (cec 19 0 (.aload_n 0) xi0
  (cec 20 0 (.getfield 53) (0, 8, 2, 0)
  (cec 23 0 (.invokevirtual 115) (101, 1, 0, 15)
  (cec 26 0 (.ifCond .eq 5) xi0
  (cec 29 0 (.iconst (-1)) xi0
  (cec 30 0 .ireturn xi0
  (cec 31 0 (.iload_n 3) xi0
  (cec 32 0 (.iconst 1) xi0
  (cec 33 0 (.if_icmp .lt 18) xi0
  (cec 36 0 (.iload_n 3) xi0
  (cec 37 0 (.sipush 200) xi0
  (cec 40 0 (.if_icmp .gt 11) xi0
  (cec 43 0 (.iload_n 3) xi0
  (cec 44 0 (.aload_n 0) xi0
  (cec 45 0 (.getfield 24) (0, 4, 0, 0)
  (cec 48 0 (.if_icmp .le 5) xi0
  (cec 51 0 (.iconst (-1)) xi0
  (cec 52 0 .ireturn xi0
  (cec 53 0 (.aload_n 0) xi0
  (cec 54 0 (.getfield 37) (0, 6, 2, 0)
  (cec 57 0 (.aload_n 0) xi0
  (cec 58 0 (.getfield 20) (0, 3, 2, 0)
  (cec 61 0 (.iload_n 3) xi0
  (cec 62 0 (.iconst 1) xi0
  (cec 63 0 (.invokevirtual 119) (135, 4, 0, 18)
  (cec 66 0 (.istore 4) xi0
  (cec 68 0 (.aload_n 0) xi0
  (cec 69 0 (.iconst 0) xi0
  (cec 70 0 (.putfield 24) (0, 4, 0, 0)
  (cec 73 0 (.iload 4) xi0
  (cec 75 0 (.ifCond .eq 6) xi0
  (cec 78 0 (.iload 4) xi0
  (cec 80 0 .ireturn xi0
  (cec 81 0 (.aload_n 0) xi0
  (cec 82 0 (.getfield 53) (0, 8, 2, 0)
  (cec 85 0 (.aload_n 0) xi0
  (cec 86 0 (.getfield 37) (0, 6, 2, 0)
  (cec 89 0 (.invokevirtual 123) (154, 1, 2, 18)
  (cec 92 0 (.iload_n 1) xi0 cs_9_1)))))))))))))))))))))))))))))))))))))))))))))))
/-- SupplyBook.counts(II)I -/
noncomputable def cs_10 : List CE := cec 0 0 (.aload_n 0) xi0
  (cec 1 0 (.getfield 53) (0, 8, 2, 0)
  (cec 4 0 (.iload_n 1) xi0
  (cec 5 0 (.invokevirtual 131) (103, 2, 0, 15)
  (cec 8 0 (.ifCond .eq 10) xi0
  (cec 11 0 (.iload_n 2) xi0
  (cec 12 0 (.invokestatic 92) (3, 1, 0, 0)
  (cec 15 0 (.ifCond .ne 5) xi0
  (cec 18 0 (.iconst (-1)) xi0
  (cec 19 0 .ireturn xi0
  (cec 20 0 (.aload_n 0) xi0
  (cec 21 0 (.getfield 53) (0, 8, 2, 0)
  (cec 24 0 (.iload_n 2) xi0
  (cec 25 0 (.invokevirtual 134) (104, 2, 9, 15)
  (cec 28 0 (.aload_n 0) xi0
  (cec 29 0 (.getfield 53) (0, 8, 2, 0)
  (cec 32 0 (.iload_n 1) xi0
  (cec 33 0 (.invokevirtual 137) (107, 2, 0, 15)
  (cec 36 0 (.invokestatic 140) (320, 1, 0, 0)
  (cec 39 0 .ireturn xi0 [])))))))))))))))))))
/-- SupplyBook.number(II)I -/
noncomputable def cs_11 : List CE := cec 0 0 (.iload_n 1) xi0
  (cec 1 0 (.ifCond .lt 18) xi0
  (cec 4 0 (.iload_n 1) xi0
  (cec 5 0 (.getstatic 145) (1, 3, 0, 0)
  (cec 8 0 .arraylength xi0
  (cec 9 0 (.if_icmp .ge 10) xi0
  (cec 12 0 (.iload_n 2) xi0
  (cec 13 0 (.invokestatic 92) (3, 1, 0, 0)
  (cec 16 0 (.ifCond .ne 5) xi0
  (cec 19 0 (.iconst (-1)) xi0
  (cec 20 0 .ireturn xi0
  (cec 21 0 (.aload_n 0) xi0
  (cec 22 0 (.getfield 53) (0, 8, 2, 0)
  (cec 25 0 (.iload_n 1) xi0
  (cec 26 0 (.iload_n 2) xi0
  (cec 27 0 (.invokevirtual 149) (108, 3, 0, 15)
  (cec 30 0 .ireturn xi0 []))))))))))))))))
noncomputable def cs_12_1 : List CE := cec 98 0 (.invokevirtual 119) (135, 4, 0, 18)
  (cec 101 127 (.istore 6) xi0
  (cec 103 0 (.aload_n 0) xi0
  (cec 104 0 (.iconst 0) xi0
  (cec 105 0 (.putfield 24) (0, 4, 0, 0)
  (cec 108 0 (.iload 6) xi0
  (cec 110 0 (.ifCond .eq 6) xi0
  (cec 113 0 (.iload 6) xi0
  (cec 115 0 .ireturn xi0
  (cec 116 0 (.iload 5) xi0
  (cec 118 0 (.ifCond .ne 10) xi0
  (cec 121 0 (.aload_n 0) xi0
  (cec 122 0 (.getfield 46) (0, 7, 2, 0)
  (cec 125 0 (.goto 10) xi0
  (cec 128 0 (.aload_n 0) xi0
  (cec 129 0 (.getfield 37) (0, 6, 2, 0)
  (cec 132 0 (.invokevirtual 123) (154, 1, 2, 18)
  (cec 135 63 (.astore 7) xi0
  (cec 137 0 (.aload_n 0) xi0
  (cec 138 0 (.getfield 60) (0, 9, 2, 0)
  (cec 141 0 (.new 159) (1, 14, 0, 0)
  (cec 144 0 .dup xi0
  (cec 145 0 (.iload_n 1) xi0
  (cec 146 0 (.iload_n 2) xi0
  (cec 147 0 (.iload_n 3) xi0
  (cec 148 0 (.iload 4) xi0
  (cec 150 0 (.aload_n 0) xi0
  (cec 151 0 (.getfield 7) xi0
  (cec 154 0 (.aload 7) xi0
  (cec 156 0 (.iconst (-1)) xi0
  (cec 157 0 (.invokespecial 161) (70, 8, 9, 11)
  (cec 160 0 (.invokevirtual 164) (167, 2, 0, 20)
  (cec 163 0 .ireturn xi0 []))))))))))))))))))))))))))))))))
/-- SupplyBook.vote(IIIII)I -/
noncomputable def cs_12 : List CE := cec 0 0 (.iload_n 1) xi0
  (cec 1 0 (.ifCond .eq 15) xi0
  (cec 4 0 (.iload_n 1) xi0
  (cec 5 0 (.iconst 2) xi0
  (cec 6 0 (.if_icmp .eq 10) xi0
  (cec 9 0 (.iload_n 1) xi0
  (cec 10 0 (.iconst 3) xi0
  (cec 11 0 (.if_icmp .eq 5) xi0
  (cec 14 0 (.iconst (-1)) xi0
  (cec 15 0 .ireturn xi0
  (cec 16 127 (.aload_n 0) xi0
  (cec 17 0 (.getfield 30) (0, 5, 2, 0)
  (cec 20 0 (.iload_n 2) xi0
  (cec 21 0 (.invokevirtual 100) (125, 2, 0, 17)
  (cec 24 0 (.ifCond .eq 28) xi0
  (cec 27 0 (.iload_n 3) xi0
  (cec 28 0 (.invokestatic 152) (13, 1, 0, 0)
  (cec 31 0 (.ifCond .eq 21) xi0
  (cec 34 0 (.iload 4) xi0
  (cec 36 0 (.invokestatic 155) (14, 1, 0, 0)
  (cec 39 0 (.ifCond .eq 13) xi0
  (cec 42 0 (.aload_n 0) xi0
  (cec 43 0 (.getfield 60) (0, 9, 2, 0)
  (cec 46 0 (.invokevirtual 158) (166, 1, 0, 20)
  (cec 49 0 (.ifCond .eq 5) xi0
  (cec 52 0 (.iconst (-1)) xi0
  (cec 53 0 .ireturn xi0
  (cec 54 0 (.iload 5) xi0
  (cec 56 0 (.ifCond .lt 20) xi0
  (cec 59 0 (.iload 5) xi0
  (cec 61 0 (.sipush 200) xi0
  (cec 64 0 (.if_icmp .gt 12) xi0
  (cec 67 0 (.iload 5) xi0
  (cec 69 0 (.aload_n 0) xi0
  (cec 70 0 (.getfield 24) (0, 4, 0, 0)
  (cec 73 0 (.if_icmp .le 5) xi0
  (cec 76 0 (.iconst (-1)) xi0
  (cec 77 0 .ireturn xi0
  (cec 78 0 (.iload 5) xi0
  (cec 80 0 (.ifCond .ne 7) xi0
  (cec 83 0 (.iconst 0) xi0
  (cec 84 0 (.goto 17) xi0
  (cec 87 0 (.aload_n 0) xi0
  (cec 88 0 (.getfield 37) (0, 6, 2, 0)
  (cec 91 0 (.aload_n 0) xi0
  (cec 92 0 (.getfield 20) (0, 3, 2, 0)
  (cec 95 0 (.iload 5) xi0
  (cec 97 0 (.iconst 0) xi0 cs_12_1)))))))))))))))))))))))))))))))))))))))))))))))
/-- SupplyBook.isSum(I)Z -/
noncomputable def cs_13 : List CE := cec 0 0 (.iload_n 0) xi0
  (cec 1 0 (.ifCond .lt 14) xi0
  (cec 4 0 (.iload_n 0) xi0
  (cec 5 0 (.ldc_w 583) (0, 0, 1000000000, 0)
  (cec 8 0 (.if_icmp .gt 7) xi0
  (cec 11 0 (.iconst 1) xi0
  (cec 12 0 (.goto 4) xi0
  (cec 15 0 (.iconst 0) xi0
  (cec 16 0 .ireturn xi0 []))))))))
/-- SupplyBook.isYear(I)Z -/
noncomputable def cs_14 : List CE := cec 0 0 (.iload_n 0) xi0
  (cec 1 0 (.ifCond .lt 13) xi0
  (cec 4 0 (.iload_n 0) xi0
  (cec 5 0 (.bipush 10) xi0
  (cec 7 0 (.if_icmp .ge 7) xi0
  (cec 10 0 (.iconst 1) xi0
  (cec 11 0 (.goto 4) xi0
  (cec 14 0 (.iconst 0) xi0
  (cec 15 0 .ireturn xi0 []))))))))
/-- SupplyBook.ceiling(III)I -/
noncomputable def cs_15 : List CE := cec 0 0 (.aload_n 0) xi0
  (cec 1 0 (.getfield 60) (0, 9, 2, 0)
  (cec 4 0 (.iload_n 1) xi0
  (cec 5 0 (.invokevirtual 168) (168, 2, 2, 20)
  (cec 8 0 (.astore 4) xi0
  (cec 10 0 (.aload 4) xi0
  (cec 12 0 (.ifnull 29) xi0
  (cec 15 0 (.aload 4) xi0
  (cec 17 0 (.getfield 172) (1, 0, 0, 0)
  (cec 20 0 (.iconst 1) xi0
  (cec 21 0 (.if_icmp .eq 20) xi0
  (cec 24 0 (.iload_n 3) xi0
  (cec 25 0 (.invokestatic 152) (13, 1, 0, 0)
  (cec 28 0 (.ifCond .eq 13) xi0
  (cec 31 0 (.aload_n 0) xi0
  (cec 32 0 (.getfield 60) (0, 9, 2, 0)
  (cec 35 0 (.invokevirtual 158) (166, 1, 0, 20)
  (cec 38 0 (.ifCond .eq 5) xi0
  (cec 41 0 (.iconst (-1)) xi0
  (cec 42 0 .ireturn xi0
  (cec 43 0 (.aload_n 0) xi0
  (cec 44 0 (.getfield 30) (0, 5, 2, 0)
  (cec 47 0 (.iload_n 2) xi0
  (cec 48 0 (.aload 4) xi0
  (cec 50 0 (.getfield 175) (1, 1, 0, 0)
  (cec 53 0 (.invokevirtual 103) (127, 3, 0, 17)
  (cec 56 0 (.ifCond .ne 5) xi0
  (cec 59 0 (.iconst (-1)) xi0
  (cec 60 0 .ireturn xi0
  (cec 61 0 (.aload_n 0) xi0
  (cec 62 0 (.getfield 60) (0, 9, 2, 0)
  (cec 65 0 (.new 159) (1, 14, 0, 0)
  (cec 68 0 .dup xi0
  (cec 69 0 (.iconst 1) xi0
  (cec 70 0 (.iload_n 2) xi0
  (cec 71 0 (.iload_n 3) xi0
  (cec 72 0 (.aload 4) xi0
  (cec 74 0 (.getfield 178) (1, 3, 0, 0)
  (cec 77 0 (.aload_n 0) xi0
  (cec 78 0 (.getfield 7) xi0
  (cec 81 0 (.aload_n 0) xi0
  (cec 82 0 (.getfield 46) (0, 7, 2, 0)
  (cec 85 0 (.iload_n 1) xi0
  (cec 86 0 (.invokespecial 161) (70, 8, 9, 11)
  (cec 89 0 (.invokevirtual 164) (167, 2, 0, 20)
  (cec 92 0 .ireturn xi0 [])))))))))))))))))))))))))))))))))))))))))))))
noncomputable def cs_16_1 : List CE := cec 88 0 (.aload_n 0) xi0
  (cec 89 0 (.getfield 7) xi0
  (cec 92 0 (.aload_n 0) xi0
  (cec 93 0 (.getfield 46) (0, 7, 2, 0)
  (cec 96 0 (.iconst (-1)) xi0
  (cec 97 0 (.invokespecial 161) (70, 8, 9, 11)
  (cec 100 0 (.invokevirtual 164) (167, 2, 0, 20)
  (cec 103 0 .ireturn xi0 [])))))))
/-- SupplyBook.advance(II)I -/
noncomputable def cs_16 : List CE := cec 0 0 (.aload_n 0) xi0
  (cec 1 0 (.getfield 30) (0, 5, 2, 0)
  (cec 4 0 (.iload_n 1) xi0
  (cec 5 0 (.invokevirtual 100) (125, 2, 0, 17)
  (cec 8 0 (.ifCond .eq 20) xi0
  (cec 11 0 (.iload_n 2) xi0
  (cec 12 0 (.invokestatic 152) (13, 1, 0, 0)
  (cec 15 0 (.ifCond .eq 13) xi0
  (cec 18 0 (.aload_n 0) xi0
  (cec 19 0 (.getfield 60) (0, 9, 2, 0)
  (cec 22 0 (.invokevirtual 158) (166, 1, 0, 20)
  (cec 25 0 (.ifCond .eq 5) xi0
  (cec 28 0 (.iconst (-1)) xi0
  (cec 29 0 .ireturn xi0
  (cec 30 0 (.aload_n 0) xi0
  (cec 31 0 (.getfield 7) xi0
  (cec 34 0 (.invokestatic 181) (17, 1, 0, 0)
  (cec 37 0 (.istore_n 3) xi0
  (cec 38 0 (.aload_n 0) xi0
  (cec 39 0 (.getfield 53) (0, 8, 2, 0)
  (cec 42 0 (.iconst 3) xi0
  (cec 43 0 (.aload_n 0) xi0
  (cec 44 0 (.getfield 7) xi0
  (cec 47 0 (.invokevirtual 149) (108, 3, 0, 15)
  (cec 50 0 .i2l xi0
  (cec 51 0 (.ldc2_w 184) (0, 0, 1000, 0)
  (cec 54 0 .lmul xi0
  (cec 55 0 (.lstore 4) xi0
  (cec 57 0 (.aload_n 0) xi0
  (cec 58 0 (.getfield 60) (0, 9, 2, 0)
  (cec 61 0 (.iload_n 3) xi0
  (cec 62 0 (.invokevirtual 186) (169, 2, 1, 20)
  (cec 65 0 (.iload_n 2) xi0
  (cec 66 0 .i2l xi0
  (cec 67 0 .ladd xi0
  (cec 68 0 (.lload 4) xi0
  (cec 70 0 .lcmp xi0
  (cec 71 0 (.ifCond .le 5) xi0
  (cec 74 0 (.iconst (-1)) xi0
  (cec 75 0 .ireturn xi0
  (cec 76 0 (.aload_n 0) xi0
  (cec 77 0 (.getfield 60) (0, 9, 2, 0)
  (cec 80 0 (.new 159) (1, 14, 0, 0)
  (cec 83 0 .dup xi0
  (cec 84 0 (.iconst 4) xi0
  (cec 85 0 (.iload_n 1) xi0
  (cec 86 0 (.iload_n 2) xi0
  (cec 87 0 (.iload_n 3) xi0 cs_16_1)))))))))))))))))))))))))))))))))))))))))))))))
/-- SupplyBook.yearOf(I)I -/
noncomputable def cs_17 : List CE := cec 0 0 (.iload_n 0) xi0
  (cec 1 0 (.sipush 360) xi0
  (cec 4 0 .idiv xi0
  (cec 5 0 .ireturn xi0 [])))
noncomputable def cs_18_1 : List CE := cec 99 0 (.ifCond .eq 22) xi0
  (cec 102 0 (.aload_n 0) xi0
  (cec 103 0 (.iload_n 2) xi0
  (cec 104 0 (.aload 4) xi0
  (cec 106 0 (.iload 5) xi0
  (cec 108 0 (.invokevirtual 196) (19, 4, 1, 10)
  (cec 111 0 (.aload_n 3) xi0
  (cec 112 0 (.iload 5) xi0
  (cec 114 0 (.invokevirtual 200) (71, 2, 1, 11)
  (cec 117 0 .lcmp xi0
  (cec 118 0 (.ifCond .ge 5) xi0
  (cec 121 0 (.iconst 0) xi0
  (cec 122 0 .ireturn xi0
  (cec 123 0 (.aload 4) xi0
  (cec 125 0 (.iload 5) xi0
  (cec 127 0 (.aload_n 3) xi0
  (cec 128 0 (.iload 5) xi0
  (cec 130 0 (.invokevirtual 200) (71, 2, 1, 11)
  (cec 133 0 (.invokevirtual 203) (72, 3, 9, 11)
  (cec 136 0 (.aload_n 3) xi0
  (cec 137 0 (.iload 5) xi0
  (cec 139 0 (.aload_n 3) xi0
  (cec 140 0 (.iload 5) xi0
  (cec 142 0 (.invokevirtual 200) (71, 2, 1, 11)
  (cec 145 0 .lneg xi0
  (cec 146 0 (.invokevirtual 203) (72, 3, 9, 11)
  (cec 149 0 (.aload_n 3) xi0
  (cec 150 0 (.iload_n 2) xi0
  (cec 151 0 (.putfield 190) (1, 8, 0, 0)
  (cec 154 0 (.aload_n 3) xi0
  (cec 155 0 (.aload_n 0) xi0
  (cec 156 0 (.getfield 7) xi0
  (cec 159 0 (.putfield 207) (1, 9, 0, 0)
  (cec 162 0 (.aload_n 0) xi0
  (cec 163 0 (.getfield 67) (0, 10, 2, 0)
  (cec 166 0 (.iload_n 1) xi0
  (cec 167 0 (.iload_n 2) xi0
  (cec 168 0 (.invokevirtual 210) (81, 3, 9, 13)
  (cec 171 0 (.iconst 1) xi0
  (cec 172 0 .ireturn xi0 [])))))))))))))))))))))))))))))))))))))))
/-- SupplyBook.cover(II)Z -/
noncomputable def cs_18 : List CE := cec 0 0 (.aload_n 0) xi0
  (cec 1 0 (.getfield 60) (0, 9, 2, 0)
  (cec 4 0 (.iload_n 1) xi0
  (cec 5 0 (.invokevirtual 168) (168, 2, 2, 20)
  (cec 8 0 (.astore_n 3) xi0
  (cec 9 0 (.aload_n 0) xi0
  (cec 10 0 (.getfield 60) (0, 9, 2, 0)
  (cec 13 0 (.iload_n 2) xi0
  (cec 14 0 (.invokevirtual 168) (168, 2, 2, 20)
  (cec 17 0 (.astore 4) xi0
  (cec 19 0 (.aload_n 3) xi0
  (cec 20 0 (.ifnull 24) xi0
  (cec 23 0 (.aload 4) xi0
  (cec 25 0 (.ifnull 19) xi0
  (cec 28 0 (.aload_n 3) xi0
  (cec 29 0 (.getfield 172) (1, 0, 0, 0)
  (cec 32 0 (.iconst 4) xi0
  (cec 33 0 (.if_icmp .ne 11) xi0
  (cec 36 0 (.aload 4) xi0
  (cec 38 0 (.getfield 172) (1, 0, 0, 0)
  (cec 41 0 (.ifCond .eq 5) xi0
  (cec 44 0 (.iconst 0) xi0
  (cec 45 0 .ireturn xi0
  (cec 46 0 (.aload_n 3) xi0
  (cec 47 0 (.getfield 190) (1, 8, 0, 0)
  (cec 50 0 (.iconst (-1)) xi0
  (cec 51 0 (.if_icmp .ne 24) xi0
  (cec 54 0 (.aload 4) xi0
  (cec 56 0 (.getfield 193) (1, 7, 0, 0)
  (cec 59 0 (.iconst (-1)) xi0
  (cec 60 0 (.if_icmp .ne 15) xi0
  (cec 63 0 (.aload 4) xi0
  (cec 65 0 (.getfield 178) (1, 3, 0, 0)
  (cec 68 0 (.aload_n 3) xi0
  (cec 69 0 (.getfield 178) (1, 3, 0, 0)
  (cec 72 0 (.if_icmp .eq 5) xi0
  (cec 75 0 (.iconst 0) xi0
  (cec 76 0 .ireturn xi0
  (cec 77 0 (.aload_n 3) xi0
  (cec 78 0 (.getfield 178) (1, 3, 0, 0)
  (cec 81 0 (.istore 5) xi0
  (cec 83 0 (.aload_n 0) xi0
  (cec 84 0 (.getfield 30) (0, 5, 2, 0)
  (cec 87 0 (.aload_n 3) xi0
  (cec 88 0 (.getfield 175) (1, 1, 0, 0)
  (cec 91 0 (.aload 4) xi0
  (cec 93 0 (.getfield 175) (1, 1, 0, 0)
  (cec 96 0 (.invokevirtual 103) (127, 3, 0, 17) cs_18_1)))))))))))))))))))))))))))))))))))))))))))))))
/-- SupplyBook.leftOf(ILSupplyBook$Authority;I)J -/
noncomputable def cs_19 : List CE := cec 0 0 (.aload_n 2) xi0
  (cec 1 0 (.getfield 172) (1, 0, 0, 0)
  (cec 4 0 (.iconst 1) xi0
  (cec 5 0 (.if_icmp .ne 16) xi0
  (cec 8 0 (.aload_n 2) xi0
  (cec 9 0 (.getfield 217) (1, 2, 0, 0)
  (cec 12 0 .i2l xi0
  (cec 13 0 (.aload_n 0) xi0
  (cec 14 0 (.aload_n 2) xi0
  (cec 15 0 (.iload_n 3) xi0
  (cec 16 0 (.invokevirtual 244) (20, 3, 1, 10)
  (cec 19 0 .lsub xi0
  (cec 20 0 .lreturn xi0
  (cec 21 0 (.aload_n 2) xi0
  (cec 22 0 (.getfield 190) (1, 8, 0, 0)
  (cec 25 0 (.iconst (-1)) xi0
  (cec 26 0 (.if_icmp .eq 5) xi0
  (cec 29 0 (.lconst 0) xi0
  (cec 30 0 .lreturn xi0
  (cec 31 0 (.aload_n 2) xi0
  (cec 32 0 (.getfield 225) (1, 11, 1, 0)
  (cec 35 0 (.aload_n 2) xi0
  (cec 36 0 (.getfield 222) (1, 12, 1, 0)
  (cec 39 0 .lsub xi0
  (cec 40 0 (.lstore 4) xi0
  (cec 42 0 (.aload_n 2) xi0
  (cec 43 0 (.getfield 217) (1, 2, 0, 0)
  (cec 46 0 .i2l xi0
  (cec 47 0 (.lload 4) xi0
  (cec 49 0 .ladd xi0
  (cec 50 0 (.aload_n 2) xi0
  (cec 51 0 (.iload_n 3) xi0
  (cec 52 0 (.invokevirtual 200) (71, 2, 1, 11)
  (cec 55 0 .lsub xi0
  (cec 56 0 (.aload_n 0) xi0
  (cec 57 0 (.getfield 60) (0, 9, 2, 0)
  (cec 60 0 (.iload_n 1) xi0
  (cec 61 0 (.iload_n 3) xi0
  (cec 62 0 (.invokevirtual 248) (170, 3, 1, 20)
  (cec 65 0 .lsub xi0
  (cec 66 0 .lreturn xi0 []))))))))))))))))))))))))))))))))))))))))
/-- SupplyBook.paidUnderCeiling(LSupplyBook$Authority;I)J -/
noncomputable def cs_20 : List CE := cec 0 0 (.lconst 0) xi0
  (cec 1 0 (.lstore_n 3) xi0
  (cec 2 0 (.iconst 0) xi0
  (cec 3 0 (.istore 5) xi0
  (cec 5 95 (.iload 5) xi0
  (cec 7 0 (.aload_n 0) xi0
  (cec 8 0 (.getfield 67) (0, 10, 2, 0)
  (cec 11 0 (.getfield 252) (3, 1, 0, 0)
  (cec 14 0 (.if_icmp .ge 74) xi0
  (cec 17 0 (.aload_n 0) xi0
  (cec 18 0 (.getfield 67) (0, 10, 2, 0)
  (cec 21 0 (.iload 5) xi0
  (cec 23 0 (.invokevirtual 255) (80, 2, 2, 13)
  (cec 26 0 (.astore 6) xi0
  (cec 28 0 (.aload 6) xi0
  (cec 30 0 (.ifnull 52) xi0
  (cec 33 0 (.aload 6) xi0
  (cec 35 0 (.getfield 258) (2, 9, 0, 0)
  (cec 38 0 (.aload_n 1) xi0
  (cec 39 0 (.getfield 263) (1, 6, 0, 0)
  (cec 42 0 (.if_icmp .ne 40) xi0
  (cec 45 0 (.aload 6) xi0
  (cec 47 0 (.iload_n 2) xi0
  (cec 48 0 (.invokevirtual 266) (75, 2, 0, 12)
  (cec 51 0 (.ifCond .eq 31) xi0
  (cec 54 0 (.aload_n 0) xi0
  (cec 55 0 (.getfield 30) (0, 5, 2, 0)
  (cec 58 0 (.aload 6) xi0
  (cec 60 0 (.getfield 269) (2, 1, 0, 0)
  (cec 63 0 (.aload_n 1) xi0
  (cec 64 0 (.getfield 175) (1, 1, 0, 0)
  (cec 67 0 (.invokevirtual 103) (127, 3, 0, 17)
  (cec 70 0 (.ifCond .eq 12) xi0
  (cec 73 0 (.lload_n 3) xi0
  (cec 74 0 (.aload 6) xi0
  (cec 76 0 (.getfield 270) (2, 3, 0, 0)
  (cec 79 0 .i2l xi0
  (cec 80 0 .ladd xi0
  (cec 81 0 (.lstore_n 3) xi0
  (cec 82 0 (.iinc 5 1) xi0
  (cec 85 0 (.goto (-80)) xi0
  (cec 88 0 (.lload_n 3) xi0
  (cec 89 0 .lreturn xi0 []))))))))))))))))))))))))))))))))))))))))))
/-- SupplyBook.strike(I)Z -/
noncomputable def cs_21 : List CE := cec 0 0 (.aload_n 0) xi0
  (cec 1 0 (.getfield 60) (0, 9, 2, 0)
  (cec 4 0 (.iload_n 1) xi0
  (cec 5 0 (.invokevirtual 168) (168, 2, 2, 20)
  (cec 8 0 (.astore_n 2) xi0
  (cec 9 0 (.aload_n 2) xi0
  (cec 10 0 (.ifnull 11) xi0
  (cec 13 0 (.aload_n 2) xi0
  (cec 14 0 (.getfield 193) (1, 7, 0, 0)
  (cec 17 0 (.iconst (-1)) xi0
  (cec 18 0 (.if_icmp .eq 5) xi0
  (cec 21 0 (.iconst 0) xi0
  (cec 22 0 .ireturn xi0
  (cec 23 0 (.aload_n 2) xi0
  (cec 24 0 (.aload_n 0) xi0
  (cec 25 0 (.getfield 7) xi0
  (cec 28 0 (.putfield 193) (1, 7, 0, 0)
  (cec 31 0 (.iconst 1) xi0
  (cec 32 0 .ireturn xi0 []))))))))))))))))))
noncomputable def cs_22_1 : List CE := cec 96 0 (.aload_n 0) xi0
  (cec 97 0 (.getfield 53) (0, 8, 2, 0)
  (cec 100 0 (.iconst 0) xi0
  (cec 101 0 (.aload_n 0) xi0
  (cec 102 0 (.getfield 7) xi0
  (cec 105 0 (.invokevirtual 149) (108, 3, 0, 15)
  (cec 108 0 .i2l xi0
  (cec 109 0 .lmul xi0
  (cec 110 0 (.ldc2_w 220) (0, 0, 100, 0)
  (cec 113 0 .ldiv xi0
  (cec 114 0 (.lstore 7) xi0
  (cec 116 0 (.aload 4) xi0
  (cec 118 0 (.getfield 222) (1, 12, 1, 0)
  (cec 121 0 (.iload_n 3) xi0
  (cec 122 0 .i2l xi0
  (cec 123 0 .ladd xi0
  (cec 124 0 (.lload 7) xi0
  (cec 126 0 .lcmp xi0
  (cec 127 0 (.ifCond .le 5) xi0
  (cec 130 0 (.iconst 0) xi0
  (cec 131 0 .ireturn xi0
  (cec 132 0 (.aload 4) xi0
  (cec 134 0 .dup xi0
  (cec 135 0 (.getfield 222) (1, 12, 1, 0)
  (cec 138 0 (.iload_n 3) xi0
  (cec 139 0 .i2l xi0
  (cec 140 0 .ladd xi0
  (cec 141 0 (.putfield 222) (1, 12, 1, 0)
  (cec 144 0 (.aload 5) xi0
  (cec 146 0 .dup xi0
  (cec 147 0 (.getfield 225) (1, 11, 1, 0)
  (cec 150 0 (.iload_n 3) xi0
  (cec 151 0 .i2l xi0
  (cec 152 0 .ladd xi0
  (cec 153 0 (.putfield 225) (1, 11, 1, 0)
  (cec 156 0 (.iconst 1) xi0
  (cec 157 0 .ireturn xi0 []))))))))))))))))))))))))))))))))))))
/-- SupplyBook.move(III)Z -/
noncomputable def cs_22 : List CE := cec 0 0 (.aload_n 0) xi0
  (cec 1 0 (.getfield 60) (0, 9, 2, 0)
  (cec 4 0 (.iload_n 1) xi0
  (cec 5 0 (.invokevirtual 168) (168, 2, 2, 20)
  (cec 8 0 (.astore 4) xi0
  (cec 10 0 (.aload_n 0) xi0
  (cec 11 0 (.getfield 60) (0, 9, 2, 0)
  (cec 14 0 (.iload_n 2) xi0
  (cec 15 0 (.invokevirtual 168) (168, 2, 2, 20)
  (cec 18 0 (.astore 5) xi0
  (cec 20 0 (.aload 4) xi0
  (cec 22 0 (.ifnull 20) xi0
  (cec 25 0 (.aload 5) xi0
  (cec 27 0 (.ifnull 15) xi0
  (cec 30 0 (.iload_n 1) xi0
  (cec 31 0 (.iload_n 2) xi0
  (cec 32 0 (.if_icmp .eq 10) xi0
  (cec 35 0 (.iload_n 3) xi0
  (cec 36 0 (.invokestatic 152) (13, 1, 0, 0)
  (cec 39 0 (.ifCond .ne 5) xi0
  (cec 42 0 (.iconst 0) xi0
  (cec 43 0 .ireturn xi0
  (cec 44 0 (.aload_n 0) xi0
  (cec 45 0 (.getfield 7) xi0
  (cec 48 0 (.invokestatic 181) (17, 1, 0, 0)
  (cec 51 0 (.istore 6) xi0
  (cec 53 0 (.aload 4) xi0
  (cec 55 0 (.iload 6) xi0
  (cec 57 0 (.invokevirtual 214) (73, 2, 0, 11)
  (cec 60 0 (.ifCond .eq 28) xi0
  (cec 63 0 (.aload 5) xi0
  (cec 65 0 (.iload 6) xi0
  (cec 67 0 (.invokevirtual 214) (73, 2, 0, 11)
  (cec 70 0 (.ifCond .eq 18) xi0
  (cec 73 0 (.aload_n 0) xi0
  (cec 74 0 (.iload_n 1) xi0
  (cec 75 0 (.aload 4) xi0
  (cec 77 0 (.iload 6) xi0
  (cec 79 0 (.invokevirtual 196) (19, 4, 1, 10)
  (cec 82 0 (.iload_n 3) xi0
  (cec 83 0 .i2l xi0
  (cec 84 0 .lcmp xi0
  (cec 85 0 (.ifCond .ge 5) xi0
  (cec 88 0 (.iconst 0) xi0
  (cec 89 0 .ireturn xi0
  (cec 90 0 (.aload 4) xi0
  (cec 92 0 (.getfield 217) (1, 2, 0, 0)
  (cec 95 0 .i2l xi0 cs_22_1)))))))))))))))))))))))))))))))))))))))))))))))
noncomputable def cs_23_1 : List CE := cec 100 0 .lcmp xi0
  (cec 101 0 (.ifCond .ge 5) xi0
  (cec 104 0 (.iconst (-1)) xi0
  (cec 105 0 .ireturn xi0
  (cec 106 0 (.iinc 6 1) xi0
  (cec 109 0 (.goto (-41)) xi0
  (cec 112 0 (.aload_n 0) xi0
  (cec 113 0 (.getfield 60) (0, 9, 2, 0)
  (cec 116 0 (.iload_n 1) xi0
  (cec 117 0 (.iload_n 2) xi0
  (cec 118 0 (.iload_n 3) xi0
  (cec 119 0 (.iload 4) xi0
  (cec 121 0 (.invokevirtual 238) (175, 5, 0, 20)
  (cec 124 0 .ireturn xi0 [])))))))))))))
/-- SupplyBook.commit(IIII)I -/
noncomputable def cs_23 : List CE := cec 0 0 (.aload_n 0) xi0
  (cec 1 0 (.getfield 60) (0, 9, 2, 0)
  (cec 4 0 (.iload_n 1) xi0
  (cec 5 0 (.invokevirtual 168) (168, 2, 2, 20)
  (cec 8 0 (.astore 5) xi0
  (cec 10 0 (.aload 5) xi0
  (cec 12 0 (.ifnull 21) xi0
  (cec 15 0 (.aload 5) xi0
  (cec 17 0 (.invokevirtual 228) (74, 1, 0, 11)
  (cec 20 0 (.ifCond .eq 13) xi0
  (cec 23 0 (.aload_n 0) xi0
  (cec 24 0 (.getfield 60) (0, 9, 2, 0)
  (cec 27 0 (.invokevirtual 231) (173, 1, 0, 20)
  (cec 30 0 (.ifCond .eq 5) xi0
  (cec 33 0 (.iconst (-1)) xi0
  (cec 34 0 .ireturn xi0
  (cec 35 0 (.iload_n 2) xi0
  (cec 36 0 (.invokestatic 152) (13, 1, 0, 0)
  (cec 39 0 (.ifCond .eq 24) xi0
  (cec 42 0 (.iload_n 3) xi0
  (cec 43 0 (.invokestatic 155) (14, 1, 0, 0)
  (cec 46 0 (.ifCond .eq 17) xi0
  (cec 49 0 (.iload 4) xi0
  (cec 51 0 (.invokestatic 155) (14, 1, 0, 0)
  (cec 54 0 (.ifCond .eq 9) xi0
  (cec 57 0 (.iload_n 3) xi0
  (cec 58 0 (.iload 4) xi0
  (cec 60 0 (.if_icmp .le 5) xi0
  (cec 63 0 (.iconst (-1)) xi0
  (cec 64 0 .ireturn xi0
  (cec 65 0 (.iload_n 3) xi0
  (cec 66 0 (.istore 6) xi0
  (cec 68 255 (.iload 6) xi0
  (cec 70 0 (.iload 4) xi0
  (cec 72 0 (.if_icmp .gt 40) xi0
  (cec 75 0 (.aload_n 0) xi0
  (cec 76 0 (.getfield 60) (0, 9, 2, 0)
  (cec 79 0 (.aload 5) xi0
  (cec 81 0 (.iload 6) xi0
  (cec 83 0 (.invokevirtual 234) (174, 3, 0, 20)
  (cec 86 0 (.ifCond .eq 18) xi0
  (cec 89 0 (.aload_n 0) xi0
  (cec 90 0 (.iload_n 1) xi0
  (cec 91 0 (.aload 5) xi0
  (cec 93 0 (.iload 6) xi0
  (cec 95 0 (.invokevirtual 196) (19, 4, 1, 10)
  (cec 98 0 (.iload_n 2) xi0
  (cec 99 0 .i2l xi0 cs_23_1)))))))))))))))))))))))))))))))))))))))))))))))
/-- SupplyBook.left(II)J -/
noncomputable def cs_24 : List CE := cec 0 0 (.aload_n 0) xi0
  (cec 1 0 (.getfield 60) (0, 9, 2, 0)
  (cec 4 0 (.iload_n 1) xi0
  (cec 5 0 (.invokevirtual 168) (168, 2, 2, 20)
  (cec 8 0 (.astore_n 3) xi0
  (cec 9 0 (.aload_n 3) xi0
  (cec 10 0 (.ifnull 22) xi0
  (cec 13 0 (.iload_n 2) xi0
  (cec 14 0 (.invokestatic 155) (14, 1, 0, 0)
  (cec 17 0 (.ifCond .eq 15) xi0
  (cec 20 0 (.aload_n 0) xi0
  (cec 21 0 (.getfield 60) (0, 9, 2, 0)
  (cec 24 0 (.aload_n 3) xi0
  (cec 25 0 (.iload_n 2) xi0
  (cec 26 0 (.invokevirtual 234) (174, 3, 0, 20)
  (cec 29 0 (.ifCond .ne 7) xi0
  (cec 32 0 (.ldc2_w 242) (0, 0, (-1000000000000), 0)
  (cec 35 0 .lreturn xi0
  (cec 36 0 (.aload_n 0) xi0
  (cec 37 0 (.iload_n 1) xi0
  (cec 38 0 (.aload_n 3) xi0
  (cec 39 0 (.iload_n 2) xi0
  (cec 40 0 (.invokevirtual 196) (19, 4, 1, 10)
  (cec 43 0 .lreturn xi0 [])))))))))))))))))))))))
noncomputable def cs_25_1 : List CE := cec 93 0 (.iload 6) xi0
  (cec 95 0 (.invokespecial 280) (77, 7, 9, 12)
  (cec 98 0 (.invokevirtual 283) (82, 2, 0, 13)
  (cec 101 0 .ireturn xi0 [])))
/-- SupplyBook.claim(IIIIIZ)I -/
noncomputable def cs_25 : List CE := cec 0 0 (.aload_n 0) xi0
  (cec 1 0 (.getfield 30) (0, 5, 2, 0)
  (cec 4 0 (.iload_n 1) xi0
  (cec 5 0 (.invokevirtual 271) (129, 2, 0, 17)
  (cec 8 0 (.ifCond .eq 22) xi0
  (cec 11 0 (.aload_n 0) xi0
  (cec 12 0 (.getfield 30) (0, 5, 2, 0)
  (cec 15 0 (.iload_n 2) xi0
  (cec 16 0 (.aload_n 0) xi0
  (cec 17 0 (.getfield 30) (0, 5, 2, 0)
  (cec 20 0 (.iload_n 1) xi0
  (cec 21 0 (.invokevirtual 274) (130, 2, 0, 17)
  (cec 24 0 (.invokevirtual 103) (127, 3, 0, 17)
  (cec 27 0 (.ifCond .ne 5) xi0
  (cec 30 0 (.iconst (-1)) xi0
  (cec 31 0 .ireturn xi0
  (cec 32 0 (.iload_n 3) xi0
  (cec 33 0 (.ifCond .lt 23) xi0
  (cec 36 0 (.iload_n 3) xi0
  (cec 37 0 (.bipush 9) xi0
  (cec 39 0 (.if_icmp .gt 17) xi0
  (cec 42 0 (.iload 4) xi0
  (cec 44 0 (.invokestatic 152) (13, 1, 0, 0)
  (cec 47 0 (.ifCond .eq 9) xi0
  (cec 50 0 (.iload 4) xi0
  (cec 52 0 (.iconst 1) xi0
  (cec 53 0 (.if_icmp .ge 5) xi0
  (cec 56 0 (.iconst (-1)) xi0
  (cec 57 0 .ireturn xi0
  (cec 58 0 (.iload 5) xi0
  (cec 60 0 (.iconst (-1)) xi0
  (cec 61 0 (.if_icmp .eq 17) xi0
  (cec 64 0 (.aload_n 0) xi0
  (cec 65 0 (.getfield 60) (0, 9, 2, 0)
  (cec 68 0 (.iload 5) xi0
  (cec 70 0 (.invokevirtual 277) (172, 2, 0, 20)
  (cec 73 0 (.ifCond .ne 5) xi0
  (cec 76 0 (.iconst (-1)) xi0
  (cec 77 0 .ireturn xi0
  (cec 78 0 (.aload_n 0) xi0
  (cec 79 0 (.getfield 67) (0, 10, 2, 0)
  (cec 82 0 (.new 259) (2, 15, 0, 0)
  (cec 85 0 .dup xi0
  (cec 86 0 (.iload_n 1) xi0
  (cec 87 0 (.iload_n 2) xi0
  (cec 88 0 (.iload_n 3) xi0
  (cec 89 0 (.iload 4) xi0
  (cec 91 0 (.iload 5) xi0 cs_25_1)))))))))))))))))))))))))))))))))))))))))))))))
noncomputable def cs_26_1 : List CE := cec 88 0 (.iconst 1) xi0
  (cec 89 0 .ireturn xi0 [])
/-- SupplyBook.sign(II)Z -/
noncomputable def cs_26 : List CE := cec 0 0 (.aload_n 0) xi0
  (cec 1 0 (.getfield 67) (0, 10, 2, 0)
  (cec 4 0 (.iload_n 1) xi0
  (cec 5 0 (.invokevirtual 255) (80, 2, 2, 13)
  (cec 8 0 (.astore_n 3) xi0
  (cec 9 0 (.aload_n 3) xi0
  (cec 10 0 (.ifnull 29) xi0
  (cec 13 0 (.aload_n 3) xi0
  (cec 14 0 (.invokevirtual 287) (76, 1, 0, 12)
  (cec 17 0 (.ifCond .ne 22) xi0
  (cec 20 0 (.aload_n 0) xi0
  (cec 21 0 (.getfield 30) (0, 5, 2, 0)
  (cec 24 0 (.iload_n 2) xi0
  (cec 25 0 (.invokevirtual 271) (129, 2, 0, 17)
  (cec 28 0 (.ifCond .eq 11) xi0
  (cec 31 0 (.aload_n 3) xi0
  (cec 32 0 (.getfield 290) (2, 0, 0, 0)
  (cec 35 0 (.iload_n 2) xi0
  (cec 36 0 (.if_icmp .ne 5) xi0
  (cec 39 0 (.iconst 0) xi0
  (cec 40 0 .ireturn xi0
  (cec 41 0 (.aload_n 3) xi0
  (cec 42 0 (.getfield 293) (2, 6, 0, 0)
  (cec 45 0 (.iload_n 2) xi0
  (cec 46 0 .ishr xi0
  (cec 47 0 (.iconst 1) xi0
  (cec 48 0 .iand xi0
  (cec 49 0 (.ifCond .ne 25) xi0
  (cec 52 0 (.aload_n 0) xi0
  (cec 53 0 (.getfield 30) (0, 5, 2, 0)
  (cec 56 0 (.aload_n 3) xi0
  (cec 57 0 (.getfield 269) (2, 1, 0, 0)
  (cec 60 0 (.aload_n 0) xi0
  (cec 61 0 (.getfield 30) (0, 5, 2, 0)
  (cec 64 0 (.iload_n 2) xi0
  (cec 65 0 (.invokevirtual 274) (130, 2, 0, 17)
  (cec 68 0 (.invokevirtual 103) (127, 3, 0, 17)
  (cec 71 0 (.ifCond .ne 5) xi0
  (cec 74 0 (.iconst 0) xi0
  (cec 75 0 .ireturn xi0
  (cec 76 0 (.aload_n 3) xi0
  (cec 77 0 .dup xi0
  (cec 78 0 (.getfield 293) (2, 6, 0, 0)
  (cec 81 0 (.iconst 1) xi0
  (cec 82 0 (.iload_n 2) xi0
  (cec 83 0 .ishl xi0
  (cec 84 0 .ior xi0
  (cec 85 0 (.putfield 293) (2, 6, 0, 0) cs_26_1)))))))))))))))))))))))))))))))))))))))))))))))
/-- SupplyBook.may(I)I -/
noncomputable def cs_27 : List CE := cec 0 0 (.aload_n 0) xi0
  (cec 1 0 (.getfield 67) (0, 10, 2, 0)
  (cec 4 0 (.iload_n 1) xi0
  (cec 5 0 (.invokevirtual 255) (80, 2, 2, 13)
  (cec 8 0 (.astore_n 2) xi0
  (cec 9 0 (.aload_n 2) xi0
  (cec 10 0 (.ifnull 10) xi0
  (cec 13 0 (.aload_n 2) xi0
  (cec 14 0 (.invokevirtual 287) (76, 1, 0, 12)
  (cec 17 0 (.ifCond .eq 5) xi0
  (cec 20 0 (.iconst (-1)) xi0
  (cec 21 0 .ireturn xi0
  (cec 22 0 (.aload_n 0) xi0
  (cec 23 0 (.aload_n 2) xi0
  (cec 24 0 (.invokevirtual 296) (28, 2, 0, 10)
  (cec 27 0 .ireturn xi0 [])))))))))))))))
noncomputable def cs_28_1 : List CE := cec 85 0 (.getfield 323) (10, 1, 0, 0)
  (cec 88 0 (.if_icmp .ge 67) xi0
  (cec 91 0 (.aload_n 0) xi0
  (cec 92 0 (.getfield 60) (0, 9, 2, 0)
  (cec 95 0 (.iload 4) xi0
  (cec 97 0 (.invokevirtual 168) (168, 2, 2, 20)
  (cec 100 0 (.astore 5) xi0
  (cec 102 0 (.aload 5) xi0
  (cec 104 0 (.ifnull 45) xi0
  (cec 107 0 (.aload 5) xi0
  (cec 109 0 (.getfield 172) (1, 0, 0, 0)
  (cec 112 0 (.getstatic 320) (1, 2, 0, 0)
  (cec 115 0 (.iload_n 3) xi0
  (cec 116 0 .iaload xi0
  (cec 117 0 (.if_icmp .eq 6) xi0
  (cec 120 0 (.goto 29) xi0
  (cec 123 0 (.aload_n 0) xi0
  (cec 124 0 (.aload_n 1) xi0
  (cec 125 0 (.iload 4) xi0
  (cec 127 0 (.aload 5) xi0
  (cec 129 0 (.invokevirtual 316) (30, 4, 0, 10)
  (cec 132 0 (.istore 6) xi0
  (cec 134 0 (.iload 6) xi0
  (cec 136 0 (.ifCond .ne 6) xi0
  (cec 139 0 (.iload 4) xi0
  (cec 141 0 .ireturn xi0
  (cec 142 0 (.iload_n 2) xi0
  (cec 143 0 (.iload 6) xi0
  (cec 145 0 (.invokestatic 324) (9990, 2, 0, 0)
  (cec 148 0 (.istore_n 2) xi0
  (cec 149 0 (.iinc 4 1) xi0
  (cec 152 0 (.goto (-73)) xi0
  (cec 155 0 (.iinc 3 1) xi0
  (cec 158 0 (.goto (-90)) xi0
  (cec 161 0 (.bipush (-10)) xi0
  (cec 163 0 (.iload_n 2) xi0
  (cec 164 0 .isub xi0
  (cec 165 0 .ireturn xi0 [])))))))))))))))))))))))))))))))))))))
/-- SupplyBook.whoLets(LSupplyBook$Claim;)I -/
noncomputable def cs_28 : List CE := cec 0 0 (.aload_n 0) xi0
  (cec 1 0 (.getfield 53) (0, 8, 2, 0)
  (cec 4 0 (.aload_n 0) xi0
  (cec 5 0 (.getfield 7) xi0
  (cec 8 0 (.invokevirtual 134) (104, 2, 9, 15)
  (cec 11 0 (.aload_n 0) xi0
  (cec 12 0 (.aload_n 1) xi0
  (cec 13 0 (.invokevirtual 309) (29, 2, 9, 10)
  (cec 16 0 (.aload_n 1) xi0
  (cec 17 0 (.getfield 299) (2, 4, 0, 0)
  (cec 20 0 (.iconst (-1)) xi0
  (cec 21 0 (.if_icmp .eq 43) xi0
  (cec 24 0 (.aload_n 0) xi0
  (cec 25 0 (.getfield 60) (0, 9, 2, 0)
  (cec 28 0 (.aload_n 1) xi0
  (cec 29 0 (.getfield 299) (2, 4, 0, 0)
  (cec 32 0 (.invokevirtual 313) (176, 2, 0, 20)
  (cec 35 0 (.istore_n 2) xi0
  (cec 36 0 (.aload_n 0) xi0
  (cec 37 0 (.aload_n 1) xi0
  (cec 38 0 (.iload_n 2) xi0
  (cec 39 0 (.aload_n 0) xi0
  (cec 40 0 (.getfield 60) (0, 9, 2, 0)
  (cec 43 0 (.iload_n 2) xi0
  (cec 44 0 (.invokevirtual 168) (168, 2, 2, 20)
  (cec 47 0 (.invokevirtual 316) (30, 4, 0, 10)
  (cec 50 0 (.istore_n 3) xi0
  (cec 51 0 (.iload_n 3) xi0
  (cec 52 0 (.ifCond .ne 7) xi0
  (cec 55 0 (.iload_n 2) xi0
  (cec 56 0 (.goto 7) xi0
  (cec 59 0 (.bipush (-10)) xi0
  (cec 61 0 (.iload_n 3) xi0
  (cec 62 0 .isub xi0
  (cec 63 0 .ireturn xi0
  (cec 64 0 (.iconst 1) xi0
  (cec 65 0 (.istore_n 2) xi0
  (cec 66 0 (.iconst 0) xi0
  (cec 67 0 (.istore_n 3) xi0
  (cec 68 31 (.iload_n 3) xi0
  (cec 69 0 (.getstatic 320) (1, 2, 0, 0)
  (cec 72 0 .arraylength xi0
  (cec 73 0 (.if_icmp .ge 88) xi0
  (cec 76 0 (.iconst 0) xi0
  (cec 77 0 (.istore 4) xi0
  (cec 79 63 (.iload 4) xi0
  (cec 81 0 (.aload_n 0) xi0
  (cec 82 0 (.getfield 60) (0, 9, 2, 0) cs_28_1)))))))))))))))))))))))))))))))))))))))))))))))
/-- SupplyBook.tellReader(LSupplyBook$Claim;)V -/
noncomputable def cs_29 : List CE := cec 0 0 (.aload_n 0) xi0
  (cec 1 0 (.getfield 37) (0, 6, 2, 0)
  (cec 4 0 (.aload_n 1) xi0
  (cec 5 0 (.aload_n 0) xi0
  (cec 6 0 (.getfield 30) (0, 5, 2, 0)
  (cec 9 0 (.aload_n 1) xi0
  (cec 10 0 (.getfield 269) (2, 1, 0, 0)
  (cec 13 0 (.invokevirtual 329) (126, 2, 1, 17)
  (cec 16 0 (.aload_n 0) xi0
  (cec 17 0 (.getfield 30) (0, 5, 2, 0)
  (cec 20 0 (.aload_n 1) xi0
  (cec 21 0 (.getfield 293) (2, 6, 0, 0)
  (cec 24 0 (.invokevirtual 332) (131, 2, 0, 17)
  (cec 27 0 (.invokevirtual 335) (155, 4, 9, 18)
  (cec 30 0 (.aload_n 0) xi0
  (cec 31 0 (.getfield 37) (0, 6, 2, 0)
  (cec 34 0 (.aload_n 0) xi0
  (cec 35 0 (.getfield 7) xi0
  (cec 38 0 (.sipush 360) xi0
  (cec 41 0 .irem xi0
  (cec 42 0 (.aload_n 0) xi0
  (cec 43 0 (.getfield 67) (0, 10, 2, 0)
  (cec 46 0 (.aload_n 1) xi0
  (cec 47 0 (.getfield 290) (2, 0, 0, 0)
  (cec 50 0 (.aload_n 0) xi0
  (cec 51 0 (.getfield 7) xi0
  (cec 54 0 (.invokestatic 181) (17, 1, 0, 0)
  (cec 57 0 (.invokevirtual 339) (83, 3, 0, 13)
  (cec 60 0 (.invokevirtual 342) (156, 3, 9, 18)
  (cec 63 0 .return_ xi0 [])))))))))))))))))))))))))))))
noncomputable def cs_30_2 : List CE := cec 190 0 (.invokevirtual 137) (107, 2, 0, 15)
  (cec 193 0 (.invokevirtual 359) (158, 3, 0, 18)
  (cec 196 0 (.istore 9) xi0
  (cec 198 0 (.iinc 10 1) xi0
  (cec 201 0 (.goto (-47)) xi0
  (cec 204 0 (.iload 9) xi0
  (cec 206 0 .ireturn xi0 []))))))
noncomputable def cs_30_1 : List CE := cec 95 0 (.iload 4) xi0
  (cec 97 0 (.invokevirtual 345) (171, 3, 1, 20)
  (cec 100 127 (.lstore 7) xi0
  (cec 102 0 (.lload 7) xi0
  (cec 104 0 (.aload_n 1) xi0
  (cec 105 0 (.getfield 270) (2, 3, 0, 0)
  (cec 108 0 .i2l xi0
  (cec 109 0 .lcmp xi0
  (cec 110 0 (.ifCond .ge 5) xi0
  (cec 113 0 (.iconst 3) xi0
  (cec 114 0 .ireturn xi0
  (cec 115 0 (.aload_n 0) xi0
  (cec 116 0 (.aload_n 1) xi0
  (cec 117 0 (.iload_n 2) xi0
  (cec 118 0 (.iload 4) xi0
  (cec 120 0 (.invokevirtual 348) (31, 4, 0, 10)
  (cec 123 0 (.ifCond .eq 5) xi0
  (cec 126 0 (.iconst 4) xi0
  (cec 127 0 .ireturn xi0
  (cec 128 0 (.aload_n 0) xi0
  (cec 129 0 (.getfield 37) (0, 6, 2, 0)
  (cec 132 0 (.lload 5) xi0
  (cec 134 0 (.invokevirtual 352) (157, 2, 9, 18)
  (cec 137 0 (.aload_n 0) xi0
  (cec 138 0 (.getfield 37) (0, 6, 2, 0)
  (cec 141 0 (.aload_n 3) xi0
  (cec 142 0 (.getfield 356) (1, 5, 2, 0)
  (cec 145 0 (.iconst (-1)) xi0
  (cec 146 0 (.invokevirtual 359) (158, 3, 0, 18)
  (cec 149 0 (.istore 9) xi0
  (cec 151 0 (.iconst 0) xi0
  (cec 152 0 (.istore 10) xi0
  (cec 154 3075 (.iload 10) xi0
  (cec 156 0 (.aload_n 0) xi0
  (cec 157 0 (.getfield 53) (0, 8, 2, 0)
  (cec 160 0 (.getfield 363) (5, 4, 0, 0)
  (cec 163 0 (.if_icmp .ge 41) xi0
  (cec 166 0 (.iload 9) xi0
  (cec 168 0 (.ifCond .ne 36) xi0
  (cec 171 0 (.aload_n 0) xi0
  (cec 172 0 (.getfield 37) (0, 6, 2, 0)
  (cec 175 0 (.aload_n 0) xi0
  (cec 176 0 (.getfield 53) (0, 8, 2, 0)
  (cec 179 0 (.iload 10) xi0
  (cec 181 0 (.invokevirtual 364) (106, 2, 2, 15)
  (cec 184 0 (.aload_n 0) xi0
  (cec 185 0 (.getfield 53) (0, 8, 2, 0)
  (cec 188 0 (.iload 10) xi0 cs_30_2)))))))))))))))))))))))))))))))))))))))))))))))
/-- SupplyBook.barOf(LSupplyBook$Claim;ILSupplyBook$Authority;)I -/
noncomputable def cs_30 : List CE := cec 0 0 (.aload_n 0) xi0
  (cec 1 0 (.getfield 7) xi0
  (cec 4 0 (.invokestatic 181) (17, 1, 0, 0)
  (cec 7 0 (.istore 4) xi0
  (cec 9 0 (.aload_n 3) xi0
  (cec 10 0 (.ifnull 34) xi0
  (cec 13 0 (.aload_n 0) xi0
  (cec 14 0 (.getfield 30) (0, 5, 2, 0)
  (cec 17 0 (.aload_n 1) xi0
  (cec 18 0 (.getfield 269) (2, 1, 0, 0)
  (cec 21 0 (.aload_n 3) xi0
  (cec 22 0 (.getfield 175) (1, 1, 0, 0)
  (cec 25 0 (.invokevirtual 103) (127, 3, 0, 17)
  (cec 28 0 (.ifCond .eq 16) xi0
  (cec 31 0 (.aload_n 0) xi0
  (cec 32 0 (.getfield 60) (0, 9, 2, 0)
  (cec 35 0 (.aload_n 3) xi0
  (cec 36 0 (.iload 4) xi0
  (cec 38 0 (.invokevirtual 234) (174, 3, 0, 20)
  (cec 41 0 (.ifCond .ne 5) xi0
  (cec 44 0 (.iconst 1) xi0
  (cec 45 0 .ireturn xi0
  (cec 46 0 (.aload_n 3) xi0
  (cec 47 0 (.getfield 193) (1, 7, 0, 0)
  (cec 50 0 (.iconst (-1)) xi0
  (cec 51 0 (.if_icmp .ne 11) xi0
  (cec 54 0 (.aload_n 3) xi0
  (cec 55 0 (.getfield 190) (1, 8, 0, 0)
  (cec 58 0 (.iconst (-1)) xi0
  (cec 59 0 (.if_icmp .eq 5) xi0
  (cec 62 0 (.iconst 2) xi0
  (cec 63 0 .ireturn xi0
  (cec 64 0 (.aload_n 0) xi0
  (cec 65 0 (.iload_n 2) xi0
  (cec 66 0 (.aload_n 3) xi0
  (cec 67 0 (.iload 4) xi0
  (cec 69 0 (.invokevirtual 196) (19, 4, 1, 10)
  (cec 72 0 (.lstore 5) xi0
  (cec 74 0 (.aload_n 1) xi0
  (cec 75 0 (.getfield 299) (2, 4, 0, 0)
  (cec 78 0 (.iconst (-1)) xi0
  (cec 79 0 (.if_icmp .ne 8) xi0
  (cec 82 0 (.lload 5) xi0
  (cec 84 0 (.goto 16) xi0
  (cec 87 0 (.aload_n 0) xi0
  (cec 88 0 (.getfield 60) (0, 9, 2, 0)
  (cec 91 0 (.aload_n 1) xi0
  (cec 92 0 (.getfield 299) (2, 4, 0, 0) cs_30_1)))))))))))))))))))))))))))))))))))))))))))))))
noncomputable def cs_31_1 : List CE := cec 103 0 (.iconst 0) xi0
  (cec 104 0 .ireturn xi0 [])
/-- SupplyBook.isOverCeiling(LSupplyBook$Claim;II)Z -/
noncomputable def cs_31 : List CE := cec 0 0 (.iconst 0) xi0
  (cec 1 0 (.istore 4) xi0
  (cec 3 63 (.iload 4) xi0
  (cec 5 0 (.aload_n 0) xi0
  (cec 6 0 (.getfield 60) (0, 9, 2, 0)
  (cec 9 0 (.getfield 323) (10, 1, 0, 0)
  (cec 12 0 (.if_icmp .ge 91) xi0
  (cec 15 0 (.aload_n 0) xi0
  (cec 16 0 (.getfield 60) (0, 9, 2, 0)
  (cec 19 0 (.iload 4) xi0
  (cec 21 0 (.invokevirtual 168) (168, 2, 2, 20)
  (cec 24 0 (.astore 5) xi0
  (cec 26 0 (.aload 5) xi0
  (cec 28 0 (.ifnull 69) xi0
  (cec 31 0 (.aload 5) xi0
  (cec 33 0 (.getfield 172) (1, 0, 0, 0)
  (cec 36 0 (.iconst 1) xi0
  (cec 37 0 (.if_icmp .ne 60) xi0
  (cec 40 0 (.aload 5) xi0
  (cec 42 0 (.getfield 263) (1, 6, 0, 0)
  (cec 45 0 (.iload_n 2) xi0
  (cec 46 0 (.if_icmp .ne 51) xi0
  (cec 49 0 (.aload 5) xi0
  (cec 51 0 (.getfield 193) (1, 7, 0, 0)
  (cec 54 0 (.iconst (-1)) xi0
  (cec 55 0 (.if_icmp .ne 42) xi0
  (cec 58 0 (.aload_n 0) xi0
  (cec 59 0 (.getfield 30) (0, 5, 2, 0)
  (cec 62 0 (.aload_n 1) xi0
  (cec 63 0 (.getfield 269) (2, 1, 0, 0)
  (cec 66 0 (.aload 5) xi0
  (cec 68 0 (.getfield 175) (1, 1, 0, 0)
  (cec 71 0 (.invokevirtual 103) (127, 3, 0, 17)
  (cec 74 0 (.ifCond .eq 23) xi0
  (cec 77 0 (.aload_n 0) xi0
  (cec 78 0 (.iload 4) xi0
  (cec 80 0 (.aload 5) xi0
  (cec 82 0 (.iload_n 3) xi0
  (cec 83 0 (.invokevirtual 196) (19, 4, 1, 10)
  (cec 86 0 (.aload_n 1) xi0
  (cec 87 0 (.getfield 270) (2, 3, 0, 0)
  (cec 90 0 .i2l xi0
  (cec 91 0 .lcmp xi0
  (cec 92 0 (.ifCond .ge 5) xi0
  (cec 95 0 (.iconst 1) xi0
  (cec 96 0 .ireturn xi0
  (cec 97 0 (.iinc 4 1) xi0
  (cec 100 0 (.goto (-97)) xi0 cs_31_1)))))))))))))))))))))))))))))))))))))))))))))))
noncomputable def cs_32_1 : List CE := cec 88 0 .i2l xi0
  (cec 89 0 (.invokevirtual 203) (72, 3, 9, 11)
  (cec 92 0 (.aload_n 0) xi0
  (cec 93 0 (.getfield 60) (0, 9, 2, 0)
  (cec 96 0 (.aload_n 2) xi0
  (cec 97 0 (.getfield 299) (2, 4, 0, 0)
  (cec 100 0 (.aload_n 0) xi0
  (cec 101 0 (.getfield 7) xi0
  (cec 104 0 (.invokestatic 181) (17, 1, 0, 0)
  (cec 107 0 (.aload_n 2) xi0
  (cec 108 0 (.getfield 270) (2, 3, 0, 0)
  (cec 111 0 (.invokevirtual 302) (177, 4, 9, 20)
  (cec 114 0 (.aload_n 0) xi0
  (cec 115 0 (.getfield 67) (0, 10, 2, 0)
  (cec 118 0 (.iload_n 1) xi0
  (cec 119 0 (.iload_n 3) xi0
  (cec 120 0 (.aload_n 0) xi0
  (cec 121 0 (.getfield 7) xi0
  (cec 124 0 (.invokevirtual 306) (84, 4, 9, 13)
  (cec 127 0 (.iload_n 3) xi0
  (cec 128 0 .ireturn xi0 []))))))))))))))))))))
/-- SupplyBook.pay(I)I -/
noncomputable def cs_32 : List CE := cec 0 0 (.aload_n 0) xi0
  (cec 1 0 (.getfield 67) (0, 10, 2, 0)
  (cec 4 0 (.iload_n 1) xi0
  (cec 5 0 (.invokevirtual 255) (80, 2, 2, 13)
  (cec 8 0 (.astore_n 2) xi0
  (cec 9 0 (.aload_n 2) xi0
  (cec 10 0 (.ifnull 10) xi0
  (cec 13 0 (.aload_n 2) xi0
  (cec 14 0 (.invokevirtual 287) (76, 1, 0, 12)
  (cec 17 0 (.ifCond .eq 5) xi0
  (cec 20 0 (.iconst (-1)) xi0
  (cec 21 0 .ireturn xi0
  (cec 22 0 (.aload_n 0) xi0
  (cec 23 0 (.aload_n 2) xi0
  (cec 24 0 (.invokevirtual 296) (28, 2, 0, 10)
  (cec 27 0 (.istore_n 3) xi0
  (cec 28 0 (.aload_n 0) xi0
  (cec 29 0 (.getfield 60) (0, 9, 2, 0)
  (cec 32 0 (.iload_n 3) xi0
  (cec 33 0 (.invokevirtual 168) (168, 2, 2, 20)
  (cec 36 0 (.astore 4) xi0
  (cec 38 0 (.aload 4) xi0
  (cec 40 0 (.ifnonnull 5) xi0
  (cec 43 0 (.iload_n 3) xi0
  (cec 44 0 .ireturn xi0
  (cec 45 0 (.aload_n 0) xi0
  (cec 46 0 (.getfield 13) (0, 1, 1, 0)
  (cec 49 0 (.aload_n 2) xi0
  (cec 50 0 (.getfield 270) (2, 3, 0, 0)
  (cec 53 0 .i2l xi0
  (cec 54 0 .lcmp xi0
  (cec 55 0 (.ifCond .ge 6) xi0
  (cec 58 0 (.bipush (-9)) xi0
  (cec 60 0 .ireturn xi0
  (cec 61 0 (.aload_n 0) xi0
  (cec 62 0 .dup xi0
  (cec 63 0 (.getfield 13) (0, 1, 1, 0)
  (cec 66 0 (.aload_n 2) xi0
  (cec 67 0 (.getfield 270) (2, 3, 0, 0)
  (cec 70 0 .i2l xi0
  (cec 71 0 .lsub xi0
  (cec 72 0 (.putfield 13) (0, 1, 1, 0)
  (cec 75 0 (.aload 4) xi0
  (cec 77 0 (.aload_n 0) xi0
  (cec 78 0 (.getfield 7) xi0
  (cec 81 0 (.invokestatic 181) (17, 1, 0, 0)
  (cec 84 0 (.aload_n 2) xi0
  (cec 85 0 (.getfield 270) (2, 3, 0, 0) cs_32_1)))))))))))))))))))))))))))))))))))))))))))))))
/-- SupplyBook.ask(IIIZ)I -/
noncomputable def cs_33 : List CE := cec 0 0 (.aload_n 0) xi0
  (cec 1 0 (.getfield 30) (0, 5, 2, 0)
  (cec 4 0 (.iload_n 1) xi0
  (cec 5 0 (.invokevirtual 100) (125, 2, 0, 17)
  (cec 8 0 (.ifCond .eq 21) xi0
  (cec 11 0 (.iload_n 2) xi0
  (cec 12 0 (.invokestatic 152) (13, 1, 0, 0)
  (cec 15 0 (.ifCond .eq 14) xi0
  (cec 18 0 (.iload_n 3) xi0
  (cec 19 0 (.ifCond .lt 10) xi0
  (cec 22 0 (.iload_n 3) xi0
  (cec 23 0 (.ldc_w 368) (0, 0, 1000000, 0)
  (cec 26 0 (.if_icmp .le 5) xi0
  (cec 29 0 (.iconst (-1)) xi0
  (cec 30 0 .ireturn xi0
  (cec 31 0 (.aload_n 0) xi0
  (cec 32 0 (.getfield 74) (0, 11, 2, 0)
  (cec 35 0 (.iload_n 2) xi0
  (cec 36 0 (.iload_n 3) xi0
  (cec 37 0 (.iload 4) xi0
  (cec 39 0 (.invokevirtual 369) (94, 4, 0, 14)
  (cec 42 0 .ireturn xi0 [])))))))))))))))))))))
/-- SupplyBook.cut(I)I -/
noncomputable def cs_34 : List CE := cec 0 0 (.iload_n 1) xi0
  (cec 1 0 (.invokestatic 152) (13, 1, 0, 0)
  (cec 4 0 (.ifCond .eq 14) xi0
  (cec 7 0 (.aload_n 0) xi0
  (cec 8 0 (.getfield 74) (0, 11, 2, 0)
  (cec 11 0 (.iload_n 1) xi0
  (cec 12 0 (.invokevirtual 373) (95, 2, 0, 14)
  (cec 15 0 (.goto 4) xi0
  (cec 18 0 (.iconst (-1)) xi0
  (cec 19 0 .ireturn xi0 [])))))))))
/-- SupplyBook.more(I)J -/
noncomputable def cs_35 : List CE := cec 0 0 (.iload_n 1) xi0
  (cec 1 0 (.invokestatic 152) (13, 1, 0, 0)
  (cec 4 0 (.ifCond .eq 14) xi0
  (cec 7 0 (.aload_n 0) xi0
  (cec 8 0 (.getfield 74) (0, 11, 2, 0)
  (cec 11 0 (.iload_n 1) xi0
  (cec 12 0 (.invokevirtual 376) (98, 2, 1, 14)
  (cec 15 0 (.goto 6) xi0
  (cec 18 0 (.ldc2_w 379) (0, 0, (-1), 0)
  (cec 21 0 .lreturn xi0 [])))))))))
/-- SupplyBook.comes(II)Z -/
noncomputable def cs_36 : List CE := cec 0 0 (.iload_n 1) xi0
  (cec 1 0 (.invokestatic 381) (37, 1, 0, 0)
  (cec 4 0 (.ifCond .eq 26) xi0
  (cec 7 0 (.iload_n 2) xi0
  (cec 8 0 (.invokestatic 152) (13, 1, 0, 0)
  (cec 11 0 (.ifCond .eq 19) xi0
  (cec 14 0 (.aload_n 0) xi0
  (cec 15 0 (.getfield 81) (0, 12, 2, 0)
  (cec 18 0 (.iload_n 1) xi0
  (cec 19 0 (.aload_n 0) xi0
  (cec 20 0 (.getfield 7) xi0
  (cec 23 0 (.iload_n 2) xi0
  (cec 24 0 (.invokevirtual 384) (179, 4, 0, 21)
  (cec 27 0 (.ifCond .ne 5) xi0
  (cec 30 0 (.iconst 0) xi0
  (cec 31 0 .ireturn xi0
  (cec 32 0 (.aload_n 0) xi0
  (cec 33 0 .dup xi0
  (cec 34 0 (.getfield 13) (0, 1, 1, 0)
  (cec 37 0 (.iload_n 2) xi0
  (cec 38 0 .i2l xi0
  (cec 39 0 .ladd xi0
  (cec 40 0 (.putfield 13) (0, 1, 1, 0)
  (cec 43 0 (.iconst 1) xi0
  (cec 44 0 .ireturn xi0 []))))))))))))))))))))))))
/-- SupplyBook.isTax(I)Z -/
noncomputable def cs_37 : List CE := cec 0 0 (.iload_n 0) xi0
  (cec 1 0 (.ifCond .lt 13) xi0
  (cec 4 0 (.iload_n 0) xi0
  (cec 5 0 (.bipush 6) xi0
  (cec 7 0 (.if_icmp .ge 7) xi0
  (cec 10 0 (.iconst 1) xi0
  (cec 11 0 (.goto 4) xi0
  (cec 14 0 (.iconst 0) xi0
  (cec 15 0 .ireturn xi0 []))))))))
/-- SupplyBook.weekOf(I)I -/
noncomputable def cs_38 : List CE := cec 0 0 (.iload_n 0) xi0
  (cec 1 0 (.sipush 360) xi0
  (cec 4 0 .irem xi0
  (cec 5 0 (.bipush 7) xi0
  (cec 7 0 .idiv xi0
  (cec 8 0 .ireturn xi0 [])))))
/-- SupplyBook.came(III)J -/
noncomputable def cs_39 : List CE := cec 0 0 (.iload_n 1) xi0
  (cec 1 0 (.invokestatic 381) (37, 1, 0, 0)
  (cec 4 0 (.ifCond .eq 17) xi0
  (cec 7 0 (.iload_n 2) xi0
  (cec 8 0 (.invokestatic 155) (14, 1, 0, 0)
  (cec 11 0 (.ifCond .eq 10) xi0
  (cec 14 0 (.iload_n 3) xi0
  (cec 15 0 (.invokestatic 388) (40, 1, 0, 0)
  (cec 18 0 (.ifCond .ne 7) xi0
  (cec 21 0 (.ldc2_w 379) (0, 0, (-1), 0)
  (cec 24 0 .lreturn xi0
  (cec 25 0 (.aload_n 0) xi0
  (cec 26 0 (.getfield 81) (0, 12, 2, 0)
  (cec 29 0 (.iload_n 1) xi0
  (cec 30 0 (.iload_n 2) xi0
  (cec 31 0 (.iload_n 3) xi0
  (cec 32 0 (.invokevirtual 391) (181, 4, 1, 21)
  (cec 35 0 .lreturn xi0 [])))))))))))))))))
/-- SupplyBook.isWeek(I)Z -/
noncomputable def cs_40 : List CE := cec 0 0 (.iload_n 0) xi0
  (cec 1 0 (.ifCond .lt 13) xi0
  (cec 4 0 (.iload_n 0) xi0
  (cec 5 0 (.bipush 52) xi0
  (cec 7 0 (.if_icmp .ge 7) xi0
  (cec 10 0 (.iconst 1) xi0
  (cec 11 0 (.goto 4) xi0
  (cec 14 0 (.iconst 0) xi0
  (cec 15 0 .ireturn xi0 []))))))))
/-- SupplyBook.foretold(III)J -/
noncomputable def cs_41 : List CE := cec 0 0 (.iload_n 1) xi0
  (cec 1 0 (.invokestatic 381) (37, 1, 0, 0)
  (cec 4 0 (.ifCond .eq 30) xi0
  (cec 7 0 (.iload_n 2) xi0
  (cec 8 0 (.invokestatic 388) (40, 1, 0, 0)
  (cec 11 0 (.ifCond .eq 23) xi0
  (cec 14 0 (.iload_n 3) xi0
  (cec 15 0 (.ifCond .lt 19) xi0
  (cec 18 0 (.iload_n 3) xi0
  (cec 19 0 (.iconst 2) xi0
  (cec 20 0 (.if_icmp .gt 14) xi0
  (cec 23 0 (.iload_n 2) xi0
  (cec 24 0 (.aload_n 0) xi0
  (cec 25 0 (.getfield 7) xi0
  (cec 28 0 (.invokestatic 395) (38, 1, 0, 0)
  (cec 31 0 (.if_icmp .gt 7) xi0
  (cec 34 0 (.ldc2_w 379) (0, 0, (-1), 0)
  (cec 37 0 .lreturn xi0
  (cec 38 0 (.aload_n 0) xi0
  (cec 39 0 (.getfield 81) (0, 12, 2, 0)
  (cec 42 0 (.iload_n 1) xi0
  (cec 43 0 (.iload_n 2) xi0
  (cec 44 0 (.iload_n 3) xi0
  (cec 45 0 (.aload_n 0) xi0
  (cec 46 0 (.getfield 7) xi0
  (cec 49 0 (.invokevirtual 398) (182, 5, 1, 21)
  (cec 52 0 .lreturn xi0 []))))))))))))))))))))))))))
/-- SupplyBook.due(II)Z -/
noncomputable def cs_42 : List CE := cec 0 0 (.iload_n 1) xi0
  (cec 1 0 (.invokestatic 388) (40, 1, 0, 0)
  (cec 4 0 (.ifCond .eq 10) xi0
  (cec 7 0 (.iload_n 2) xi0
  (cec 8 0 (.invokestatic 152) (13, 1, 0, 0)
  (cec 11 0 (.ifCond .ne 5) xi0
  (cec 14 0 (.iconst 0) xi0
  (cec 15 0 .ireturn xi0
  (cec 16 0 (.aload_n 0) xi0
  (cec 17 0 (.getfield 81) (0, 12, 2, 0)
  (cec 20 0 (.aload_n 0) xi0
  (cec 21 0 (.getfield 7) xi0
  (cec 24 0 (.invokestatic 181) (17, 1, 0, 0)
  (cec 27 0 (.iload_n 1) xi0
  (cec 28 0 (.iload_n 2) xi0
  (cec 29 0 (.invokevirtual 402) (183, 4, 9, 21)
  (cec 32 0 (.iconst 1) xi0
  (cec 33 0 .ireturn xi0 [])))))))))))))))))
/-- SupplyBook.shortWeek()I -/
noncomputable def cs_43 : List CE := cec 0 0 (.aload_n 0) xi0
  (cec 1 0 (.getfield 81) (0, 12, 2, 0)
  (cec 4 0 (.aload_n 0) xi0
  (cec 5 0 (.getfield 13) (0, 1, 1, 0)
  (cec 8 0 (.aload_n 0) xi0
  (cec 9 0 (.getfield 7) xi0
  (cec 12 0 (.invokevirtual 405) (184, 3, 9, 21)
  (cec 15 0 (.aload_n 0) xi0
  (cec 16 0 (.getfield 81) (0, 12, 2, 0)
  (cec 19 0 (.iconst 0) xi0
  (cec 20 0 (.aload_n 0) xi0
  (cec 21 0 (.getfield 7) xi0
  (cec 24 0 (.invokevirtual 409) (186, 3, 0, 21)
  (cec 27 0 .ireturn xi0 [])))))))))))))
/-- SupplyBook.offer(IIII)I -/
noncomputable def cs_44 : List CE := cec 0 0 (.iload_n 1) xi0
  (cec 1 0 (.invokestatic 152) (13, 1, 0, 0)
  (cec 4 0 (.ifCond .eq 29) xi0
  (cec 7 0 (.iload_n 2) xi0
  (cec 8 0 (.invokestatic 388) (40, 1, 0, 0)
  (cec 11 0 (.ifCond .eq 22) xi0
  (cec 14 0 (.iload_n 3) xi0
  (cec 15 0 (.iconst 1) xi0
  (cec 16 0 (.if_icmp .lt 17) xi0
  (cec 19 0 (.iload_n 3) xi0
  (cec 20 0 (.bipush 52) xi0
  (cec 22 0 (.if_icmp .ge 11) xi0
  (cec 25 0 (.iload 4) xi0
  (cec 27 0 (.invokestatic 152) (13, 1, 0, 0)
  (cec 30 0 (.ifCond .ne 5) xi0
  (cec 33 0 (.iconst (-1)) xi0
  (cec 34 0 .ireturn xi0
  (cec 35 0 (.aload_n 0) xi0
  (cec 36 0 (.getfield 81) (0, 12, 2, 0)
  (cec 39 0 (.iload_n 1) xi0
  (cec 40 0 (.iload_n 2) xi0
  (cec 41 0 (.iload_n 3) xi0
  (cec 42 0 (.iload 4) xi0
  (cec 44 0 (.invokevirtual 412) (188, 5, 0, 21)
  (cec 47 0 .ireturn xi0 []))))))))))))))))))))))))
/-- SupplyBook.plan()I -/
noncomputable def cs_45 : List CE := cec 0 0 (.aload_n 0) xi0
  (cec 1 0 (.getfield 81) (0, 12, 2, 0)
  (cec 4 0 (.aload_n 0) xi0
  (cec 5 0 (.getfield 13) (0, 1, 1, 0)
  (cec 8 0 (.aload_n 0) xi0
  (cec 9 0 (.getfield 7) xi0
  (cec 12 0 (.invokevirtual 405) (184, 3, 9, 21)
  (cec 15 0 (.aload_n 0) xi0
  (cec 16 0 (.getfield 81) (0, 12, 2, 0)
  (cec 19 0 (.aload_n 0) xi0
  (cec 20 0 (.getfield 7) xi0
  (cec 23 0 (.invokevirtual 415) (189, 2, 0, 21)
  (cec 26 0 .ireturn xi0 []))))))))))))
/-- SupplyBook.judge(I)J -/
noncomputable def cs_46 : List CE := cec 0 0 (.aload_n 0) xi0
  (cec 1 0 (.getfield 81) (0, 12, 2, 0)
  (cec 4 0 (.iload_n 1) xi0
  (cec 5 0 (.invokevirtual 418) (191, 2, 0, 21)
  (cec 8 0 (.ifCond .ne 7) xi0
  (cec 11 0 (.ldc2_w 379) (0, 0, (-1), 0)
  (cec 14 0 .lreturn xi0
  (cec 15 0 (.aload_n 0) xi0
  (cec 16 0 (.getfield 81) (0, 12, 2, 0)
  (cec 19 0 (.aload_n 0) xi0
  (cec 20 0 (.getfield 13) (0, 1, 1, 0)
  (cec 23 0 (.aload_n 0) xi0
  (cec 24 0 (.getfield 7) xi0
  (cec 27 0 (.invokevirtual 405) (184, 3, 9, 21)
  (cec 30 0 (.aload_n 0) xi0
  (cec 31 0 (.getfield 81) (0, 12, 2, 0)
  (cec 34 0 (.iload_n 1) xi0
  (cec 35 0 (.aload_n 0) xi0
  (cec 36 0 (.getfield 7) xi0
  (cec 39 0 (.invokevirtual 409) (186, 3, 0, 21)
  (cec 42 0 (.istore_n 2) xi0
  (cec 43 0 (.iload_n 2) xi0
  (cec 44 0 (.iconst (-1)) xi0
  (cec 45 0 (.if_icmp .ne 14) xi0
  (cec 48 0 (.aload_n 0) xi0
  (cec 49 0 (.getfield 81) (0, 12, 2, 0)
  (cec 52 0 (.iload_n 1) xi0
  (cec 53 0 (.invokevirtual 421) (190, 2, 1, 21)
  (cec 56 0 (.goto 9) xi0
  (cec 59 0 (.ldc2_w 424) (0, 0, (-2), 0)
  (cec 62 0 (.iload_n 2) xi0
  (cec 63 0 .i2l xi0
  (cec 64 0 .lsub xi0
  (cec 65 0 .lreturn xi0 [])))))))))))))))))))))))))))))))))
/-- SupplyBook.bid(II)I -/
noncomputable def cs_47 : List CE := cec 0 0 (.iload_n 1) xi0
  (cec 1 0 (.invokestatic 152) (13, 1, 0, 0)
  (cec 4 0 (.ifCond .eq 19) xi0
  (cec 7 0 (.iload_n 1) xi0
  (cec 8 0 (.iconst 1) xi0
  (cec 9 0 (.if_icmp .lt 14) xi0
  (cec 12 0 (.iload_n 2) xi0
  (cec 13 0 (.ifCond .lt 10) xi0
  (cec 16 0 (.iload_n 2) xi0
  (cec 17 0 (.sipush 9999) xi0
  (cec 20 0 (.if_icmp .le 5) xi0
  (cec 23 0 (.iconst (-1)) xi0
  (cec 24 0 .ireturn xi0
  (cec 25 0 (.aload_n 0) xi0
  (cec 26 0 (.getfield 88) (0, 13, 2, 0)
  (cec 29 0 (.iload_n 1) xi0
  (cec 30 0 (.iload_n 2) xi0
  (cec 31 0 (.invokevirtual 426) (110, 3, 0, 16)
  (cec 34 0 .ireturn xi0 []))))))))))))))))))
noncomputable def cs_48_1 : List CE := cec 88 0 (.invokevirtual 439) (115, 3, 0, 16)
  (cec 91 0 .ireturn xi0 [])
/-- SupplyBook.tender(IZ)I -/
noncomputable def cs_48 : List CE := cec 0 0 (.iload_n 1) xi0
  (cec 1 0 (.invokestatic 152) (13, 1, 0, 0)
  (cec 4 0 (.ifCond .eq 8) xi0
  (cec 7 0 (.iload_n 1) xi0
  (cec 8 0 (.iconst 1) xi0
  (cec 9 0 (.if_icmp .ge 5) xi0
  (cec 12 0 (.iconst (-1)) xi0
  (cec 13 0 .ireturn xi0
  (cec 14 0 (.aload_n 0) xi0
  (cec 15 0 (.getfield 88) (0, 13, 2, 0)
  (cec 18 0 (.iload_n 1) xi0
  (cec 19 0 (.invokevirtual 429) (111, 2, 1, 16)
  (cec 22 0 (.lstore_n 3) xi0
  (cec 23 0 (.aload_n 0) xi0
  (cec 24 0 (.getfield 53) (0, 8, 2, 0)
  (cec 27 0 (.iconst 2) xi0
  (cec 28 0 (.aload_n 0) xi0
  (cec 29 0 (.getfield 7) xi0
  (cec 32 0 (.invokevirtual 149) (108, 3, 0, 15)
  (cec 35 0 .i2l xi0
  (cec 36 0 (.ldc2_w 184) (0, 0, 1000, 0)
  (cec 39 0 .lmul xi0
  (cec 40 0 (.lstore 5) xi0
  (cec 42 0 (.aload_n 0) xi0
  (cec 43 0 (.getfield 88) (0, 13, 2, 0)
  (cec 46 0 (.invokevirtual 432) (113, 1, 1, 16)
  (cec 49 0 (.lload_n 3) xi0
  (cec 50 0 .ladd xi0
  (cec 51 0 (.lload 5) xi0
  (cec 53 0 .lcmp xi0
  (cec 54 0 (.ifCond .gt 13) xi0
  (cec 57 0 (.aload_n 0) xi0
  (cec 58 0 (.getfield 88) (0, 13, 2, 0)
  (cec 61 0 (.invokevirtual 436) (114, 1, 0, 16)
  (cec 64 0 (.ifCond .eq 5) xi0
  (cec 67 0 (.iconst (-1)) xi0
  (cec 68 0 .ireturn xi0
  (cec 69 0 (.aload_n 0) xi0
  (cec 70 0 .dup xi0
  (cec 71 0 (.getfield 13) (0, 1, 1, 0)
  (cec 74 0 (.lload_n 3) xi0
  (cec 75 0 .ladd xi0
  (cec 76 0 (.putfield 13) (0, 1, 1, 0)
  (cec 79 0 (.aload_n 0) xi0
  (cec 80 0 (.getfield 88) (0, 13, 2, 0)
  (cec 83 0 (.aload_n 0) xi0
  (cec 84 0 (.getfield 7) xi0
  (cec 87 0 (.iload_n 2) xi0 cs_48_1)))))))))))))))))))))))))))))))))))))))))))))))
noncomputable def cs_49_1 : List CE := cec 87 0 (.iconst 1) xi0
  (cec 88 0 .ireturn xi0 [])
/-- SupplyBook.repay(I)Z -/
noncomputable def cs_49 : List CE := cec 0 0 (.aload_n 0) xi0
  (cec 1 0 (.getfield 88) (0, 13, 2, 0)
  (cec 4 0 (.iload_n 1) xi0
  (cec 5 0 (.invokevirtual 443) (116, 2, 0, 16)
  (cec 8 0 (.ifCond .eq 15) xi0
  (cec 11 0 (.aload_n 0) xi0
  (cec 12 0 (.getfield 88) (0, 13, 2, 0)
  (cec 15 0 (.iload_n 1) xi0
  (cec 16 0 (.invokevirtual 446) (117, 2, 0, 16)
  (cec 19 0 (.iconst (-1)) xi0
  (cec 20 0 (.if_icmp .eq 5) xi0
  (cec 23 0 (.iconst 0) xi0
  (cec 24 0 .ireturn xi0
  (cec 25 0 (.aload_n 0) xi0
  (cec 26 0 (.getfield 88) (0, 13, 2, 0)
  (cec 29 0 (.iload_n 1) xi0
  (cec 30 0 (.aload_n 0) xi0
  (cec 31 0 (.getfield 7) xi0
  (cec 34 0 (.invokevirtual 449) (118, 3, 1, 16)
  (cec 37 0 (.lstore_n 2) xi0
  (cec 38 0 (.aload_n 0) xi0
  (cec 39 0 (.getfield 88) (0, 13, 2, 0)
  (cec 42 0 (.iload_n 1) xi0
  (cec 43 0 (.invokevirtual 452) (119, 2, 0, 16)
  (cec 46 0 .i2l xi0
  (cec 47 0 (.lload_n 2) xi0
  (cec 48 0 .ladd xi0
  (cec 49 0 (.lstore 4) xi0
  (cec 51 0 (.aload_n 0) xi0
  (cec 52 0 (.getfield 13) (0, 1, 1, 0)
  (cec 55 0 (.lload 4) xi0
  (cec 57 0 .lcmp xi0
  (cec 58 0 (.ifCond .ge 5) xi0
  (cec 61 0 (.iconst 0) xi0
  (cec 62 0 .ireturn xi0
  (cec 63 0 (.aload_n 0) xi0
  (cec 64 0 .dup xi0
  (cec 65 0 (.getfield 13) (0, 1, 1, 0)
  (cec 68 0 (.lload 4) xi0
  (cec 70 0 .lsub xi0
  (cec 71 0 (.putfield 13) (0, 1, 1, 0)
  (cec 74 0 (.aload_n 0) xi0
  (cec 75 0 (.getfield 88) (0, 13, 2, 0)
  (cec 78 0 (.iload_n 1) xi0
  (cec 79 0 (.aload_n 0) xi0
  (cec 80 0 (.getfield 7) xi0
  (cec 83 0 (.lload_n 2) xi0
  (cec 84 0 (.invokevirtual 455) (120, 4, 9, 16) cs_49_1)))))))))))))))))))))))))))))))))))))))))))))))
/-- SupplyBook.loan(II)J -/
noncomputable def cs_50 : List CE := cec 0 0 (.aload_n 0) xi0
  (cec 1 0 (.getfield 88) (0, 13, 2, 0)
  (cec 4 0 (.iload_n 1) xi0
  (cec 5 0 (.invokevirtual 443) (116, 2, 0, 16)
  (cec 8 0 (.ifCond .ne 7) xi0
  (cec 11 0 (.ldc2_w 379) (0, 0, (-1), 0)
  (cec 14 0 .lreturn xi0
  (cec 15 0 (.iload_n 2) xi0
  (cec 16 0 (.tableswitch 89 0 4 #[36, 46, 56, 66, 76]) xi0
  (cec 52 0 (.aload_n 0) xi0
  (cec 53 0 (.getfield 88) (0, 13, 2, 0)
  (cec 56 0 (.iload_n 1) xi0
  (cec 57 0 (.invokevirtual 452) (119, 2, 0, 16)
  (cec 60 0 .i2l xi0
  (cec 61 0 .lreturn xi0
  (cec 62 0 (.aload_n 0) xi0
  (cec 63 0 (.getfield 88) (0, 13, 2, 0)
  (cec 66 0 (.iload_n 1) xi0
  (cec 67 0 (.invokevirtual 459) (121, 2, 0, 16)
  (cec 70 0 .i2l xi0
  (cec 71 0 .lreturn xi0
  (cec 72 0 (.aload_n 0) xi0
  (cec 73 0 (.getfield 88) (0, 13, 2, 0)
  (cec 76 0 (.iload_n 1) xi0
  (cec 77 0 (.invokevirtual 462) (122, 2, 0, 16)
  (cec 80 0 .i2l xi0
  (cec 81 0 .lreturn xi0
  (cec 82 0 (.aload_n 0) xi0
  (cec 83 0 (.getfield 88) (0, 13, 2, 0)
  (cec 86 0 (.iload_n 1) xi0
  (cec 87 0 (.invokevirtual 446) (117, 2, 0, 16)
  (cec 90 0 .i2l xi0
  (cec 91 0 .lreturn xi0
  (cec 92 0 (.aload_n 0) xi0
  (cec 93 0 (.getfield 88) (0, 13, 2, 0)
  (cec 96 0 (.iload_n 1) xi0
  (cec 97 0 (.aload_n 0) xi0
  (cec 98 0 (.getfield 7) xi0
  (cec 101 0 (.invokevirtual 449) (118, 3, 1, 16)
  (cec 104 0 .lreturn xi0
  (cec 105 0 (.ldc2_w 379) (0, 0, (-1), 0)
  (cec 108 0 .lreturn xi0 [])))))))))))))))))))))))))))))))))))))))))
/-- SupplyBook.draw(III)I -/
noncomputable def cs_51 : List CE := cec 0 0 (.iload_n 1) xi0
  (cec 1 0 (.invokestatic 155) (14, 1, 0, 0)
  (cec 4 0 (.ifCond .eq 27) xi0
  (cec 7 0 (.iload_n 2) xi0
  (cec 8 0 (.invokestatic 152) (13, 1, 0, 0)
  (cec 11 0 (.ifCond .eq 20) xi0
  (cec 14 0 (.iload_n 3) xi0
  (cec 15 0 (.invokestatic 152) (13, 1, 0, 0)
  (cec 18 0 (.ifCond .eq 13) xi0
  (cec 21 0 (.iload_n 3) xi0
  (cec 22 0 (.iconst 1) xi0
  (cec 23 0 (.if_icmp .lt 8) xi0
  (cec 26 0 (.iload_n 2) xi0
  (cec 27 0 (.iload_n 3) xi0
  (cec 28 0 (.if_icmp .lt 5) xi0
  (cec 31 0 (.iconst (-1)) xi0
  (cec 32 0 .ireturn xi0
  (cec 33 0 (.aload_n 0) xi0
  (cec 34 0 (.getfield 67) (0, 10, 2, 0)
  (cec 37 0 (.iload_n 1) xi0
  (cec 38 0 (.iload_n 2) xi0
  (cec 39 0 (.iload_n 3) xi0
  (cec 40 0 (.invokevirtual 465) (85, 4, 0, 13)
  (cec 43 0 .ireturn xi0 [])))))))))))))))))))))))
/-- SupplyBook.drawn(II)I -/
noncomputable def cs_52 : List CE := cec 0 0 (.iload_n 1) xi0
  (cec 1 0 (.invokestatic 155) (14, 1, 0, 0)
  (cec 4 0 (.ifCond .eq 19) xi0
  (cec 7 0 (.iload_n 2) xi0
  (cec 8 0 (.ifCond .lt 15) xi0
  (cec 11 0 (.aload_n 0) xi0
  (cec 12 0 (.getfield 67) (0, 10, 2, 0)
  (cec 15 0 (.iload_n 1) xi0
  (cec 16 0 (.iload_n 2) xi0
  (cec 17 0 (.invokevirtual 469) (86, 3, 0, 13)
  (cec 20 0 (.goto 4) xi0
  (cec 23 0 (.iconst (-1)) xi0
  (cec 24 0 .ireturn xi0 []))))))))))))
/-- SupplyBook.test(II)Z -/
noncomputable def cs_53 : List CE := cec 0 0 (.aload_n 0) xi0
  (cec 1 0 (.getfield 67) (0, 10, 2, 0)
  (cec 4 0 (.iload_n 1) xi0
  (cec 5 0 (.invokevirtual 255) (80, 2, 2, 13)
  (cec 8 0 (.astore_n 3) xi0
  (cec 9 0 (.aload_n 3) xi0
  (cec 10 0 (.ifnull 22) xi0
  (cec 13 0 (.aload_n 3) xi0
  (cec 14 0 (.getfield 472) (2, 12, 4, 0)
  (cec 17 0 (.ifCond .eq 15) xi0
  (cec 20 0 (.iload_n 2) xi0
  (cec 21 0 (.ifCond .lt 11) xi0
  (cec 24 0 (.iload_n 2) xi0
  (cec 25 0 (.aload_n 3) xi0
  (cec 26 0 (.getfield 270) (2, 3, 0, 0)
  (cec 29 0 (.if_icmp .le 5) xi0
  (cec 32 0 (.iconst 0) xi0
  (cec 33 0 .ireturn xi0
  (cec 34 0 (.aload_n 3) xi0
  (cec 35 0 (.iload_n 2) xi0
  (cec 36 0 (.putfield 476) (2, 13, 0, 0)
  (cec 39 0 (.iconst 1) xi0
  (cec 40 0 .ireturn xi0 []))))))))))))))))))))))
/-- SupplyBook.found(II)J -/
noncomputable def cs_54 : List CE := cec 0 0 (.iload_n 1) xi0
  (cec 1 0 (.invokestatic 155) (14, 1, 0, 0)
  (cec 4 0 (.ifCond .ne 7) xi0
  (cec 7 0 (.ldc2_w 379) (0, 0, (-1), 0)
  (cec 10 0 .lreturn xi0
  (cec 11 0 (.iload_n 2) xi0
  (cec 12 0 (.tableswitch 55 0 2 #[28, 37, 46]) xi0
  (cec 40 0 (.aload_n 0) xi0
  (cec 41 0 (.getfield 67) (0, 10, 2, 0)
  (cec 44 0 (.iload_n 1) xi0
  (cec 45 0 (.invokevirtual 479) (87, 2, 1, 13)
  (cec 48 0 .lreturn xi0
  (cec 49 0 (.aload_n 0) xi0
  (cec 50 0 (.getfield 67) (0, 10, 2, 0)
  (cec 53 0 (.iload_n 1) xi0
  (cec 54 0 (.invokevirtual 482) (88, 2, 1, 13)
  (cec 57 0 .lreturn xi0
  (cec 58 0 (.aload_n 0) xi0
  (cec 59 0 (.getfield 67) (0, 10, 2, 0)
  (cec 62 0 (.iload_n 1) xi0
  (cec 63 0 (.invokevirtual 485) (89, 2, 1, 13)
  (cec 66 0 .lreturn xi0
  (cec 67 0 (.ldc2_w 379) (0, 0, (-1), 0)
  (cec 70 0 .lreturn xi0 [])))))))))))))))))))))))
/-- SupplyBook.question(I)Z -/
noncomputable def cs_55 : List CE := cec 0 0 (.aload_n 0) xi0
  (cec 1 0 (.getfield 67) (0, 10, 2, 0)
  (cec 4 0 (.iload_n 1) xi0
  (cec 5 0 (.invokevirtual 255) (80, 2, 2, 13)
  (cec 8 0 (.astore_n 2) xi0
  (cec 9 0 (.aload_n 2) xi0
  (cec 10 0 (.ifnull 17) xi0
  (cec 13 0 (.aload_n 2) xi0
  (cec 14 0 (.invokevirtual 287) (76, 1, 0, 12)
  (cec 17 0 (.ifCond .eq 10) xi0
  (cec 20 0 (.aload_n 2) xi0
  (cec 21 0 (.getfield 488) (2, 10, 0, 0)
  (cec 24 0 (.ifCond .eq 5) xi0
  (cec 27 0 (.iconst 0) xi0
  (cec 28 0 .ireturn xi0
  (cec 29 0 (.aload_n 2) xi0
  (cec 30 0 (.iconst 1) xi0
  (cec 31 0 (.putfield 488) (2, 10, 0, 0)
  (cec 34 0 (.iconst 1) xi0
  (cec 35 0 .ireturn xi0 [])))))))))))))))))))
/-- SupplyBook.answer(IZ)Z -/
noncomputable def cs_56 : List CE := cec 0 0 (.aload_n 0) xi0
  (cec 1 0 (.getfield 67) (0, 10, 2, 0)
  (cec 4 0 (.iload_n 1) xi0
  (cec 5 0 (.invokevirtual 255) (80, 2, 2, 13)
  (cec 8 0 (.astore_n 3) xi0
  (cec 9 0 (.aload_n 3) xi0
  (cec 10 0 (.ifnull 11) xi0
  (cec 13 0 (.aload_n 3) xi0
  (cec 14 0 (.getfield 488) (2, 10, 0, 0)
  (cec 17 0 (.iconst 1) xi0
  (cec 18 0 (.if_icmp .eq 5) xi0
  (cec 21 0 (.iconst 0) xi0
  (cec 22 0 .ireturn xi0
  (cec 23 0 (.aload_n 3) xi0
  (cec 24 0 (.iload_n 2) xi0
  (cec 25 0 (.ifCond .eq 7) xi0
  (cec 28 0 (.iconst 2) xi0
  (cec 29 0 (.goto 4) xi0
  (cec 32 0 (.iconst 3) xi0
  (cec 33 0 (.putfield 488) (2, 10, 0, 0)
  (cec 36 0 (.iload_n 2) xi0
  (cec 37 0 (.ifCond .ne 12) xi0
  (cec 40 0 (.aload_n 0) xi0
  (cec 41 0 (.getfield 30) (0, 5, 2, 0)
  (cec 44 0 (.aload_n 3) xi0
  (cec 45 0 (.invokevirtual 491) (132, 2, 1, 17)
  (cec 48 0 .pop2 xi0
  (cec 49 0 (.iconst 1) xi0
  (cec 50 0 .ireturn xi0 []))))))))))))))))))))))))))))
noncomputable def cs_57_1 : List CE := cec 97 0 .ladd xi0
  (cec 98 0 (.lstore_n 3) xi0
  (cec 99 0 (.iinc 5 1) xi0
  (cec 102 0 (.goto (-52)) xi0
  (cec 105 0 (.lload_n 3) xi0
  (cec 106 0 .lreturn xi0 [])))))
/-- SupplyBook.falls(I)J -/
noncomputable def cs_57 : List CE := cec 0 0 (.aload_n 0) xi0
  (cec 1 0 (.getfield 60) (0, 9, 2, 0)
  (cec 4 0 (.iload_n 1) xi0
  (cec 5 0 (.invokevirtual 168) (168, 2, 2, 20)
  (cec 8 0 (.astore_n 2) xi0
  (cec 9 0 (.aload_n 2) xi0
  (cec 10 0 (.ifnull 26) xi0
  (cec 13 0 (.aload_n 2) xi0
  (cec 14 0 (.getfield 172) (1, 0, 0, 0)
  (cec 17 0 (.iconst 4) xi0
  (cec 18 0 (.if_icmp .ne 18) xi0
  (cec 21 0 (.aload_n 2) xi0
  (cec 22 0 (.getfield 495) (1, 10, 4, 0)
  (cec 25 0 (.ifCond .ne 11) xi0
  (cec 28 0 (.aload_n 0) xi0
  (cec 29 0 (.aload_n 2) xi0
  (cec 30 0 (.invokevirtual 498) (58, 2, 0, 10)
  (cec 33 0 (.ifCond .ne 7) xi0
  (cec 36 0 (.ldc2_w 379) (0, 0, (-1), 0)
  (cec 39 0 .lreturn xi0
  (cec 40 0 (.aload_n 2) xi0
  (cec 41 0 (.iconst 1) xi0
  (cec 42 0 (.putfield 495) (1, 10, 4, 0)
  (cec 45 0 (.lconst 0) xi0
  (cec 46 0 (.lstore_n 3) xi0
  (cec 47 0 (.iconst 0) xi0
  (cec 48 0 (.istore 5) xi0
  (cec 50 87 (.iload 5) xi0
  (cec 52 0 (.aload_n 0) xi0
  (cec 53 0 (.getfield 67) (0, 10, 2, 0)
  (cec 56 0 (.getfield 252) (3, 1, 0, 0)
  (cec 59 0 (.if_icmp .ge 46) xi0
  (cec 62 0 (.aload_n 0) xi0
  (cec 63 0 (.getfield 67) (0, 10, 2, 0)
  (cec 66 0 (.iload 5) xi0
  (cec 68 0 (.invokevirtual 255) (80, 2, 2, 13)
  (cec 71 0 (.astore 6) xi0
  (cec 73 0 (.aload 6) xi0
  (cec 75 0 (.ifnull 24) xi0
  (cec 78 0 (.aload 6) xi0
  (cec 80 0 (.getfield 502) (2, 8, 0, 0)
  (cec 83 0 (.iload_n 1) xi0
  (cec 84 0 (.if_icmp .ne 15) xi0
  (cec 87 0 (.lload_n 3) xi0
  (cec 88 0 (.aload_n 0) xi0
  (cec 89 0 (.getfield 30) (0, 5, 2, 0)
  (cec 92 0 (.aload 6) xi0
  (cec 94 0 (.invokevirtual 491) (132, 2, 1, 17) cs_57_1)))))))))))))))))))))))))))))))))))))))))))))))
/-- SupplyBook.fallsByNow(LSupplyBook$Authority;)Z -/
noncomputable def cs_58 : List CE := cec 0 0 (.aload_n 1) xi0
  (cec 1 0 (.getfield 505) (1, 4, 0, 0)
  (cec 4 0 (.aload_n 0) xi0
  (cec 5 0 (.getfield 53) (0, 8, 2, 0)
  (cec 8 0 (.iconst 4) xi0
  (cec 9 0 (.aload_n 1) xi0
  (cec 10 0 (.getfield 505) (1, 4, 0, 0)
  (cec 13 0 (.invokevirtual 149) (108, 3, 0, 15)
  (cec 16 0 .iadd xi0
  (cec 17 0 (.iconst 1) xi0
  (cec 18 0 .iadd xi0
  (cec 19 0 (.istore_n 2) xi0
  (cec 20 0 (.aload_n 1) xi0
  (cec 21 0 (.getfield 190) (1, 8, 0, 0)
  (cec 24 0 (.iconst (-1)) xi0
  (cec 25 0 (.if_icmp .eq 15) xi0
  (cec 28 0 (.aload_n 1) xi0
  (cec 29 0 (.getfield 207) (1, 9, 0, 0)
  (cec 32 0 (.iload_n 2) xi0
  (cec 33 0 (.if_icmp .ge 7) xi0
  (cec 36 0 (.iconst 1) xi0
  (cec 37 0 (.goto 4) xi0
  (cec 40 11 (.iconst 0) xi0
  (cec 41 0 (.istore_n 3) xi0
  (cec 42 0 (.aload_n 0) xi0
  (cec 43 0 (.getfield 7) xi0
  (cec 46 0 (.iload_n 2) xi0
  (cec 47 0 (.if_icmp .lt 11) xi0
  (cec 50 0 (.iload_n 3) xi0
  (cec 51 0 (.ifCond .ne 7) xi0
  (cec 54 0 (.iconst 1) xi0
  (cec 55 0 (.goto 4) xi0
  (cec 58 0 (.iconst 0) xi0
  (cec 59 0 .ireturn xi0 [])))))))))))))))))))))))))))))))))
/-- SupplyBook.surcharged(I)J -/
noncomputable def cs_59 : List CE := cec 0 0 (.aload_n 0) xi0
  (cec 1 0 (.getfield 30) (0, 5, 2, 0)
  (cec 4 0 (.iload_n 1) xi0
  (cec 5 0 (.invokevirtual 271) (129, 2, 0, 17)
  (cec 8 0 (.ifCond .eq 14) xi0
  (cec 11 0 (.aload_n 0) xi0
  (cec 12 0 (.getfield 30) (0, 5, 2, 0)
  (cec 15 0 (.iload_n 1) xi0
  (cec 16 0 (.invokevirtual 508) (133, 2, 1, 17)
  (cec 19 0 (.goto 6) xi0
  (cec 22 0 (.ldc2_w 379) (0, 0, (-1), 0)
  (cec 25 0 .lreturn xi0 [])))))))))))
/-- SupplyBook.find(II)Z -/
noncomputable def cs_60 : List CE := cec 0 0 (.aload_n 0) xi0
  (cec 1 0 (.getfield 67) (0, 10, 2, 0)
  (cec 4 0 (.iload_n 1) xi0
  (cec 5 0 (.invokevirtual 255) (80, 2, 2, 13)
  (cec 8 0 (.astore_n 3) xi0
  (cec 9 0 (.aload_n 3) xi0
  (cec 10 0 (.ifnull 31) xi0
  (cec 13 0 (.aload_n 3) xi0
  (cec 14 0 (.invokevirtual 287) (76, 1, 0, 12)
  (cec 17 0 (.ifCond .eq 24) xi0
  (cec 20 0 (.iload_n 2) xi0
  (cec 21 0 (.iconst 1) xi0
  (cec 22 0 (.if_icmp .lt 19) xi0
  (cec 25 0 (.iload_n 2) xi0
  (cec 26 0 .i2l xi0
  (cec 27 0 (.aload_n 3) xi0
  (cec 28 0 (.getfield 270) (2, 3, 0, 0)
  (cec 31 0 .i2l xi0
  (cec 32 0 (.aload_n 3) xi0
  (cec 33 0 (.getfield 511) (2, 14, 1, 0)
  (cec 36 0 .lsub xi0
  (cec 37 0 .lcmp xi0
  (cec 38 0 (.ifCond .le 5) xi0
  (cec 41 0 (.iconst 0) xi0
  (cec 42 0 .ireturn xi0
  (cec 43 0 (.aload_n 0) xi0
  (cec 44 0 (.getfield 67) (0, 10, 2, 0)
  (cec 47 0 (.iload_n 1) xi0
  (cec 48 0 (.iload_n 2) xi0
  (cec 49 0 (.aload_n 0) xi0
  (cec 50 0 (.getfield 7) xi0
  (cec 53 0 (.invokevirtual 514) (90, 4, 0, 13)
  (cec 56 0 .ireturn xi0 []))))))))))))))))))))))))))))))))
noncomputable def cs_61_1 : List CE := cec 105 0 (.aload_n 0) xi0
  (cec 106 0 (.getfield 67) (0, 10, 2, 0)
  (cec 109 0 (.iload 6) xi0
  (cec 111 0 (.iload_n 3) xi0
  (cec 112 0 (.invokevirtual 520) (91, 3, 1, 13)
  (cec 115 0 .lsub xi0
  (cec 116 0 .ladd xi0
  (cec 117 0 (.lstore 4) xi0
  (cec 119 0 (.iinc 6 1) xi0
  (cec 122 0 (.goto (-87)) xi0
  (cec 125 0 (.lload 4) xi0
  (cec 127 0 .lreturn xi0 [])))))))))))
/-- SupplyBook.paid(III)J -/
noncomputable def cs_61 : List CE := cec 0 0 (.iload_n 1) xi0
  (cec 1 0 (.invokestatic 155) (14, 1, 0, 0)
  (cec 4 0 (.ifCond .eq 21) xi0
  (cec 7 0 (.aload_n 0) xi0
  (cec 8 0 (.getfield 30) (0, 5, 2, 0)
  (cec 11 0 (.iload_n 2) xi0
  (cec 12 0 (.invokevirtual 100) (125, 2, 0, 17)
  (cec 15 0 (.ifCond .eq 10) xi0
  (cec 18 0 (.iload_n 3) xi0
  (cec 19 0 (.invokestatic 92) (3, 1, 0, 0)
  (cec 22 0 (.ifCond .ne 7) xi0
  (cec 25 0 (.ldc2_w 379) (0, 0, (-1), 0)
  (cec 28 0 .lreturn xi0
  (cec 29 0 (.lconst 0) xi0
  (cec 30 0 (.lstore 4) xi0
  (cec 32 0 (.iconst 0) xi0
  (cec 33 0 (.istore 6) xi0
  (cec 35 191 (.iload 6) xi0
  (cec 37 0 (.aload_n 0) xi0
  (cec 38 0 (.getfield 67) (0, 10, 2, 0)
  (cec 41 0 (.getfield 252) (3, 1, 0, 0)
  (cec 44 0 (.if_icmp .ge 81) xi0
  (cec 47 0 (.aload_n 0) xi0
  (cec 48 0 (.getfield 67) (0, 10, 2, 0)
  (cec 51 0 (.iload 6) xi0
  (cec 53 0 (.invokevirtual 255) (80, 2, 2, 13)
  (cec 56 0 (.astore 7) xi0
  (cec 58 0 (.aload 7) xi0
  (cec 60 0 (.ifnull 59) xi0
  (cec 63 0 (.aload 7) xi0
  (cec 65 0 (.iload_n 1) xi0
  (cec 66 0 (.invokevirtual 266) (75, 2, 0, 12)
  (cec 69 0 (.ifCond .eq 50) xi0
  (cec 72 0 (.aload 7) xi0
  (cec 74 0 (.getfield 517) (2, 7, 0, 0)
  (cec 77 0 (.iload_n 3) xi0
  (cec 78 0 (.if_icmp .gt 41) xi0
  (cec 81 0 (.aload_n 0) xi0
  (cec 82 0 (.getfield 30) (0, 5, 2, 0)
  (cec 85 0 (.aload 7) xi0
  (cec 87 0 (.getfield 269) (2, 1, 0, 0)
  (cec 90 0 (.iload_n 2) xi0
  (cec 91 0 (.invokevirtual 103) (127, 3, 0, 17)
  (cec 94 0 (.ifCond .eq 25) xi0
  (cec 97 0 (.lload 4) xi0
  (cec 99 0 (.aload 7) xi0
  (cec 101 0 (.getfield 270) (2, 3, 0, 0)
  (cec 104 0 .i2l xi0 cs_61_1)))))))))))))))))))))))))))))))))))))))))))))))
noncomputable def cs_62_2 : List CE := cec 184 0 (.getfield 356) (1, 5, 2, 0)
  (cec 187 0 (.iconst (-1)) xi0
  (cec 188 0 (.invokespecial 161) (70, 8, 9, 11)
  (cec 191 0 (.invokevirtual 164) (167, 2, 0, 20)
  (cec 194 0 .pop xi0
  (cec 195 0 (.iinc 4 1) xi0
  (cec 198 0 (.iinc 5 1) xi0
  (cec 201 0 (.goto (-136)) xi0
  (cec 204 0 (.iload 4) xi0
  (cec 206 0 .ireturn xi0 [])))))))))
noncomputable def cs_62_1 : List CE := cec 89 0 (.getfield 172) (1, 0, 0, 0)
  (cec 92 0 (.iconst 2) xi0
  (cec 93 0 (.if_icmp .ne 105) xi0
  (cec 96 0 (.aload 6) xi0
  (cec 98 0 (.getfield 178) (1, 3, 0, 0)
  (cec 101 0 (.iload_n 1) xi0
  (cec 102 0 (.if_icmp .ne 96) xi0
  (cec 105 0 (.aload 6) xi0
  (cec 107 0 (.getfield 193) (1, 7, 0, 0)
  (cec 110 0 (.iconst (-1)) xi0
  (cec 111 0 (.if_icmp .eq 6) xi0
  (cec 114 0 (.goto 84) xi0
  (cec 117 0 (.aload_n 0) xi0
  (cec 118 0 (.iload 5) xi0
  (cec 120 0 (.aload 6) xi0
  (cec 122 0 (.iload_n 1) xi0
  (cec 123 0 (.invokevirtual 196) (19, 4, 1, 10)
  (cec 126 0 (.iload_n 2) xi0
  (cec 127 0 .i2l xi0
  (cec 128 0 .lmul xi0
  (cec 129 0 (.ldc2_w 220) (0, 0, 100, 0)
  (cec 132 0 .ldiv xi0
  (cec 133 0 (.ldc2_w 523) (0, 0, 1000000000, 0)
  (cec 136 0 (.invokestatic 525) (9993, 2, 0, 0)
  (cec 139 0 (.lstore 7) xi0
  (cec 141 0 (.lload 7) xi0
  (cec 143 0 (.lconst 0) xi0
  (cec 144 0 .lcmp xi0
  (cec 145 0 (.ifCond .le 53) xi0
  (cec 148 0 (.aload_n 0) xi0
  (cec 149 0 (.getfield 60) (0, 9, 2, 0)
  (cec 152 0 (.invokevirtual 158) (166, 1, 0, 20)
  (cec 155 0 (.ifCond .ne 43) xi0
  (cec 158 0 (.aload_n 0) xi0
  (cec 159 0 (.getfield 60) (0, 9, 2, 0)
  (cec 162 0 (.new 159) (1, 14, 0, 0)
  (cec 165 0 .dup xi0
  (cec 166 0 (.iconst 2) xi0
  (cec 167 0 (.aload 6) xi0
  (cec 169 0 (.getfield 175) (1, 1, 0, 0)
  (cec 172 0 (.lload 7) xi0
  (cec 174 0 .l2i xi0
  (cec 175 0 (.iload_n 1) xi0
  (cec 176 0 (.iconst 1) xi0
  (cec 177 0 .iadd xi0
  (cec 178 0 (.aload_n 0) xi0
  (cec 179 0 (.getfield 7) xi0
  (cec 182 0 (.aload 6) xi0 cs_62_2)))))))))))))))))))))))))))))))))))))))))))))))
/-- SupplyBook.close(I)I -/
noncomputable def cs_62 : List CE := cec 0 0 (.iload_n 1) xi0
  (cec 1 0 (.aload_n 0) xi0
  (cec 2 0 (.getfield 17) (0, 2, 0, 0)
  (cec 5 0 (.if_icmp .ne 14) xi0
  (cec 8 0 (.iload_n 1) xi0
  (cec 9 0 (.aload_n 0) xi0
  (cec 10 0 (.getfield 7) xi0
  (cec 13 0 (.invokestatic 181) (17, 1, 0, 0)
  (cec 16 0 (.if_icmp .lt 5) xi0
  (cec 19 0 (.iconst (-1)) xi0
  (cec 20 0 .ireturn xi0
  (cec 21 0 (.aload_n 0) xi0
  (cec 22 0 .dup xi0
  (cec 23 0 (.getfield 17) (0, 2, 0, 0)
  (cec 26 0 (.iconst 1) xi0
  (cec 27 0 .iadd xi0
  (cec 28 0 (.putfield 17) (0, 2, 0, 0)
  (cec 31 0 (.aload_n 0) xi0
  (cec 32 0 (.getfield 53) (0, 8, 2, 0)
  (cec 35 0 (.iconst 1) xi0
  (cec 36 0 (.iload_n 1) xi0
  (cec 37 0 (.sipush 360) xi0
  (cec 40 0 .imul xi0
  (cec 41 0 (.sipush 360) xi0
  (cec 44 0 .iadd xi0
  (cec 45 0 (.iconst 1) xi0
  (cec 46 0 .isub xi0
  (cec 47 0 (.invokevirtual 149) (108, 3, 0, 15)
  (cec 50 0 (.istore_n 2) xi0
  (cec 51 0 (.aload_n 0) xi0
  (cec 52 0 (.getfield 60) (0, 9, 2, 0)
  (cec 55 0 (.getfield 323) (10, 1, 0, 0)
  (cec 58 0 (.istore_n 3) xi0
  (cec 59 0 (.iconst 0) xi0
  (cec 60 0 (.istore 4) xi0
  (cec 62 0 (.iconst 0) xi0
  (cec 63 0 (.istore 5) xi0
  (cec 65 127 (.iload 5) xi0
  (cec 67 0 (.iload_n 3) xi0
  (cec 68 0 (.if_icmp .ge 136) xi0
  (cec 71 0 (.aload_n 0) xi0
  (cec 72 0 (.getfield 60) (0, 9, 2, 0)
  (cec 75 0 (.iload 5) xi0
  (cec 77 0 (.invokevirtual 168) (168, 2, 2, 20)
  (cec 80 0 (.astore 6) xi0
  (cec 82 0 (.aload 6) xi0
  (cec 84 0 (.ifnull 114) xi0
  (cec 87 0 (.aload 6) xi0 cs_62_1)))))))))))))))))))))))))))))))))))))))))))))))
noncomputable def cs_63_1 : List CE := cec 95 0 (.iconst 3) xi0
  (cec 96 0 (.iload_n 2) xi0
  (cec 97 0 .imul xi0
  (cec 98 0 (.if_icmp .lt 7) xi0
  (cec 101 0 (.iconst 3) xi0
  (cec 102 0 (.iload_n 2) xi0
  (cec 103 0 .imul xi0
  (cec 104 0 .ireturn xi0
  (cec 105 0 (.aload_n 0) xi0
  (cec 106 0 (.iload_n 3) xi0
  (cec 107 0 (.iload 5) xi0
  (cec 109 0 (.aload 6) xi0
  (cec 111 0 (.invokevirtual 539) (64, 4, 0, 10)
  (cec 114 0 (.istore 7) xi0
  (cec 116 0 (.iload 7) xi0
  (cec 118 0 (.iconst (-1)) xi0
  (cec 119 0 (.if_icmp .eq 6) xi0
  (cec 122 0 (.iload 7) xi0
  (cec 124 0 .ireturn xi0
  (cec 125 0 (.iinc 3 3) xi0
  (cec 128 0 (.iinc 4 1) xi0
  (cec 131 0 (.goto (-88)) xi0
  (cec 134 0 (.iload_n 3) xi0
  (cec 135 0 (.iconst 3) xi0
  (cec 136 0 (.iload_n 2) xi0
  (cec 137 0 .imul xi0
  (cec 138 0 (.if_icmp .ne 7) xi0
  (cec 141 0 (.iconst (-1)) xi0
  (cec 142 0 (.goto 4) xi0
  (cec 145 0 (.iload_n 3) xi0
  (cec 146 0 .ireturn xi0 []))))))))))))))))))))))))))))))
/-- SupplyBook.check(II)I -/
noncomputable def cs_63 : List CE := cec 0 0 (.iload_n 1) xi0
  (cec 1 0 (.invokestatic 155) (14, 1, 0, 0)
  (cec 4 0 (.ifCond .eq 26) xi0
  (cec 7 0 (.iload_n 2) xi0
  (cec 8 0 (.ifCond .lt 22) xi0
  (cec 11 0 (.iload_n 2) xi0
  (cec 12 0 .i2l xi0
  (cec 13 0 (.ldc2_w 529) (0, 0, 3, 0)
  (cec 16 0 .lmul xi0
  (cec 17 0 (.ldc2_w 531) (0, 0, 4, 0)
  (cec 20 0 .lmul xi0
  (cec 21 0 (.aload_n 0) xi0
  (cec 22 0 (.getfield 24) (0, 4, 0, 0)
  (cec 25 0 .i2l xi0
  (cec 26 0 .lcmp xi0
  (cec 27 0 (.ifCond .le 6) xi0
  (cec 30 0 (.bipush (-2)) xi0
  (cec 32 0 .ireturn xi0
  (cec 33 0 (.aload_n 0) xi0
  (cec 34 0 (.iconst 0) xi0
  (cec 35 0 (.putfield 24) (0, 4, 0, 0)
  (cec 38 0 (.iconst 0) xi0
  (cec 39 0 (.istore_n 3) xi0
  (cec 40 0 (.iconst 0) xi0
  (cec 41 0 (.istore 4) xi0
  (cec 43 63 (.iload 4) xi0
  (cec 45 0 (.aload_n 0) xi0
  (cec 46 0 (.getfield 67) (0, 10, 2, 0)
  (cec 49 0 (.getfield 533) (3, 3, 0, 0)
  (cec 52 0 (.if_icmp .ge 82) xi0
  (cec 55 0 (.aload_n 0) xi0
  (cec 56 0 (.getfield 67) (0, 10, 2, 0)
  (cec 59 0 (.iload 4) xi0
  (cec 61 0 (.invokevirtual 536) (92, 2, 0, 13)
  (cec 64 0 (.istore 5) xi0
  (cec 66 0 (.aload_n 0) xi0
  (cec 67 0 (.getfield 67) (0, 10, 2, 0)
  (cec 70 0 (.iload 5) xi0
  (cec 72 0 (.invokevirtual 255) (80, 2, 2, 13)
  (cec 75 0 (.astore 6) xi0
  (cec 77 0 (.aload 6) xi0
  (cec 79 0 (.ifnull 49) xi0
  (cec 82 0 (.aload 6) xi0
  (cec 84 0 (.iload_n 1) xi0
  (cec 85 0 (.invokevirtual 266) (75, 2, 0, 12)
  (cec 88 0 (.ifCond .ne 6) xi0
  (cec 91 0 (.goto 37) xi0
  (cec 94 0 (.iload_n 3) xi0 cs_63_1)))))))))))))))))))))))))))))))))))))))))))))))
/-- SupplyBook.firstWrong(IILSupplyBook$Claim;)I -/
noncomputable def cs_64 : List CE := cec 0 0 (.aload_n 0) xi0
  (cec 1 0 (.iload_n 1) xi0
  (cec 2 0 (.invokevirtual 543) (65, 2, 0, 10)
  (cec 5 0 (.iload_n 2) xi0
  (cec 6 0 (.if_icmp .eq 5) xi0
  (cec 9 0 (.iload_n 1) xi0
  (cec 10 0 .ireturn xi0
  (cec 11 0 (.aload_n 0) xi0
  (cec 12 0 (.iload_n 1) xi0
  (cec 13 0 (.iconst 1) xi0
  (cec 14 0 .iadd xi0
  (cec 15 0 (.invokevirtual 543) (65, 2, 0, 10)
  (cec 18 0 (.aload_n 3) xi0
  (cec 19 0 (.getfield 502) (2, 8, 0, 0)
  (cec 22 0 (.if_icmp .eq 7) xi0
  (cec 25 0 (.iload_n 1) xi0
  (cec 26 0 (.iconst 1) xi0
  (cec 27 0 .iadd xi0
  (cec 28 0 .ireturn xi0
  (cec 29 0 (.aload_n 0) xi0
  (cec 30 0 (.iload_n 1) xi0
  (cec 31 0 (.iconst 2) xi0
  (cec 32 0 .iadd xi0
  (cec 33 0 (.invokevirtual 543) (65, 2, 0, 10)
  (cec 36 0 (.aload_n 3) xi0
  (cec 37 0 (.getfield 517) (2, 7, 0, 0)
  (cec 40 0 (.if_icmp .eq 9) xi0
  (cec 43 0 (.iload_n 1) xi0
  (cec 44 0 (.iconst 2) xi0
  (cec 45 0 .iadd xi0
  (cec 46 0 (.goto 4) xi0
  (cec 49 0 (.iconst (-1)) xi0
  (cec 50 0 .ireturn xi0 []))))))))))))))))))))))))))))))))
/-- SupplyBook.tapeInt(I)I -/
noncomputable def cs_65 : List CE := cec 0 0 (.iconst 0) xi0
  (cec 1 0 (.istore_n 2) xi0
  (cec 2 0 (.iconst 0) xi0
  (cec 3 0 (.istore_n 3) xi0
  (cec 4 31 (.iload_n 3) xi0
  (cec 5 0 (.iconst 4) xi0
  (cec 6 0 (.if_icmp .ge 56) xi0
  (cec 9 0 (.iload_n 1) xi0
  (cec 10 0 (.iconst 4) xi0
  (cec 11 0 .imul xi0
  (cec 12 0 (.iload_n 3) xi0
  (cec 13 0 .iadd xi0
  (cec 14 0 (.istore 4) xi0
  (cec 16 0 (.iload 4) xi0
  (cec 18 0 (.ifCond .lt 27) xi0
  (cec 21 0 (.iload 4) xi0
  (cec 23 0 (.aload_n 0) xi0
  (cec 24 0 (.getfield 20) (0, 3, 2, 0)
  (cec 27 0 .arraylength xi0
  (cec 28 0 (.if_icmp .ge 17) xi0
  (cec 31 0 (.aload_n 0) xi0
  (cec 32 0 (.getfield 20) (0, 3, 2, 0)
  (cec 35 0 (.iload 4) xi0
  (cec 37 0 .baload xi0
  (cec 38 0 (.sipush 255) xi0
  (cec 41 0 .iand xi0
  (cec 42 0 (.goto 4) xi0
  (cec 45 0 (.iconst 0) xi0
  (cec 46 0 (.istore 5) xi0
  (cec 48 0 (.iload_n 2) xi0
  (cec 49 0 (.bipush 8) xi0
  (cec 51 0 .ishl xi0
  (cec 52 0 (.iload 5) xi0
  (cec 54 0 .ior xi0
  (cec 55 0 (.istore_n 2) xi0
  (cec 56 0 (.iinc 3 1) xi0
  (cec 59 0 (.goto (-55)) xi0
  (cec 62 0 (.iload_n 2) xi0
  (cec 63 0 .ireturn xi0 []))))))))))))))))))))))))))))))))))))))
/-- SupplyBook.look(II)I -/
noncomputable def cs_66 : List CE := cec 0 0 (.aload_n 0) xi0
  (cec 1 0 (.getfield 67) (0, 10, 2, 0)
  (cec 4 0 (.iload_n 1) xi0
  (cec 5 0 (.invokevirtual 255) (80, 2, 2, 13)
  (cec 8 0 (.astore_n 3) xi0
  (cec 9 0 (.aload_n 3) xi0
  (cec 10 0 (.ifnonnull 5) xi0
  (cec 13 0 (.iconst (-1)) xi0
  (cec 14 0 .ireturn xi0
  (cec 15 0 (.iload_n 2) xi0
  (cec 16 0 (.tableswitch 114 0 9 #[56, 61, 66, 71, 76, 81, 94, 99, 104, 109]) xi0
  (cec 72 0 (.aload_n 3) xi0
  (cec 73 0 (.getfield 290) (2, 0, 0, 0)
  (cec 76 0 .ireturn xi0
  (cec 77 0 (.aload_n 3) xi0
  (cec 78 0 (.getfield 269) (2, 1, 0, 0)
  (cec 81 0 .ireturn xi0
  (cec 82 0 (.aload_n 3) xi0
  (cec 83 0 (.getfield 546) (2, 2, 0, 0)
  (cec 86 0 .ireturn xi0
  (cec 87 0 (.aload_n 3) xi0
  (cec 88 0 (.getfield 270) (2, 3, 0, 0)
  (cec 91 0 .ireturn xi0
  (cec 92 0 (.aload_n 3) xi0
  (cec 93 0 (.getfield 299) (2, 4, 0, 0)
  (cec 96 0 .ireturn xi0
  (cec 97 0 (.aload_n 3) xi0
  (cec 98 0 (.getfield 547) (2, 5, 4, 0)
  (cec 101 0 (.ifCond .eq 7) xi0
  (cec 104 0 (.iconst 1) xi0
  (cec 105 0 (.goto 4) xi0
  (cec 108 0 (.iconst 0) xi0
  (cec 109 0 .ireturn xi0
  (cec 110 0 (.aload_n 3) xi0
  (cec 111 0 (.getfield 293) (2, 6, 0, 0)
  (cec 114 0 .ireturn xi0
  (cec 115 0 (.aload_n 3) xi0
  (cec 116 0 (.getfield 517) (2, 7, 0, 0)
  (cec 119 0 .ireturn xi0
  (cec 120 0 (.aload_n 3) xi0
  (cec 121 0 (.getfield 258) (2, 9, 0, 0)
  (cec 124 0 .ireturn xi0
  (cec 125 0 (.aload_n 3) xi0
  (cec 126 0 (.getfield 488) (2, 10, 0, 0)
  (cec 129 0 .ireturn xi0
  (cec 130 0 (.iconst (-1)) xi0
  (cec 131 0 .ireturn xi0 []))))))))))))))))))))))))))))))))))))))))))))))
/-- SupplyBook.about(II)I -/
noncomputable def cs_67 : List CE := cec 0 0 (.aload_n 0) xi0
  (cec 1 0 (.getfield 60) (0, 9, 2, 0)
  (cec 4 0 (.iload_n 1) xi0
  (cec 5 0 (.invokevirtual 168) (168, 2, 2, 20)
  (cec 8 0 (.astore_n 3) xi0
  (cec 9 0 (.aload_n 3) xi0
  (cec 10 0 (.ifnonnull 5) xi0
  (cec 13 0 (.iconst (-1)) xi0
  (cec 14 0 .ireturn xi0
  (cec 15 0 (.iload_n 2) xi0
  (cec 16 0 (.tableswitch 106 0 7 #[48, 53, 58, 63, 68, 76, 81, 101]) xi0
  (cec 64 0 (.aload_n 3) xi0
  (cec 65 0 (.getfield 172) (1, 0, 0, 0)
  (cec 68 0 .ireturn xi0
  (cec 69 0 (.aload_n 3) xi0
  (cec 70 0 (.getfield 175) (1, 1, 0, 0)
  (cec 73 0 .ireturn xi0
  (cec 74 0 (.aload_n 3) xi0
  (cec 75 0 (.getfield 217) (1, 2, 0, 0)
  (cec 78 0 .ireturn xi0
  (cec 79 0 (.aload_n 3) xi0
  (cec 80 0 (.getfield 178) (1, 3, 0, 0)
  (cec 83 0 .ireturn xi0
  (cec 84 0 (.aload_n 3) xi0
  (cec 85 0 (.getfield 356) (1, 5, 2, 0)
  (cec 88 0 (.invokevirtual 550) (161, 1, 0, 19)
  (cec 91 0 .ireturn xi0
  (cec 92 0 (.aload_n 3) xi0
  (cec 93 0 (.getfield 193) (1, 7, 0, 0)
  (cec 96 0 .ireturn xi0
  (cec 97 0 (.aload_n 3) xi0
  (cec 98 0 (.getfield 172) (1, 0, 0, 0)
  (cec 101 0 (.iconst 1) xi0
  (cec 102 0 (.if_icmp .ne 10) xi0
  (cec 105 0 (.aload_n 3) xi0
  (cec 106 0 (.getfield 263) (1, 6, 0, 0)
  (cec 109 0 (.goto 7) xi0
  (cec 112 0 (.aload_n 3) xi0
  (cec 113 0 (.getfield 190) (1, 8, 0, 0)
  (cec 116 0 .ireturn xi0
  (cec 117 0 (.aload_n 3) xi0
  (cec 118 0 (.getfield 505) (1, 4, 0, 0)
  (cec 121 0 .ireturn xi0
  (cec 122 0 (.iconst (-1)) xi0
  (cec 123 0 .ireturn xi0 []))))))))))))))))))))))))))))))))))))))))))))
noncomputable def cs_68_1 : List CE := cec 164 0 .ireturn xi0
  (cec 165 0 (.aload_n 0) xi0
  (cec 166 0 (.getfield 24) (0, 4, 0, 0)
  (cec 169 0 .ireturn xi0
  (cec 170 0 (.aload_n 0) xi0
  (cec 171 0 (.getfield 17) (0, 2, 0, 0)
  (cec 174 0 .ireturn xi0
  (cec 175 0 (.iconst (-1)) xi0
  (cec 176 0 .ireturn xi0 []))))))))
/-- SupplyBook.count(I)I -/
noncomputable def cs_68 : List CE := cec 0 0 (.iload_n 1) xi0
  (cec 1 0 (.tableswitch 174 0 13 #[71, 76, 84, 92, 100, 108, 116, 124, 132, 140, 148, 156, 164, 169]) xi0
  (cec 72 0 (.aload_n 0) xi0
  (cec 73 0 (.getfield 7) xi0
  (cec 76 0 .ireturn xi0
  (cec 77 0 (.aload_n 0) xi0
  (cec 78 0 (.getfield 30) (0, 5, 2, 0)
  (cec 81 0 (.getfield 554) (7, 1, 0, 0)
  (cec 84 0 .ireturn xi0
  (cec 85 0 (.aload_n 0) xi0
  (cec 86 0 (.getfield 30) (0, 5, 2, 0)
  (cec 89 0 (.getfield 557) (7, 5, 0, 0)
  (cec 92 0 .ireturn xi0
  (cec 93 0 (.aload_n 0) xi0
  (cec 94 0 (.getfield 53) (0, 8, 2, 0)
  (cec 97 0 (.getfield 363) (5, 4, 0, 0)
  (cec 100 0 .ireturn xi0
  (cec 101 0 (.aload_n 0) xi0
  (cec 102 0 (.getfield 60) (0, 9, 2, 0)
  (cec 105 0 (.getfield 323) (10, 1, 0, 0)
  (cec 108 0 .ireturn xi0
  (cec 109 0 (.aload_n 0) xi0
  (cec 110 0 (.getfield 60) (0, 9, 2, 0)
  (cec 113 0 (.getfield 560) (10, 7, 0, 0)
  (cec 116 0 .ireturn xi0
  (cec 117 0 (.aload_n 0) xi0
  (cec 118 0 (.getfield 67) (0, 10, 2, 0)
  (cec 121 0 (.getfield 252) (3, 1, 0, 0)
  (cec 124 0 .ireturn xi0
  (cec 125 0 (.aload_n 0) xi0
  (cec 126 0 (.getfield 67) (0, 10, 2, 0)
  (cec 129 0 (.getfield 533) (3, 3, 0, 0)
  (cec 132 0 .ireturn xi0
  (cec 133 0 (.aload_n 0) xi0
  (cec 134 0 (.getfield 74) (0, 11, 2, 0)
  (cec 137 0 (.getfield 563) (4, 4, 0, 0)
  (cec 140 0 .ireturn xi0
  (cec 141 0 (.aload_n 0) xi0
  (cec 142 0 (.getfield 81) (0, 12, 2, 0)
  (cec 145 0 (.getfield 564) (11, 7, 0, 0)
  (cec 148 0 .ireturn xi0
  (cec 149 0 (.aload_n 0) xi0
  (cec 150 0 (.getfield 88) (0, 13, 2, 0)
  (cec 153 0 (.getfield 567) (6, 2, 0, 0)
  (cec 156 0 .ireturn xi0
  (cec 157 0 (.aload_n 0) xi0
  (cec 158 0 (.getfield 88) (0, 13, 2, 0)
  (cec 161 0 (.getfield 570) (6, 10, 0, 0) cs_68_1)))))))))))))))))))))))))))))))))))))))))))))))
/-- SupplyBook.sum(I)J -/
noncomputable def cs_69 : List CE := cec 0 0 (.iload_n 1) xi0
  (cec 1 0 (.tableswitch 91 0 5 #[39, 44, 52, 60, 68, 76]) xi0
  (cec 40 0 (.aload_n 0) xi0
  (cec 41 0 (.getfield 13) (0, 1, 1, 0)
  (cec 44 0 .lreturn xi0
  (cec 45 0 (.aload_n 0) xi0
  (cec 46 0 (.getfield 81) (0, 12, 2, 0)
  (cec 49 0 (.getfield 571) (11, 1, 1, 0)
  (cec 52 0 .lreturn xi0
  (cec 53 0 (.aload_n 0) xi0
  (cec 54 0 (.getfield 67) (0, 10, 2, 0)
  (cec 57 0 (.getfield 574) (3, 4, 1, 0)
  (cec 60 0 .lreturn xi0
  (cec 61 0 (.aload_n 0) xi0
  (cec 62 0 (.getfield 88) (0, 13, 2, 0)
  (cec 65 0 (.invokevirtual 432) (113, 1, 1, 16)
  (cec 68 0 .lreturn xi0
  (cec 69 0 (.aload_n 0) xi0
  (cec 70 0 (.getfield 88) (0, 13, 2, 0)
  (cec 73 0 (.getfield 577) (6, 11, 1, 0)
  (cec 76 0 .lreturn xi0
  (cec 77 0 (.aload_n 0) xi0
  (cec 78 0 (.getfield 81) (0, 12, 2, 0)
  (cec 81 0 (.aload_n 0) xi0
  (cec 82 0 (.getfield 7) xi0
  (cec 85 0 (.invokestatic 181) (17, 1, 0, 0)
  (cec 88 0 (.invokevirtual 580) (192, 2, 1, 21)
  (cec 91 0 .lreturn xi0
  (cec 92 0 (.ldc2_w 379) (0, 0, (-1), 0)
  (cec 95 0 .lreturn xi0 [])))))))))))))))))))))))))))))
/-- SupplyBook$Authority.<init>(IIIIILSupplyBook$Text;I)V -/
noncomputable def cs_70 : List CE := cec 0 0 (.aload_n 0) xi0
  (cec 1 0 (.invokespecial 3) (9999, 1, 9, 11)
  (cec 4 0 (.aload_n 0) xi0
  (cec 5 0 (.iconst (-1)) xi0
  (cec 6 0 (.putfield 9) (1, 7, 0, 0)
  (cec 9 0 (.aload_n 0) xi0
  (cec 10 0 (.iconst (-1)) xi0
  (cec 11 0 (.putfield 15) (1, 8, 0, 0)
  (cec 14 0 (.aload_n 0) xi0
  (cec 15 0 (.iconst (-1)) xi0
  (cec 16 0 (.putfield 18) (1, 9, 0, 0)
  (cec 19 0 (.aload_n 0) xi0
  (cec 20 0 (.iconst 0) xi0
  (cec 21 0 (.putfield 21) (1, 10, 4, 0)
  (cec 24 0 (.aload_n 0) xi0
  (cec 25 0 (.lconst 0) xi0
  (cec 26 0 (.putfield 25) (1, 11, 1, 0)
  (cec 29 0 (.aload_n 0) xi0
  (cec 30 0 (.lconst 0) xi0
  (cec 31 0 (.putfield 29) (1, 12, 1, 0)
  (cec 34 0 (.aload_n 0) xi0
  (cec 35 0 (.bipush 10) xi0
  (cec 37 0 (.newarray .long) xi0
  (cec 39 0 (.putfield 32) (1, 13, 2, 0)
  (cec 42 0 (.aload_n 0) xi0
  (cec 43 0 (.iload_n 1) xi0
  (cec 44 0 (.putfield 36) (1, 0, 0, 0)
  (cec 47 0 (.aload_n 0) xi0
  (cec 48 0 (.iload_n 2) xi0
  (cec 49 0 (.putfield 39) (1, 1, 0, 0)
  (cec 52 0 (.aload_n 0) xi0
  (cec 53 0 (.iload_n 3) xi0
  (cec 54 0 (.putfield 42) (1, 2, 0, 0)
  (cec 57 0 (.aload_n 0) xi0
  (cec 58 0 (.iload 4) xi0
  (cec 60 0 (.putfield 45) (1, 3, 0, 0)
  (cec 63 0 (.aload_n 0) xi0
  (cec 64 0 (.iload 5) xi0
  (cec 66 0 (.putfield 48) (1, 4, 0, 0)
  (cec 69 0 (.aload_n 0) xi0
  (cec 70 0 (.aload 6) xi0
  (cec 72 0 (.putfield 51) (1, 5, 2, 0)
  (cec 75 0 (.aload_n 0) xi0
  (cec 76 0 (.iload 7) xi0
  (cec 78 0 (.putfield 55) (1, 6, 0, 0)
  (cec 81 0 .return_ xi0 [])))))))))))))))))))))))))))))))))))))))))))))
/-- SupplyBook$Authority.spentIn(I)J -/
noncomputable def cs_71 : List CE := cec 0 0 (.iload_n 1) xi0
  (cec 1 0 (.invokestatic 58) (14, 1, 0, 0)
  (cec 4 0 (.ifCond .eq 12) xi0
  (cec 7 0 (.aload_n 0) xi0
  (cec 8 0 (.getfield 32) (1, 13, 2, 0)
  (cec 11 0 (.iload_n 1) xi0
  (cec 12 0 .laload xi0
  (cec 13 0 (.goto 4) xi0
  (cec 16 0 (.lconst 0) xi0
  (cec 17 0 .lreturn xi0 [])))))))))
/-- SupplyBook$Authority.spend(IJ)V -/
noncomputable def cs_72 : List CE := cec 0 0 (.iload_n 1) xi0
  (cec 1 0 (.invokestatic 58) (14, 1, 0, 0)
  (cec 4 0 (.ifCond .eq 13) xi0
  (cec 7 0 (.aload_n 0) xi0
  (cec 8 0 (.getfield 32) (1, 13, 2, 0)
  (cec 11 0 (.iload_n 1) xi0
  (cec 12 0 .dup2 xi0
  (cec 13 0 .laload xi0
  (cec 14 0 (.lload_n 2) xi0
  (cec 15 0 .ladd xi0
  (cec 16 0 .lastore xi0
  (cec 17 0 .return_ xi0 [])))))))))))
/-- SupplyBook$Authority.canMove(I)Z -/
noncomputable def cs_73 : List CE := cec 0 0 (.aload_n 0) xi0
  (cec 1 0 (.getfield 36) (1, 0, 0, 0)
  (cec 4 0 (.ifCond .eq 11) xi0
  (cec 7 0 (.aload_n 0) xi0
  (cec 8 0 (.getfield 36) (1, 0, 0, 0)
  (cec 11 0 (.iconst 2) xi0
  (cec 12 0 (.if_icmp .ne 23) xi0
  (cec 15 7 (.aload_n 0) xi0
  (cec 16 0 (.getfield 45) (1, 3, 0, 0)
  (cec 19 0 (.iload_n 1) xi0
  (cec 20 0 (.if_icmp .ne 15) xi0
  (cec 23 0 (.aload_n 0) xi0
  (cec 24 0 (.getfield 9) (1, 7, 0, 0)
  (cec 27 0 (.iconst (-1)) xi0
  (cec 28 0 (.if_icmp .ne 7) xi0
  (cec 31 0 (.iconst 1) xi0
  (cec 32 0 (.goto 4) xi0
  (cec 35 0 (.iconst 0) xi0
  (cec 36 0 .ireturn xi0 []))))))))))))))))))
/-- SupplyBook$Authority.canBind()Z -/
noncomputable def cs_74 : List CE := cec 0 0 (.aload_n 0) xi0
  (cec 1 0 (.getfield 36) (1, 0, 0, 0)
  (cec 4 0 (.ifCond .eq 19) xi0
  (cec 7 0 (.aload_n 0) xi0
  (cec 8 0 (.getfield 36) (1, 0, 0, 0)
  (cec 11 0 (.iconst 2) xi0
  (cec 12 0 (.if_icmp .eq 11) xi0
  (cec 15 0 (.aload_n 0) xi0
  (cec 16 0 (.getfield 36) (1, 0, 0, 0)
  (cec 19 0 (.iconst 3) xi0
  (cec 20 0 (.if_icmp .ne 15) xi0
  (cec 23 0 (.aload_n 0) xi0
  (cec 24 0 (.getfield 9) (1, 7, 0, 0)
  (cec 27 0 (.iconst (-1)) xi0
  (cec 28 0 (.if_icmp .ne 7) xi0
  (cec 31 0 (.iconst 1) xi0
  (cec 32 0 (.goto 4) xi0
  (cec 35 0 (.iconst 0) xi0
  (cec 36 0 .ireturn xi0 []))))))))))))))))))
/-- SupplyBook$Claim.wasPaidIn(I)Z -/
noncomputable def cs_75 : List CE := cec 0 0 (.aload_n 0) xi0
  (cec 1 0 (.invokevirtual 59) (76, 1, 0, 12)
  (cec 4 0 (.ifCond .eq 18) xi0
  (cec 7 0 (.aload_n 0) xi0
  (cec 8 0 (.getfield 15) (2, 7, 0, 0)
  (cec 11 0 (.invokestatic 63) (17, 1, 0, 0)
  (cec 14 0 (.iload_n 1) xi0
  (cec 15 0 (.if_icmp .ne 7) xi0
  (cec 18 0 (.iconst 1) xi0
  (cec 19 0 (.goto 4) xi0
  (cec 22 0 (.iconst 0) xi0
  (cec 23 0 .ireturn xi0 [])))))))))))
/-- SupplyBook$Claim.isPaid()Z -/
noncomputable def cs_76 : List CE := cec 0 0 (.aload_n 0) xi0
  (cec 1 0 (.getfield 15) (2, 7, 0, 0)
  (cec 4 0 (.iconst (-1)) xi0
  (cec 5 0 (.if_icmp .eq 7) xi0
  (cec 8 0 (.iconst 1) xi0
  (cec 9 0 (.goto 4) xi0
  (cec 12 0 (.iconst 0) xi0
  (cec 13 0 .ireturn xi0 [])))))))
/-- SupplyBook$Claim.<init>(IIIIIZ)V -/
noncomputable def cs_77 : List CE := cec 0 0 (.aload_n 0) xi0
  (cec 1 0 (.invokespecial 3) (9999, 1, 9, 12)
  (cec 4 0 (.aload_n 0) xi0
  (cec 5 0 (.iconst 0) xi0
  (cec 6 0 (.putfield 9) (2, 6, 0, 0)
  (cec 9 0 (.aload_n 0) xi0
  (cec 10 0 (.iconst (-1)) xi0
  (cec 11 0 (.putfield 15) (2, 7, 0, 0)
  (cec 14 0 (.aload_n 0) xi0
  (cec 15 0 (.iconst (-1)) xi0
  (cec 16 0 (.putfield 18) (2, 8, 0, 0)
  (cec 19 0 (.aload_n 0) xi0
  (cec 20 0 (.iconst (-1)) xi0
  (cec 21 0 (.putfield 21) (2, 9, 0, 0)
  (cec 24 0 (.aload_n 0) xi0
  (cec 25 0 (.iconst 0) xi0
  (cec 26 0 (.putfield 24) (2, 10, 0, 0)
  (cec 29 0 (.aload_n 0) xi0
  (cec 30 0 (.iconst 0) xi0
  (cec 31 0 (.putfield 27) (2, 11, 4, 0)
  (cec 34 0 (.aload_n 0) xi0
  (cec 35 0 (.iconst 0) xi0
  (cec 36 0 (.putfield 31) (2, 12, 4, 0)
  (cec 39 0 (.aload_n 0) xi0
  (cec 40 0 (.iconst (-1)) xi0
  (cec 41 0 (.putfield 34) (2, 13, 0, 0)
  (cec 44 0 (.aload_n 0) xi0
  (cec 45 0 (.lconst 0) xi0
  (cec 46 0 (.putfield 37) (2, 14, 1, 0)
  (cec 49 0 (.aload_n 0) xi0
  (cec 50 0 (.iload_n 1) xi0
  (cec 51 0 (.putfield 41) (2, 0, 0, 0)
  (cec 54 0 (.aload_n 0) xi0
  (cec 55 0 (.iload_n 2) xi0
  (cec 56 0 (.putfield 44) (2, 1, 0, 0)
  (cec 59 0 (.aload_n 0) xi0
  (cec 60 0 (.iload_n 3) xi0
  (cec 61 0 (.putfield 47) (2, 2, 0, 0)
  (cec 64 0 (.aload_n 0) xi0
  (cec 65 0 (.iload 4) xi0
  (cec 67 0 (.putfield 50) (2, 3, 0, 0)
  (cec 70 0 (.aload_n 0) xi0
  (cec 71 0 (.iload 5) xi0
  (cec 73 0 (.putfield 53) (2, 4, 0, 0)
  (cec 76 0 (.aload_n 0) xi0
  (cec 77 0 (.iload 6) xi0
  (cec 79 0 (.putfield 56) (2, 5, 4, 0)
  (cec 82 0 .return_ xi0 [])))))))))))))))))))))))))))))))))))))))))))))))
/-- SupplyBook$Claim.isFoundOf(I)Z -/
noncomputable def cs_78 : List CE := cec 0 0 (.aload_n 0) xi0
  (cec 1 0 (.getfield 31) (2, 12, 4, 0)
  (cec 4 0 (.ifCond .eq 23) xi0
  (cec 7 0 (.aload_n 0) xi0
  (cec 8 0 (.getfield 34) (2, 13, 0, 0)
  (cec 11 0 (.iconst (-1)) xi0
  (cec 12 0 (.if_icmp .eq 15) xi0
  (cec 15 0 (.aload_n 0) xi0
  (cec 16 0 (.iload_n 1) xi0
  (cec 17 0 (.invokevirtual 67) (75, 2, 0, 12)
  (cec 20 0 (.ifCond .eq 7) xi0
  (cec 23 0 (.iconst 1) xi0
  (cec 24 0 (.goto 4) xi0
  (cec 27 0 (.iconst 0) xi0
  (cec 28 0 .ireturn xi0 []))))))))))))))
/-- SupplyBook$Claims.<init>()V -/
noncomputable def cs_79 : List CE := cec 0 0 (.aload_n 0) xi0
  (cec 1 0 (.invokespecial 3) (9999, 1, 9, 13)
  (cec 4 0 (.aload_n 0) xi0
  (cec 5 0 (.sipush 300) xi0
  (cec 8 0 (.anewarray 9) (6, 0, 0, 0)
  (cec 11 0 (.putfield 11) (3, 0, 2, 0)
  (cec 14 0 (.aload_n 0) xi0
  (cec 15 0 (.iconst 0) xi0
  (cec 16 0 (.putfield 17) (3, 1, 0, 0)
  (cec 19 0 (.aload_n 0) xi0
  (cec 20 0 (.sipush 300) xi0
  (cec 23 0 (.newarray .int) xi0
  (cec 25 0 (.putfield 21) (3, 2, 2, 0)
  (cec 28 0 (.aload_n 0) xi0
  (cec 29 0 (.iconst 0) xi0
  (cec 30 0 (.putfield 25) (3, 3, 0, 0)
  (cec 33 0 (.aload_n 0) xi0
  (cec 34 0 (.lconst 0) xi0
  (cec 35 0 (.putfield 28) (3, 4, 1, 0)
  (cec 38 0 (.aload_n 0) xi0
  (cec 39 0 (.bipush 10) xi0
  (cec 41 0 (.newarray .int) xi0
  (cec 43 0 (.putfield 32) (3, 5, 2, 0)
  (cec 46 0 (.aload_n 0) xi0
  (cec 47 0 (.bipush 100) xi0
  (cec 49 0 (.newarray .int) xi0
  (cec 51 0 (.putfield 35) (3, 6, 2, 0)
  (cec 54 0 (.aload_n 0) xi0
  (cec 55 0 (.bipush 100) xi0
  (cec 57 0 (.newarray .int) xi0
  (cec 59 0 (.putfield 38) (3, 7, 2, 0)
  (cec 62 0 (.aload_n 0) xi0
  (cec 63 0 (.bipush 100) xi0
  (cec 65 0 (.newarray .int) xi0
  (cec 67 0 (.putfield 41) (3, 8, 2, 0)
  (cec 70 0 (.aload_n 0) xi0
  (cec 71 0 (.iconst 0) xi0
  (cec 72 0 (.putfield 44) (3, 9, 0, 0)
  (cec 75 0 .return_ xi0 []))))))))))))))))))))))))))))))))))))))
/-- SupplyBook$Claims.at(I)LSupplyBook$Claim; -/
noncomputable def cs_80 : List CE := cec 0 0 (.iload_n 1) xi0
  (cec 1 0 (.ifCond .lt 20) xi0
  (cec 4 0 (.iload_n 1) xi0
  (cec 5 0 (.aload_n 0) xi0
  (cec 6 0 (.getfield 17) (3, 1, 0, 0)
  (cec 9 0 (.if_icmp .ge 12) xi0
  (cec 12 0 (.aload_n 0) xi0
  (cec 13 0 (.getfield 11) (3, 0, 2, 0)
  (cec 16 0 (.iload_n 1) xi0
  (cec 17 0 .aaload xi0
  (cec 18 0 (.goto 4) xi0
  (cec 21 0 .aconst_null xi0
  (cec 22 0 .areturn xi0 []))))))))))))
/-- SupplyBook$Claims.recount(II)V -/
noncomputable def cs_81 : List CE := cec 0 0 (.iconst 0) xi0
  (cec 1 0 (.istore_n 3) xi0
  (cec 2 31 (.iload_n 3) xi0
  (cec 3 0 (.aload_n 0) xi0
  (cec 4 0 (.getfield 17) (3, 1, 0, 0)
  (cec 7 0 (.if_icmp .ge 36) xi0
  (cec 10 0 (.aload_n 0) xi0
  (cec 11 0 (.iload_n 3) xi0
  (cec 12 0 (.invokevirtual 47) (80, 2, 2, 13)
  (cec 15 0 (.astore 4) xi0
  (cec 17 0 (.aload 4) xi0
  (cec 19 0 (.ifnull 18) xi0
  (cec 22 0 (.aload 4) xi0
  (cec 24 0 (.getfield 57) (2, 9, 0, 0)
  (cec 27 0 (.iload_n 1) xi0
  (cec 28 0 (.if_icmp .ne 9) xi0
  (cec 31 0 (.aload 4) xi0
  (cec 33 0 (.iload_n 2) xi0
  (cec 34 0 (.putfield 57) (2, 9, 0, 0)
  (cec 37 0 (.iinc 3 1) xi0
  (cec 40 0 (.goto (-38)) xi0
  (cec 43 0 .return_ xi0 [])))))))))))))))))))))
/-- SupplyBook$Claims.addClaim(LSupplyBook$Claim;)I -/
noncomputable def cs_82 : List CE := cec 0 0 (.aload_n 0) xi0
  (cec 1 0 (.getfield 17) (3, 1, 0, 0)
  (cec 4 0 (.aload_n 0) xi0
  (cec 5 0 (.getfield 11) (3, 0, 2, 0)
  (cec 8 0 .arraylength xi0
  (cec 9 0 (.if_icmp .lt 5) xi0
  (cec 12 0 (.iconst (-1)) xi0
  (cec 13 0 .ireturn xi0
  (cec 14 0 (.aload_n 0) xi0
  (cec 15 0 (.getfield 11) (3, 0, 2, 0)
  (cec 18 0 (.aload_n 0) xi0
  (cec 19 0 (.getfield 17) (3, 1, 0, 0)
  (cec 22 0 (.aload_n 1) xi0
  (cec 23 0 .aastore xi0
  (cec 24 0 (.aload_n 0) xi0
  (cec 25 0 .dup xi0
  (cec 26 0 (.getfield 17) (3, 1, 0, 0)
  (cec 29 0 (.iconst 1) xi0
  (cec 30 0 .iadd xi0
  (cec 31 0 (.putfield 17) (3, 1, 0, 0)
  (cec 34 0 (.aload_n 0) xi0
  (cec 35 0 (.getfield 17) (3, 1, 0, 0)
  (cec 38 0 (.iconst 1) xi0
  (cec 39 0 .isub xi0
  (cec 40 0 .ireturn xi0 []))))))))))))))))))))))))
/-- SupplyBook$Claims.paidOfHand(II)I -/
noncomputable def cs_83 : List CE := cec 0 0 (.iconst 0) xi0
  (cec 1 0 (.istore_n 3) xi0
  (cec 2 0 (.iconst 0) xi0
  (cec 3 0 (.istore 4) xi0
  (cec 5 63 (.iload 4) xi0
  (cec 7 0 (.aload_n 0) xi0
  (cec 8 0 (.getfield 17) (3, 1, 0, 0)
  (cec 11 0 (.if_icmp .ge 43) xi0
  (cec 14 0 (.aload_n 0) xi0
  (cec 15 0 (.iload 4) xi0
  (cec 17 0 (.invokevirtual 47) (80, 2, 2, 13)
  (cec 20 0 (.astore 5) xi0
  (cec 22 0 (.aload 5) xi0
  (cec 24 0 (.ifnull 24) xi0
  (cec 27 0 (.aload 5) xi0
  (cec 29 0 (.getfield 63) (2, 0, 0, 0)
  (cec 32 0 (.iload_n 1) xi0
  (cec 33 0 (.if_icmp .ne 15) xi0
  (cec 36 0 (.aload 5) xi0
  (cec 38 0 (.iload_n 2) xi0
  (cec 39 0 (.invokevirtual 66) (75, 2, 0, 12)
  (cec 42 0 (.ifCond .eq 6) xi0
  (cec 45 0 (.iinc 3 1) xi0
  (cec 48 0 (.iinc 4 1) xi0
  (cec 51 0 (.goto (-46)) xi0
  (cec 54 0 (.iload_n 3) xi0
  (cec 55 0 .ireturn xi0 []))))))))))))))))))))))))))
/-- SupplyBook$Claims.markPaid(III)V -/
noncomputable def cs_84 : List CE := cec 0 0 (.aload_n 0) xi0
  (cec 1 0 (.iload_n 1) xi0
  (cec 2 0 (.invokevirtual 47) (80, 2, 2, 13)
  (cec 5 0 (.astore 4) xi0
  (cec 7 0 (.aload 4) xi0
  (cec 9 0 (.ifnull 15) xi0
  (cec 12 0 (.aload_n 0) xi0
  (cec 13 0 (.getfield 25) (3, 3, 0, 0)
  (cec 16 0 (.aload_n 0) xi0
  (cec 17 0 (.getfield 21) (3, 2, 2, 0)
  (cec 20 0 .arraylength xi0
  (cec 21 0 (.if_icmp .lt 4) xi0
  (cec 24 0 .return_ xi0
  (cec 25 0 (.aload 4) xi0
  (cec 27 0 (.iload_n 3) xi0
  (cec 28 0 (.putfield 51) (2, 7, 0, 0)
  (cec 31 0 (.aload 4) xi0
  (cec 33 0 (.iload_n 2) xi0
  (cec 34 0 (.putfield 54) (2, 8, 0, 0)
  (cec 37 0 (.aload 4) xi0
  (cec 39 0 (.iload_n 2) xi0
  (cec 40 0 (.putfield 57) (2, 9, 0, 0)
  (cec 43 0 (.aload_n 0) xi0
  (cec 44 0 (.getfield 21) (3, 2, 2, 0)
  (cec 47 0 (.aload_n 0) xi0
  (cec 48 0 (.getfield 25) (3, 3, 0, 0)
  (cec 51 0 (.iload_n 1) xi0
  (cec 52 0 .iastore xi0
  (cec 53 0 (.aload_n 0) xi0
  (cec 54 0 .dup xi0
  (cec 55 0 (.getfield 25) (3, 3, 0, 0)
  (cec 58 0 (.iconst 1) xi0
  (cec 59 0 .iadd xi0
  (cec 60 0 (.putfield 25) (3, 3, 0, 0)
  (cec 63 0 (.aload_n 0) xi0
  (cec 64 0 .dup xi0
  (cec 65 0 (.getfield 28) (3, 4, 1, 0)
  (cec 68 0 (.aload 4) xi0
  (cec 70 0 (.getfield 60) (2, 3, 0, 0)
  (cec 73 0 .i2l xi0
  (cec 74 0 .ladd xi0
  (cec 75 0 (.putfield 28) (3, 4, 1, 0)
  (cec 78 0 .return_ xi0 []))))))))))))))))))))))))))))))))))))))))))
noncomputable def cs_85_1 : List CE := cec 89 0 (.iconst 1) xi0
  (cec 90 0 (.goto 4) xi0
  (cec 93 0 (.iconst 0) xi0
  (cec 94 7735 (.putfield 73) (2, 12, 4, 0)
  (cec 97 0 (.aload 10) xi0
  (cec 99 0 (.getfield 73) (2, 12, 4, 0)
  (cec 102 0 (.ifCond .eq 27) xi0
  (cec 105 0 (.lload 4) xi0
  (cec 107 0 (.lload 11) xi0
  (cec 109 0 (.lload 4) xi0
  (cec 111 0 .lsub xi0
  (cec 112 0 (.iload_n 3) xi0
  (cec 113 0 .i2l xi0
  (cec 114 0 .ladd xi0
  (cec 115 0 (.lconst 1) xi0
  (cec 116 0 .lsub xi0
  (cec 117 0 (.iload_n 3) xi0
  (cec 118 0 .i2l xi0
  (cec 119 0 .ldiv xi0
  (cec 120 0 (.iload_n 3) xi0
  (cec 121 0 .i2l xi0
  (cec 122 0 .lmul xi0
  (cec 123 0 .ladd xi0
  (cec 124 0 (.lstore 4) xi0
  (cec 126 0 (.iinc 8 1) xi0
  (cec 129 0 (.lload 11) xi0
  (cec 131 0 (.lstore 6) xi0
  (cec 133 0 (.iinc 9 1) xi0
  (cec 136 0 (.goto (-102)) xi0
  (cec 139 0 (.iload 8) xi0
  (cec 141 0 .ireturn xi0 []))))))))))))))))))))))))))))))
/-- SupplyBook$Claims.drawSome(III)I -/
noncomputable def cs_85 : List CE := cec 0 0 (.iload_n 1) xi0
  (cec 1 0 (.invokestatic 70) (14, 1, 0, 0)
  (cec 4 0 (.ifCond .eq 8) xi0
  (cec 7 0 (.iload_n 3) xi0
  (cec 8 0 (.iconst 1) xi0
  (cec 9 0 (.if_icmp .ge 5) xi0
  (cec 12 0 (.iconst (-1)) xi0
  (cec 13 0 .ireturn xi0
  (cec 14 0 (.aload_n 0) xi0
  (cec 15 0 (.getfield 32) (3, 5, 2, 0)
  (cec 18 0 (.iload_n 1) xi0
  (cec 19 0 (.iload_n 3) xi0
  (cec 20 0 .iastore xi0
  (cec 21 0 (.iload_n 2) xi0
  (cec 22 0 .i2l xi0
  (cec 23 0 (.lstore 4) xi0
  (cec 25 0 (.lconst 0) xi0
  (cec 26 0 (.lstore 6) xi0
  (cec 28 0 (.iconst 0) xi0
  (cec 29 0 (.istore 8) xi0
  (cec 31 0 (.iconst 0) xi0
  (cec 32 0 (.istore 9) xi0
  (cec 34 1719 (.iload 9) xi0
  (cec 36 0 (.aload_n 0) xi0
  (cec 37 0 (.getfield 17) (3, 1, 0, 0)
  (cec 40 0 (.if_icmp .ge 99) xi0
  (cec 43 0 (.aload_n 0) xi0
  (cec 44 0 (.iload 9) xi0
  (cec 46 0 (.invokevirtual 47) (80, 2, 2, 13)
  (cec 49 0 (.astore 10) xi0
  (cec 51 0 (.aload 10) xi0
  (cec 53 0 (.ifnull 80) xi0
  (cec 56 0 (.aload 10) xi0
  (cec 58 0 (.iload_n 1) xi0
  (cec 59 0 (.invokevirtual 66) (75, 2, 0, 12)
  (cec 62 0 (.ifCond .ne 6) xi0
  (cec 65 0 (.goto 68) xi0
  (cec 68 0 (.lload 6) xi0
  (cec 70 0 (.aload 10) xi0
  (cec 72 0 (.getfield 60) (2, 3, 0, 0)
  (cec 75 0 .i2l xi0
  (cec 76 0 .ladd xi0
  (cec 77 0 (.lstore 11) xi0
  (cec 79 0 (.aload 10) xi0
  (cec 81 0 (.lload 4) xi0
  (cec 83 0 (.lload 11) xi0
  (cec 85 0 .lcmp xi0
  (cec 86 0 (.ifCond .ge 7) xi0 cs_85_1)))))))))))))))))))))))))))))))))))))))))))))))
/-- SupplyBook$Claims.drawnAt(II)I -/
noncomputable def cs_86 : List CE := cec 0 0 (.iconst 0) xi0
  (cec 1 0 (.istore_n 3) xi0
  (cec 2 0 (.iconst 0) xi0
  (cec 3 0 (.istore 4) xi0
  (cec 5 63 (.iload 4) xi0
  (cec 7 0 (.aload_n 0) xi0
  (cec 8 0 (.getfield 17) (3, 1, 0, 0)
  (cec 11 0 (.if_icmp .ge 50) xi0
  (cec 14 0 (.aload_n 0) xi0
  (cec 15 0 (.iload 4) xi0
  (cec 17 0 (.invokevirtual 47) (80, 2, 2, 13)
  (cec 20 0 (.astore 5) xi0
  (cec 22 0 (.aload 5) xi0
  (cec 24 0 (.ifnull 31) xi0
  (cec 27 0 (.aload 5) xi0
  (cec 29 0 (.getfield 73) (2, 12, 4, 0)
  (cec 32 0 (.ifCond .eq 23) xi0
  (cec 35 0 (.aload 5) xi0
  (cec 37 0 (.iload_n 1) xi0
  (cec 38 0 (.invokevirtual 66) (75, 2, 0, 12)
  (cec 41 0 (.ifCond .eq 14) xi0
  (cec 44 0 (.iload_n 3) xi0
  (cec 45 0 (.iload_n 2) xi0
  (cec 46 0 (.if_icmp .ne 6) xi0
  (cec 49 0 (.iload 4) xi0
  (cec 51 0 .ireturn xi0
  (cec 52 0 (.iinc 3 1) xi0
  (cec 55 0 (.iinc 4 1) xi0
  (cec 58 0 (.goto (-53)) xi0
  (cec 61 0 (.iconst (-1)) xi0
  (cec 62 0 .ireturn xi0 []))))))))))))))))))))))))))))))
/-- SupplyBook$Claims.faultsOf(I)J -/
noncomputable def cs_87 : List CE := cec 0 0 (.lconst 0) xi0
  (cec 1 0 (.lstore_n 2) xi0
  (cec 2 0 (.iconst 0) xi0
  (cec 3 0 (.istore 4) xi0
  (cec 5 47 (.iload 4) xi0
  (cec 7 0 (.aload_n 0) xi0
  (cec 8 0 (.getfield 17) (3, 1, 0, 0)
  (cec 11 0 (.if_icmp .ge 40) xi0
  (cec 14 0 (.aload_n 0) xi0
  (cec 15 0 (.iload 4) xi0
  (cec 17 0 (.invokevirtual 47) (80, 2, 2, 13)
  (cec 20 0 (.astore 5) xi0
  (cec 22 0 (.aload 5) xi0
  (cec 24 0 (.ifnull 21) xi0
  (cec 27 0 (.aload 5) xi0
  (cec 29 0 (.iload_n 1) xi0
  (cec 30 0 (.invokevirtual 77) (78, 2, 0, 12)
  (cec 33 0 (.ifCond .eq 12) xi0
  (cec 36 0 (.lload_n 2) xi0
  (cec 37 0 (.aload 5) xi0
  (cec 39 0 (.getfield 80) (2, 13, 0, 0)
  (cec 42 0 .i2l xi0
  (cec 43 0 .ladd xi0
  (cec 44 0 (.lstore_n 2) xi0
  (cec 45 0 (.iinc 4 1) xi0
  (cec 48 0 (.goto (-43)) xi0
  (cec 51 0 (.lload_n 2) xi0
  (cec 52 0 .lreturn xi0 [])))))))))))))))))))))))))))
noncomputable def cs_88_1 : List CE := cec 95 0 (.getfield 80) (2, 13, 0, 0)
  (cec 98 0 .i2l xi0
  (cec 99 0 (.goto 18) xi0
  (cec 102 0 (.aload 7) xi0
  (cec 104 0 (.getfield 80) (2, 13, 0, 0)
  (cec 107 0 .i2l xi0
  (cec 108 0 (.lload_n 2) xi0
  (cec 109 0 .lmul xi0
  (cec 110 0 (.aload 7) xi0
  (cec 112 0 (.getfield 60) (2, 3, 0, 0)
  (cec 115 0 .i2l xi0
  (cec 116 0 .ldiv xi0
  (cec 117 0 .ladd xi0
  (cec 118 0 (.lstore 4) xi0
  (cec 120 0 (.iinc 6 1) xi0
  (cec 123 0 (.goto (-98)) xi0
  (cec 126 0 (.lload 4) xi0
  (cec 128 0 .lreturn xi0 [])))))))))))))))))
/-- SupplyBook$Claims.spreadFaultsOf(I)J -/
noncomputable def cs_88 : List CE := cec 0 0 (.iload_n 1) xi0
  (cec 1 0 (.invokestatic 70) (14, 1, 0, 0)
  (cec 4 0 (.ifCond .ne 7) xi0
  (cec 7 0 (.ldc2_w 83) (0, 0, (-1), 0)
  (cec 10 0 .lreturn xi0
  (cec 11 0 (.aload_n 0) xi0
  (cec 12 0 (.getfield 32) (3, 5, 2, 0)
  (cec 15 0 (.iload_n 1) xi0
  (cec 16 0 .iaload xi0
  (cec 17 0 .i2l xi0
  (cec 18 0 (.lstore_n 2) xi0
  (cec 19 0 (.lconst 0) xi0
  (cec 20 0 (.lstore 4) xi0
  (cec 22 0 (.iconst 0) xi0
  (cec 23 0 (.istore 6) xi0
  (cec 25 175 (.iload 6) xi0
  (cec 27 0 (.aload_n 0) xi0
  (cec 28 0 (.getfield 17) (3, 1, 0, 0)
  (cec 31 0 (.if_icmp .ge 95) xi0
  (cec 34 0 (.aload_n 0) xi0
  (cec 35 0 (.iload 6) xi0
  (cec 37 0 (.invokevirtual 47) (80, 2, 2, 13)
  (cec 40 0 (.astore 7) xi0
  (cec 42 0 (.aload 7) xi0
  (cec 44 0 (.ifnull 76) xi0
  (cec 47 0 (.aload 7) xi0
  (cec 49 0 (.iload_n 1) xi0
  (cec 50 0 (.invokevirtual 77) (78, 2, 0, 12)
  (cec 53 0 (.ifCond .ne 6) xi0
  (cec 56 0 (.goto 64) xi0
  (cec 59 0 (.aload 7) xi0
  (cec 61 0 (.getfield 60) (2, 3, 0, 0)
  (cec 64 0 .i2l xi0
  (cec 65 0 (.lload_n 2) xi0
  (cec 66 0 .lcmp xi0
  (cec 67 0 (.ifCond .ge 12) xi0
  (cec 70 0 (.aload 7) xi0
  (cec 72 0 (.getfield 60) (2, 3, 0, 0)
  (cec 75 0 (.iconst 1) xi0
  (cec 76 0 (.if_icmp .ge 7) xi0
  (cec 79 0 (.iconst 1) xi0
  (cec 80 0 (.goto 4) xi0
  (cec 83 0 (.iconst 0) xi0
  (cec 84 431 (.istore 8) xi0
  (cec 86 0 (.lload 4) xi0
  (cec 88 0 (.iload 8) xi0
  (cec 90 0 (.ifCond .eq 12) xi0
  (cec 93 0 (.aload 7) xi0 cs_88_1)))))))))))))))))))))))))))))))))))))))))))))))
/-- SupplyBook$Claims.notRightOf(I)J -/
noncomputable def cs_89 : List CE := cec 0 0 (.lconst 0) xi0
  (cec 1 0 (.lstore_n 2) xi0
  (cec 2 0 (.iconst 0) xi0
  (cec 3 0 (.istore 4) xi0
  (cec 5 47 (.iload 4) xi0
  (cec 7 0 (.aload_n 0) xi0
  (cec 8 0 (.getfield 17) (3, 1, 0, 0)
  (cec 11 0 (.if_icmp .ge 58) xi0
  (cec 14 0 (.aload_n 0) xi0
  (cec 15 0 (.iload 4) xi0
  (cec 17 0 (.invokevirtual 47) (80, 2, 2, 13)
  (cec 20 0 (.astore 5) xi0
  (cec 22 0 (.aload 5) xi0
  (cec 24 0 (.ifnull 39) xi0
  (cec 27 0 (.aload 5) xi0
  (cec 29 0 (.iload_n 1) xi0
  (cec 30 0 (.invokevirtual 66) (75, 2, 0, 12)
  (cec 33 0 (.ifCond .eq 30) xi0
  (cec 36 0 (.lload_n 2) xi0
  (cec 37 0 (.aload 5) xi0
  (cec 39 0 (.iload_n 1) xi0
  (cec 40 0 (.invokevirtual 77) (78, 2, 0, 12)
  (cec 43 0 (.ifCond .eq 12) xi0
  (cec 46 0 (.aload 5) xi0
  (cec 48 0 (.getfield 80) (2, 13, 0, 0)
  (cec 51 0 .i2l xi0
  (cec 52 0 (.goto 9) xi0
  (cec 55 0 (.aload 5) xi0
  (cec 57 0 (.getfield 60) (2, 3, 0, 0)
  (cec 60 0 .i2l xi0
  (cec 61 0 .ladd xi0
  (cec 62 0 (.lstore_n 2) xi0
  (cec 63 0 (.iinc 4 1) xi0
  (cec 66 0 (.goto (-61)) xi0
  (cec 69 0 (.lload_n 2) xi0
  (cec 70 0 .lreturn xi0 [])))))))))))))))))))))))))))))))))))
/-- SupplyBook$Claims.addFind(III)Z -/
noncomputable def cs_90 : List CE := cec 0 0 (.aload_n 0) xi0
  (cec 1 0 (.iload_n 1) xi0
  (cec 2 0 (.invokevirtual 47) (80, 2, 2, 13)
  (cec 5 0 (.astore 4) xi0
  (cec 7 0 (.aload 4) xi0
  (cec 9 0 (.ifnull 15) xi0
  (cec 12 0 (.aload_n 0) xi0
  (cec 13 0 (.getfield 44) (3, 9, 0, 0)
  (cec 16 0 (.aload_n 0) xi0
  (cec 17 0 (.getfield 35) (3, 6, 2, 0)
  (cec 20 0 .arraylength xi0
  (cec 21 0 (.if_icmp .lt 5) xi0
  (cec 24 0 (.iconst 0) xi0
  (cec 25 0 .ireturn xi0
  (cec 26 0 (.aload 4) xi0
  (cec 28 0 .dup xi0
  (cec 29 0 (.getfield 85) (2, 14, 1, 0)
  (cec 32 0 (.iload_n 2) xi0
  (cec 33 0 .i2l xi0
  (cec 34 0 .ladd xi0
  (cec 35 0 (.putfield 85) (2, 14, 1, 0)
  (cec 38 0 (.aload_n 0) xi0
  (cec 39 0 (.getfield 35) (3, 6, 2, 0)
  (cec 42 0 (.aload_n 0) xi0
  (cec 43 0 (.getfield 44) (3, 9, 0, 0)
  (cec 46 0 (.iload_n 1) xi0
  (cec 47 0 .iastore xi0
  (cec 48 0 (.aload_n 0) xi0
  (cec 49 0 (.getfield 38) (3, 7, 2, 0)
  (cec 52 0 (.aload_n 0) xi0
  (cec 53 0 (.getfield 44) (3, 9, 0, 0)
  (cec 56 0 (.iload_n 2) xi0
  (cec 57 0 .iastore xi0
  (cec 58 0 (.aload_n 0) xi0
  (cec 59 0 (.getfield 41) (3, 8, 2, 0)
  (cec 62 0 (.aload_n 0) xi0
  (cec 63 0 (.getfield 44) (3, 9, 0, 0)
  (cec 66 0 (.iload_n 3) xi0
  (cec 67 0 .iastore xi0
  (cec 68 0 (.aload_n 0) xi0
  (cec 69 0 .dup xi0
  (cec 70 0 (.getfield 44) (3, 9, 0, 0)
  (cec 73 0 (.iconst 1) xi0
  (cec 74 0 .iadd xi0
  (cec 75 0 (.putfield 44) (3, 9, 0, 0)
  (cec 78 0 (.iconst 1) xi0
  (cec 79 0 .ireturn xi0 []))))))))))))))))))))))))))))))))))))))))))))))
/-- SupplyBook$Claims.knownWrong(II)J -/
noncomputable def cs_91 : List CE := cec 0 0 (.lconst 0) xi0
  (cec 1 0 (.lstore_n 3) xi0
  (cec 2 0 (.iconst 0) xi0
  (cec 3 0 (.istore 5) xi0
  (cec 5 95 (.iload 5) xi0
  (cec 7 0 (.aload_n 0) xi0
  (cec 8 0 (.getfield 44) (3, 9, 0, 0)
  (cec 11 0 (.if_icmp .ge 42) xi0
  (cec 14 0 (.aload_n 0) xi0
  (cec 15 0 (.getfield 35) (3, 6, 2, 0)
  (cec 18 0 (.iload 5) xi0
  (cec 20 0 .iaload xi0
  (cec 21 0 (.iload_n 1) xi0
  (cec 22 0 (.if_icmp .ne 25) xi0
  (cec 25 0 (.aload_n 0) xi0
  (cec 26 0 (.getfield 41) (3, 8, 2, 0)
  (cec 29 0 (.iload 5) xi0
  (cec 31 0 .iaload xi0
  (cec 32 0 (.iload_n 2) xi0
  (cec 33 0 (.if_icmp .gt 14) xi0
  (cec 36 0 (.lload_n 3) xi0
  (cec 37 0 (.aload_n 0) xi0
  (cec 38 0 (.getfield 38) (3, 7, 2, 0)
  (cec 41 0 (.iload 5) xi0
  (cec 43 0 .iaload xi0
  (cec 44 0 .i2l xi0
  (cec 45 0 .ladd xi0
  (cec 46 0 (.lstore_n 3) xi0
  (cec 47 0 (.iinc 5 1) xi0
  (cec 50 0 (.goto (-45)) xi0
  (cec 53 0 (.lload_n 3) xi0
  (cec 54 0 .lreturn xi0 [])))))))))))))))))))))))))))))))
/-- SupplyBook$Claims.paidAt(I)I -/
noncomputable def cs_92 : List CE := cec 0 0 (.iload_n 1) xi0
  (cec 1 0 (.ifCond .lt 20) xi0
  (cec 4 0 (.iload_n 1) xi0
  (cec 5 0 (.aload_n 0) xi0
  (cec 6 0 (.getfield 25) (3, 3, 0, 0)
  (cec 9 0 (.if_icmp .ge 12) xi0
  (cec 12 0 (.aload_n 0) xi0
  (cec 13 0 (.getfield 21) (3, 2, 2, 0)
  (cec 16 0 (.iload_n 1) xi0
  (cec 17 0 .iaload xi0
  (cec 18 0 (.goto 4) xi0
  (cec 21 0 (.iconst (-1)) xi0
  (cec 22 0 .ireturn xi0 []))))))))))))
/-- SupplyBook$Cuts.<init>()V -/
noncomputable def cs_93 : List CE := cec 0 0 (.aload_n 0) xi0
  (cec 1 0 (.invokespecial 3) (9999, 1, 9, 14)
  (cec 4 0 (.aload_n 0) xi0
  (cec 5 0 (.bipush 14) xi0
  (cec 7 0 (.newarray .int) xi0
  (cec 9 0 (.putfield 9) (4, 0, 2, 0)
  (cec 12 0 (.aload_n 0) xi0
  (cec 13 0 (.bipush 14) xi0
  (cec 15 0 (.newarray .int) xi0
  (cec 17 0 (.putfield 15) (4, 1, 2, 0)
  (cec 20 0 (.aload_n 0) xi0
  (cec 21 0 (.bipush 15) xi0
  (cec 23 0 (.newarray .long) xi0
  (cec 25 0 (.putfield 18) (4, 2, 2, 0)
  (cec 28 0 (.aload_n 0) xi0
  (cec 29 0 (.iconst 0) xi0
  (cec 30 0 (.putfield 22) (4, 3, 0, 0)
  (cec 33 0 (.aload_n 0) xi0
  (cec 34 0 (.iconst 0) xi0
  (cec 35 0 (.putfield 26) (4, 4, 0, 0)
  (cec 38 0 (.aload_n 0) xi0
  (cec 39 0 (.iconst (-1)) xi0
  (cec 40 0 (.putfield 29) (4, 5, 0, 0)
  (cec 43 0 (.aload_n 0) xi0
  (cec 44 0 (.lconst 0) xi0
  (cec 45 0 (.putfield 32) (4, 6, 1, 0)
  (cec 48 0 (.aload_n 0) xi0
  (cec 49 0 (.lconst 0) xi0
  (cec 50 0 (.putfield 36) (4, 7, 1, 0)
  (cec 53 0 (.aload_n 0) xi0
  (cec 54 0 (.ldc2_w 39) (0, 0, (-1), 0)
  (cec 57 0 (.putfield 41) (4, 8, 1, 0)
  (cec 60 0 .return_ xi0 []))))))))))))))))))))))))))))))))
noncomputable def cs_94_1 : List CE := cec 80 0 (.aload_n 0) xi0
  (cec 81 0 .dup xi0
  (cec 82 0 (.getfield 26) (4, 4, 0, 0)
  (cec 85 0 (.iconst 1) xi0
  (cec 86 0 .iadd xi0
  (cec 87 0 (.putfield 26) (4, 4, 0, 0)
  (cec 90 0 (.aload_n 0) xi0
  (cec 91 0 (.getfield 26) (4, 4, 0, 0)
  (cec 94 0 (.iconst 1) xi0
  (cec 95 0 .isub xi0
  (cec 96 0 .ireturn xi0 []))))))))))
/-- SupplyBook$Cuts.addItem(IIZ)I -/
noncomputable def cs_94 : List CE := cec 0 0 (.aload_n 0) xi0
  (cec 1 0 (.getfield 26) (4, 4, 0, 0)
  (cec 4 0 (.aload_n 0) xi0
  (cec 5 0 (.getfield 9) (4, 0, 2, 0)
  (cec 8 0 .arraylength xi0
  (cec 9 0 (.if_icmp .lt 5) xi0
  (cec 12 0 (.iconst (-1)) xi0
  (cec 13 0 .ireturn xi0
  (cec 14 0 (.aload_n 0) xi0
  (cec 15 0 (.getfield 9) (4, 0, 2, 0)
  (cec 18 0 (.aload_n 0) xi0
  (cec 19 0 (.getfield 26) (4, 4, 0, 0)
  (cec 22 0 (.iload_n 1) xi0
  (cec 23 0 .iastore xi0
  (cec 24 0 (.aload_n 0) xi0
  (cec 25 0 (.getfield 15) (4, 1, 2, 0)
  (cec 28 0 (.aload_n 0) xi0
  (cec 29 0 (.getfield 26) (4, 4, 0, 0)
  (cec 32 0 (.iload_n 2) xi0
  (cec 33 0 .iastore xi0
  (cec 34 0 (.aload_n 0) xi0
  (cec 35 0 (.getfield 18) (4, 2, 2, 0)
  (cec 38 0 (.aload_n 0) xi0
  (cec 39 0 (.getfield 26) (4, 4, 0, 0)
  (cec 42 0 (.iconst 1) xi0
  (cec 43 0 .iadd xi0
  (cec 44 0 (.aload_n 0) xi0
  (cec 45 0 (.getfield 18) (4, 2, 2, 0)
  (cec 48 0 (.aload_n 0) xi0
  (cec 49 0 (.getfield 26) (4, 4, 0, 0)
  (cec 52 0 .laload xi0
  (cec 53 0 (.iload_n 2) xi0
  (cec 54 0 .i2l xi0
  (cec 55 0 .ladd xi0
  (cec 56 0 .lastore xi0
  (cec 57 0 (.aload_n 0) xi0
  (cec 58 0 .dup xi0
  (cec 59 0 (.getfield 22) (4, 3, 0, 0)
  (cec 62 0 (.iload_n 3) xi0
  (cec 63 0 (.ifCond .eq 12) xi0
  (cec 66 0 (.iconst 1) xi0
  (cec 67 0 (.aload_n 0) xi0
  (cec 68 0 (.getfield 26) (4, 4, 0, 0)
  (cec 71 0 .ishl xi0
  (cec 72 0 (.goto 4) xi0
  (cec 75 0 (.iconst 0) xi0
  (cec 76 0 .ior xi0
  (cec 77 0 (.putfield 22) (4, 3, 0, 0) cs_94_1)))))))))))))))))))))))))))))))))))))))))))))))
/-- SupplyBook$Cuts.bestOf(I)I -/
noncomputable def cs_95 : List CE := cec 0 0 (.aload_n 0) xi0
  (cec 1 0 (.iconst (-1)) xi0
  (cec 2 0 (.putfield 29) (4, 5, 0, 0)
  (cec 5 0 (.aload_n 0) xi0
  (cec 6 0 (.aload_n 0) xi0
  (cec 7 0 (.getfield 26) (4, 4, 0, 0)
  (cec 10 0 (.iconst 1) xi0
  (cec 11 0 .isub xi0
  (cec 12 0 (.iload_n 1) xi0
  (cec 13 0 .i2l xi0
  (cec 14 0 (.lconst 0) xi0
  (cec 15 0 (.lconst 0) xi0
  (cec 16 0 (.iconst 0) xi0
  (cec 17 0 (.invokevirtual 44) (96, 6, 9, 14)
  (cec 20 0 (.aload_n 0) xi0
  (cec 21 0 (.getfield 29) (4, 5, 0, 0)
  (cec 24 0 .ireturn xi0 []))))))))))))))))
noncomputable def cs_96_1 : List CE := cec 81 0 .i2l xi0
  (cec 82 0 .ladd xi0
  (cec 83 0 (.lload 6) xi0
  (cec 85 0 (.aload_n 0) xi0
  (cec 86 0 (.getfield 15) (4, 1, 2, 0)
  (cec 89 0 (.iload_n 1) xi0
  (cec 90 0 .iaload xi0
  (cec 91 0 .i2l xi0
  (cec 92 0 .ladd xi0
  (cec 93 0 (.iload 8) xi0
  (cec 95 0 (.iconst 1) xi0
  (cec 96 0 (.iload_n 1) xi0
  (cec 97 0 .ishl xi0
  (cec 98 0 .ior xi0
  (cec 99 0 (.invokevirtual 44) (96, 6, 9, 14)
  (cec 102 0 (.aload_n 0) xi0
  (cec 103 0 (.getfield 22) (4, 3, 0, 0)
  (cec 106 0 (.iload_n 1) xi0
  (cec 107 0 .ishr xi0
  (cec 108 0 (.iconst 1) xi0
  (cec 109 0 .iand xi0
  (cec 110 0 (.ifCond .ne 17) xi0
  (cec 113 0 (.aload_n 0) xi0
  (cec 114 0 (.iload_n 1) xi0
  (cec 115 0 (.iconst 1) xi0
  (cec 116 0 .isub xi0
  (cec 117 0 (.lload_n 2) xi0
  (cec 118 0 (.lload 4) xi0
  (cec 120 0 (.lload 6) xi0
  (cec 122 0 (.iload 8) xi0
  (cec 124 0 (.invokevirtual 44) (96, 6, 9, 14)
  (cec 127 0 .return_ xi0 [])))))))))))))))))))))))))))))))
/-- SupplyBook$Cuts.chooseFrom(IJJJI)V -/
noncomputable def cs_96 : List CE := cec 0 0 (.lload 4) xi0
  (cec 2 0 (.lload_n 2) xi0
  (cec 3 0 .lcmp xi0
  (cec 4 0 (.ifCond .gt 40) xi0
  (cec 7 0 (.iload_n 1) xi0
  (cec 8 0 (.aload_n 0) xi0
  (cec 9 0 (.getfield 9) (4, 0, 2, 0)
  (cec 12 0 .arraylength xi0
  (cec 13 0 (.if_icmp .ge 31) xi0
  (cec 16 0 (.aload_n 0) xi0
  (cec 17 0 (.getfield 29) (4, 5, 0, 0)
  (cec 20 0 (.iconst (-1)) xi0
  (cec 21 0 (.if_icmp .eq 24) xi0
  (cec 24 0 (.aload_n 0) xi0
  (cec 25 0 (.lload 4) xi0
  (cec 27 0 (.lload 6) xi0
  (cec 29 0 (.aload_n 0) xi0
  (cec 30 0 (.getfield 18) (4, 2, 2, 0)
  (cec 33 0 (.iload_n 1) xi0
  (cec 34 0 (.iconst 1) xi0
  (cec 35 0 .iadd xi0
  (cec 36 0 .laload xi0
  (cec 37 0 .ladd xi0
  (cec 38 0 (.invokevirtual 56) (97, 3, 0, 14)
  (cec 41 0 (.ifCond .eq 4) xi0
  (cec 44 0 .return_ xi0
  (cec 45 687 (.iload_n 1) xi0
  (cec 46 0 (.ifCond .ge 22) xi0
  (cec 49 0 (.aload_n 0) xi0
  (cec 50 0 (.iload 8) xi0
  (cec 52 0 (.putfield 29) (4, 5, 0, 0)
  (cec 55 0 (.aload_n 0) xi0
  (cec 56 0 (.lload 4) xi0
  (cec 58 0 (.putfield 32) (4, 6, 1, 0)
  (cec 61 0 (.aload_n 0) xi0
  (cec 62 0 (.lload 6) xi0
  (cec 64 0 (.putfield 36) (4, 7, 1, 0)
  (cec 67 0 .return_ xi0
  (cec 68 0 (.aload_n 0) xi0
  (cec 69 0 (.iload_n 1) xi0
  (cec 70 0 (.iconst 1) xi0
  (cec 71 0 .isub xi0
  (cec 72 0 (.lload_n 2) xi0
  (cec 73 0 (.lload 4) xi0
  (cec 75 0 (.aload_n 0) xi0
  (cec 76 0 (.getfield 9) (4, 0, 2, 0)
  (cec 79 0 (.iload_n 1) xi0
  (cec 80 0 .iaload xi0 cs_96_1)))))))))))))))))))))))))))))))))))))))))))))))
/-- SupplyBook$Cuts.isWorse(JJ)Z -/
noncomputable def cs_97 : List CE := cec 0 0 (.lload_n 3) xi0
  (cec 1 0 (.aload_n 0) xi0
  (cec 2 0 (.getfield 36) (4, 7, 1, 0)
  (cec 5 0 .lcmp xi0
  (cec 6 0 (.ifCond .lt 21) xi0
  (cec 9 0 (.lload_n 3) xi0
  (cec 10 0 (.aload_n 0) xi0
  (cec 11 0 (.getfield 36) (4, 7, 1, 0)
  (cec 14 0 .lcmp xi0
  (cec 15 0 (.ifCond .ne 16) xi0
  (cec 18 0 (.lload_n 1) xi0
  (cec 19 0 (.aload_n 0) xi0
  (cec 20 0 (.getfield 32) (4, 6, 1, 0)
  (cec 23 0 .lcmp xi0
  (cec 24 0 (.ifCond .le 7) xi0
  (cec 27 0 (.iconst 1) xi0
  (cec 28 0 (.goto 4) xi0
  (cec 31 0 (.iconst 0) xi0
  (cec 32 0 .ireturn xi0 []))))))))))))))))))
/-- SupplyBook$Cuts.moreThan(I)J -/
noncomputable def cs_98 : List CE := cec 0 0 (.aload_n 0) xi0
  (cec 1 0 (.iload_n 1) xi0
  (cec 2 0 (.invokevirtual 48) (95, 2, 0, 14)
  (cec 5 0 (.iconst (-1)) xi0
  (cec 6 0 (.if_icmp .ne 7) xi0
  (cec 9 0 (.ldc2_w 39) (0, 0, (-1), 0)
  (cec 12 0 .lreturn xi0
  (cec 13 0 (.aload_n 0) xi0
  (cec 14 0 (.ldc2_w 39) (0, 0, (-1), 0)
  (cec 17 0 (.putfield 41) (4, 8, 1, 0)
  (cec 20 0 (.aload_n 0) xi0
  (cec 21 0 (.aload_n 0) xi0
  (cec 22 0 (.getfield 26) (4, 4, 0, 0)
  (cec 25 0 (.iconst 1) xi0
  (cec 26 0 .isub xi0
  (cec 27 0 (.lconst 0) xi0
  (cec 28 0 (.lconst 0) xi0
  (cec 29 0 (.invokevirtual 52) (99, 4, 9, 14)
  (cec 32 0 (.aload_n 0) xi0
  (cec 33 0 (.getfield 41) (4, 8, 1, 0)
  (cec 36 0 (.ldc2_w 39) (0, 0, (-1), 0)
  (cec 39 0 .lcmp xi0
  (cec 40 0 (.ifCond .ne 7) xi0
  (cec 43 0 (.lconst 0) xi0
  (cec 44 0 (.goto 10) xi0
  (cec 47 0 (.aload_n 0) xi0
  (cec 48 0 (.getfield 41) (4, 8, 1, 0)
  (cec 51 0 (.iload_n 1) xi0
  (cec 52 0 .i2l xi0
  (cec 53 0 .lsub xi0
  (cec 54 0 .lreturn xi0 []))))))))))))))))))))))))))))))
noncomputable def cs_99_1 : List CE := cec 80 47 (.aload_n 0) xi0
  (cec 81 0 (.iload_n 1) xi0
  (cec 82 0 (.iconst 1) xi0
  (cec 83 0 .isub xi0
  (cec 84 0 (.lload_n 2) xi0
  (cec 85 0 (.aload_n 0) xi0
  (cec 86 0 (.getfield 9) (4, 0, 2, 0)
  (cec 89 0 (.iload_n 1) xi0
  (cec 90 0 .iaload xi0
  (cec 91 0 .i2l xi0
  (cec 92 0 .ladd xi0
  (cec 93 0 (.lload 4) xi0
  (cec 95 0 (.aload_n 0) xi0
  (cec 96 0 (.getfield 15) (4, 1, 2, 0)
  (cec 99 0 (.iload_n 1) xi0
  (cec 100 0 .iaload xi0
  (cec 101 0 .i2l xi0
  (cec 102 0 .ladd xi0
  (cec 103 0 (.invokevirtual 52) (99, 4, 9, 14)
  (cec 106 0 .return_ xi0 [])))))))))))))))))))
/-- SupplyBook$Cuts.searchMore(IJJ)V -/
noncomputable def cs_99 : List CE := cec 0 0 (.iload_n 1) xi0
  (cec 1 0 (.aload_n 0) xi0
  (cec 2 0 (.getfield 9) (4, 0, 2, 0)
  (cec 5 0 .arraylength xi0
  (cec 6 0 (.if_icmp .ge 42) xi0
  (cec 9 0 (.lload 4) xi0
  (cec 11 0 (.aload_n 0) xi0
  (cec 12 0 (.getfield 18) (4, 2, 2, 0)
  (cec 15 0 (.iload_n 1) xi0
  (cec 16 0 (.iconst 1) xi0
  (cec 17 0 .iadd xi0
  (cec 18 0 .laload xi0
  (cec 19 0 .ladd xi0
  (cec 20 0 (.aload_n 0) xi0
  (cec 21 0 (.getfield 36) (4, 7, 1, 0)
  (cec 24 0 .lcmp xi0
  (cec 25 0 (.ifCond .le 23) xi0
  (cec 28 0 (.aload_n 0) xi0
  (cec 29 0 (.getfield 41) (4, 8, 1, 0)
  (cec 32 0 (.ldc2_w 39) (0, 0, (-1), 0)
  (cec 35 0 .lcmp xi0
  (cec 36 0 (.ifCond .eq 13) xi0
  (cec 39 0 (.lload_n 2) xi0
  (cec 40 0 (.aload_n 0) xi0
  (cec 41 0 (.getfield 41) (4, 8, 1, 0)
  (cec 44 0 .lcmp xi0
  (cec 45 0 (.ifCond .lt 4) xi0
  (cec 48 0 .return_ xi0
  (cec 49 47 (.iload_n 1) xi0
  (cec 50 0 (.ifCond .ge 9) xi0
  (cec 53 0 (.aload_n 0) xi0
  (cec 54 0 (.lload_n 2) xi0
  (cec 55 0 (.putfield 41) (4, 8, 1, 0)
  (cec 58 0 .return_ xi0
  (cec 59 0 (.aload_n 0) xi0
  (cec 60 0 (.getfield 22) (4, 3, 0, 0)
  (cec 63 0 (.iload_n 1) xi0
  (cec 64 0 .ishr xi0
  (cec 65 0 (.iconst 1) xi0
  (cec 66 0 .iand xi0
  (cec 67 0 (.ifCond .ne 13) xi0
  (cec 70 0 (.aload_n 0) xi0
  (cec 71 0 (.iload_n 1) xi0
  (cec 72 0 (.iconst 1) xi0
  (cec 73 0 .isub xi0
  (cec 74 0 (.lload_n 2) xi0
  (cec 75 0 (.lload 4) xi0
  (cec 77 0 (.invokevirtual 52) (99, 4, 9, 14) cs_99_1)))))))))))))))))))))))))))))))))))))))))))))))
/-- SupplyBook$Laws.<init>()V -/
noncomputable def cs_100 : List CE := cec 0 0 (.aload_n 0) xi0
  (cec 1 0 (.invokespecial 3) (9999, 1, 9, 15)
  (cec 4 0 (.aload_n 0) xi0
  (cec 5 0 (.bipush 20) xi0
  (cec 7 0 (.anewarray 9) (4, 0, 0, 0)
  (cec 10 0 (.putfield 11) (5, 0, 2, 0)
  (cec 13 0 (.aload_n 0) xi0
  (cec 14 0 (.bipush 20) xi0
  (cec 16 0 (.newarray .int) xi0
  (cec 18 0 (.putfield 17) (5, 1, 2, 0)
  (cec 21 0 (.aload_n 0) xi0
  (cec 22 0 (.bipush 20) xi0
  (cec 24 0 (.newarray .int) xi0
  (cec 26 0 (.putfield 21) (5, 2, 2, 0)
  (cec 29 0 (.aload_n 0) xi0
  (cec 30 0 (.bipush 20) xi0
  (cec 32 0 (.newarray .int) xi0
  (cec 34 0 (.putfield 24) (5, 3, 2, 0)
  (cec 37 0 (.aload_n 0) xi0
  (cec 38 0 (.iconst 0) xi0
  (cec 39 0 (.putfield 27) (5, 4, 0, 0)
  (cec 42 0 .return_ xi0 [])))))))))))))))))))))
/-- SupplyBook$Laws.isFull()Z -/
noncomputable def cs_101 : List CE := cec 0 0 (.aload_n 0) xi0
  (cec 1 0 (.getfield 27) (5, 4, 0, 0)
  (cec 4 0 (.aload_n 0) xi0
  (cec 5 0 (.getfield 11) (5, 0, 2, 0)
  (cec 8 0 .arraylength xi0
  (cec 9 0 (.if_icmp .lt 7) xi0
  (cec 12 0 (.iconst 1) xi0
  (cec 13 0 (.goto 4) xi0
  (cec 16 0 (.iconst 0) xi0
  (cec 17 0 .ireturn xi0 [])))))))))
/-- SupplyBook$Laws.addLaw(LSupplyBook$Text;II)I -/
noncomputable def cs_102 : List CE := cec 0 0 (.aload_n 0) xi0
  (cec 1 0 (.invokevirtual 31) (101, 1, 0, 15)
  (cec 4 0 (.ifCond .eq 5) xi0
  (cec 7 0 (.iconst (-1)) xi0
  (cec 8 0 .ireturn xi0
  (cec 9 0 (.aload_n 0) xi0
  (cec 10 0 (.getfield 11) (5, 0, 2, 0)
  (cec 13 0 (.aload_n 0) xi0
  (cec 14 0 (.getfield 27) (5, 4, 0, 0)
  (cec 17 0 (.aload_n 1) xi0
  (cec 18 0 .aastore xi0
  (cec 19 0 (.aload_n 0) xi0
  (cec 20 0 (.getfield 17) (5, 1, 2, 0)
  (cec 23 0 (.aload_n 0) xi0
  (cec 24 0 (.getfield 27) (5, 4, 0, 0)
  (cec 27 0 (.iload_n 2) xi0
  (cec 28 0 .iastore xi0
  (cec 29 0 (.aload_n 0) xi0
  (cec 30 0 (.getfield 21) (5, 2, 2, 0)
  (cec 33 0 (.aload_n 0) xi0
  (cec 34 0 (.getfield 27) (5, 4, 0, 0)
  (cec 37 0 (.iload_n 3) xi0
  (cec 38 0 .iastore xi0
  (cec 39 0 (.aload_n 0) xi0
  (cec 40 0 .dup xi0
  (cec 41 0 (.getfield 27) (5, 4, 0, 0)
  (cec 44 0 (.iconst 1) xi0
  (cec 45 0 .iadd xi0
  (cec 46 0 (.putfield 27) (5, 4, 0, 0)
  (cec 49 0 (.aload_n 0) xi0
  (cec 50 0 (.getfield 27) (5, 4, 0, 0)
  (cec 53 0 (.iconst 1) xi0
  (cec 54 0 .isub xi0
  (cec 55 0 .ireturn xi0 [])))))))))))))))))))))))))))))))))
/-- SupplyBook$Laws.isLaw(I)Z -/
noncomputable def cs_103 : List CE := cec 0 0 (.iload_n 1) xi0
  (cec 1 0 (.ifCond .lt 15) xi0
  (cec 4 0 (.iload_n 1) xi0
  (cec 5 0 (.aload_n 0) xi0
  (cec 6 0 (.getfield 27) (5, 4, 0, 0)
  (cec 9 0 (.if_icmp .ge 7) xi0
  (cec 12 0 (.iconst 1) xi0
  (cec 13 0 (.goto 4) xi0
  (cec 16 0 (.iconst 0) xi0
  (cec 17 0 .ireturn xi0 [])))))))))
noncomputable def cs_104_1 : List CE := cec 82 0 .isub xi0
  (cec 83 0 (.istore_n 2) xi0
  (cec 84 11 (.iload_n 2) xi0
  (cec 85 0 (.ifCond .lt 14) xi0
  (cec 88 0 (.aload_n 0) xi0
  (cec 89 0 (.iload_n 2) xi0
  (cec 90 0 (.invokevirtual 43) (105, 2, 9, 15)
  (cec 93 0 (.iinc 2 (-1)) xi0
  (cec 96 0 (.goto (-12)) xi0
  (cec 99 0 .return_ xi0 [])))))))))
/-- SupplyBook$Laws.weigh(I)V -/
noncomputable def cs_104 : List CE := cec 0 0 (.iconst 0) xi0
  (cec 1 0 (.istore_n 2) xi0
  (cec 2 15 (.iload_n 2) xi0
  (cec 3 0 (.aload_n 0) xi0
  (cec 4 0 (.getfield 27) (5, 4, 0, 0)
  (cec 7 0 (.if_icmp .ge 70) xi0
  (cec 10 0 (.aload_n 0) xi0
  (cec 11 0 (.getfield 11) (5, 0, 2, 0)
  (cec 14 0 (.iload_n 2) xi0
  (cec 15 0 .aaload xi0
  (cec 16 0 (.astore_n 3) xi0
  (cec 17 0 (.aload_n 3) xi0
  (cec 18 0 (.ifnull 27) xi0
  (cec 21 0 (.aload_n 0) xi0
  (cec 22 0 (.getfield 17) (5, 1, 2, 0)
  (cec 25 0 (.iload_n 2) xi0
  (cec 26 0 .iaload xi0
  (cec 27 0 (.iload_n 1) xi0
  (cec 28 0 (.if_icmp .gt 17) xi0
  (cec 31 0 (.iload_n 1) xi0
  (cec 32 0 (.aload_n 0) xi0
  (cec 33 0 (.getfield 21) (5, 2, 2, 0)
  (cec 36 0 (.iload_n 2) xi0
  (cec 37 0 .iaload xi0
  (cec 38 0 (.if_icmp .gt 7) xi0
  (cec 41 0 (.iconst 1) xi0
  (cec 42 0 (.goto 4) xi0
  (cec 45 0 (.iconst 0) xi0
  (cec 46 31 (.istore 4) xi0
  (cec 48 0 (.aload_n 0) xi0
  (cec 49 0 (.getfield 24) (5, 3, 2, 0)
  (cec 52 0 (.iload_n 2) xi0
  (cec 53 0 (.iload 4) xi0
  (cec 55 0 (.ifCond .eq 14) xi0
  (cec 58 0 (.iconst 1) xi0
  (cec 59 0 (.aload_n 3) xi0
  (cec 60 0 (.invokevirtual 39) (161, 1, 0, 19)
  (cec 63 0 .ishl xi0
  (cec 64 0 (.iconst 1) xi0
  (cec 65 0 .isub xi0
  (cec 66 0 (.goto 4) xi0
  (cec 69 0 (.iconst 0) xi0
  (cec 70 0 .iastore xi0
  (cec 71 0 (.iinc 2 1) xi0
  (cec 74 0 (.goto (-72)) xi0
  (cec 77 0 (.aload_n 0) xi0
  (cec 78 0 (.getfield 27) (5, 4, 0, 0)
  (cec 81 0 (.iconst 1) xi0 cs_104_1)))))))))))))))))))))))))))))))))))))))))))))))
noncomputable def cs_105_1 : List CE := cec 84 0 .dup2 xi0
  (cec 85 0 .iaload xi0
  (cec 86 0 (.iconst 1) xi0
  (cec 87 0 (.aload_n 2) xi0
  (cec 88 0 (.iload_n 3) xi0
  (cec 89 0 (.invokevirtual 55) (164, 2, 0, 19)
  (cec 92 0 (.bipush 16) xi0
  (cec 94 0 .irem xi0
  (cec 95 0 .ishl xi0
  (cec 96 0 (.iconst (-1)) xi0
  (cec 97 0 .ixor xi0
  (cec 98 0 .iand xi0
  (cec 99 0 .iastore xi0
  (cec 100 0 (.iinc 3 1) xi0
  (cec 103 0 (.goto (-81)) xi0
  (cec 106 0 .return_ xi0 [])))))))))))))))
/-- SupplyBook$Laws.strikeLower(I)V -/
noncomputable def cs_105 : List CE := cec 0 0 (.aload_n 0) xi0
  (cec 1 0 (.iload_n 1) xi0
  (cec 2 0 (.invokevirtual 47) (106, 2, 2, 15)
  (cec 5 0 (.astore_n 2) xi0
  (cec 6 0 (.aload_n 2) xi0
  (cec 7 0 (.ifnull 12) xi0
  (cec 10 0 (.aload_n 0) xi0
  (cec 11 0 (.getfield 24) (5, 3, 2, 0)
  (cec 14 0 (.iload_n 1) xi0
  (cec 15 0 .iaload xi0
  (cec 16 0 (.ifCond .ne 4) xi0
  (cec 19 0 .return_ xi0
  (cec 20 0 (.iconst 0) xi0
  (cec 21 0 (.istore_n 3) xi0
  (cec 22 31 (.iload_n 3) xi0
  (cec 23 0 (.aload_n 2) xi0
  (cec 24 0 (.invokevirtual 39) (161, 1, 0, 19)
  (cec 27 0 (.if_icmp .ge 79) xi0
  (cec 30 0 (.aload_n 2) xi0
  (cec 31 0 (.iload_n 3) xi0
  (cec 32 0 (.invokevirtual 51) (162, 2, 0, 19)
  (cec 35 0 (.bipush 120) xi0
  (cec 37 0 (.if_icmp .ne 63) xi0
  (cec 40 0 (.aload_n 0) xi0
  (cec 41 0 (.getfield 24) (5, 3, 2, 0)
  (cec 44 0 (.iload_n 1) xi0
  (cec 45 0 .iaload xi0
  (cec 46 0 (.iload_n 3) xi0
  (cec 47 0 .ishr xi0
  (cec 48 0 (.iconst 1) xi0
  (cec 49 0 .iand xi0
  (cec 50 0 (.ifCond .eq 50) xi0
  (cec 53 0 (.aload_n 2) xi0
  (cec 54 0 (.iload_n 3) xi0
  (cec 55 0 (.invokevirtual 55) (164, 2, 0, 19)
  (cec 58 0 (.bipush 16) xi0
  (cec 60 0 .idiv xi0
  (cec 61 0 (.istore 4) xi0
  (cec 63 0 (.iload 4) xi0
  (cec 65 0 (.iload_n 1) xi0
  (cec 66 0 (.if_icmp .ge 34) xi0
  (cec 69 0 (.aload_n 0) xi0
  (cec 70 0 (.iload 4) xi0
  (cec 72 0 (.invokevirtual 35) (103, 2, 0, 15)
  (cec 75 0 (.ifCond .eq 25) xi0
  (cec 78 0 (.aload_n 0) xi0
  (cec 79 0 (.getfield 24) (5, 3, 2, 0)
  (cec 82 0 (.iload 4) xi0 cs_105_1)))))))))))))))))))))))))))))))))))))))))))))))
/-- SupplyBook$Laws.textOf(I)LSupplyBook$Text; -/
noncomputable def cs_106 : List CE := cec 0 0 (.aload_n 0) xi0
  (cec 1 0 (.iload_n 1) xi0
  (cec 2 0 (.invokevirtual 35) (103, 2, 0, 15)
  (cec 5 0 (.ifCond .eq 12) xi0
  (cec 8 0 (.aload_n 0) xi0
  (cec 9 0 (.getfield 11) (5, 0, 2, 0)
  (cec 12 0 (.iload_n 1) xi0
  (cec 13 0 .aaload xi0
  (cec 14 0 (.goto 4) xi0
  (cec 17 0 .aconst_null xi0
  (cec 18 0 .areturn xi0 []))))))))))
/-- SupplyBook$Laws.countingOf(I)I -/
noncomputable def cs_107 : List CE := cec 0 0 (.aload_n 0) xi0
  (cec 1 0 (.iload_n 1) xi0
  (cec 2 0 (.invokevirtual 35) (103, 2, 0, 15)
  (cec 5 0 (.ifCond .eq 12) xi0
  (cec 8 0 (.aload_n 0) xi0
  (cec 9 0 (.getfield 24) (5, 3, 2, 0)
  (cec 12 0 (.iload_n 1) xi0
  (cec 13 0 .iaload xi0
  (cec 14 0 (.goto 4) xi0
  (cec 17 0 (.iconst 0) xi0
  (cec 18 0 .ireturn xi0 []))))))))))
noncomputable def cs_108_1 : List CE := cec 90 0 .iand xi0
  (cec 91 0 (.ifCond .eq 22) xi0
  (cec 94 0 (.aload 5) xi0
  (cec 96 0 (.iload 6) xi0
  (cec 98 0 (.invokevirtual 51) (162, 2, 0, 19)
  (cec 101 0 (.iload_n 3) xi0
  (cec 102 0 (.if_icmp .ne 11) xi0
  (cec 105 0 (.aload 5) xi0
  (cec 107 0 (.iload 6) xi0
  (cec 109 0 (.invokevirtual 55) (164, 2, 0, 19)
  (cec 112 0 .ireturn xi0
  (cec 113 0 (.iinc 6 (-1)) xi0
  (cec 116 0 (.goto (-42)) xi0
  (cec 119 0 (.iinc 4 (-1)) xi0
  (cec 122 0 (.goto (-79)) xi0
  (cec 125 0 (.getstatic 58) (1, 3, 0, 0)
  (cec 128 0 (.iload_n 1) xi0
  (cec 129 0 .iaload xi0
  (cec 130 0 .ireturn xi0 []))))))))))))))))))
/-- SupplyBook$Laws.numberOn(II)I -/
noncomputable def cs_108 : List CE := cec 0 0 (.iload_n 1) xi0
  (cec 1 0 (.ifCond .lt 20) xi0
  (cec 4 0 (.iload_n 1) xi0
  (cec 5 0 (.getstatic 58) (1, 3, 0, 0)
  (cec 8 0 .arraylength xi0
  (cec 9 0 (.if_icmp .ge 12) xi0
  (cec 12 0 (.iload_n 1) xi0
  (cec 13 0 (.ldc 61) (1, 8, 0, 0)
  (cec 15 0 (.invokevirtual 63) (321, 1, 0, 23)
  (cec 18 0 (.if_icmp .lt 5) xi0
  (cec 21 0 (.iconst (-1)) xi0
  (cec 22 0 .ireturn xi0
  (cec 23 0 (.aload_n 0) xi0
  (cec 24 0 (.iload_n 2) xi0
  (cec 25 0 (.invokevirtual 68) (104, 2, 9, 15)
  (cec 28 0 (.ldc 61) (1, 8, 0, 0)
  (cec 30 0 (.iload_n 1) xi0
  (cec 31 0 (.invokevirtual 71) (326, 2, 0, 23)
  (cec 34 0 (.istore_n 3) xi0
  (cec 35 0 (.aload_n 0) xi0
  (cec 36 0 (.getfield 27) (5, 4, 0, 0)
  (cec 39 0 (.iconst 1) xi0
  (cec 40 0 .isub xi0
  (cec 41 0 (.istore 4) xi0
  (cec 43 55 (.iload 4) xi0
  (cec 45 0 (.ifCond .lt 80) xi0
  (cec 48 0 (.aload_n 0) xi0
  (cec 49 0 (.iload 4) xi0
  (cec 51 0 (.invokevirtual 47) (106, 2, 2, 15)
  (cec 54 0 (.astore 5) xi0
  (cec 56 0 (.aload 5) xi0
  (cec 58 0 (.ifnonnull 7) xi0
  (cec 61 0 (.iconst (-1)) xi0
  (cec 62 0 (.goto 10) xi0
  (cec 65 0 (.aload 5) xi0
  (cec 67 0 (.invokevirtual 39) (161, 1, 0, 19)
  (cec 70 0 (.iconst 1) xi0
  (cec 71 0 .isub xi0
  (cec 72 0 (.istore 6) xi0
  (cec 74 247 (.iload 6) xi0
  (cec 76 0 (.ifCond .lt 43) xi0
  (cec 79 0 (.aload_n 0) xi0
  (cec 80 0 (.getfield 24) (5, 3, 2, 0)
  (cec 83 0 (.iload 4) xi0
  (cec 85 0 .iaload xi0
  (cec 86 0 (.iload 6) xi0
  (cec 88 0 .ishr xi0
  (cec 89 0 (.iconst 1) xi0 cs_108_1)))))))))))))))))))))))))))))))))))))))))))))))
/-- SupplyBook$Loans.<init>()V -/
noncomputable def cs_109 : List CE := cec 0 0 (.aload_n 0) xi0
  (cec 1 0 (.invokespecial 3) (9999, 1, 9, 16)
  (cec 4 0 (.aload_n 0) xi0
  (cec 5 0 (.bipush 12) xi0
  (cec 7 0 (.newarray .int) xi0
  (cec 9 0 (.putfield 9) (6, 0, 2, 0)
  (cec 12 0 (.aload_n 0) xi0
  (cec 13 0 (.bipush 12) xi0
  (cec 15 0 (.newarray .int) xi0
  (cec 17 0 (.putfield 15) (6, 1, 2, 0)
  (cec 20 0 (.aload_n 0) xi0
  (cec 21 0 (.iconst 0) xi0
  (cec 22 0 (.putfield 18) (6, 2, 0, 0)
  (cec 25 0 (.aload_n 0) xi0
  (cec 26 0 (.bipush 12) xi0
  (cec 28 0 (.newarray .int) xi0
  (cec 30 0 (.putfield 22) (6, 3, 2, 0)
  (cec 33 0 (.aload_n 0) xi0
  (cec 34 0 (.bipush 12) xi0
  (cec 36 0 (.newarray .int) xi0
  (cec 38 0 (.putfield 25) (6, 4, 2, 0)
  (cec 41 0 (.aload_n 0) xi0
  (cec 42 0 (.iconst 0) xi0
  (cec 43 0 (.putfield 28) (6, 5, 0, 0)
  (cec 46 0 (.aload_n 0) xi0
  (cec 47 0 (.bipush 30) xi0
  (cec 49 0 (.newarray .int) xi0
  (cec 51 0 (.putfield 31) (6, 6, 2, 0)
  (cec 54 0 (.aload_n 0) xi0
  (cec 55 0 (.bipush 30) xi0
  (cec 57 0 (.newarray .int) xi0
  (cec 59 0 (.putfield 34) (6, 7, 2, 0)
  (cec 62 0 (.aload_n 0) xi0
  (cec 63 0 (.bipush 30) xi0
  (cec 65 0 (.newarray .int) xi0
  (cec 67 0 (.putfield 37) (6, 8, 2, 0)
  (cec 70 0 (.aload_n 0) xi0
  (cec 71 0 (.bipush 30) xi0
  (cec 73 0 (.newarray .int) xi0
  (cec 75 0 (.putfield 40) (6, 9, 2, 0)
  (cec 78 0 (.aload_n 0) xi0
  (cec 79 0 (.iconst 0) xi0
  (cec 80 0 (.putfield 43) (6, 10, 0, 0)
  (cec 83 0 (.aload_n 0) xi0
  (cec 84 0 (.lconst 0) xi0
  (cec 85 0 (.putfield 46) (6, 11, 1, 0)
  (cec 88 0 .return_ xi0 []))))))))))))))))))))))))))))))))))))))))))))))
/-- SupplyBook$Loans.addBid(II)I -/
noncomputable def cs_110 : List CE := cec 0 0 (.aload_n 0) xi0
  (cec 1 0 (.getfield 18) (6, 2, 0, 0)
  (cec 4 0 (.aload_n 0) xi0
  (cec 5 0 (.getfield 9) (6, 0, 2, 0)
  (cec 8 0 .arraylength xi0
  (cec 9 0 (.if_icmp .lt 5) xi0
  (cec 12 0 (.iconst (-1)) xi0
  (cec 13 0 .ireturn xi0
  (cec 14 0 (.aload_n 0) xi0
  (cec 15 0 (.getfield 9) (6, 0, 2, 0)
  (cec 18 0 (.aload_n 0) xi0
  (cec 19 0 (.getfield 18) (6, 2, 0, 0)
  (cec 22 0 (.iload_n 1) xi0
  (cec 23 0 .iastore xi0
  (cec 24 0 (.aload_n 0) xi0
  (cec 25 0 (.getfield 15) (6, 1, 2, 0)
  (cec 28 0 (.aload_n 0) xi0
  (cec 29 0 (.getfield 18) (6, 2, 0, 0)
  (cec 32 0 (.iload_n 2) xi0
  (cec 33 0 .iastore xi0
  (cec 34 0 (.aload_n 0) xi0
  (cec 35 0 .dup xi0
  (cec 36 0 (.getfield 18) (6, 2, 0, 0)
  (cec 39 0 (.iconst 1) xi0
  (cec 40 0 .iadd xi0
  (cec 41 0 (.putfield 18) (6, 2, 0, 0)
  (cec 44 0 (.aload_n 0) xi0
  (cec 45 0 (.getfield 18) (6, 2, 0, 0)
  (cec 48 0 (.iconst 1) xi0
  (cec 49 0 .isub xi0
  (cec 50 0 .ireturn xi0 []))))))))))))))))))))))))))))))
noncomputable def cs_111_1 : List CE := cec 84 0 (.iload 5) xi0
  (cec 86 0 .iaload xi0
  (cec 87 0 (.invokestatic 54) (9991, 2, 0, 0)
  (cec 90 0 .iastore xi0
  (cec 91 0 (.iload_n 2) xi0
  (cec 92 0 (.aload_n 0) xi0
  (cec 93 0 (.getfield 25) (6, 4, 2, 0)
  (cec 96 0 (.aload_n 0) xi0
  (cec 97 0 (.getfield 28) (6, 5, 0, 0)
  (cec 100 0 .iaload xi0
  (cec 101 0 .isub xi0
  (cec 102 0 (.istore_n 2) xi0
  (cec 103 0 (.aload_n 0) xi0
  (cec 104 0 .dup xi0
  (cec 105 0 (.getfield 28) (6, 5, 0, 0)
  (cec 108 0 (.iconst 1) xi0
  (cec 109 0 .iadd xi0
  (cec 110 0 (.putfield 28) (6, 5, 0, 0)
  (cec 113 0 (.iinc 4 1) xi0
  (cec 116 0 (.goto (-104)) xi0
  (cec 119 0 (.iload_n 1) xi0
  (cec 120 0 .i2l xi0
  (cec 121 0 (.iload_n 2) xi0
  (cec 122 0 .i2l xi0
  (cec 123 0 .lsub xi0
  (cec 124 0 .lreturn xi0 [])))))))))))))))))))))))))
/-- SupplyBook$Loans.takeBids(I)J -/
noncomputable def cs_111 : List CE := cec 0 0 (.iload_n 1) xi0
  (cec 1 0 (.istore_n 2) xi0
  (cec 2 0 (.iconst 0) xi0
  (cec 3 0 (.istore_n 3) xi0
  (cec 4 0 (.aload_n 0) xi0
  (cec 5 0 (.iconst 0) xi0
  (cec 6 0 (.putfield 28) (6, 5, 0, 0)
  (cec 9 0 (.iconst 0) xi0
  (cec 10 0 (.istore 4) xi0
  (cec 12 63 (.iload 4) xi0
  (cec 14 0 (.aload_n 0) xi0
  (cec 15 0 (.getfield 18) (6, 2, 0, 0)
  (cec 18 0 (.if_icmp .ge 101) xi0
  (cec 21 0 (.iload_n 2) xi0
  (cec 22 0 (.ifCond .le 97) xi0
  (cec 25 0 (.aload_n 0) xi0
  (cec 26 0 (.iload_n 3) xi0
  (cec 27 0 (.invokevirtual 50) (112, 2, 0, 16)
  (cec 30 0 (.istore 5) xi0
  (cec 32 0 (.iload 5) xi0
  (cec 34 0 (.iconst (-1)) xi0
  (cec 35 0 (.if_icmp .eq 84) xi0
  (cec 38 0 (.aload_n 0) xi0
  (cec 39 0 (.getfield 28) (6, 5, 0, 0)
  (cec 42 0 (.aload_n 0) xi0
  (cec 43 0 (.getfield 22) (6, 3, 2, 0)
  (cec 46 0 .arraylength xi0
  (cec 47 0 (.if_icmp .lt 6) xi0
  (cec 50 0 (.goto 69) xi0
  (cec 53 0 (.iload_n 3) xi0
  (cec 54 0 (.iconst 1) xi0
  (cec 55 0 (.iload 5) xi0
  (cec 57 0 .ishl xi0
  (cec 58 0 .ior xi0
  (cec 59 0 (.istore_n 3) xi0
  (cec 60 0 (.aload_n 0) xi0
  (cec 61 0 (.getfield 22) (6, 3, 2, 0)
  (cec 64 0 (.aload_n 0) xi0
  (cec 65 0 (.getfield 28) (6, 5, 0, 0)
  (cec 68 0 (.iload 5) xi0
  (cec 70 0 .iastore xi0
  (cec 71 0 (.aload_n 0) xi0
  (cec 72 0 (.getfield 25) (6, 4, 2, 0)
  (cec 75 0 (.aload_n 0) xi0
  (cec 76 0 (.getfield 28) (6, 5, 0, 0)
  (cec 79 0 (.iload_n 2) xi0
  (cec 80 0 (.aload_n 0) xi0
  (cec 81 0 (.getfield 9) (6, 0, 2, 0) cs_111_1)))))))))))))))))))))))))))))))))))))))))))))))
/-- SupplyBook$Loans.lowestBid(I)I -/
noncomputable def cs_112 : List CE := cec 0 0 (.iconst (-1)) xi0
  (cec 1 0 (.istore_n 2) xi0
  (cec 2 0 (.iconst 0) xi0
  (cec 3 0 (.istore_n 3) xi0
  (cec 4 31 (.iload_n 3) xi0
  (cec 5 0 (.aload_n 0) xi0
  (cec 6 0 (.getfield 18) (6, 2, 0, 0)
  (cec 9 0 (.if_icmp .ge 39) xi0
  (cec 12 0 (.iload_n 1) xi0
  (cec 13 0 (.iload_n 3) xi0
  (cec 14 0 .ishr xi0
  (cec 15 0 (.iconst 1) xi0
  (cec 16 0 .iand xi0
  (cec 17 0 (.ifCond .ne 25) xi0
  (cec 20 0 (.iload_n 2) xi0
  (cec 21 0 (.iconst (-1)) xi0
  (cec 22 0 (.if_icmp .eq 18) xi0
  (cec 25 0 (.aload_n 0) xi0
  (cec 26 0 (.getfield 15) (6, 1, 2, 0)
  (cec 29 0 (.iload_n 3) xi0
  (cec 30 0 .iaload xi0
  (cec 31 0 (.aload_n 0) xi0
  (cec 32 0 (.getfield 15) (6, 1, 2, 0)
  (cec 35 0 (.iload_n 2) xi0
  (cec 36 0 .iaload xi0
  (cec 37 0 (.if_icmp .ge 5) xi0
  (cec 40 0 (.iload_n 3) xi0
  (cec 41 0 (.istore_n 2) xi0
  (cec 42 0 (.iinc 3 1) xi0
  (cec 45 0 (.goto (-41)) xi0
  (cec 48 0 (.iload_n 2) xi0
  (cec 49 0 .ireturn xi0 [])))))))))))))))))))))))))))))))
/-- SupplyBook$Loans.owed()J -/
noncomputable def cs_113 : List CE := cec 0 0 (.lconst 0) xi0
  (cec 1 0 (.lstore_n 1) xi0
  (cec 2 0 (.iconst 0) xi0
  (cec 3 0 (.istore_n 3) xi0
  (cec 4 23 (.iload_n 3) xi0
  (cec 5 0 (.aload_n 0) xi0
  (cec 6 0 (.getfield 43) (6, 10, 0, 0)
  (cec 9 0 (.if_icmp .ge 33) xi0
  (cec 12 0 (.lload_n 1) xi0
  (cec 13 0 (.aload_n 0) xi0
  (cec 14 0 (.getfield 40) (6, 9, 2, 0)
  (cec 17 0 (.iload_n 3) xi0
  (cec 18 0 .iaload xi0
  (cec 19 0 (.iconst (-1)) xi0
  (cec 20 0 (.if_icmp .ne 13) xi0
  (cec 23 0 (.aload_n 0) xi0
  (cec 24 0 (.getfield 31) (6, 6, 2, 0)
  (cec 27 0 (.iload_n 3) xi0
  (cec 28 0 .iaload xi0
  (cec 29 0 .i2l xi0
  (cec 30 0 (.goto 4) xi0
  (cec 33 0 (.lconst 0) xi0
  (cec 34 0 .ladd xi0
  (cec 35 0 (.lstore_n 1) xi0
  (cec 36 0 (.iinc 3 1) xi0
  (cec 39 0 (.goto (-35)) xi0
  (cec 42 0 (.lload_n 1) xi0
  (cec 43 0 .lreturn xi0 [])))))))))))))))))))))))))))
/-- SupplyBook$Loans.areTooMany()Z -/
noncomputable def cs_114 : List CE := cec 0 0 (.aload_n 0) xi0
  (cec 1 0 (.getfield 43) (6, 10, 0, 0)
  (cec 4 0 (.aload_n 0) xi0
  (cec 5 0 (.getfield 28) (6, 5, 0, 0)
  (cec 8 0 .iadd xi0
  (cec 9 0 (.aload_n 0) xi0
  (cec 10 0 (.getfield 31) (6, 6, 2, 0)
  (cec 13 0 .arraylength xi0
  (cec 14 0 (.if_icmp .le 7) xi0
  (cec 17 0 (.iconst 1) xi0
  (cec 18 0 (.goto 4) xi0
  (cec 21 0 (.iconst 0) xi0
  (cec 22 0 .ireturn xi0 []))))))))))))
noncomputable def cs_115_1 : List CE := cec 90 0 (.iconst 0) xi0
  (cec 91 31 .iastore xi0
  (cec 92 0 (.aload_n 0) xi0
  (cec 93 0 (.getfield 37) (6, 8, 2, 0)
  (cec 96 0 (.aload_n 0) xi0
  (cec 97 0 (.getfield 43) (6, 10, 0, 0)
  (cec 100 0 (.iload_n 1) xi0
  (cec 101 0 .iastore xi0
  (cec 102 0 (.aload_n 0) xi0
  (cec 103 0 (.getfield 40) (6, 9, 2, 0)
  (cec 106 0 (.aload_n 0) xi0
  (cec 107 0 (.getfield 43) (6, 10, 0, 0)
  (cec 110 0 (.iconst (-1)) xi0
  (cec 111 0 .iastore xi0
  (cec 112 0 (.aload_n 0) xi0
  (cec 113 0 .dup xi0
  (cec 114 0 (.getfield 43) (6, 10, 0, 0)
  (cec 117 0 (.iconst 1) xi0
  (cec 118 0 .iadd xi0
  (cec 119 0 (.putfield 43) (6, 10, 0, 0)
  (cec 122 0 (.iinc 3 1) xi0
  (cec 125 0 (.goto (-123)) xi0
  (cec 128 0 (.aload_n 0) xi0
  (cec 129 0 (.iconst 0) xi0
  (cec 130 0 (.putfield 18) (6, 2, 0, 0)
  (cec 133 0 (.aload_n 0) xi0
  (cec 134 0 (.getfield 28) (6, 5, 0, 0)
  (cec 137 0 .ireturn xi0 [])))))))))))))))))))))))))))
/-- SupplyBook$Loans.lendTaken(IZ)I -/
noncomputable def cs_115 : List CE := cec 0 0 (.iconst 0) xi0
  (cec 1 0 (.istore_n 3) xi0
  (cec 2 31 (.iload_n 3) xi0
  (cec 3 0 (.aload_n 0) xi0
  (cec 4 0 (.getfield 28) (6, 5, 0, 0)
  (cec 7 0 (.if_icmp .ge 121) xi0
  (cec 10 0 (.aload_n 0) xi0
  (cec 11 0 (.getfield 43) (6, 10, 0, 0)
  (cec 14 0 (.aload_n 0) xi0
  (cec 15 0 (.getfield 31) (6, 6, 2, 0)
  (cec 18 0 .arraylength xi0
  (cec 19 0 (.if_icmp .ge 109) xi0
  (cec 22 0 (.aload_n 0) xi0
  (cec 23 0 (.getfield 22) (6, 3, 2, 0)
  (cec 26 0 (.iload_n 2) xi0
  (cec 27 0 (.ifCond .eq 12) xi0
  (cec 30 0 (.aload_n 0) xi0
  (cec 31 0 (.getfield 28) (6, 5, 0, 0)
  (cec 34 0 (.iconst 1) xi0
  (cec 35 0 .isub xi0
  (cec 36 0 (.goto 4) xi0
  (cec 39 0 (.iload_n 3) xi0
  (cec 40 31 .iaload xi0
  (cec 41 0 (.istore 4) xi0
  (cec 43 0 (.aload_n 0) xi0
  (cec 44 0 (.getfield 31) (6, 6, 2, 0)
  (cec 47 0 (.aload_n 0) xi0
  (cec 48 0 (.getfield 43) (6, 10, 0, 0)
  (cec 51 0 (.aload_n 0) xi0
  (cec 52 0 (.getfield 25) (6, 4, 2, 0)
  (cec 55 0 (.iload_n 3) xi0
  (cec 56 0 .iaload xi0
  (cec 57 0 .iastore xi0
  (cec 58 0 (.aload_n 0) xi0
  (cec 59 0 (.getfield 34) (6, 7, 2, 0)
  (cec 62 0 (.aload_n 0) xi0
  (cec 63 0 (.getfield 43) (6, 10, 0, 0)
  (cec 66 0 (.iload 4) xi0
  (cec 68 0 (.ifCond .lt 22) xi0
  (cec 71 0 (.iload 4) xi0
  (cec 73 0 (.aload_n 0) xi0
  (cec 74 0 (.getfield 18) (6, 2, 0, 0)
  (cec 77 0 (.if_icmp .ge 13) xi0
  (cec 80 0 (.aload_n 0) xi0
  (cec 81 0 (.getfield 15) (6, 1, 2, 0)
  (cec 84 0 (.iload 4) xi0
  (cec 86 0 .iaload xi0
  (cec 87 0 (.goto 4) xi0 cs_115_1)))))))))))))))))))))))))))))))))))))))))))))))
/-- SupplyBook$Loans.isLoan(I)Z -/
noncomputable def cs_116 : List CE := cec 0 0 (.iload_n 1) xi0
  (cec 1 0 (.ifCond .lt 15) xi0
  (cec 4 0 (.iload_n 1) xi0
  (cec 5 0 (.aload_n 0) xi0
  (cec 6 0 (.getfield 43) (6, 10, 0, 0)
  (cec 9 0 (.if_icmp .ge 7) xi0
  (cec 12 0 (.iconst 1) xi0
  (cec 13 0 (.goto 4) xi0
  (cec 16 0 (.iconst 0) xi0
  (cec 17 0 .ireturn xi0 [])))))))))
/-- SupplyBook$Loans.backOn(I)I -/
noncomputable def cs_117 : List CE := cec 0 0 (.aload_n 0) xi0
  (cec 1 0 (.iload_n 1) xi0
  (cec 2 0 (.invokevirtual 60) (116, 2, 0, 16)
  (cec 5 0 (.ifCond .eq 12) xi0
  (cec 8 0 (.aload_n 0) xi0
  (cec 9 0 (.getfield 40) (6, 9, 2, 0)
  (cec 12 0 (.iload_n 1) xi0
  (cec 13 0 .iaload xi0
  (cec 14 0 (.goto 4) xi0
  (cec 17 0 (.iconst (-1)) xi0
  (cec 18 0 .ireturn xi0 []))))))))))
/-- SupplyBook$Loans.interestOn(II)J -/
noncomputable def cs_118 : List CE := cec 0 0 (.aload_n 0) xi0
  (cec 1 0 (.iload_n 1) xi0
  (cec 2 0 (.invokevirtual 60) (116, 2, 0, 16)
  (cec 5 0 (.ifCond .ne 7) xi0
  (cec 8 0 (.ldc2_w 64) (0, 0, (-1), 0)
  (cec 11 0 .lreturn xi0
  (cec 12 0 (.aload_n 0) xi0
  (cec 13 0 (.getfield 40) (6, 9, 2, 0)
  (cec 16 0 (.iload_n 1) xi0
  (cec 17 0 .iaload xi0
  (cec 18 0 (.iconst (-1)) xi0
  (cec 19 0 (.if_icmp .ne 7) xi0
  (cec 22 0 (.iload_n 2) xi0
  (cec 23 0 (.goto 9) xi0
  (cec 26 0 (.aload_n 0) xi0
  (cec 27 0 (.getfield 40) (6, 9, 2, 0)
  (cec 30 0 (.iload_n 1) xi0
  (cec 31 0 .iaload xi0
  (cec 32 7 (.istore_n 3) xi0
  (cec 33 0 (.aload_n 0) xi0
  (cec 34 0 (.getfield 31) (6, 6, 2, 0)
  (cec 37 0 (.iload_n 1) xi0
  (cec 38 0 .iaload xi0
  (cec 39 0 .i2l xi0
  (cec 40 0 (.aload_n 0) xi0
  (cec 41 0 (.getfield 34) (6, 7, 2, 0)
  (cec 44 0 (.iload_n 1) xi0
  (cec 45 0 .iaload xi0
  (cec 46 0 .i2l xi0
  (cec 47 0 .lmul xi0
  (cec 48 0 (.iload_n 3) xi0
  (cec 49 0 (.aload_n 0) xi0
  (cec 50 0 (.getfield 37) (6, 8, 2, 0)
  (cec 53 0 (.iload_n 1) xi0
  (cec 54 0 .iaload xi0
  (cec 55 0 .isub xi0
  (cec 56 0 .i2l xi0
  (cec 57 0 .lmul xi0
  (cec 58 0 (.ldc2_w 66) (0, 0, 3600000, 0)
  (cec 61 0 .ldiv xi0
  (cec 62 0 .lreturn xi0 []))))))))))))))))))))))))))))))))))))))))
/-- SupplyBook$Loans.sumOf(I)I -/
noncomputable def cs_119 : List CE := cec 0 0 (.aload_n 0) xi0
  (cec 1 0 (.iload_n 1) xi0
  (cec 2 0 (.invokevirtual 60) (116, 2, 0, 16)
  (cec 5 0 (.ifCond .eq 12) xi0
  (cec 8 0 (.aload_n 0) xi0
  (cec 9 0 (.getfield 31) (6, 6, 2, 0)
  (cec 12 0 (.iload_n 1) xi0
  (cec 13 0 .iaload xi0
  (cec 14 0 (.goto 4) xi0
  (cec 17 0 (.iconst (-1)) xi0
  (cec 18 0 .ireturn xi0 []))))))))))
/-- SupplyBook$Loans.markBack(IIJ)V -/
noncomputable def cs_120 : List CE := cec 0 0 (.aload_n 0) xi0
  (cec 1 0 (.iload_n 1) xi0
  (cec 2 0 (.invokevirtual 60) (116, 2, 0, 16)
  (cec 5 0 (.ifCond .eq 20) xi0
  (cec 8 0 (.aload_n 0) xi0
  (cec 9 0 (.getfield 40) (6, 9, 2, 0)
  (cec 12 0 (.iload_n 1) xi0
  (cec 13 0 (.iload_n 2) xi0
  (cec 14 0 .iastore xi0
  (cec 15 0 (.aload_n 0) xi0
  (cec 16 0 .dup xi0
  (cec 17 0 (.getfield 46) (6, 11, 1, 0)
  (cec 20 0 (.lload_n 3) xi0
  (cec 21 0 .ladd xi0
  (cec 22 0 (.putfield 46) (6, 11, 1, 0)
  (cec 25 0 .return_ xi0 [])))))))))))))))
/-- SupplyBook$Loans.rateOf(I)I -/
noncomputable def cs_121 : List CE := cec 0 0 (.aload_n 0) xi0
  (cec 1 0 (.iload_n 1) xi0
  (cec 2 0 (.invokevirtual 60) (116, 2, 0, 16)
  (cec 5 0 (.ifCond .eq 12) xi0
  (cec 8 0 (.aload_n 0) xi0
  (cec 9 0 (.getfield 34) (6, 7, 2, 0)
  (cec 12 0 (.iload_n 1) xi0
  (cec 13 0 .iaload xi0
  (cec 14 0 (.goto 4) xi0
  (cec 17 0 (.iconst (-1)) xi0
  (cec 18 0 .ireturn xi0 []))))))))))
/-- SupplyBook$Loans.madeOn(I)I -/
noncomputable def cs_122 : List CE := cec 0 0 (.aload_n 0) xi0
  (cec 1 0 (.iload_n 1) xi0
  (cec 2 0 (.invokevirtual 60) (116, 2, 0, 16)
  (cec 5 0 (.ifCond .eq 12) xi0
  (cec 8 0 (.aload_n 0) xi0
  (cec 9 0 (.getfield 37) (6, 8, 2, 0)
  (cec 12 0 (.iload_n 1) xi0
  (cec 13 0 .iaload xi0
  (cec 14 0 (.goto 4) xi0
  (cec 17 0 (.iconst (-1)) xi0
  (cec 18 0 .ireturn xi0 []))))))))))
/-- SupplyBook$People.<init>()V -/
noncomputable def cs_123 : List CE := cec 0 0 (.aload_n 0) xi0
  (cec 1 0 (.invokespecial 3) (9999, 1, 9, 17)
  (cec 4 0 (.aload_n 0) xi0
  (cec 5 0 (.bipush 40) xi0
  (cec 7 0 (.newarray .long) xi0
  (cec 9 0 (.putfield 9) (7, 0, 2, 0)
  (cec 12 0 (.aload_n 0) xi0
  (cec 13 0 (.iconst 0) xi0
  (cec 14 0 (.putfield 15) (7, 1, 0, 0)
  (cec 17 0 (.aload_n 0) xi0
  (cec 18 0 (.bipush 16) xi0
  (cec 20 0 (.newarray .int) xi0
  (cec 22 0 (.putfield 19) (7, 2, 2, 0)
  (cec 25 0 (.aload_n 0) xi0
  (cec 26 0 (.bipush 16) xi0
  (cec 28 0 (.newarray .int) xi0
  (cec 30 0 (.putfield 23) (7, 3, 2, 0)
  (cec 33 0 (.aload_n 0) xi0
  (cec 34 0 (.bipush 16) xi0
  (cec 36 0 (.newarray .long) xi0
  (cec 38 0 (.putfield 26) (7, 4, 2, 0)
  (cec 41 0 (.aload_n 0) xi0
  (cec 42 0 (.iconst 0) xi0
  (cec 43 0 (.putfield 29) (7, 5, 0, 0)
  (cec 46 0 .return_ xi0 []))))))))))))))))))))))))
/-- SupplyBook$People.addHead(I)I -/
noncomputable def cs_124 : List CE := cec 0 0 (.aload_n 0) xi0
  (cec 1 0 (.getfield 15) (7, 1, 0, 0)
  (cec 4 0 (.aload_n 0) xi0
  (cec 5 0 (.getfield 9) (7, 0, 2, 0)
  (cec 8 0 .arraylength xi0
  (cec 9 0 (.if_icmp .ge 16) xi0
  (cec 12 0 (.iload_n 1) xi0
  (cec 13 0 (.iconst (-1)) xi0
  (cec 14 0 (.if_icmp .eq 13) xi0
  (cec 17 0 (.aload_n 0) xi0
  (cec 18 0 (.iload_n 1) xi0
  (cec 19 0 (.invokevirtual 32) (125, 2, 0, 17)
  (cec 22 0 (.ifCond .ne 5) xi0
  (cec 25 0 (.iconst (-1)) xi0
  (cec 26 0 .ireturn xi0
  (cec 27 7 (.aload_n 0) xi0
  (cec 28 0 (.getfield 9) (7, 0, 2, 0)
  (cec 31 0 (.aload_n 0) xi0
  (cec 32 0 (.getfield 15) (7, 1, 0, 0)
  (cec 35 0 (.aload_n 0) xi0
  (cec 36 0 (.iload_n 1) xi0
  (cec 37 0 (.invokevirtual 36) (126, 2, 1, 17)
  (cec 40 0 (.lconst 1) xi0
  (cec 41 0 (.aload_n 0) xi0
  (cec 42 0 (.getfield 15) (7, 1, 0, 0)
  (cec 45 0 .lshl xi0
  (cec 46 0 .lor xi0
  (cec 47 0 .lastore xi0
  (cec 48 0 (.aload_n 0) xi0
  (cec 49 0 .dup xi0
  (cec 50 0 (.getfield 15) (7, 1, 0, 0)
  (cec 53 0 (.iconst 1) xi0
  (cec 54 0 .iadd xi0
  (cec 55 0 (.putfield 15) (7, 1, 0, 0)
  (cec 58 0 (.aload_n 0) xi0
  (cec 59 0 (.getfield 15) (7, 1, 0, 0)
  (cec 62 0 (.iconst 1) xi0
  (cec 63 0 .isub xi0
  (cec 64 0 .ireturn xi0 []))))))))))))))))))))))))))))))))))))))
/-- SupplyBook$People.isHead(I)Z -/
noncomputable def cs_125 : List CE := cec 0 0 (.iload_n 1) xi0
  (cec 1 0 (.ifCond .lt 15) xi0
  (cec 4 0 (.iload_n 1) xi0
  (cec 5 0 (.aload_n 0) xi0
  (cec 6 0 (.getfield 15) (7, 1, 0, 0)
  (cec 9 0 (.if_icmp .ge 7) xi0
  (cec 12 0 (.iconst 1) xi0
  (cec 13 0 (.goto 4) xi0
  (cec 16 0 (.iconst 0) xi0
  (cec 17 0 .ireturn xi0 [])))))))))
/-- SupplyBook$People.headsAbove(I)J -/
noncomputable def cs_126 : List CE := cec 0 0 (.aload_n 0) xi0
  (cec 1 0 (.iload_n 1) xi0
  (cec 2 0 (.invokevirtual 32) (125, 2, 0, 17)
  (cec 5 0 (.ifCond .eq 12) xi0
  (cec 8 0 (.aload_n 0) xi0
  (cec 9 0 (.getfield 9) (7, 0, 2, 0)
  (cec 12 0 (.iload_n 1) xi0
  (cec 13 0 .laload xi0
  (cec 14 0 (.goto 4) xi0
  (cec 17 0 (.lconst 0) xi0
  (cec 18 0 .lreturn xi0 []))))))))))
/-- SupplyBook$People.isUnder(II)Z -/
noncomputable def cs_127 : List CE := cec 0 0 (.aload_n 0) xi0
  (cec 1 0 (.iload_n 1) xi0
  (cec 2 0 (.invokevirtual 32) (125, 2, 0, 17)
  (cec 5 0 (.ifCond .eq 30) xi0
  (cec 8 0 (.aload_n 0) xi0
  (cec 9 0 (.iload_n 2) xi0
  (cec 10 0 (.invokevirtual 32) (125, 2, 0, 17)
  (cec 13 0 (.ifCond .eq 22) xi0
  (cec 16 0 (.aload_n 0) xi0
  (cec 17 0 (.getfield 9) (7, 0, 2, 0)
  (cec 20 0 (.iload_n 1) xi0
  (cec 21 0 .laload xi0
  (cec 22 0 (.iload_n 2) xi0
  (cec 23 0 .lushr xi0
  (cec 24 0 (.lconst 1) xi0
  (cec 25 0 .land xi0
  (cec 26 0 (.lconst 0) xi0
  (cec 27 0 .lcmp xi0
  (cec 28 0 (.ifCond .eq 7) xi0
  (cec 31 0 (.iconst 1) xi0
  (cec 32 0 (.goto 4) xi0
  (cec 35 0 (.iconst 0) xi0
  (cec 36 0 .ireturn xi0 []))))))))))))))))))))))
/-- SupplyBook$People.addHand(II)I -/
noncomputable def cs_128 : List CE := cec 0 0 (.aload_n 0) xi0
  (cec 1 0 (.iload_n 1) xi0
  (cec 2 0 (.invokevirtual 32) (125, 2, 0, 17)
  (cec 5 0 (.ifCond .eq 26) xi0
  (cec 8 0 (.iload_n 2) xi0
  (cec 9 0 (.iconst 1) xi0
  (cec 10 0 (.if_icmp .lt 21) xi0
  (cec 13 0 (.iload_n 2) xi0
  (cec 14 0 (.bipush 9) xi0
  (cec 16 0 (.if_icmp .gt 15) xi0
  (cec 19 0 (.aload_n 0) xi0
  (cec 20 0 (.getfield 29) (7, 5, 0, 0)
  (cec 23 0 (.aload_n 0) xi0
  (cec 24 0 (.getfield 19) (7, 2, 2, 0)
  (cec 27 0 .arraylength xi0
  (cec 28 0 (.if_icmp .lt 5) xi0
  (cec 31 0 (.iconst (-1)) xi0
  (cec 32 0 .ireturn xi0
  (cec 33 0 (.aload_n 0) xi0
  (cec 34 0 (.getfield 19) (7, 2, 2, 0)
  (cec 37 0 (.aload_n 0) xi0
  (cec 38 0 (.getfield 29) (7, 5, 0, 0)
  (cec 41 0 (.iload_n 1) xi0
  (cec 42 0 .iastore xi0
  (cec 43 0 (.aload_n 0) xi0
  (cec 44 0 (.getfield 23) (7, 3, 2, 0)
  (cec 47 0 (.aload_n 0) xi0
  (cec 48 0 (.getfield 29) (7, 5, 0, 0)
  (cec 51 0 (.iload_n 2) xi0
  (cec 52 0 .iastore xi0
  (cec 53 0 (.aload_n 0) xi0
  (cec 54 0 .dup xi0
  (cec 55 0 (.getfield 29) (7, 5, 0, 0)
  (cec 58 0 (.iconst 1) xi0
  (cec 59 0 .iadd xi0
  (cec 60 0 (.putfield 29) (7, 5, 0, 0)
  (cec 63 0 (.aload_n 0) xi0
  (cec 64 0 (.getfield 29) (7, 5, 0, 0)
  (cec 67 0 (.iconst 1) xi0
  (cec 68 0 .isub xi0
  (cec 69 0 .ireturn xi0 []))))))))))))))))))))))))))))))))))))))))
/-- SupplyBook$People.isHand(I)Z -/
noncomputable def cs_129 : List CE := cec 0 0 (.iload_n 1) xi0
  (cec 1 0 (.ifCond .lt 15) xi0
  (cec 4 0 (.iload_n 1) xi0
  (cec 5 0 (.aload_n 0) xi0
  (cec 6 0 (.getfield 29) (7, 5, 0, 0)
  (cec 9 0 (.if_icmp .ge 7) xi0
  (cec 12 0 (.iconst 1) xi0
  (cec 13 0 (.goto 4) xi0
  (cec 16 0 (.iconst 0) xi0
  (cec 17 0 .ireturn xi0 [])))))))))
/-- SupplyBook$People.headOfHand(I)I -/
noncomputable def cs_130 : List CE := cec 0 0 (.aload_n 0) xi0
  (cec 1 0 (.iload_n 1) xi0
  (cec 2 0 (.invokevirtual 40) (129, 2, 0, 17)
  (cec 5 0 (.ifCond .eq 12) xi0
  (cec 8 0 (.aload_n 0) xi0
  (cec 9 0 (.getfield 19) (7, 2, 2, 0)
  (cec 12 0 (.iload_n 1) xi0
  (cec 13 0 .iaload xi0
  (cec 14 0 (.goto 4) xi0
  (cec 17 0 (.iconst (-1)) xi0
  (cec 18 0 .ireturn xi0 []))))))))))
/-- SupplyBook$People.greatestRank(I)I -/
noncomputable def cs_131 : List CE := cec 0 0 (.iconst 0) xi0
  (cec 1 0 (.istore_n 2) xi0
  (cec 2 0 (.iconst 0) xi0
  (cec 3 0 (.istore_n 3) xi0
  (cec 4 31 (.iload_n 3) xi0
  (cec 5 0 (.aload_n 0) xi0
  (cec 6 0 (.getfield 29) (7, 5, 0, 0)
  (cec 9 0 (.if_icmp .ge 28) xi0
  (cec 12 0 (.iload_n 1) xi0
  (cec 13 0 (.iload_n 3) xi0
  (cec 14 0 .ishr xi0
  (cec 15 0 (.iconst 1) xi0
  (cec 16 0 .iand xi0
  (cec 17 0 (.ifCond .eq 14) xi0
  (cec 20 0 (.iload_n 2) xi0
  (cec 21 0 (.aload_n 0) xi0
  (cec 22 0 (.getfield 23) (7, 3, 2, 0)
  (cec 25 0 (.iload_n 3) xi0
  (cec 26 0 .iaload xi0
  (cec 27 0 (.invokestatic 43) (9990, 2, 0, 0)
  (cec 30 0 (.istore_n 2) xi0
  (cec 31 0 (.iinc 3 1) xi0
  (cec 34 0 (.goto (-30)) xi0
  (cec 37 0 (.iload_n 2) xi0
  (cec 38 0 .ireturn xi0 []))))))))))))))))))))))))
noncomputable def cs_132_1 : List CE := cec 80 0 (.ifCond .le 7) xi0
  (cec 83 0 (.iconst 1) xi0
  (cec 84 0 (.goto 4) xi0
  (cec 87 0 (.iconst 0) xi0
  (cec 88 0 .iadd xi0
  (cec 89 0 .i2l xi0
  (cec 90 0 .ladd xi0
  (cec 91 0 .lastore xi0
  (cec 92 0 (.iinc 4 (-1)) xi0
  (cec 95 0 (.iinc 5 1) xi0
  (cec 98 0 (.goto (-52)) xi0
  (cec 101 0 (.aload_n 1) xi0
  (cec 102 0 (.getfield 69) (2, 3, 0, 0)
  (cec 105 0 .i2l xi0
  (cec 106 0 .lreturn xi0 []))))))))))))))
/-- SupplyBook$People.surcharge(LSupplyBook$Claim;)J -/
noncomputable def cs_132 : List CE := cec 0 0 (.aload_n 1) xi0
  (cec 1 0 (.getfield 51) (2, 6, 0, 0)
  (cec 4 0 (.iconst 1) xi0
  (cec 5 0 (.aload_n 1) xi0
  (cec 6 0 (.getfield 56) (2, 0, 0, 0)
  (cec 9 0 .ishl xi0
  (cec 10 0 .ior xi0
  (cec 11 0 (.istore_n 2) xi0
  (cec 12 0 (.iload_n 2) xi0
  (cec 13 0 (.invokestatic 59) (320, 1, 0, 0)
  (cec 16 0 (.istore_n 3) xi0
  (cec 17 0 (.aload_n 1) xi0
  (cec 18 0 (.getfield 65) (2, 11, 4, 0)
  (cec 21 0 (.ifCond .ne 7) xi0
  (cec 24 0 (.iload_n 3) xi0
  (cec 25 0 (.ifCond .ne 5) xi0
  (cec 28 0 (.lconst 0) xi0
  (cec 29 0 .lreturn xi0
  (cec 30 0 (.aload_n 1) xi0
  (cec 31 0 (.iconst 1) xi0
  (cec 32 0 (.putfield 65) (2, 11, 4, 0)
  (cec 35 0 (.aload_n 1) xi0
  (cec 36 0 (.getfield 69) (2, 3, 0, 0)
  (cec 39 0 (.iload_n 3) xi0
  (cec 40 0 .irem xi0
  (cec 41 0 (.istore 4) xi0
  (cec 43 0 (.iconst 0) xi0
  (cec 44 0 (.istore 5) xi0
  (cec 46 127 (.iload 5) xi0
  (cec 48 0 (.aload_n 0) xi0
  (cec 49 0 (.getfield 29) (7, 5, 0, 0)
  (cec 52 0 (.if_icmp .ge 49) xi0
  (cec 55 0 (.iload_n 2) xi0
  (cec 56 0 (.iload 5) xi0
  (cec 58 0 .ishr xi0
  (cec 59 0 (.iconst 1) xi0
  (cec 60 0 .iand xi0
  (cec 61 0 (.ifCond .eq 34) xi0
  (cec 64 0 (.aload_n 0) xi0
  (cec 65 0 (.getfield 26) (7, 4, 2, 0)
  (cec 68 0 (.iload 5) xi0
  (cec 70 0 .dup2 xi0
  (cec 71 0 .laload xi0
  (cec 72 0 (.aload_n 1) xi0
  (cec 73 0 (.getfield 69) (2, 3, 0, 0)
  (cec 76 0 (.iload_n 3) xi0
  (cec 77 0 .idiv xi0
  (cec 78 0 (.iload 4) xi0 cs_132_1)))))))))))))))))))))))))))))))))))))))))))))))
/-- SupplyBook$People.chargeOf(I)J -/
noncomputable def cs_133 : List CE := cec 0 0 (.aload_n 0) xi0
  (cec 1 0 (.iload_n 1) xi0
  (cec 2 0 (.invokevirtual 40) (129, 2, 0, 17)
  (cec 5 0 (.ifCond .eq 12) xi0
  (cec 8 0 (.aload_n 0) xi0
  (cec 9 0 (.getfield 26) (7, 4, 2, 0)
  (cec 12 0 (.iload_n 1) xi0
  (cec 13 0 .laload xi0
  (cec 14 0 (.goto 6) xi0
  (cec 17 0 (.ldc2_w 49) (0, 0, (-1), 0)
  (cec 20 0 .lreturn xi0 []))))))))))
/-- SupplyBook$Reader.<init>()V -/
noncomputable def cs_134 : List CE := cec 0 0 (.aload_n 0) xi0
  (cec 1 0 (.invokespecial 3) (9999, 1, 9, 18)
  (cec 4 0 (.aload_n 0) xi0
  (cec 5 0 (.bipush 16) xi0
  (cec 7 0 (.newarray .int) xi0
  (cec 9 0 (.putfield 9) (8, 0, 2, 0)
  (cec 12 0 (.aload_n 0) xi0
  (cec 13 0 (.bipush 16) xi0
  (cec 15 0 (.newarray .int) xi0
  (cec 17 0 (.putfield 15) (8, 1, 2, 0)
  (cec 20 0 (.aload_n 0) xi0
  (cec 21 0 (.iconst 0) xi0
  (cec 22 0 (.putfield 18) (8, 2, 0, 0)
  (cec 25 0 (.aload_n 0) xi0
  (cec 26 0 (.iconst 0) xi0
  (cec 27 0 (.newarray .byte) xi0
  (cec 29 0 (.putfield 22) (8, 3, 2, 0)
  (cec 32 0 (.aload_n 0) xi0
  (cec 33 0 (.iconst 0) xi0
  (cec 34 0 (.putfield 26) (8, 4, 0, 0)
  (cec 37 0 (.aload_n 0) xi0
  (cec 38 0 (.iconst 0) xi0
  (cec 39 0 (.putfield 29) (8, 5, 0, 0)
  (cec 42 0 (.aload_n 0) xi0
  (cec 43 0 (.iconst (-1)) xi0
  (cec 44 0 (.putfield 32) (8, 6, 0, 0)
  (cec 47 0 (.aload_n 0) xi0
  (cec 48 0 (.iconst 0) xi0
  (cec 49 0 (.putfield 35) (8, 7, 0, 0)
  (cec 52 0 (.aload_n 0) xi0
  (cec 53 0 (.iconst 0) xi0
  (cec 54 0 (.putfield 38) (8, 8, 0, 0)
  (cec 57 0 (.aload_n 0) xi0
  (cec 58 0 (.iconst 0) xi0
  (cec 59 0 (.putfield 41) (8, 9, 4, 0)
  (cec 62 0 (.aload_n 0) xi0
  (cec 63 0 (.ldc 45) (1, 4, 0, 0)
  (cec 65 0 (.invokevirtual 47) (321, 1, 0, 23)
  (cec 68 0 (.newarray .long) xi0
  (cec 70 0 (.putfield 53) (8, 10, 2, 0)
  (cec 73 0 (.aload_n 0) xi0
  (cec 74 0 (.lconst 0) xi0
  (cec 75 0 (.putfield 57) (8, 11, 1, 0)
  (cec 78 0 (.aload_n 0) xi0
  (cec 79 0 (.iconst 0) xi0
  (cec 80 0 (.putfield 61) (8, 12, 4, 0)
  (cec 83 0 .return_ xi0 []))))))))))))))))))))))))))))))))))))))))))))))
/-- SupplyBook$Reader.readAll([BIZ)I -/
noncomputable def cs_135 : List CE := cec 0 0 (.aload_n 0) xi0
  (cec 1 0 (.aload_n 1) xi0
  (cec 2 0 (.iconst 0) xi0
  (cec 3 0 (.iload_n 2) xi0
  (cec 4 0 (.invokevirtual 78) (136, 4, 9, 18)
  (cec 7 0 (.aload_n 0) xi0
  (cec 8 0 (.iconst 0) xi0
  (cec 9 0 (.putfield 18) (8, 2, 0, 0)
  (cec 12 0 (.iconst 0) xi0
  (cec 13 0 (.istore 4) xi0
  (cec 15 51 (.iload 4) xi0
  (cec 17 0 (.bipush 16) xi0
  (cec 19 0 (.if_icmp .gt 41) xi0
  (cec 22 0 (.aload_n 0) xi0
  (cec 23 0 (.getfield 35) (8, 7, 0, 0)
  (cec 26 0 (.ifCond .ne 34) xi0
  (cec 29 0 (.aload_n 0) xi0
  (cec 30 0 (.iload_n 3) xi0
  (cec 31 0 (.invokevirtual 82) (138, 2, 9, 18)
  (cec 34 0 (.aload_n 0) xi0
  (cec 35 0 (.getfield 26) (8, 4, 0, 0)
  (cec 38 0 (.aload_n 0) xi0
  (cec 39 0 (.getfield 29) (8, 5, 0, 0)
  (cec 42 0 (.if_icmp .lt 6) xi0
  (cec 45 0 (.goto 15) xi0
  (cec 48 0 (.aload_n 0) xi0
  (cec 49 0 (.bipush 59) xi0
  (cec 51 0 (.invokevirtual 86) (145, 2, 9, 18)
  (cec 54 0 (.iinc 4 1) xi0
  (cec 57 0 (.goto (-42)) xi0
  (cec 60 0 (.aload_n 0) xi0
  (cec 61 0 (.getfield 35) (8, 7, 0, 0)
  (cec 64 0 (.ifCond .ne 7) xi0
  (cec 67 0 (.iconst 0) xi0
  (cec 68 0 (.goto 16) xi0
  (cec 71 0 (.sipush (-1000)) xi0
  (cec 74 0 (.aload_n 0) xi0
  (cec 75 0 (.getfield 35) (8, 7, 0, 0)
  (cec 78 0 .imul xi0
  (cec 79 0 (.aload_n 0) xi0
  (cec 80 0 (.getfield 38) (8, 8, 0, 0)
  (cec 83 0 .isub xi0
  (cec 84 0 .ireturn xi0 []))))))))))))))))))))))))))))))))))))))))))
/-- SupplyBook$Reader.begin([BII)V -/
noncomputable def cs_136 : List CE := cec 0 0 (.aload_n 0) xi0
  (cec 1 0 (.aload_n 1) xi0
  (cec 2 0 (.putfield 22) (8, 3, 2, 0)
  (cec 5 0 (.aload_n 0) xi0
  (cec 6 0 (.iload_n 2) xi0
  (cec 7 0 (.iconst 1) xi0
  (cec 8 0 .isub xi0
  (cec 9 0 (.putfield 26) (8, 4, 0, 0)
  (cec 12 0 (.aload_n 0) xi0
  (cec 13 0 (.iload_n 3) xi0
  (cec 14 0 (.putfield 29) (8, 5, 0, 0)
  (cec 17 0 (.aload_n 0) xi0
  (cec 18 0 (.iconst 0) xi0
  (cec 19 0 (.putfield 35) (8, 7, 0, 0)
  (cec 22 0 (.aload_n 0) xi0
  (cec 23 0 (.iconst 0) xi0
  (cec 24 0 (.putfield 38) (8, 8, 0, 0)
  (cec 27 0 (.aload_n 0) xi0
  (cec 28 0 (.iconst 0) xi0
  (cec 29 0 (.putfield 41) (8, 9, 4, 0)
  (cec 32 0 (.aload_n 0) xi0
  (cec 33 0 (.invokevirtual 138) (137, 1, 9, 18)
  (cec 36 0 .return_ xi0 []))))))))))))))))))))))
/-- SupplyBook$Reader.step()V -/
noncomputable def cs_137 : List CE := cec 0 0 (.aload_n 0) xi0
  (cec 1 0 .dup xi0
  (cec 2 0 (.getfield 26) (8, 4, 0, 0)
  (cec 5 0 (.iconst 1) xi0
  (cec 6 0 .iadd xi0
  (cec 7 0 (.putfield 26) (8, 4, 0, 0)
  (cec 10 0 (.aload_n 0) xi0
  (cec 11 0 (.aload_n 0) xi0
  (cec 12 0 (.getfield 26) (8, 4, 0, 0)
  (cec 15 0 (.ifCond .lt 42) xi0
  (cec 18 0 (.aload_n 0) xi0
  (cec 19 0 (.getfield 26) (8, 4, 0, 0)
  (cec 22 0 (.aload_n 0) xi0
  (cec 23 0 (.getfield 29) (8, 5, 0, 0)
  (cec 26 0 (.if_icmp .ge 31) xi0
  (cec 29 0 (.aload_n 0) xi0
  (cec 30 0 (.getfield 26) (8, 4, 0, 0)
  (cec 33 0 (.aload_n 0) xi0
  (cec 34 0 (.getfield 22) (8, 3, 2, 0)
  (cec 37 0 .arraylength xi0
  (cec 38 0 (.if_icmp .ge 19) xi0
  (cec 41 0 (.aload_n 0) xi0
  (cec 42 0 (.getfield 22) (8, 3, 2, 0)
  (cec 45 0 (.aload_n 0) xi0
  (cec 46 0 (.getfield 26) (8, 4, 0, 0)
  (cec 49 0 .baload xi0
  (cec 50 0 (.sipush 255) xi0
  (cec 53 0 .iand xi0
  (cec 54 0 (.goto 4) xi0
  (cec 57 0 (.iconst (-1)) xi0
  (cec 58 0 (.putfield 32) (8, 6, 0, 0)
  (cec 61 0 .return_ xi0 [])))))))))))))))))))))))))))))))
noncomputable def cs_138_1 : List CE := cec 97 0 (.aload_n 0) xi0
  (cec 98 0 (.getfield 15) (8, 1, 2, 0)
  (cec 101 0 (.aload_n 0) xi0
  (cec 102 0 (.getfield 18) (8, 2, 0, 0)
  (cec 105 0 (.iload_n 2) xi0
  (cec 106 0 (.ifCond .eq 11) xi0
  (cec 109 0 (.aload_n 0) xi0
  (cec 110 0 (.iload_n 3) xi0
  (cec 111 0 (.invokevirtual 154) (142, 2, 0, 18)
  (cec 114 0 (.goto 8) xi0
  (cec 117 0 (.aload_n 0) xi0
  (cec 118 0 (.iload_n 3) xi0
  (cec 119 0 (.invokevirtual 157) (146, 2, 0, 18)
  (cec 122 0 .iastore xi0
  (cec 123 0 (.aload_n 0) xi0
  (cec 124 0 .dup xi0
  (cec 125 0 (.getfield 18) (8, 2, 0, 0)
  (cec 128 0 (.iconst 1) xi0
  (cec 129 0 .iadd xi0
  (cec 130 0 (.putfield 18) (8, 2, 0, 0)
  (cec 133 0 .return_ xi0 []))))))))))))))))))))
/-- SupplyBook$Reader.readClause(Z)V -/
noncomputable def cs_138 : List CE := cec 0 0 (.aload_n 0) xi0
  (cec 1 0 (.ldc 148) (1, 5, 0, 0)
  (cec 3 0 (.invokevirtual 150) (139, 2, 0, 18)
  (cec 6 0 (.istore_n 2) xi0
  (cec 7 0 (.iload_n 2) xi0
  (cec 8 0 (.ifCond .ne 25) xi0
  (cec 11 0 (.aload_n 0) xi0
  (cec 12 0 (.getfield 32) (8, 6, 0, 0)
  (cec 15 0 (.invokestatic 119) (140, 1, 0, 0)
  (cec 18 0 (.ifCond .ne 15) xi0
  (cec 21 0 (.aload_n 0) xi0
  (cec 22 0 (.iconst 1) xi0
  (cec 23 0 (.aload_n 0) xi0
  (cec 24 0 (.getfield 26) (8, 4, 0, 0)
  (cec 27 0 (.invokevirtual 144) (141, 3, 9, 18)
  (cec 30 0 (.goto 103) xi0
  (cec 33 0 (.iload_n 2) xi0
  (cec 34 0 (.ifCond .eq 20) xi0
  (cec 37 0 (.iload_n 1) xi0
  (cec 38 0 (.ifCond .ne 16) xi0
  (cec 41 0 (.aload_n 0) xi0
  (cec 42 0 (.bipush 6) xi0
  (cec 44 0 (.aload_n 0) xi0
  (cec 45 0 (.getfield 26) (8, 4, 0, 0)
  (cec 48 0 (.invokevirtual 144) (141, 3, 9, 18)
  (cec 51 0 (.goto 82) xi0
  (cec 54 11 (.aload_n 0) xi0
  (cec 55 0 (.getfield 18) (8, 2, 0, 0)
  (cec 58 0 (.bipush 16) xi0
  (cec 60 0 (.if_icmp .lt 15) xi0
  (cec 63 0 (.aload_n 0) xi0
  (cec 64 0 (.iconst 4) xi0
  (cec 65 0 (.aload_n 0) xi0
  (cec 66 0 (.getfield 26) (8, 4, 0, 0)
  (cec 69 0 (.invokevirtual 144) (141, 3, 9, 18)
  (cec 72 0 (.goto 61) xi0
  (cec 75 0 (.aload_n 0) xi0
  (cec 76 0 (.getfield 32) (8, 6, 0, 0)
  (cec 79 0 (.istore_n 3) xi0
  (cec 80 0 (.aload_n 0) xi0
  (cec 81 0 (.getfield 9) (8, 0, 2, 0)
  (cec 84 0 (.aload_n 0) xi0
  (cec 85 0 (.getfield 18) (8, 2, 0, 0)
  (cec 88 0 (.aload_n 0) xi0
  (cec 89 0 (.getfield 26) (8, 4, 0, 0)
  (cec 92 0 .iastore xi0
  (cec 93 0 (.aload_n 0) xi0
  (cec 94 0 (.invokevirtual 138) (137, 1, 9, 18) cs_138_1)))))))))))))))))))))))))))))))))))))))))))))))
/-- SupplyBook$Reader.isNextOf(Ljava/lang/String;)Z -/
noncomputable def cs_139 : List CE := cec 0 0 (.aload_n 0) xi0
  (cec 1 0 (.getfield 32) (8, 6, 0, 0)
  (cec 4 0 (.iconst (-1)) xi0
  (cec 5 0 (.if_icmp .eq 19) xi0
  (cec 8 0 (.aload_n 1) xi0
  (cec 9 0 (.aload_n 0) xi0
  (cec 10 0 (.getfield 32) (8, 6, 0, 0)
  (cec 13 0 .i2c xi0
  (cec 14 0 (.invokevirtual 141) (323, 2, 0, 23)
  (cec 17 0 (.ifCond .lt 7) xi0
  (cec 20 0 (.iconst 1) xi0
  (cec 21 0 (.goto 4) xi0
  (cec 24 0 (.iconst 0) xi0
  (cec 25 0 .ireturn xi0 [])))))))))))))
/-- SupplyBook$Reader.isRule(I)Z -/
noncomputable def cs_140 : List CE := cec 0 0 (.iload_n 0) xi0
  (cec 1 0 (.bipush 111) xi0
  (cec 3 0 (.if_icmp .eq 21) xi0
  (cec 6 0 (.iload_n 0) xi0
  (cec 7 0 (.bipush 110) xi0
  (cec 9 0 (.if_icmp .eq 15) xi0
  (cec 12 0 (.iload_n 0) xi0
  (cec 13 0 (.bipush 115) xi0
  (cec 15 0 (.if_icmp .eq 9) xi0
  (cec 18 0 (.iload_n 0) xi0
  (cec 19 0 (.bipush 116) xi0
  (cec 21 0 (.if_icmp .ne 7) xi0
  (cec 24 0 (.iconst 1) xi0
  (cec 25 0 (.goto 4) xi0
  (cec 28 0 (.iconst 0) xi0
  (cec 29 0 .ireturn xi0 [])))))))))))))))
/-- SupplyBook$Reader.fail(II)V -/
noncomputable def cs_141 : List CE := cec 0 0 (.aload_n 0) xi0
  (cec 1 0 (.getfield 35) (8, 7, 0, 0)
  (cec 4 0 (.ifCond .ne 25) xi0
  (cec 7 0 (.aload_n 0) xi0
  (cec 8 0 (.getfield 41) (8, 9, 4, 0)
  (cec 11 0 (.ifCond .ne 18) xi0
  (cec 14 0 (.aload_n 0) xi0
  (cec 15 0 (.iload_n 1) xi0
  (cec 16 0 (.putfield 35) (8, 7, 0, 0)
  (cec 19 0 (.aload_n 0) xi0
  (cec 20 0 (.iload_n 2) xi0
  (cec 21 0 (.putfield 38) (8, 8, 0, 0)
  (cec 24 0 (.aload_n 0) xi0
  (cec 25 0 (.iconst (-1)) xi0
  (cec 26 0 (.putfield 32) (8, 6, 0, 0)
  (cec 29 0 .return_ xi0 [])))))))))))))))
/-- SupplyBook$Reader.readMoney(I)I -/
noncomputable def cs_142 : List CE := cec 0 0 (.iload_n 1) xi0
  (cec 1 0 (.bipush 120) xi0
  (cec 3 0 (.if_icmp .ne 28) xi0
  (cec 6 0 (.aload_n 0) xi0
  (cec 7 0 (.bipush 19) xi0
  (cec 9 0 (.invokevirtual 160) (143, 2, 0, 18)
  (cec 12 0 (.istore_n 2) xi0
  (cec 13 0 (.aload_n 0) xi0
  (cec 14 0 (.bipush 46) xi0
  (cec 16 0 (.invokevirtual 86) (145, 2, 9, 18)
  (cec 19 0 (.iload_n 2) xi0
  (cec 20 0 (.bipush 16) xi0
  (cec 22 0 .imul xi0
  (cec 23 0 (.aload_n 0) xi0
  (cec 24 0 (.bipush 15) xi0
  (cec 26 0 (.invokevirtual 160) (143, 2, 0, 18)
  (cec 29 0 .iadd xi0
  (cec 30 0 .ireturn xi0
  (cec 31 0 (.aload_n 0) xi0
  (cec 32 0 (.iload_n 1) xi0
  (cec 33 0 (.bipush 109) xi0
  (cec 35 0 (.if_icmp .eq 9) xi0
  (cec 38 0 (.iload_n 1) xi0
  (cec 39 0 (.bipush 99) xi0
  (cec 41 0 (.if_icmp .ne 8) xi0
  (cec 44 0 (.bipush 100) xi0
  (cec 46 0 (.goto 5) xi0
  (cec 49 0 (.ldc 163) (0, 0, 999999, 0)
  (cec 51 0 (.invokevirtual 160) (143, 2, 0, 18)
  (cec 54 0 .ireturn xi0 [])))))))))))))))))))))))))))))
noncomputable def cs_143_1 : List CE := cec 91 0 (.if_icmp .le 9) xi0
  (cec 94 0 (.aload_n 0) xi0
  (cec 95 0 (.iconst 3) xi0
  (cec 96 0 (.iload_n 2) xi0
  (cec 97 0 (.invokevirtual 144) (141, 3, 9, 18)
  (cec 100 0 (.iload_n 3) xi0
  (cec 101 0 .ireturn xi0 []))))))
/-- SupplyBook$Reader.readNumber(I)I -/
noncomputable def cs_143 : List CE := cec 0 0 (.aload_n 0) xi0
  (cec 1 0 (.getfield 26) (8, 4, 0, 0)
  (cec 4 0 (.istore_n 2) xi0
  (cec 5 0 (.iconst 0) xi0
  (cec 6 0 (.istore_n 3) xi0
  (cec 7 0 (.iconst 0) xi0
  (cec 8 0 (.istore 4) xi0
  (cec 10 0 (.iconst 0) xi0
  (cec 11 0 (.istore 5) xi0
  (cec 13 127 (.iload 5) xi0
  (cec 15 0 (.bipush 6) xi0
  (cec 17 0 (.if_icmp .ge 36) xi0
  (cec 20 0 (.aload_n 0) xi0
  (cec 21 0 (.invokevirtual 164) (144, 1, 0, 18)
  (cec 24 0 (.ifCond .eq 29) xi0
  (cec 27 0 (.iload_n 3) xi0
  (cec 28 0 (.bipush 10) xi0
  (cec 30 0 .imul xi0
  (cec 31 0 (.aload_n 0) xi0
  (cec 32 0 (.getfield 32) (8, 6, 0, 0)
  (cec 35 0 (.bipush 48) xi0
  (cec 37 0 .isub xi0
  (cec 38 0 .iadd xi0
  (cec 39 0 (.istore_n 3) xi0
  (cec 40 0 (.iinc 4 1) xi0
  (cec 43 0 (.aload_n 0) xi0
  (cec 44 0 (.invokevirtual 138) (137, 1, 9, 18)
  (cec 47 0 (.iinc 5 1) xi0
  (cec 50 0 (.goto (-37)) xi0
  (cec 53 63 (.iload 4) xi0
  (cec 55 0 (.ifCond .ne 15) xi0
  (cec 58 0 (.aload_n 0) xi0
  (cec 59 0 (.iconst 1) xi0
  (cec 60 0 (.aload_n 0) xi0
  (cec 61 0 (.getfield 26) (8, 4, 0, 0)
  (cec 64 0 (.invokevirtual 144) (141, 3, 9, 18)
  (cec 67 0 (.goto 33) xi0
  (cec 70 0 (.aload_n 0) xi0
  (cec 71 0 (.invokevirtual 164) (144, 1, 0, 18)
  (cec 74 0 (.ifCond .eq 15) xi0
  (cec 77 0 (.aload_n 0) xi0
  (cec 78 0 (.iconst 2) xi0
  (cec 79 0 (.aload_n 0) xi0
  (cec 80 0 (.getfield 26) (8, 4, 0, 0)
  (cec 83 0 (.invokevirtual 144) (141, 3, 9, 18)
  (cec 86 0 (.goto 14) xi0
  (cec 89 0 (.iload_n 3) xi0
  (cec 90 0 (.iload_n 1) xi0 cs_143_1)))))))))))))))))))))))))))))))))))))))))))))))
/-- SupplyBook$Reader.isNextDigit()Z -/
noncomputable def cs_144 : List CE := cec 0 0 (.aload_n 0) xi0
  (cec 1 0 (.getfield 32) (8, 6, 0, 0)
  (cec 4 0 (.bipush 48) xi0
  (cec 6 0 (.if_icmp .lt 16) xi0
  (cec 9 0 (.aload_n 0) xi0
  (cec 10 0 (.getfield 32) (8, 6, 0, 0)
  (cec 13 0 (.bipush 57) xi0
  (cec 15 0 (.if_icmp .gt 7) xi0
  (cec 18 0 (.iconst 1) xi0
  (cec 19 0 (.goto 4) xi0
  (cec 22 0 (.iconst 0) xi0
  (cec 23 0 .ireturn xi0 [])))))))))))
/-- SupplyBook$Reader.expect(C)V -/
noncomputable def cs_145 : List CE := cec 0 0 (.aload_n 0) xi0
  (cec 1 0 (.getfield 32) (8, 6, 0, 0)
  (cec 4 0 (.iload_n 1) xi0
  (cec 5 0 (.if_icmp .ne 10) xi0
  (cec 8 0 (.aload_n 0) xi0
  (cec 9 0 (.invokevirtual 138) (137, 1, 9, 18)
  (cec 12 0 (.goto 12) xi0
  (cec 15 0 (.aload_n 0) xi0
  (cec 16 0 (.iconst 1) xi0
  (cec 17 0 (.aload_n 0) xi0
  (cec 18 0 (.getfield 26) (8, 4, 0, 0)
  (cec 21 0 (.invokevirtual 144) (141, 3, 9, 18)
  (cec 24 0 .return_ xi0 []))))))))))))
/-- SupplyBook$Reader.readRule(I)I -/
noncomputable def cs_146 : List CE := cec 0 0 (.aload_n 0) xi0
  (cec 1 0 (.bipush 40) xi0
  (cec 3 0 (.invokevirtual 86) (145, 2, 9, 18)
  (cec 6 0 (.aload_n 0) xi0
  (cec 7 0 (.iconst 1) xi0
  (cec 8 0 (.iconst 0) xi0
  (cec 9 0 (.invokevirtual 127) (147, 3, 0, 18)
  (cec 12 0 .pop xi0
  (cec 13 0 (.aload_n 0) xi0
  (cec 14 0 (.bipush 41) xi0
  (cec 16 0 (.invokevirtual 86) (145, 2, 9, 18)
  (cec 19 0 (.iload_n 1) xi0
  (cec 20 0 (.bipush 115) xi0
  (cec 22 0 (.if_icmp .eq 5) xi0
  (cec 25 0 (.iconst 0) xi0
  (cec 26 0 .ireturn xi0
  (cec 27 0 (.aload_n 0) xi0
  (cec 28 0 (.invokevirtual 164) (144, 1, 0, 18)
  (cec 31 0 (.ifCond .eq 13) xi0
  (cec 34 0 (.aload_n 0) xi0
  (cec 35 0 (.getfield 32) (8, 6, 0, 0)
  (cec 38 0 (.bipush 48) xi0
  (cec 40 0 .isub xi0
  (cec 41 0 (.goto 4) xi0
  (cec 44 0 (.iconst 0) xi0
  (cec 45 3 (.istore_n 2) xi0
  (cec 46 0 (.iload_n 2) xi0
  (cec 47 0 (.ifCond .ne 15) xi0
  (cec 50 0 (.aload_n 0) xi0
  (cec 51 0 (.iconst 1) xi0
  (cec 52 0 (.aload_n 0) xi0
  (cec 53 0 (.getfield 26) (8, 4, 0, 0)
  (cec 56 0 (.invokevirtual 144) (141, 3, 9, 18)
  (cec 59 0 (.goto 7) xi0
  (cec 62 0 (.aload_n 0) xi0
  (cec 63 0 (.invokevirtual 138) (137, 1, 9, 18)
  (cec 66 0 (.iload_n 2) xi0
  (cec 67 0 .ireturn xi0 [])))))))))))))))))))))))))))))))))))))
/-- SupplyBook$Reader.readCondition(IZ)Z -/
noncomputable def cs_147 : List CE := cec 0 0 (.aload_n 0) xi0
  (cec 1 0 (.iload_n 1) xi0
  (cec 2 0 (.iload_n 2) xi0
  (cec 3 0 (.invokevirtual 168) (148, 3, 0, 18)
  (cec 6 0 (.istore_n 3) xi0
  (cec 7 0 (.iconst 0) xi0
  (cec 8 0 (.istore 4) xi0
  (cec 10 63 (.iload 4) xi0
  (cec 12 0 (.sipush 200) xi0
  (cec 15 0 (.if_icmp .ge 58) xi0
  (cec 18 0 (.aload_n 0) xi0
  (cec 19 0 (.getfield 32) (8, 6, 0, 0)
  (cec 22 0 (.bipush 124) xi0
  (cec 24 0 (.if_icmp .ne 49) xi0
  (cec 27 0 (.aload_n 0) xi0
  (cec 28 0 (.invokevirtual 138) (137, 1, 9, 18)
  (cec 31 0 (.iload_n 2) xi0
  (cec 32 0 (.ifCond .eq 11) xi0
  (cec 35 0 (.iload_n 3) xi0
  (cec 36 0 (.ifCond .ne 7) xi0
  (cec 39 0 (.iconst 1) xi0
  (cec 40 0 (.goto 4) xi0
  (cec 43 0 (.iconst 0) xi0
  (cec 44 63 (.istore 5) xi0
  (cec 46 0 (.aload_n 0) xi0
  (cec 47 0 (.iload_n 1) xi0
  (cec 48 0 (.iload 5) xi0
  (cec 50 0 (.invokevirtual 168) (148, 3, 0, 18)
  (cec 53 0 (.istore 6) xi0
  (cec 55 0 (.iload 5) xi0
  (cec 57 0 (.ifCond .eq 8) xi0
  (cec 60 0 (.iload 6) xi0
  (cec 62 0 (.goto 4) xi0
  (cec 65 0 (.iload_n 3) xi0
  (cec 66 0 (.istore_n 3) xi0
  (cec 67 0 (.iinc 4 1) xi0
  (cec 70 0 (.goto (-60)) xi0
  (cec 73 0 (.iload_n 3) xi0
  (cec 74 0 .ireturn xi0 []))))))))))))))))))))))))))))))))))))))
/-- SupplyBook$Reader.readPart(IZ)Z -/
noncomputable def cs_148 : List CE := cec 0 0 (.aload_n 0) xi0
  (cec 1 0 (.iload_n 1) xi0
  (cec 2 0 (.iload_n 2) xi0
  (cec 3 0 (.invokevirtual 171) (149, 3, 0, 18)
  (cec 6 0 (.istore_n 3) xi0
  (cec 7 0 (.iconst 0) xi0
  (cec 8 0 (.istore 4) xi0
  (cec 10 63 (.iload 4) xi0
  (cec 12 0 (.sipush 200) xi0
  (cec 15 0 (.if_icmp .ge 58) xi0
  (cec 18 0 (.aload_n 0) xi0
  (cec 19 0 (.getfield 32) (8, 6, 0, 0)
  (cec 22 0 (.bipush 38) xi0
  (cec 24 0 (.if_icmp .ne 49) xi0
  (cec 27 0 (.aload_n 0) xi0
  (cec 28 0 (.invokevirtual 138) (137, 1, 9, 18)
  (cec 31 0 (.iload_n 2) xi0
  (cec 32 0 (.ifCond .eq 11) xi0
  (cec 35 0 (.iload_n 3) xi0
  (cec 36 0 (.ifCond .eq 7) xi0
  (cec 39 0 (.iconst 1) xi0
  (cec 40 0 (.goto 4) xi0
  (cec 43 0 (.iconst 0) xi0
  (cec 44 63 (.istore 5) xi0
  (cec 46 0 (.aload_n 0) xi0
  (cec 47 0 (.iload_n 1) xi0
  (cec 48 0 (.iload 5) xi0
  (cec 50 0 (.invokevirtual 171) (149, 3, 0, 18)
  (cec 53 0 (.istore 6) xi0
  (cec 55 0 (.iload 5) xi0
  (cec 57 0 (.ifCond .eq 8) xi0
  (cec 60 0 (.iload 6) xi0
  (cec 62 0 (.goto 4) xi0
  (cec 65 0 (.iload_n 3) xi0
  (cec 66 0 (.istore_n 3) xi0
  (cec 67 0 (.iinc 4 1) xi0
  (cec 70 0 (.goto (-60)) xi0
  (cec 73 0 (.iload_n 3) xi0
  (cec 74 0 .ireturn xi0 []))))))))))))))))))))))))))))))))))))))
noncomputable def cs_149_2 : List CE := cec 169 0 (.ifCond .ge 7) xi0
  (cec 172 0 (.iconst 1) xi0
  (cec 173 0 (.goto 41) xi0
  (cec 176 0 (.iconst 0) xi0
  (cec 177 0 (.goto 37) xi0
  (cec 180 0 (.iload 5) xi0
  (cec 182 0 (.bipush 62) xi0
  (cec 184 0 (.if_icmp .ne 18) xi0
  (cec 187 0 (.lload_n 3) xi0
  (cec 188 0 (.lload 6) xi0
  (cec 190 0 .lcmp xi0
  (cec 191 0 (.ifCond .le 7) xi0
  (cec 194 0 (.iconst 1) xi0
  (cec 195 0 (.goto 19) xi0
  (cec 198 0 (.iconst 0) xi0
  (cec 199 0 (.goto 15) xi0
  (cec 202 0 (.lload_n 3) xi0
  (cec 203 0 (.lload 6) xi0
  (cec 205 0 .lcmp xi0
  (cec 206 0 (.ifCond .ne 7) xi0
  (cec 209 0 (.iconst 1) xi0
  (cec 210 0 (.goto 4) xi0
  (cec 213 0 (.iconst 0) xi0
  (cec 214 0 .ireturn xi0 [])))))))))))))))))))))))
noncomputable def cs_149_1 : List CE := cec 86 0 (.invokevirtual 138) (137, 1, 9, 18)
  (cec 89 0 (.aload_n 0) xi0
  (cec 90 0 (.getfield 57) (8, 11, 1, 0)
  (cec 93 0 (.aload_n 0) xi0
  (cec 94 0 (.bipush 39) xi0
  (cec 96 0 (.invokevirtual 160) (143, 2, 0, 18)
  (cec 99 0 .lushr xi0
  (cec 100 0 (.lconst 1) xi0
  (cec 101 0 .land xi0
  (cec 102 0 (.lconst 0) xi0
  (cec 103 0 .lcmp xi0
  (cec 104 0 (.ifCond .eq 7) xi0
  (cec 107 0 (.iconst 1) xi0
  (cec 108 0 (.goto 4) xi0
  (cec 111 0 (.iconst 0) xi0
  (cec 112 0 .ireturn xi0
  (cec 113 0 (.aload_n 0) xi0
  (cec 114 0 (.iload_n 1) xi0
  (cec 115 0 (.iload_n 2) xi0
  (cec 116 0 (.invokevirtual 177) (151, 3, 1, 18)
  (cec 119 0 (.lstore_n 3) xi0
  (cec 120 0 (.aload_n 0) xi0
  (cec 121 0 (.getfield 32) (8, 6, 0, 0)
  (cec 124 0 (.istore 5) xi0
  (cec 126 0 (.aload_n 0) xi0
  (cec 127 0 (.ldc 181) (1, 6, 0, 0)
  (cec 129 0 (.invokevirtual 150) (139, 2, 0, 18)
  (cec 132 0 (.ifCond .ne 14) xi0
  (cec 135 0 (.aload_n 0) xi0
  (cec 136 0 (.iconst 1) xi0
  (cec 137 0 (.aload_n 0) xi0
  (cec 138 0 (.getfield 26) (8, 4, 0, 0)
  (cec 141 0 (.invokevirtual 144) (141, 3, 9, 18)
  (cec 144 0 (.iconst 0) xi0
  (cec 145 0 .ireturn xi0
  (cec 146 0 (.aload_n 0) xi0
  (cec 147 0 (.invokevirtual 138) (137, 1, 9, 18)
  (cec 150 0 (.aload_n 0) xi0
  (cec 151 0 (.iload_n 1) xi0
  (cec 152 0 (.iload_n 2) xi0
  (cec 153 0 (.invokevirtual 177) (151, 3, 1, 18)
  (cec 156 0 (.lstore 6) xi0
  (cec 158 0 (.iload 5) xi0
  (cec 160 0 (.bipush 60) xi0
  (cec 162 0 (.if_icmp .ne 18) xi0
  (cec 165 0 (.lload_n 3) xi0
  (cec 166 0 (.lload 6) xi0
  (cec 168 0 .lcmp xi0 cs_149_2)))))))))))))))))))))))))))))))))))))))))))))))
/-- SupplyBook$Reader.readPiece(IZ)Z -/
noncomputable def cs_149 : List CE := cec 0 0 (.aload_n 0) xi0
  (cec 1 0 (.getfield 32) (8, 6, 0, 0)
  (cec 4 0 (.bipush 33) xi0
  (cec 6 0 (.if_icmp .ne 28) xi0
  (cec 9 0 (.aload_n 0) xi0
  (cec 10 0 (.iload_n 1) xi0
  (cec 11 0 (.invokevirtual 174) (150, 2, 0, 18)
  (cec 14 0 (.ifCond .eq 18) xi0
  (cec 17 0 (.aload_n 0) xi0
  (cec 18 0 (.iload_n 1) xi0
  (cec 19 0 (.iconst 1) xi0
  (cec 20 0 .iadd xi0
  (cec 21 0 (.iload_n 2) xi0
  (cec 22 0 (.invokevirtual 171) (149, 3, 0, 18)
  (cec 25 0 (.ifCond .ne 7) xi0
  (cec 28 0 (.iconst 1) xi0
  (cec 29 0 (.goto 4) xi0
  (cec 32 0 (.iconst 0) xi0
  (cec 33 0 .ireturn xi0
  (cec 34 0 (.aload_n 0) xi0
  (cec 35 0 (.getfield 32) (8, 6, 0, 0)
  (cec 38 0 (.bipush 40) xi0
  (cec 40 0 (.if_icmp .ne 36) xi0
  (cec 43 0 (.aload_n 0) xi0
  (cec 44 0 (.iload_n 1) xi0
  (cec 45 0 (.invokevirtual 174) (150, 2, 0, 18)
  (cec 48 0 (.ifCond .eq 18) xi0
  (cec 51 0 (.aload_n 0) xi0
  (cec 52 0 (.iload_n 1) xi0
  (cec 53 0 (.iconst 1) xi0
  (cec 54 0 .iadd xi0
  (cec 55 0 (.iload_n 2) xi0
  (cec 56 0 (.invokevirtual 127) (147, 3, 0, 18)
  (cec 59 0 (.ifCond .eq 7) xi0
  (cec 62 0 (.iconst 1) xi0
  (cec 63 0 (.goto 4) xi0
  (cec 66 0 (.iconst 0) xi0
  (cec 67 0 (.istore_n 3) xi0
  (cec 68 0 (.aload_n 0) xi0
  (cec 69 0 (.bipush 41) xi0
  (cec 71 0 (.invokevirtual 86) (145, 2, 9, 18)
  (cec 74 0 (.iload_n 3) xi0
  (cec 75 0 .ireturn xi0
  (cec 76 0 (.aload_n 0) xi0
  (cec 77 0 (.getfield 32) (8, 6, 0, 0)
  (cec 80 0 (.bipush 117) xi0
  (cec 82 0 (.if_icmp .ne 31) xi0
  (cec 85 0 (.aload_n 0) xi0 cs_149_1)))))))))))))))))))))))))))))))))))))))))))))))
/-- SupplyBook$Reader.opensOneMore(I)Z -/
noncomputable def cs_150 : List CE := cec 0 0 (.iload_n 1) xi0
  (cec 1 0 (.bipush 8) xi0
  (cec 3 0 (.if_icmp .lt 14) xi0
  (cec 6 0 (.aload_n 0) xi0
  (cec 7 0 (.iconst 5) xi0
  (cec 8 0 (.aload_n 0) xi0
  (cec 9 0 (.getfield 26) (8, 4, 0, 0)
  (cec 12 0 (.invokevirtual 144) (141, 3, 9, 18)
  (cec 15 0 (.iconst 0) xi0
  (cec 16 0 .ireturn xi0
  (cec 17 0 (.aload_n 0) xi0
  (cec 18 0 (.invokevirtual 138) (137, 1, 9, 18)
  (cec 21 0 (.iconst 1) xi0
  (cec 22 0 .ireturn xi0 [])))))))))))))
/-- SupplyBook$Reader.readExpression(IZ)J -/
noncomputable def cs_151 : List CE := cec 0 0 (.aload_n 0) xi0
  (cec 1 0 (.iload_n 1) xi0
  (cec 2 0 (.iload_n 2) xi0
  (cec 3 0 (.invokevirtual 183) (152, 3, 1, 18)
  (cec 6 0 (.lstore_n 3) xi0
  (cec 7 0 (.iconst 0) xi0
  (cec 8 0 (.istore 5) xi0
  (cec 10 95 (.iload 5) xi0
  (cec 12 0 (.sipush 200) xi0
  (cec 15 0 (.if_icmp .ge 72) xi0
  (cec 18 0 (.aload_n 0) xi0
  (cec 19 0 (.getfield 32) (8, 6, 0, 0)
  (cec 22 0 (.bipush 43) xi0
  (cec 24 0 (.if_icmp .eq 12) xi0
  (cec 27 0 (.aload_n 0) xi0
  (cec 28 0 (.getfield 32) (8, 6, 0, 0)
  (cec 31 0 (.bipush 45) xi0
  (cec 33 0 (.if_icmp .ne 54) xi0
  (cec 36 0 (.aload_n 0) xi0
  (cec 37 0 (.getfield 32) (8, 6, 0, 0)
  (cec 40 0 (.bipush 43) xi0
  (cec 42 0 (.if_icmp .ne 7) xi0
  (cec 45 0 (.iconst 1) xi0
  (cec 46 0 (.goto 4) xi0
  (cec 49 0 (.iconst 0) xi0
  (cec 50 95 (.istore 6) xi0
  (cec 52 0 (.aload_n 0) xi0
  (cec 53 0 (.invokevirtual 138) (137, 1, 9, 18)
  (cec 56 0 (.aload_n 0) xi0
  (cec 57 0 (.iload_n 1) xi0
  (cec 58 0 (.iload_n 2) xi0
  (cec 59 0 (.invokevirtual 183) (152, 3, 1, 18)
  (cec 62 0 (.lstore 7) xi0
  (cec 64 0 (.iload 6) xi0
  (cec 66 0 (.ifCond .eq 10) xi0
  (cec 69 0 (.lload_n 3) xi0
  (cec 70 0 (.lload 7) xi0
  (cec 72 0 .ladd xi0
  (cec 73 0 (.goto 7) xi0
  (cec 76 0 (.lload_n 3) xi0
  (cec 77 0 (.lload 7) xi0
  (cec 79 0 .lsub xi0
  (cec 80 0 (.lstore_n 3) xi0
  (cec 81 0 (.iinc 5 1) xi0
  (cec 84 0 (.goto (-74)) xi0
  (cec 87 0 (.lload_n 3) xi0
  (cec 88 0 .lreturn xi0 []))))))))))))))))))))))))))))))))))))))))))))))
noncomputable def cs_152_1 : List CE := cec 89 0 (.iload_n 2) xi0
  (cec 90 0 (.ifCond .eq 13) xi0
  (cec 93 0 (.aload_n 0) xi0
  (cec 94 0 (.iconst 1) xi0
  (cec 95 0 (.putfield 41) (8, 9, 4, 0)
  (cec 98 0 (.aload_n 0) xi0
  (cec 99 0 (.iconst (-1)) xi0
  (cec 100 0 (.putfield 32) (8, 6, 0, 0)
  (cec 103 0 (.iinc 5 1) xi0
  (cec 106 0 (.goto (-96)) xi0
  (cec 109 0 (.lload_n 3) xi0
  (cec 110 0 .lreturn xi0 [])))))))))))
/-- SupplyBook$Reader.readTerm(IZ)J -/
noncomputable def cs_152 : List CE := cec 0 0 (.aload_n 0) xi0
  (cec 1 0 (.iload_n 1) xi0
  (cec 2 0 (.iload_n 2) xi0
  (cec 3 0 (.invokevirtual 186) (153, 3, 1, 18)
  (cec 6 0 (.lstore_n 3) xi0
  (cec 7 0 (.iconst 0) xi0
  (cec 8 0 (.istore 5) xi0
  (cec 10 95 (.iload 5) xi0
  (cec 12 0 (.sipush 200) xi0
  (cec 15 0 (.if_icmp .ge 94) xi0
  (cec 18 0 (.aload_n 0) xi0
  (cec 19 0 (.ldc 189) (1, 7, 0, 0)
  (cec 21 0 (.invokevirtual 150) (139, 2, 0, 18)
  (cec 24 0 (.ifCond .eq 85) xi0
  (cec 27 0 (.aload_n 0) xi0
  (cec 28 0 (.getfield 32) (8, 6, 0, 0)
  (cec 31 0 (.istore 6) xi0
  (cec 33 0 (.aload_n 0) xi0
  (cec 34 0 (.invokevirtual 138) (137, 1, 9, 18)
  (cec 37 0 (.aload_n 0) xi0
  (cec 38 0 (.iload_n 1) xi0
  (cec 39 0 (.iload_n 2) xi0
  (cec 40 0 (.invokevirtual 186) (153, 3, 1, 18)
  (cec 43 0 (.lstore 7) xi0
  (cec 45 0 (.iload 6) xi0
  (cec 47 0 (.bipush 42) xi0
  (cec 49 0 (.if_icmp .ne 11) xi0
  (cec 52 0 (.lload_n 3) xi0
  (cec 53 0 (.lload 7) xi0
  (cec 55 0 .lmul xi0
  (cec 56 0 (.lstore_n 3) xi0
  (cec 57 0 (.goto 46) xi0
  (cec 60 0 (.lload 7) xi0
  (cec 62 0 (.lconst 0) xi0
  (cec 63 0 .lcmp xi0
  (cec 64 0 (.ifCond .eq 25) xi0
  (cec 67 0 (.iload 6) xi0
  (cec 69 0 (.bipush 47) xi0
  (cec 71 0 (.if_icmp .ne 10) xi0
  (cec 74 0 (.lload_n 3) xi0
  (cec 75 0 (.lload 7) xi0
  (cec 77 0 .ldiv xi0
  (cec 78 0 (.goto 7) xi0
  (cec 81 0 (.lload_n 3) xi0
  (cec 82 0 (.lload 7) xi0
  (cec 84 0 .lrem xi0
  (cec 85 0 (.lstore_n 3) xi0
  (cec 86 0 (.goto 17) xi0 cs_152_1)))))))))))))))))))))))))))))))))))))))))))))))
noncomputable def cs_153_1 : List CE := cec 86 0 (.if_icmp .lt 14) xi0
  (cec 89 0 (.aload_n 0) xi0
  (cec 90 0 (.iconst 1) xi0
  (cec 91 0 (.aload_n 0) xi0
  (cec 92 0 (.getfield 26) (8, 4, 0, 0)
  (cec 95 0 (.invokevirtual 144) (141, 3, 9, 18)
  (cec 98 0 (.lconst 0) xi0
  (cec 99 0 .lreturn xi0
  (cec 100 0 (.aload_n 0) xi0
  (cec 101 0 (.invokevirtual 138) (137, 1, 9, 18)
  (cec 104 0 (.aload_n 0) xi0
  (cec 105 0 (.getfield 53) (8, 10, 2, 0)
  (cec 108 0 (.iload_n 3) xi0
  (cec 109 0 .laload xi0
  (cec 110 0 .lreturn xi0 []))))))))))))))
/-- SupplyBook$Reader.readFactor(IZ)J -/
noncomputable def cs_153 : List CE := cec 0 0 (.aload_n 0) xi0
  (cec 1 0 (.getfield 32) (8, 6, 0, 0)
  (cec 4 0 (.bipush 91) xi0
  (cec 6 0 (.if_icmp .ne 32) xi0
  (cec 9 0 (.aload_n 0) xi0
  (cec 10 0 (.iload_n 1) xi0
  (cec 11 0 (.invokevirtual 174) (150, 2, 0, 18)
  (cec 14 0 (.ifCond .eq 14) xi0
  (cec 17 0 (.aload_n 0) xi0
  (cec 18 0 (.iload_n 1) xi0
  (cec 19 0 (.iconst 1) xi0
  (cec 20 0 .iadd xi0
  (cec 21 0 (.iload_n 2) xi0
  (cec 22 0 (.invokevirtual 177) (151, 3, 1, 18)
  (cec 25 0 (.goto 4) xi0
  (cec 28 0 (.lconst 0) xi0
  (cec 29 0 (.lstore_n 3) xi0
  (cec 30 0 (.aload_n 0) xi0
  (cec 31 0 (.bipush 93) xi0
  (cec 33 0 (.invokevirtual 86) (145, 2, 9, 18)
  (cec 36 0 (.lload_n 3) xi0
  (cec 37 0 .lreturn xi0
  (cec 38 0 (.aload_n 0) xi0
  (cec 39 0 (.invokevirtual 164) (144, 1, 0, 18)
  (cec 42 0 (.ifCond .eq 11) xi0
  (cec 45 0 (.aload_n 0) xi0
  (cec 46 0 (.ldc 163) (0, 0, 999999, 0)
  (cec 48 0 (.invokevirtual 160) (143, 2, 0, 18)
  (cec 51 0 .i2l xi0
  (cec 52 0 .lreturn xi0
  (cec 53 0 (.aload_n 0) xi0
  (cec 54 0 (.getfield 32) (8, 6, 0, 0)
  (cec 57 0 (.iconst (-1)) xi0
  (cec 58 0 (.if_icmp .ne 7) xi0
  (cec 61 0 (.iconst (-1)) xi0
  (cec 62 0 (.goto 13) xi0
  (cec 65 0 (.ldc 45) (1, 4, 0, 0)
  (cec 67 0 (.aload_n 0) xi0
  (cec 68 0 (.getfield 32) (8, 6, 0, 0)
  (cec 71 0 .i2c xi0
  (cec 72 0 (.invokevirtual 141) (323, 2, 0, 23)
  (cec 75 3 (.istore_n 3) xi0
  (cec 76 0 (.iload_n 3) xi0
  (cec 77 0 (.ifCond .lt 12) xi0
  (cec 80 0 (.iload_n 3) xi0
  (cec 81 0 (.aload_n 0) xi0
  (cec 82 0 (.getfield 53) (8, 10, 2, 0)
  (cec 85 0 .arraylength xi0 cs_153_1)))))))))))))))))))))))))))))))))))))))))))))))
/-- SupplyBook$Reader.textRead()LSupplyBook$Text; -/
noncomputable def cs_154 : List CE := cec 0 0 (.iconst 0) xi0
  (cec 1 0 (.aload_n 0) xi0
  (cec 2 0 (.getfield 29) (8, 5, 0, 0)
  (cec 5 0 (.aload_n 0) xi0
  (cec 6 0 (.getfield 22) (8, 3, 2, 0)
  (cec 9 0 .arraylength xi0
  (cec 10 0 (.invokestatic 90) (9991, 2, 0, 0)
  (cec 13 0 (.invokestatic 96) (9990, 2, 0, 0)
  (cec 16 0 (.istore_n 1) xi0
  (cec 17 0 (.new 99) (9, 3, 0, 0)
  (cec 20 0 .dup xi0
  (cec 21 0 (.aload_n 0) xi0
  (cec 22 0 (.getfield 22) (8, 3, 2, 0)
  (cec 25 0 (.iload_n 1) xi0
  (cec 26 0 (.invokestatic 101) (332, 2, 2, 0)
  (cec 29 0 (.aload_n 0) xi0
  (cec 30 0 (.getfield 9) (8, 0, 2, 0)
  (cec 33 0 (.aload_n 0) xi0
  (cec 34 0 (.getfield 18) (8, 2, 0, 0)
  (cec 37 0 (.invokestatic 107) (333, 2, 2, 0)
  (cec 40 0 (.aload_n 0) xi0
  (cec 41 0 (.getfield 15) (8, 1, 2, 0)
  (cec 44 0 (.aload_n 0) xi0
  (cec 45 0 (.getfield 18) (8, 2, 0, 0)
  (cec 48 0 (.invokestatic 107) (333, 2, 2, 0)
  (cec 51 0 (.invokespecial 110) (160, 4, 9, 19)
  (cec 54 0 .areturn xi0 []))))))))))))))))))))))))))
/-- SupplyBook$Reader.tellClaim(LSupplyBook$Claim;JI)V -/
noncomputable def cs_155 : List CE := cec 0 0 (.aload_n 0) xi0
  (cec 1 0 (.lload_n 2) xi0
  (cec 2 0 (.putfield 57) (8, 11, 1, 0)
  (cec 5 0 (.aload_n 0) xi0
  (cec 6 0 (.aload_n 1) xi0
  (cec 7 0 (.getfield 64) (2, 5, 4, 0)
  (cec 10 0 (.putfield 61) (8, 12, 4, 0)
  (cec 13 0 (.aload_n 0) xi0
  (cec 14 0 (.getfield 53) (8, 10, 2, 0)
  (cec 17 0 (.iconst 0) xi0
  (cec 18 0 (.aload_n 1) xi0
  (cec 19 0 (.getfield 69) (2, 3, 0, 0)
  (cec 22 0 .i2l xi0
  (cec 23 0 .lastore xi0
  (cec 24 0 (.aload_n 0) xi0
  (cec 25 0 (.getfield 53) (8, 10, 2, 0)
  (cec 28 0 (.iconst 2) xi0
  (cec 29 0 (.aload_n 1) xi0
  (cec 30 0 (.getfield 72) (2, 1, 0, 0)
  (cec 33 0 .i2l xi0
  (cec 34 0 .lastore xi0
  (cec 35 0 (.aload_n 0) xi0
  (cec 36 0 (.getfield 53) (8, 10, 2, 0)
  (cec 39 0 (.iconst 3) xi0
  (cec 40 0 (.aload_n 1) xi0
  (cec 41 0 (.getfield 75) (2, 2, 0, 0)
  (cec 44 0 .i2l xi0
  (cec 45 0 .lastore xi0
  (cec 46 0 (.aload_n 0) xi0
  (cec 47 0 (.getfield 53) (8, 10, 2, 0)
  (cec 50 0 (.iconst 4) xi0
  (cec 51 0 (.iload 4) xi0
  (cec 53 0 .i2l xi0
  (cec 54 0 .lastore xi0
  (cec 55 0 .return_ xi0 []))))))))))))))))))))))))))))))))))
/-- SupplyBook$Reader.tellTime(II)V -/
noncomputable def cs_156 : List CE := cec 0 0 (.aload_n 0) xi0
  (cec 1 0 (.getfield 53) (8, 10, 2, 0)
  (cec 4 0 (.iconst 1) xi0
  (cec 5 0 (.iload_n 1) xi0
  (cec 6 0 .i2l xi0
  (cec 7 0 .lastore xi0
  (cec 8 0 (.aload_n 0) xi0
  (cec 9 0 (.getfield 53) (8, 10, 2, 0)
  (cec 12 0 (.iconst 5) xi0
  (cec 13 0 (.iload_n 2) xi0
  (cec 14 0 .i2l xi0
  (cec 15 0 .lastore xi0
  (cec 16 0 .return_ xi0 []))))))))))))
/-- SupplyBook$Reader.tellLeft(J)V -/
noncomputable def cs_157 : List CE := cec 0 0 (.aload_n 0) xi0
  (cec 1 0 (.getfield 53) (8, 10, 2, 0)
  (cec 4 0 (.bipush 6) xi0
  (cec 6 0 (.lload_n 1) xi0
  (cec 7 0 .lastore xi0
  (cec 8 0 .return_ xi0 [])))))
noncomputable def cs_158_1 : List CE := cec 89 0 (.ifCond .eq 8) xi0
  (cec 92 0 (.bipush 8) xi0
  (cec 94 0 (.goto 17) xi0
  (cec 97 0 (.aload_n 0) xi0
  (cec 98 0 (.iload 5) xi0
  (cec 100 0 (.iload 6) xi0
  (cec 102 0 (.aload_n 1) xi0
  (cec 103 0 (.iload 4) xi0
  (cec 105 0 (.invokevirtual 131) (164, 2, 0, 19)
  (cec 108 0 (.invokevirtual 134) (159, 4, 0, 18)
  (cec 111 0 (.istore_n 3) xi0
  (cec 112 0 (.iinc 4 1) xi0
  (cec 115 0 (.goto (-110)) xi0
  (cec 118 0 (.iload_n 3) xi0
  (cec 119 0 .ireturn xi0 []))))))))))))))
/-- SupplyBook$Reader.barOfText(LSupplyBook$Text;I)I -/
noncomputable def cs_158 : List CE := cec 0 0 (.iconst 0) xi0
  (cec 1 0 (.istore_n 3) xi0
  (cec 2 0 (.iconst 0) xi0
  (cec 3 0 (.istore 4) xi0
  (cec 5 63 (.aload_n 1) xi0
  (cec 6 0 (.ifnull 112) xi0
  (cec 9 0 (.iload 4) xi0
  (cec 11 0 (.aload_n 1) xi0
  (cec 12 0 (.invokevirtual 113) (161, 1, 0, 19)
  (cec 15 0 (.if_icmp .ge 103) xi0
  (cec 18 0 (.iload_n 3) xi0
  (cec 19 0 (.ifCond .ne 99) xi0
  (cec 22 0 (.aload_n 1) xi0
  (cec 23 0 (.iload 4) xi0
  (cec 25 0 (.invokevirtual 115) (162, 2, 0, 19)
  (cec 28 0 (.istore 5) xi0
  (cec 30 0 (.iload_n 2) xi0
  (cec 31 0 (.iload 4) xi0
  (cec 33 0 .ishr xi0
  (cec 34 0 (.iconst 1) xi0
  (cec 35 0 .iand xi0
  (cec 36 0 (.ifCond .eq 76) xi0
  (cec 39 0 (.iload 5) xi0
  (cec 41 0 (.invokestatic 119) (140, 1, 0, 0)
  (cec 44 0 (.ifCond .ne 6) xi0
  (cec 47 0 (.goto 65) xi0
  (cec 50 0 (.aload_n 0) xi0
  (cec 51 0 (.aload_n 1) xi0
  (cec 52 0 (.getfield 123) (9, 0, 2, 0)
  (cec 55 0 (.aload_n 1) xi0
  (cec 56 0 (.iload 4) xi0
  (cec 58 0 (.invokevirtual 124) (163, 2, 0, 19)
  (cec 61 0 (.iconst 1) xi0
  (cec 62 0 .iadd xi0
  (cec 63 0 (.aload_n 1) xi0
  (cec 64 0 (.getfield 123) (9, 0, 2, 0)
  (cec 67 0 .arraylength xi0
  (cec 68 0 (.invokevirtual 78) (136, 4, 9, 18)
  (cec 71 0 (.aload_n 0) xi0
  (cec 72 0 (.bipush 40) xi0
  (cec 74 0 (.invokevirtual 86) (145, 2, 9, 18)
  (cec 77 0 (.aload_n 0) xi0
  (cec 78 0 (.iconst 1) xi0
  (cec 79 0 (.iconst 1) xi0
  (cec 80 0 (.invokevirtual 127) (147, 3, 0, 18)
  (cec 83 0 (.istore 6) xi0
  (cec 85 0 (.aload_n 0) xi0
  (cec 86 0 (.getfield 41) (8, 9, 4, 0) cs_158_1)))))))))))))))))))))))))))))))))))))))))))))))
/-- SupplyBook$Reader.barOfRule(IZI)I -/
noncomputable def cs_159 : List CE := cec 0 0 (.iload_n 1) xi0
  (cec 1 0 (.tableswitch 104 110 116 #[53, 43, 104, 104, 104, 63, 86]) xi0
  (cec 44 0 (.iload_n 2) xi0
  (cec 45 0 (.ifCond .eq 7) xi0
  (cec 48 0 (.iconst 0) xi0
  (cec 49 0 (.goto 4) xi0
  (cec 52 0 (.iconst 5) xi0
  (cec 53 0 .ireturn xi0
  (cec 54 0 (.iload_n 2) xi0
  (cec 55 0 (.ifCond .eq 7) xi0
  (cec 58 0 (.iconst 5) xi0
  (cec 59 0 (.goto 4) xi0
  (cec 62 0 (.iconst 0) xi0
  (cec 63 0 .ireturn xi0
  (cec 64 0 (.iload_n 2) xi0
  (cec 65 0 (.ifCond .eq 20) xi0
  (cec 68 0 (.aload_n 0) xi0
  (cec 69 0 (.getfield 53) (8, 10, 2, 0)
  (cec 72 0 (.iconst 4) xi0
  (cec 73 0 .laload xi0
  (cec 74 0 (.iload_n 3) xi0
  (cec 75 0 .i2l xi0
  (cec 76 0 .lcmp xi0
  (cec 77 0 (.ifCond .ge 8) xi0
  (cec 80 0 (.bipush 6) xi0
  (cec 82 0 (.goto 4) xi0
  (cec 85 0 (.iconst 0) xi0
  (cec 86 0 .ireturn xi0
  (cec 87 0 (.iload_n 2) xi0
  (cec 88 0 (.ifCond .eq 15) xi0
  (cec 91 0 (.aload_n 0) xi0
  (cec 92 0 (.getfield 61) (8, 12, 4, 0)
  (cec 95 0 (.ifCond .ne 8) xi0
  (cec 98 0 (.bipush 7) xi0
  (cec 100 0 (.goto 4) xi0
  (cec 103 0 (.iconst 0) xi0
  (cec 104 0 .ireturn xi0
  (cec 105 0 (.iconst 0) xi0
  (cec 106 0 .ireturn xi0 []))))))))))))))))))))))))))))))))))))))
/-- SupplyBook$Text.<init>([B[I[I)V -/
noncomputable def cs_160 : List CE := cec 0 0 (.aload_n 0) xi0
  (cec 1 0 (.invokespecial 3) (9999, 1, 9, 19)
  (cec 4 0 (.aload_n 0) xi0
  (cec 5 0 (.aload_n 1) xi0
  (cec 6 0 (.putfield 9) (9, 0, 2, 0)
  (cec 9 0 (.aload_n 0) xi0
  (cec 10 0 (.aload_n 2) xi0
  (cec 11 0 (.putfield 15) (9, 1, 2, 0)
  (cec 14 0 (.aload_n 0) xi0
  (cec 15 0 (.aload_n 3) xi0
  (cec 16 0 (.putfield 19) (9, 2, 2, 0)
  (cec 19 0 .return_ xi0 [])))))))))))
/-- SupplyBook$Text.clauses()I -/
noncomputable def cs_161 : List CE := cec 0 0 (.aload_n 0) xi0
  (cec 1 0 (.getfield 15) (9, 1, 2, 0)
  (cec 4 0 .arraylength xi0
  (cec 5 0 .ireturn xi0 [])))
/-- SupplyBook$Text.letterOf(I)I -/
noncomputable def cs_162 : List CE := cec 0 0 (.aload_n 0) xi0
  (cec 1 0 (.iload_n 1) xi0
  (cec 2 0 (.invokevirtual 22) (163, 2, 0, 19)
  (cec 5 0 (.istore_n 2) xi0
  (cec 6 0 (.iload_n 2) xi0
  (cec 7 0 (.ifCond .lt 25) xi0
  (cec 10 0 (.iload_n 2) xi0
  (cec 11 0 (.aload_n 0) xi0
  (cec 12 0 (.getfield 9) (9, 0, 2, 0)
  (cec 15 0 .arraylength xi0
  (cec 16 0 (.if_icmp .ge 16) xi0
  (cec 19 0 (.aload_n 0) xi0
  (cec 20 0 (.getfield 9) (9, 0, 2, 0)
  (cec 23 0 (.iload_n 2) xi0
  (cec 24 0 .baload xi0
  (cec 25 0 (.sipush 255) xi0
  (cec 28 0 .iand xi0
  (cec 29 0 (.goto 4) xi0
  (cec 32 0 (.iconst (-1)) xi0
  (cec 33 0 .ireturn xi0 [])))))))))))))))))))
/-- SupplyBook$Text.startOf(I)I -/
noncomputable def cs_163 : List CE := cec 0 0 (.iload_n 1) xi0
  (cec 1 0 (.ifCond .lt 21) xi0
  (cec 4 0 (.iload_n 1) xi0
  (cec 5 0 (.aload_n 0) xi0
  (cec 6 0 (.getfield 15) (9, 1, 2, 0)
  (cec 9 0 .arraylength xi0
  (cec 10 0 (.if_icmp .ge 12) xi0
  (cec 13 0 (.aload_n 0) xi0
  (cec 14 0 (.getfield 15) (9, 1, 2, 0)
  (cec 17 0 (.iload_n 1) xi0
  (cec 18 0 .iaload xi0
  (cec 19 0 (.goto 8) xi0
  (cec 22 0 (.aload_n 0) xi0
  (cec 23 0 (.getfield 9) (9, 0, 2, 0)
  (cec 26 0 .arraylength xi0
  (cec 27 0 .ireturn xi0 [])))))))))))))))
/-- SupplyBook$Text.valueOf(I)I -/
noncomputable def cs_164 : List CE := cec 0 0 (.iload_n 1) xi0
  (cec 1 0 (.ifCond .lt 21) xi0
  (cec 4 0 (.iload_n 1) xi0
  (cec 5 0 (.aload_n 0) xi0
  (cec 6 0 (.getfield 19) (9, 2, 2, 0)
  (cec 9 0 .arraylength xi0
  (cec 10 0 (.if_icmp .ge 12) xi0
  (cec 13 0 (.aload_n 0) xi0
  (cec 14 0 (.getfield 19) (9, 2, 2, 0)
  (cec 17 0 (.iload_n 1) xi0
  (cec 18 0 .iaload xi0
  (cec 19 0 (.goto 4) xi0
  (cec 22 0 (.iconst 0) xi0
  (cec 23 0 .ireturn xi0 [])))))))))))))
/-- SupplyBook$Votes.<init>()V -/
noncomputable def cs_165 : List CE := cec 0 0 (.aload_n 0) xi0
  (cec 1 0 (.invokespecial 3) (9999, 1, 9, 20)
  (cec 4 0 (.aload_n 0) xi0
  (cec 5 0 (.bipush 80) xi0
  (cec 7 0 (.anewarray 9) (5, 0, 0, 0)
  (cec 10 0 (.putfield 11) (10, 0, 2, 0)
  (cec 13 0 (.aload_n 0) xi0
  (cec 14 0 (.iconst 0) xi0
  (cec 15 0 (.putfield 17) (10, 1, 0, 0)
  (cec 18 0 (.aload_n 0) xi0
  (cec 19 0 (.bipush 20) xi0
  (cec 21 0 (.newarray .int) xi0
  (cec 23 0 (.putfield 21) (10, 2, 2, 0)
  (cec 26 0 (.aload_n 0) xi0
  (cec 27 0 (.bipush 20) xi0
  (cec 29 0 (.newarray .int) xi0
  (cec 31 0 (.putfield 25) (10, 3, 2, 0)
  (cec 34 0 (.aload_n 0) xi0
  (cec 35 0 (.bipush 20) xi0
  (cec 37 0 (.newarray .int) xi0
  (cec 39 0 (.putfield 28) (10, 4, 2, 0)
  (cec 42 0 (.aload_n 0) xi0
  (cec 43 0 (.bipush 20) xi0
  (cec 45 0 (.newarray .int) xi0
  (cec 47 0 (.putfield 31) (10, 5, 2, 0)
  (cec 50 0 (.aload_n 0) xi0
  (cec 51 0 (.sipush 200) xi0
  (cec 54 0 (.newarray .long) xi0
  (cec 56 0 (.putfield 34) (10, 6, 2, 0)
  (cec 59 0 (.aload_n 0) xi0
  (cec 60 0 (.iconst 0) xi0
  (cec 61 0 (.putfield 38) (10, 7, 0, 0)
  (cec 64 0 .return_ xi0 []))))))))))))))))))))))))))))))))
/-- SupplyBook$Votes.isFull()Z -/
noncomputable def cs_166 : List CE := cec 0 0 (.aload_n 0) xi0
  (cec 1 0 (.getfield 17) (10, 1, 0, 0)
  (cec 4 0 (.aload_n 0) xi0
  (cec 5 0 (.getfield 11) (10, 0, 2, 0)
  (cec 8 0 .arraylength xi0
  (cec 9 0 (.if_icmp .lt 7) xi0
  (cec 12 0 (.iconst 1) xi0
  (cec 13 0 (.goto 4) xi0
  (cec 16 0 (.iconst 0) xi0
  (cec 17 0 .ireturn xi0 [])))))))))
/-- SupplyBook$Votes.addAuthority(LSupplyBook$Authority;)I -/
noncomputable def cs_167 : List CE := cec 0 0 (.aload_n 0) xi0
  (cec 1 0 (.invokevirtual 41) (166, 1, 0, 20)
  (cec 4 0 (.ifCond .eq 5) xi0
  (cec 7 0 (.iconst (-1)) xi0
  (cec 8 0 .ireturn xi0
  (cec 9 0 (.aload_n 0) xi0
  (cec 10 0 (.getfield 11) (10, 0, 2, 0)
  (cec 13 0 (.aload_n 0) xi0
  (cec 14 0 (.getfield 17) (10, 1, 0, 0)
  (cec 17 0 (.aload_n 1) xi0
  (cec 18 0 .aastore xi0
  (cec 19 0 (.aload_n 0) xi0
  (cec 20 0 .dup xi0
  (cec 21 0 (.getfield 17) (10, 1, 0, 0)
  (cec 24 0 (.iconst 1) xi0
  (cec 25 0 .iadd xi0
  (cec 26 0 (.putfield 17) (10, 1, 0, 0)
  (cec 29 0 (.aload_n 0) xi0
  (cec 30 0 (.getfield 17) (10, 1, 0, 0)
  (cec 33 0 (.iconst 1) xi0
  (cec 34 0 .isub xi0
  (cec 35 0 .ireturn xi0 [])))))))))))))))))))))
/-- SupplyBook$Votes.at(I)LSupplyBook$Authority; -/
noncomputable def cs_168 : List CE := cec 0 0 (.iload_n 1) xi0
  (cec 1 0 (.ifCond .lt 20) xi0
  (cec 4 0 (.iload_n 1) xi0
  (cec 5 0 (.aload_n 0) xi0
  (cec 6 0 (.getfield 17) (10, 1, 0, 0)
  (cec 9 0 (.if_icmp .ge 12) xi0
  (cec 12 0 (.aload_n 0) xi0
  (cec 13 0 (.getfield 11) (10, 0, 2, 0)
  (cec 16 0 (.iload_n 1) xi0
  (cec 17 0 .aaload xi0
  (cec 18 0 (.goto 4) xi0
  (cec 21 0 .aconst_null xi0
  (cec 22 0 .areturn xi0 []))))))))))))
/-- SupplyBook$Votes.advancesOf(I)J -/
noncomputable def cs_169 : List CE := cec 0 0 (.lconst 0) xi0
  (cec 1 0 (.lstore_n 2) xi0
  (cec 2 0 (.iconst 0) xi0
  (cec 3 0 (.istore 4) xi0
  (cec 5 47 (.iload 4) xi0
  (cec 7 0 (.aload_n 0) xi0
  (cec 8 0 (.getfield 17) (10, 1, 0, 0)
  (cec 11 0 (.if_icmp .ge 49) xi0
  (cec 14 0 (.aload_n 0) xi0
  (cec 15 0 (.iload 4) xi0
  (cec 17 0 (.invokevirtual 51) (168, 2, 2, 20)
  (cec 20 0 (.astore 5) xi0
  (cec 22 0 (.aload 5) xi0
  (cec 24 0 (.ifnull 30) xi0
  (cec 27 0 (.aload 5) xi0
  (cec 29 0 (.getfield 45) (1, 0, 0, 0)
  (cec 32 0 (.iconst 4) xi0
  (cec 33 0 (.if_icmp .ne 21) xi0
  (cec 36 0 (.aload 5) xi0
  (cec 38 0 (.getfield 55) (1, 3, 0, 0)
  (cec 41 0 (.iload_n 1) xi0
  (cec 42 0 (.if_icmp .ne 12) xi0
  (cec 45 0 (.lload_n 2) xi0
  (cec 46 0 (.aload 5) xi0
  (cec 48 0 (.getfield 58) (1, 2, 0, 0)
  (cec 51 0 .i2l xi0
  (cec 52 0 .ladd xi0
  (cec 53 0 (.lstore_n 2) xi0
  (cec 54 0 (.iinc 4 1) xi0
  (cec 57 0 (.goto (-52)) xi0
  (cec 60 0 (.lload_n 2) xi0
  (cec 61 0 .lreturn xi0 [])))))))))))))))))))))))))))))))
/-- SupplyBook$Votes.boundOf(II)J -/
noncomputable def cs_170 : List CE := cec 0 0 (.lconst 0) xi0
  (cec 1 0 (.lstore_n 3) xi0
  (cec 2 0 (.iconst 0) xi0
  (cec 3 0 (.istore 5) xi0
  (cec 5 95 (.iload 5) xi0
  (cec 7 0 (.aload_n 0) xi0
  (cec 8 0 (.getfield 38) (10, 7, 0, 0)
  (cec 11 0 (.if_icmp .ge 30) xi0
  (cec 14 0 (.aload_n 0) xi0
  (cec 15 0 (.getfield 21) (10, 2, 2, 0)
  (cec 18 0 (.iload 5) xi0
  (cec 20 0 .iaload xi0
  (cec 21 0 (.iload_n 1) xi0
  (cec 22 0 (.if_icmp .ne 13) xi0
  (cec 25 0 (.lload_n 3) xi0
  (cec 26 0 (.aload_n 0) xi0
  (cec 27 0 (.iload 5) xi0
  (cec 29 0 (.iload_n 2) xi0
  (cec 30 0 (.invokevirtual 71) (171, 3, 1, 20)
  (cec 33 0 .ladd xi0
  (cec 34 0 (.lstore_n 3) xi0
  (cec 35 0 (.iinc 5 1) xi0
  (cec 38 0 (.goto (-33)) xi0
  (cec 41 0 (.lload_n 3) xi0
  (cec 42 0 .lreturn xi0 []))))))))))))))))))))))))
/-- SupplyBook$Votes.boundBy(II)J -/
noncomputable def cs_171 : List CE := cec 0 0 (.aload_n 0) xi0
  (cec 1 0 (.iload_n 1) xi0
  (cec 2 0 (.invokevirtual 64) (172, 2, 0, 20)
  (cec 5 0 (.ifCond .eq 30) xi0
  (cec 8 0 (.iload_n 2) xi0
  (cec 9 0 (.invokestatic 68) (14, 1, 0, 0)
  (cec 12 0 (.ifCond .eq 23) xi0
  (cec 15 0 (.iload_n 2) xi0
  (cec 16 0 (.aload_n 0) xi0
  (cec 17 0 (.getfield 28) (10, 4, 2, 0)
  (cec 20 0 (.iload_n 1) xi0
  (cec 21 0 .iaload xi0
  (cec 22 0 (.if_icmp .lt 13) xi0
  (cec 25 0 (.iload_n 2) xi0
  (cec 26 0 (.aload_n 0) xi0
  (cec 27 0 (.getfield 31) (10, 5, 2, 0)
  (cec 30 0 (.iload_n 1) xi0
  (cec 31 0 .iaload xi0
  (cec 32 0 (.if_icmp .le 5) xi0
  (cec 35 0 (.lconst 0) xi0
  (cec 36 0 .lreturn xi0
  (cec 37 0 (.aload_n 0) xi0
  (cec 38 0 (.getfield 25) (10, 3, 2, 0)
  (cec 41 0 (.iload_n 1) xi0
  (cec 42 0 .iaload xi0
  (cec 43 0 .i2l xi0
  (cec 44 0 (.aload_n 0) xi0
  (cec 45 0 (.getfield 34) (10, 6, 2, 0)
  (cec 48 0 (.iload_n 1) xi0
  (cec 49 0 (.bipush 10) xi0
  (cec 51 0 .imul xi0
  (cec 52 0 (.iload_n 2) xi0
  (cec 53 0 .iadd xi0
  (cec 54 0 .laload xi0
  (cec 55 0 .lsub xi0
  (cec 56 0 .lreturn xi0 [])))))))))))))))))))))))))))))))))))
/-- SupplyBook$Votes.isContract(I)Z -/
noncomputable def cs_172 : List CE := cec 0 0 (.iload_n 1) xi0
  (cec 1 0 (.ifCond .lt 15) xi0
  (cec 4 0 (.iload_n 1) xi0
  (cec 5 0 (.aload_n 0) xi0
  (cec 6 0 (.getfield 38) (10, 7, 0, 0)
  (cec 9 0 (.if_icmp .ge 7) xi0
  (cec 12 0 (.iconst 1) xi0
  (cec 13 0 (.goto 4) xi0
  (cec 16 0 (.iconst 0) xi0
  (cec 17 0 .ireturn xi0 [])))))))))
/-- SupplyBook$Votes.contractsAreFull()Z -/
noncomputable def cs_173 : List CE := cec 0 0 (.aload_n 0) xi0
  (cec 1 0 (.getfield 38) (10, 7, 0, 0)
  (cec 4 0 (.aload_n 0) xi0
  (cec 5 0 (.getfield 25) (10, 3, 2, 0)
  (cec 8 0 .arraylength xi0
  (cec 9 0 (.if_icmp .lt 7) xi0
  (cec 12 0 (.iconst 1) xi0
  (cec 13 0 (.goto 4) xi0
  (cec 16 0 (.iconst 0) xi0
  (cec 17 0 .ireturn xi0 [])))))))))
/-- SupplyBook$Votes.isOf(LSupplyBook$Authority;I)Z -/
noncomputable def cs_174 : List CE := cec 0 0 (.aload_n 1) xi0
  (cec 1 0 (.getfield 45) (1, 0, 0, 0)
  (cec 4 0 (.iconst 1) xi0
  (cec 5 0 (.if_icmp .ne 14) xi0
  (cec 8 0 (.aload_n 0) xi0
  (cec 9 0 (.aload_n 1) xi0
  (cec 10 0 (.getfield 48) (1, 6, 0, 0)
  (cec 13 0 (.invokevirtual 51) (168, 2, 2, 20)
  (cec 16 0 (.goto 4) xi0
  (cec 19 0 (.aload_n 1) xi0
  (cec 20 0 (.astore_n 3) xi0
  (cec 21 0 (.aload_n 3) xi0
  (cec 22 0 (.ifnull 15) xi0
  (cec 25 0 (.aload_n 3) xi0
  (cec 26 0 (.getfield 45) (1, 0, 0, 0)
  (cec 29 0 (.iconst 3) xi0
  (cec 30 0 (.if_icmp .ne 7) xi0
  (cec 33 0 (.iconst 1) xi0
  (cec 34 0 (.goto 4) xi0
  (cec 37 0 (.iconst 0) xi0
  (cec 38 13 (.istore 4) xi0
  (cec 40 0 (.iload 4) xi0
  (cec 42 0 (.ifCond .eq 19) xi0
  (cec 45 0 (.iload_n 2) xi0
  (cec 46 0 (.aload_n 1) xi0
  (cec 47 0 (.getfield 55) (1, 3, 0, 0)
  (cec 50 0 (.if_icmp .lt 7) xi0
  (cec 53 0 (.iconst 1) xi0
  (cec 54 0 (.goto 20) xi0
  (cec 57 0 (.iconst 0) xi0
  (cec 58 0 (.goto 16) xi0
  (cec 61 0 (.iload_n 2) xi0
  (cec 62 0 (.aload_n 1) xi0
  (cec 63 0 (.getfield 55) (1, 3, 0, 0)
  (cec 66 0 (.if_icmp .ne 7) xi0
  (cec 69 0 (.iconst 1) xi0
  (cec 70 0 (.goto 4) xi0
  (cec 73 0 (.iconst 0) xi0
  (cec 74 0 .ireturn xi0 []))))))))))))))))))))))))))))))))))))))
/-- SupplyBook$Votes.addContract(IIII)I -/
noncomputable def cs_175 : List CE := cec 0 0 (.aload_n 0) xi0
  (cec 1 0 (.invokevirtual 61) (173, 1, 0, 20)
  (cec 4 0 (.ifCond .eq 5) xi0
  (cec 7 0 (.iconst (-1)) xi0
  (cec 8 0 .ireturn xi0
  (cec 9 0 (.aload_n 0) xi0
  (cec 10 0 (.getfield 21) (10, 2, 2, 0)
  (cec 13 0 (.aload_n 0) xi0
  (cec 14 0 (.getfield 38) (10, 7, 0, 0)
  (cec 17 0 (.iload_n 1) xi0
  (cec 18 0 .iastore xi0
  (cec 19 0 (.aload_n 0) xi0
  (cec 20 0 (.getfield 25) (10, 3, 2, 0)
  (cec 23 0 (.aload_n 0) xi0
  (cec 24 0 (.getfield 38) (10, 7, 0, 0)
  (cec 27 0 (.iload_n 2) xi0
  (cec 28 0 .iastore xi0
  (cec 29 0 (.aload_n 0) xi0
  (cec 30 0 (.getfield 28) (10, 4, 2, 0)
  (cec 33 0 (.aload_n 0) xi0
  (cec 34 0 (.getfield 38) (10, 7, 0, 0)
  (cec 37 0 (.iload_n 3) xi0
  (cec 38 0 .iastore xi0
  (cec 39 0 (.aload_n 0) xi0
  (cec 40 0 (.getfield 31) (10, 5, 2, 0)
  (cec 43 0 (.aload_n 0) xi0
  (cec 44 0 (.getfield 38) (10, 7, 0, 0)
  (cec 47 0 (.iload 4) xi0
  (cec 49 0 .iastore xi0
  (cec 50 0 (.aload_n 0) xi0
  (cec 51 0 .dup xi0
  (cec 52 0 (.getfield 38) (10, 7, 0, 0)
  (cec 55 0 (.iconst 1) xi0
  (cec 56 0 .iadd xi0
  (cec 57 0 (.putfield 38) (10, 7, 0, 0)
  (cec 60 0 (.aload_n 0) xi0
  (cec 61 0 (.getfield 38) (10, 7, 0, 0)
  (cec 64 0 (.iconst 1) xi0
  (cec 65 0 .isub xi0
  (cec 66 0 .ireturn xi0 [])))))))))))))))))))))))))))))))))))))))
/-- SupplyBook$Votes.authorityOfContract(I)I -/
noncomputable def cs_176 : List CE := cec 0 0 (.aload_n 0) xi0
  (cec 1 0 (.iload_n 1) xi0
  (cec 2 0 (.invokevirtual 64) (172, 2, 0, 20)
  (cec 5 0 (.ifCond .eq 12) xi0
  (cec 8 0 (.aload_n 0) xi0
  (cec 9 0 (.getfield 21) (10, 2, 2, 0)
  (cec 12 0 (.iload_n 1) xi0
  (cec 13 0 .iaload xi0
  (cec 14 0 (.goto 4) xi0
  (cec 17 0 (.iconst (-1)) xi0
  (cec 18 0 .ireturn xi0 []))))))))))
/-- SupplyBook$Votes.payOfContract(III)V -/
noncomputable def cs_177 : List CE := cec 0 0 (.aload_n 0) xi0
  (cec 1 0 (.iload_n 1) xi0
  (cec 2 0 (.invokevirtual 64) (172, 2, 0, 20)
  (cec 5 0 (.ifCond .eq 26) xi0
  (cec 8 0 (.iload_n 2) xi0
  (cec 9 0 (.invokestatic 68) (14, 1, 0, 0)
  (cec 12 0 (.ifCond .eq 19) xi0
  (cec 15 0 (.aload_n 0) xi0
  (cec 16 0 (.getfield 34) (10, 6, 2, 0)
  (cec 19 0 (.iload_n 1) xi0
  (cec 20 0 (.bipush 10) xi0
  (cec 22 0 .imul xi0
  (cec 23 0 (.iload_n 2) xi0
  (cec 24 0 .iadd xi0
  (cec 25 0 .dup2 xi0
  (cec 26 0 .laload xi0
  (cec 27 0 (.iload_n 3) xi0
  (cec 28 0 .i2l xi0
  (cec 29 0 .ladd xi0
  (cec 30 0 .lastore xi0
  (cec 31 0 .return_ xi0 []))))))))))))))))))))
/-- SupplyBook$Weeks.<init>()V -/
noncomputable def cs_178 : List CE := cec 0 0 (.aload_n 0) xi0
  (cec 1 0 (.invokespecial 3) (9999, 1, 9, 21)
  (cec 4 0 (.aload_n 0) xi0
  (cec 5 0 (.sipush 3120) xi0
  (cec 8 0 (.newarray .int) xi0
  (cec 10 0 (.putfield 9) (11, 0, 2, 0)
  (cec 13 0 (.aload_n 0) xi0
  (cec 14 0 (.lconst 0) xi0
  (cec 15 0 (.putfield 15) (11, 1, 1, 0)
  (cec 18 0 (.aload_n 0) xi0
  (cec 19 0 (.sipush 520) xi0
  (cec 22 0 (.newarray .long) xi0
  (cec 24 0 (.putfield 19) (11, 2, 2, 0)
  (cec 27 0 (.aload_n 0) xi0
  (cec 28 0 (.bipush 9) xi0
  (cec 30 0 (.newarray .int) xi0
  (cec 32 0 (.putfield 23) (11, 3, 2, 0)
  (cec 35 0 (.aload_n 0) xi0
  (cec 36 0 (.bipush 9) xi0
  (cec 38 0 (.newarray .int) xi0
  (cec 40 0 (.putfield 26) (11, 4, 2, 0)
  (cec 43 0 (.aload_n 0) xi0
  (cec 44 0 (.bipush 9) xi0
  (cec 46 0 (.newarray .int) xi0
  (cec 48 0 (.putfield 29) (11, 5, 2, 0)
  (cec 51 0 (.aload_n 0) xi0
  (cec 52 0 (.bipush 9) xi0
  (cec 54 0 (.newarray .int) xi0
  (cec 56 0 (.putfield 32) (11, 6, 2, 0)
  (cec 59 0 (.aload_n 0) xi0
  (cec 60 0 (.iconst 0) xi0
  (cec 61 0 (.putfield 35) (11, 7, 0, 0)
  (cec 64 0 (.aload_n 0) xi0
  (cec 65 0 (.bipush 52) xi0
  (cec 67 0 (.newarray .long) xi0
  (cec 69 0 (.putfield 39) (11, 8, 2, 0)
  (cec 72 0 (.aload_n 0) xi0
  (cec 73 0 (.bipush 52) xi0
  (cec 75 0 (.newarray .long) xi0
  (cec 77 0 (.putfield 42) (11, 9, 2, 0)
  (cec 80 0 (.aload_n 0) xi0
  (cec 81 0 (.bipush 52) xi0
  (cec 83 0 (.newarray .long) xi0
  (cec 85 0 (.putfield 45) (11, 10, 2, 0)
  (cec 88 0 .return_ xi0 []))))))))))))))))))))))))))))))))))))))))))))
/-- SupplyBook$Weeks.addTax(III)Z -/
noncomputable def cs_179 : List CE := cec 0 0 (.iload_n 1) xi0
  (cec 1 0 (.invokestatic 48) (37, 1, 0, 0)
  (cec 4 0 (.ifCond .eq 10) xi0
  (cec 7 0 (.iload_n 2) xi0
  (cec 8 0 (.invokestatic 62) (3, 1, 0, 0)
  (cec 11 0 (.ifCond .ne 5) xi0
  (cec 14 0 (.iconst 0) xi0
  (cec 15 0 .ireturn xi0
  (cec 16 0 (.aload_n 0) xi0
  (cec 17 0 (.iload_n 1) xi0
  (cec 18 0 (.iload_n 2) xi0
  (cec 19 0 (.invokestatic 65) (17, 1, 0, 0)
  (cec 22 0 (.iload_n 2) xi0
  (cec 23 0 (.invokestatic 69) (38, 1, 0, 0)
  (cec 26 0 (.invokevirtual 58) (180, 4, 0, 21)
  (cec 29 0 (.istore 4) xi0
  (cec 31 0 (.aload_n 0) xi0
  (cec 32 0 (.getfield 9) (11, 0, 2, 0)
  (cec 35 0 (.iload 4) xi0
  (cec 37 0 .iaload xi0
  (cec 38 0 .i2l xi0
  (cec 39 0 (.iload_n 3) xi0
  (cec 40 0 .i2l xi0
  (cec 41 0 .ladd xi0
  (cec 42 0 (.ldc2_w 72) (0, 0, 1000000000, 0)
  (cec 45 0 .lcmp xi0
  (cec 46 0 (.ifCond .le 5) xi0
  (cec 49 0 (.iconst 0) xi0
  (cec 50 0 .ireturn xi0
  (cec 51 0 (.aload_n 0) xi0
  (cec 52 0 (.getfield 9) (11, 0, 2, 0)
  (cec 55 0 (.iload 4) xi0
  (cec 57 0 .dup2 xi0
  (cec 58 0 .iaload xi0
  (cec 59 0 (.iload_n 3) xi0
  (cec 60 0 .iadd xi0
  (cec 61 0 .iastore xi0
  (cec 62 0 (.aload_n 0) xi0
  (cec 63 0 .dup xi0
  (cec 64 0 (.getfield 15) (11, 1, 1, 0)
  (cec 67 0 (.iload_n 3) xi0
  (cec 68 0 .i2l xi0
  (cec 69 0 .ladd xi0
  (cec 70 0 (.putfield 15) (11, 1, 1, 0)
  (cec 73 0 (.iconst 1) xi0
  (cec 74 0 .ireturn xi0 [])))))))))))))))))))))))))))))))))))))))))))))
/-- SupplyBook$Weeks.placeOf(III)I -/
noncomputable def cs_180 : List CE := cec 0 0 (.iload_n 1) xi0
  (cec 1 0 (.bipush 10) xi0
  (cec 3 0 .imul xi0
  (cec 4 0 (.iload_n 2) xi0
  (cec 5 0 .iadd xi0
  (cec 6 0 (.bipush 52) xi0
  (cec 8 0 .imul xi0
  (cec 9 0 (.iload_n 3) xi0
  (cec 10 0 .iadd xi0
  (cec 11 0 .ireturn xi0 [])))))))))
/-- SupplyBook$Weeks.arrivedIn(III)J -/
noncomputable def cs_181 : List CE := cec 0 0 (.iload_n 1) xi0
  (cec 1 0 (.invokestatic 48) (37, 1, 0, 0)
  (cec 4 0 (.ifCond .eq 33) xi0
  (cec 7 0 (.iload_n 2) xi0
  (cec 8 0 (.invokestatic 52) (14, 1, 0, 0)
  (cec 11 0 (.ifCond .eq 26) xi0
  (cec 14 0 (.iload_n 3) xi0
  (cec 15 0 (.invokestatic 55) (40, 1, 0, 0)
  (cec 18 0 (.ifCond .eq 19) xi0
  (cec 21 0 (.aload_n 0) xi0
  (cec 22 0 (.getfield 9) (11, 0, 2, 0)
  (cec 25 0 (.aload_n 0) xi0
  (cec 26 0 (.iload_n 1) xi0
  (cec 27 0 (.iload_n 2) xi0
  (cec 28 0 (.iload_n 3) xi0
  (cec 29 0 (.invokevirtual 58) (180, 4, 0, 21)
  (cec 32 0 .iaload xi0
  (cec 33 0 .i2l xi0
  (cec 34 0 (.goto 4) xi0
  (cec 37 0 (.lconst 0) xi0
  (cec 38 0 .lreturn xi0 []))))))))))))))))))))
noncomputable def cs_182_2 : List CE := cec 175 0 (.if_icmp .ne 8) xi0
  (cec 178 0 (.lload 12) xi0
  (cec 180 0 (.goto 5) xi0
  (cec 183 0 (.lload 14) xi0
  (cec 185 0 .lreturn xi0 []))))
noncomputable def cs_182_1 : List CE := cec 85 0 .lmul xi0
  (cec 86 0 (.lload 17) xi0
  (cec 88 0 .ldiv xi0
  (cec 89 0 (.lstore 19) xi0
  (cec 91 0 (.lload 8) xi0
  (cec 93 0 (.lconst 0) xi0
  (cec 94 0 .lcmp xi0
  (cec 95 0 (.ifCond .ne 8) xi0
  (cec 98 0 (.lload 19) xi0
  (cec 100 0 (.goto 10) xi0
  (cec 103 0 (.lload 12) xi0
  (cec 105 0 (.lload 19) xi0
  (cec 107 0 (.invokestatic 84) (9993, 2, 0, 0)
  (cec 110 1477367 (.lstore 12) xi0
  (cec 112 0 (.lload 14) xi0
  (cec 114 0 (.lload 19) xi0
  (cec 116 0 (.invokestatic 88) (9992, 2, 0, 0)
  (cec 119 0 (.lstore 14) xi0
  (cec 121 0 (.lload 8) xi0
  (cec 123 0 (.lload 17) xi0
  (cec 125 0 .ladd xi0
  (cec 126 0 (.lstore 8) xi0
  (cec 128 0 (.lload 10) xi0
  (cec 130 0 (.aload_n 0) xi0
  (cec 131 0 (.iload_n 1) xi0
  (cec 132 0 (.iload 5) xi0
  (cec 134 0 (.iload 16) xi0
  (cec 136 0 (.invokevirtual 74) (181, 4, 1, 21)
  (cec 139 0 .ladd xi0
  (cec 140 0 (.lstore 10) xi0
  (cec 142 0 (.iinc 16 1) xi0
  (cec 145 0 (.goto (-101)) xi0
  (cec 148 0 (.lload 8) xi0
  (cec 150 0 (.lconst 0) xi0
  (cec 151 0 .lcmp xi0
  (cec 152 0 (.ifCond .ne 6) xi0
  (cec 155 0 (.lload 6) xi0
  (cec 157 0 .lreturn xi0
  (cec 158 0 (.iload_n 3) xi0
  (cec 159 0 (.ifCond .ne 14) xi0
  (cec 162 0 (.lload 6) xi0
  (cec 164 0 (.lload 10) xi0
  (cec 166 0 .lmul xi0
  (cec 167 0 (.lload 8) xi0
  (cec 169 0 .ldiv xi0
  (cec 170 0 (.goto 15) xi0
  (cec 173 0 (.iload_n 3) xi0
  (cec 174 0 (.iconst 1) xi0 cs_182_2)))))))))))))))))))))))))))))))))))))))))))))))
/-- SupplyBook$Weeks.foreseen(IIII)J -/
noncomputable def cs_182 : List CE := cec 0 0 (.iload 4) xi0
  (cec 2 0 (.invokestatic 65) (17, 1, 0, 0)
  (cec 5 0 (.istore 5) xi0
  (cec 7 0 (.aload_n 0) xi0
  (cec 8 0 (.iload_n 1) xi0
  (cec 9 0 (.iload 5) xi0
  (cec 11 0 (.iconst 1) xi0
  (cec 12 0 .isub xi0
  (cec 13 0 (.iload_n 2) xi0
  (cec 14 0 (.invokevirtual 74) (181, 4, 1, 21)
  (cec 17 0 (.lstore 6) xi0
  (cec 19 0 (.lconst 0) xi0
  (cec 20 0 (.lstore 8) xi0
  (cec 22 0 (.lconst 0) xi0
  (cec 23 0 (.lstore 10) xi0
  (cec 25 0 (.lconst 0) xi0
  (cec 26 0 (.lstore 12) xi0
  (cec 28 0 (.lconst 0) xi0
  (cec 29 0 (.lstore 14) xi0
  (cec 31 0 (.iconst 0) xi0
  (cec 32 0 (.iload 4) xi0
  (cec 34 0 (.invokestatic 69) (38, 1, 0, 0)
  (cec 37 0 (.iconst 4) xi0
  (cec 38 0 .isub xi0
  (cec 39 0 (.invokestatic 78) (9990, 2, 0, 0)
  (cec 42 0 (.istore 16) xi0
  (cec 44 174839 (.iload 16) xi0
  (cec 46 0 (.iload 4) xi0
  (cec 48 0 (.invokestatic 69) (38, 1, 0, 0)
  (cec 51 0 (.if_icmp .ge 97) xi0
  (cec 54 0 (.aload_n 0) xi0
  (cec 55 0 (.iload_n 1) xi0
  (cec 56 0 (.iload 5) xi0
  (cec 58 0 (.iconst 1) xi0
  (cec 59 0 .isub xi0
  (cec 60 0 (.iload 16) xi0
  (cec 62 0 (.invokevirtual 74) (181, 4, 1, 21)
  (cec 65 0 (.lstore 17) xi0
  (cec 67 0 (.lload 17) xi0
  (cec 69 0 (.lconst 0) xi0
  (cec 70 0 .lcmp xi0
  (cec 71 0 (.ifCond .le 71) xi0
  (cec 74 0 (.lload 6) xi0
  (cec 76 0 (.aload_n 0) xi0
  (cec 77 0 (.iload_n 1) xi0
  (cec 78 0 (.iload 5) xi0
  (cec 80 0 (.iload 16) xi0
  (cec 82 0 (.invokevirtual 74) (181, 4, 1, 21) cs_182_1)))))))))))))))))))))))))))))))))))))))))))))))
/-- SupplyBook$Weeks.addDue(III)V -/
noncomputable def cs_183 : List CE := cec 0 0 (.iload_n 1) xi0
  (cec 1 0 (.invokestatic 52) (14, 1, 0, 0)
  (cec 4 0 (.ifCond .eq 26) xi0
  (cec 7 0 (.iload_n 2) xi0
  (cec 8 0 (.invokestatic 55) (40, 1, 0, 0)
  (cec 11 0 (.ifCond .eq 19) xi0
  (cec 14 0 (.aload_n 0) xi0
  (cec 15 0 (.getfield 19) (11, 2, 2, 0)
  (cec 18 0 (.iload_n 1) xi0
  (cec 19 0 (.bipush 52) xi0
  (cec 21 0 .imul xi0
  (cec 22 0 (.iload_n 2) xi0
  (cec 23 0 .iadd xi0
  (cec 24 0 .dup2 xi0
  (cec 25 0 .laload xi0
  (cec 26 0 (.iload_n 3) xi0
  (cec 27 0 .i2l xi0
  (cec 28 0 .ladd xi0
  (cec 29 0 .lastore xi0
  (cec 30 0 .return_ xi0 [])))))))))))))))))))
noncomputable def cs_184_1 : List CE := cec 90 0 (.iload 8) xi0
  (cec 92 0 (.lload 4) xi0
  (cec 94 0 .lastore xi0
  (cec 95 0 (.aload_n 0) xi0
  (cec 96 0 (.getfield 42) (11, 9, 2, 0)
  (cec 99 0 (.iload 8) xi0
  (cec 101 0 (.lload 6) xi0
  (cec 103 0 .lastore xi0
  (cec 104 0 (.iinc 8 1) xi0
  (cec 107 0 (.goto (-93)) xi0
  (cec 110 0 .return_ xi0 []))))))))))
/-- SupplyBook$Weeks.reckonWorst(JI)V -/
noncomputable def cs_184 : List CE := cec 0 0 (.lconst 0) xi0
  (cec 1 0 (.lstore 4) xi0
  (cec 3 0 (.lload_n 1) xi0
  (cec 4 0 (.lstore 6) xi0
  (cec 6 0 (.iload_n 3) xi0
  (cec 7 0 (.invokestatic 69) (38, 1, 0, 0)
  (cec 10 0 (.iconst 1) xi0
  (cec 11 0 .iadd xi0
  (cec 12 0 (.istore 8) xi0
  (cec 14 691 (.iload 8) xi0
  (cec 16 0 (.bipush 52) xi0
  (cec 18 0 (.if_icmp .ge 92) xi0
  (cec 21 0 (.iconst 0) xi0
  (cec 22 0 (.istore 9) xi0
  (cec 24 1715 (.iload 9) xi0
  (cec 26 0 (.bipush 6) xi0
  (cec 28 0 (.if_icmp .ge 43) xi0
  (cec 31 0 (.aload_n 0) xi0
  (cec 32 0 (.iload 9) xi0
  (cec 34 0 (.iload 8) xi0
  (cec 36 0 (.iconst 1) xi0
  (cec 37 0 (.iload_n 3) xi0
  (cec 38 0 (.invokevirtual 94) (182, 5, 1, 21)
  (cec 41 0 (.lstore 10) xi0
  (cec 43 0 (.lload 4) xi0
  (cec 45 0 (.lload 10) xi0
  (cec 47 0 (.ldc2_w 72) (0, 0, 1000000000, 0)
  (cec 50 0 .ldiv xi0
  (cec 51 0 .ladd xi0
  (cec 52 0 (.lstore 4) xi0
  (cec 54 0 (.lload 6) xi0
  (cec 56 0 (.lload 10) xi0
  (cec 58 0 (.ldc2_w 72) (0, 0, 1000000000, 0)
  (cec 61 0 .lrem xi0
  (cec 62 0 .ladd xi0
  (cec 63 0 (.lstore 6) xi0
  (cec 65 0 (.iinc 9 1) xi0
  (cec 68 0 (.goto (-44)) xi0
  (cec 71 0 (.lload 6) xi0
  (cec 73 0 (.aload_n 0) xi0
  (cec 74 0 (.iload_n 3) xi0
  (cec 75 0 (.invokestatic 65) (17, 1, 0, 0)
  (cec 78 0 (.iload 8) xi0
  (cec 80 0 (.invokevirtual 90) (185, 3, 1, 21)
  (cec 83 0 .lsub xi0
  (cec 84 0 (.lstore 6) xi0
  (cec 86 0 (.aload_n 0) xi0
  (cec 87 0 (.getfield 39) (11, 8, 2, 0) cs_184_1)))))))))))))))))))))))))))))))))))))))))))))))
/-- SupplyBook$Weeks.dueIn(II)J -/
noncomputable def cs_185 : List CE := cec 0 0 (.iload_n 1) xi0
  (cec 1 0 (.invokestatic 52) (14, 1, 0, 0)
  (cec 4 0 (.ifCond .eq 24) xi0
  (cec 7 0 (.iload_n 2) xi0
  (cec 8 0 (.invokestatic 55) (40, 1, 0, 0)
  (cec 11 0 (.ifCond .eq 17) xi0
  (cec 14 0 (.aload_n 0) xi0
  (cec 15 0 (.getfield 19) (11, 2, 2, 0)
  (cec 18 0 (.iload_n 1) xi0
  (cec 19 0 (.bipush 52) xi0
  (cec 21 0 .imul xi0
  (cec 22 0 (.iload_n 2) xi0
  (cec 23 0 .iadd xi0
  (cec 24 0 .laload xi0
  (cec 25 0 (.goto 4) xi0
  (cec 28 0 (.lconst 0) xi0
  (cec 29 0 .lreturn xi0 []))))))))))))))))
/-- SupplyBook$Weeks.firstShort(II)I -/
noncomputable def cs_186 : List CE := cec 0 0 (.aload_n 0) xi0
  (cec 1 0 (.iload_n 1) xi0
  (cec 2 0 (.iload_n 2) xi0
  (cec 3 0 (.invokestatic 69) (38, 1, 0, 0)
  (cec 6 0 (.invokevirtual 98) (187, 3, 9, 21)
  (cec 9 0 (.lconst 0) xi0
  (cec 10 0 (.lstore_n 3) xi0
  (cec 11 0 (.iload_n 2) xi0
  (cec 12 0 (.invokestatic 69) (38, 1, 0, 0)
  (cec 15 0 (.iconst 1) xi0
  (cec 16 0 .iadd xi0
  (cec 17 0 (.istore 5) xi0
  (cec 19 83 (.iload 5) xi0
  (cec 21 0 (.bipush 52) xi0
  (cec 23 0 (.if_icmp .ge 50) xi0
  (cec 26 0 (.lload_n 3) xi0
  (cec 27 0 (.aload_n 0) xi0
  (cec 28 0 (.getfield 45) (11, 10, 2, 0)
  (cec 31 0 (.iload 5) xi0
  (cec 33 0 .laload xi0
  (cec 34 0 .ladd xi0
  (cec 35 0 (.lstore_n 3) xi0
  (cec 36 0 (.aload_n 0) xi0
  (cec 37 0 (.getfield 39) (11, 8, 2, 0)
  (cec 40 0 (.iload 5) xi0
  (cec 42 0 .laload xi0
  (cec 43 0 (.aload_n 0) xi0
  (cec 44 0 (.getfield 42) (11, 9, 2, 0)
  (cec 47 0 (.iload 5) xi0
  (cec 49 0 .laload xi0
  (cec 50 0 (.lload_n 3) xi0
  (cec 51 0 .ladd xi0
  (cec 52 0 (.ldc2_w 72) (0, 0, 1000000000, 0)
  (cec 55 0 (.invokestatic 102) (337, 2, 1, 0)
  (cec 58 0 .ladd xi0
  (cec 59 0 (.lconst 0) xi0
  (cec 60 0 .lcmp xi0
  (cec 61 0 (.ifCond .ge 6) xi0
  (cec 64 0 (.iload 5) xi0
  (cec 66 0 .ireturn xi0
  (cec 67 0 (.iinc 5 1) xi0
  (cec 70 0 (.goto (-51)) xi0
  (cec 73 0 (.iconst (-1)) xi0
  (cec 74 0 .ireturn xi0 [])))))))))))))))))))))))))))))))))))))))))))
noncomputable def cs_187_1 : List CE := cec 81 0 (.invokestatic 55) (40, 1, 0, 0)
  (cec 84 0 (.ifCond .eq 28) xi0
  (cec 87 0 (.aload_n 0) xi0
  (cec 88 0 (.getfield 45) (11, 10, 2, 0)
  (cec 91 0 (.iload 5) xi0
  (cec 93 0 .dup2 xi0
  (cec 94 0 .laload xi0
  (cec 95 0 (.aload_n 0) xi0
  (cec 96 0 (.getfield 23) (11, 3, 2, 0)
  (cec 99 0 (.iload_n 3) xi0
  (cec 100 0 .iaload xi0
  (cec 101 0 .i2l xi0
  (cec 102 0 (.aload_n 0) xi0
  (cec 103 0 (.getfield 32) (11, 6, 2, 0)
  (cec 106 0 (.iload_n 3) xi0
  (cec 107 0 .iaload xi0
  (cec 108 0 .i2l xi0
  (cec 109 0 .ladd xi0
  (cec 110 0 .lsub xi0
  (cec 111 0 .lastore xi0
  (cec 112 0 (.iinc 3 1) xi0
  (cec 115 0 (.goto (-105)) xi0
  (cec 118 0 .return_ xi0 []))))))))))))))))))))))
/-- SupplyBook$Weeks.reckonFlow(II)V -/
noncomputable def cs_187 : List CE := cec 0 0 (.aload_n 0) xi0
  (cec 1 0 (.getfield 45) (11, 10, 2, 0)
  (cec 4 0 (.lconst 0) xi0
  (cec 5 0 (.invokestatic 105) (334, 2, 9, 0)
  (cec 8 0 (.iconst 0) xi0
  (cec 9 0 (.istore_n 3) xi0
  (cec 10 31 (.iload_n 3) xi0
  (cec 11 0 (.aload_n 0) xi0
  (cec 12 0 (.getfield 35) (11, 7, 0, 0)
  (cec 15 0 (.if_icmp .ge 103) xi0
  (cec 18 0 (.aload_n 0) xi0
  (cec 19 0 (.getfield 26) (11, 4, 2, 0)
  (cec 22 0 (.iload_n 3) xi0
  (cec 23 0 .iaload xi0
  (cec 24 0 (.istore 4) xi0
  (cec 26 0 (.iload_n 1) xi0
  (cec 27 0 (.iload_n 3) xi0
  (cec 28 0 .ishr xi0
  (cec 29 0 (.iconst 1) xi0
  (cec 30 0 .iand xi0
  (cec 31 0 (.ifCond .eq 81) xi0
  (cec 34 0 (.iload 4) xi0
  (cec 36 0 (.iload_n 2) xi0
  (cec 37 0 (.if_icmp .le 75) xi0
  (cec 40 0 (.iload 4) xi0
  (cec 42 0 (.invokestatic 55) (40, 1, 0, 0)
  (cec 45 0 (.ifCond .ne 6) xi0
  (cec 48 0 (.goto 64) xi0
  (cec 51 0 (.aload_n 0) xi0
  (cec 52 0 (.getfield 45) (11, 10, 2, 0)
  (cec 55 0 (.iload 4) xi0
  (cec 57 0 .dup2 xi0
  (cec 58 0 .laload xi0
  (cec 59 0 (.aload_n 0) xi0
  (cec 60 0 (.getfield 23) (11, 3, 2, 0)
  (cec 63 0 (.iload_n 3) xi0
  (cec 64 0 .iaload xi0
  (cec 65 0 .i2l xi0
  (cec 66 0 .ladd xi0
  (cec 67 0 .lastore xi0
  (cec 68 0 (.iload 4) xi0
  (cec 70 0 (.aload_n 0) xi0
  (cec 71 0 (.getfield 29) (11, 5, 2, 0)
  (cec 74 0 (.iload_n 3) xi0
  (cec 75 0 .iaload xi0
  (cec 76 0 .iadd xi0
  (cec 77 0 (.istore 5) xi0
  (cec 79 0 (.iload 5) xi0 cs_187_1)))))))))))))))))))))))))))))))))))))))))))))))
/-- SupplyBook$Weeks.addOffer(IIII)I -/
noncomputable def cs_188 : List CE := cec 0 0 (.aload_n 0) xi0
  (cec 1 0 (.getfield 35) (11, 7, 0, 0)
  (cec 4 0 (.aload_n 0) xi0
  (cec 5 0 (.getfield 23) (11, 3, 2, 0)
  (cec 8 0 .arraylength xi0
  (cec 9 0 (.if_icmp .lt 5) xi0
  (cec 12 0 (.iconst (-1)) xi0
  (cec 13 0 .ireturn xi0
  (cec 14 0 (.aload_n 0) xi0
  (cec 15 0 (.getfield 23) (11, 3, 2, 0)
  (cec 18 0 (.aload_n 0) xi0
  (cec 19 0 (.getfield 35) (11, 7, 0, 0)
  (cec 22 0 (.iload_n 1) xi0
  (cec 23 0 .iastore xi0
  (cec 24 0 (.aload_n 0) xi0
  (cec 25 0 (.getfield 26) (11, 4, 2, 0)
  (cec 28 0 (.aload_n 0) xi0
  (cec 29 0 (.getfield 35) (11, 7, 0, 0)
  (cec 32 0 (.iload_n 2) xi0
  (cec 33 0 .iastore xi0
  (cec 34 0 (.aload_n 0) xi0
  (cec 35 0 (.getfield 29) (11, 5, 2, 0)
  (cec 38 0 (.aload_n 0) xi0
  (cec 39 0 (.getfield 35) (11, 7, 0, 0)
  (cec 42 0 (.iload_n 3) xi0
  (cec 43 0 .iastore xi0
  (cec 44 0 (.aload_n 0) xi0
  (cec 45 0 (.getfield 32) (11, 6, 2, 0)
  (cec 48 0 (.aload_n 0) xi0
  (cec 49 0 (.getfield 35) (11, 7, 0, 0)
  (cec 52 0 (.iload 4) xi0
  (cec 54 0 .iastore xi0
  (cec 55 0 (.aload_n 0) xi0
  (cec 56 0 .dup xi0
  (cec 57 0 (.getfield 35) (11, 7, 0, 0)
  (cec 60 0 (.iconst 1) xi0
  (cec 61 0 .iadd xi0
  (cec 62 0 (.putfield 35) (11, 7, 0, 0)
  (cec 65 0 (.aload_n 0) xi0
  (cec 66 0 (.getfield 35) (11, 7, 0, 0)
  (cec 69 0 (.iconst 1) xi0
  (cec 70 0 .isub xi0
  (cec 71 0 .ireturn xi0 []))))))))))))))))))))))))))))))))))))))))))
noncomputable def cs_189_1 : List CE := cec 86 0 (.iinc 5 1) xi0
  (cec 89 0 (.goto (-82)) xi0
  (cec 92 0 (.iload_n 2) xi0
  (cec 93 0 .ireturn xi0 [])))
/-- SupplyBook$Weeks.cheapestPlan(I)I -/
noncomputable def cs_189 : List CE := cec 0 0 (.iconst (-1)) xi0
  (cec 1 0 (.istore_n 2) xi0
  (cec 2 0 (.lconst 0) xi0
  (cec 3 0 (.lstore_n 3) xi0
  (cec 4 0 (.iconst 0) xi0
  (cec 5 0 (.istore 5) xi0
  (cec 7 95 (.iload 5) xi0
  (cec 9 0 (.iconst 1) xi0
  (cec 10 0 (.aload_n 0) xi0
  (cec 11 0 (.getfield 35) (11, 7, 0, 0)
  (cec 14 0 .ishl xi0
  (cec 15 0 (.if_icmp .ge 77) xi0
  (cec 18 0 (.aload_n 0) xi0
  (cec 19 0 (.iload 5) xi0
  (cec 21 0 (.invokevirtual 111) (190, 2, 1, 21)
  (cec 24 0 (.lstore 6) xi0
  (cec 26 0 (.iload_n 2) xi0
  (cec 27 0 (.iconst (-1)) xi0
  (cec 28 0 (.if_icmp .eq 29) xi0
  (cec 31 0 (.lload 6) xi0
  (cec 33 0 (.lload_n 3) xi0
  (cec 34 0 .lcmp xi0
  (cec 35 0 (.ifCond .lt 22) xi0
  (cec 38 0 (.lload 6) xi0
  (cec 40 0 (.lload_n 3) xi0
  (cec 41 0 .lcmp xi0
  (cec 42 0 (.ifCond .ne 19) xi0
  (cec 45 0 (.iload 5) xi0
  (cec 47 0 (.invokestatic 115) (320, 1, 0, 0)
  (cec 50 0 (.iload_n 2) xi0
  (cec 51 0 (.invokestatic 115) (320, 1, 0, 0)
  (cec 54 0 (.if_icmp .ge 7) xi0
  (cec 57 0 (.iconst 1) xi0
  (cec 58 0 (.goto 4) xi0
  (cec 61 0 (.iconst 0) xi0
  (cec 62 223 (.istore 8) xi0
  (cec 64 0 (.iload 8) xi0
  (cec 66 0 (.ifCond .eq 20) xi0
  (cec 69 0 (.aload_n 0) xi0
  (cec 70 0 (.iload 5) xi0
  (cec 72 0 (.iload_n 1) xi0
  (cec 73 0 (.invokevirtual 120) (186, 3, 0, 21)
  (cec 76 0 (.iconst (-1)) xi0
  (cec 77 0 (.if_icmp .ne 9) xi0
  (cec 80 0 (.iload 5) xi0
  (cec 82 0 (.istore_n 2) xi0
  (cec 83 0 (.lload 6) xi0
  (cec 85 0 (.lstore_n 3) xi0 cs_189_1)))))))))))))))))))))))))))))))))))))))))))))))
/-- SupplyBook$Weeks.costOf(I)J -/
noncomputable def cs_190 : List CE := cec 0 0 (.lconst 0) xi0
  (cec 1 0 (.lstore_n 2) xi0
  (cec 2 0 (.iconst 0) xi0
  (cec 3 0 (.istore 4) xi0
  (cec 5 47 (.iload 4) xi0
  (cec 7 0 (.aload_n 0) xi0
  (cec 8 0 (.getfield 35) (11, 7, 0, 0)
  (cec 11 0 (.if_icmp .ge 33) xi0
  (cec 14 0 (.lload_n 2) xi0
  (cec 15 0 (.iload_n 1) xi0
  (cec 16 0 (.iload 4) xi0
  (cec 18 0 .ishr xi0
  (cec 19 0 (.iconst 1) xi0
  (cec 20 0 .iand xi0
  (cec 21 0 (.ifCond .eq 14) xi0
  (cec 24 0 (.aload_n 0) xi0
  (cec 25 0 (.getfield 32) (11, 6, 2, 0)
  (cec 28 0 (.iload 4) xi0
  (cec 30 0 .iaload xi0
  (cec 31 0 .i2l xi0
  (cec 32 0 (.goto 4) xi0
  (cec 35 0 (.lconst 0) xi0
  (cec 36 0 .ladd xi0
  (cec 37 0 (.lstore_n 2) xi0
  (cec 38 0 (.iinc 4 1) xi0
  (cec 41 0 (.goto (-36)) xi0
  (cec 44 0 (.lload_n 2) xi0
  (cec 45 0 .lreturn xi0 [])))))))))))))))))))))))))))
/-- SupplyBook$Weeks.isOfferSet(I)Z -/
noncomputable def cs_191 : List CE := cec 0 0 (.iload_n 1) xi0
  (cec 1 0 (.ifCond .lt 17) xi0
  (cec 4 0 (.iload_n 1) xi0
  (cec 5 0 (.iconst 1) xi0
  (cec 6 0 (.aload_n 0) xi0
  (cec 7 0 (.getfield 35) (11, 7, 0, 0)
  (cec 10 0 .ishl xi0
  (cec 11 0 (.if_icmp .ge 7) xi0
  (cec 14 0 (.iconst 1) xi0
  (cec 15 0 (.goto 4) xi0
  (cec 18 0 (.iconst 0) xi0
  (cec 19 0 .ireturn xi0 [])))))))))))
/-- SupplyBook$Weeks.duesOf(I)J -/
noncomputable def cs_192 : List CE := cec 0 0 (.lconst 0) xi0
  (cec 1 0 (.lstore_n 2) xi0
  (cec 2 0 (.iconst 0) xi0
  (cec 3 0 (.istore 4) xi0
  (cec 5 47 (.iload 4) xi0
  (cec 7 0 (.bipush 52) xi0
  (cec 9 0 (.if_icmp .ge 19) xi0
  (cec 12 0 (.lload_n 2) xi0
  (cec 13 0 (.aload_n 0) xi0
  (cec 14 0 (.iload_n 1) xi0
  (cec 15 0 (.iload 4) xi0
  (cec 17 0 (.invokevirtual 90) (185, 3, 1, 21)
  (cec 20 0 .ladd xi0
  (cec 21 0 (.lstore_n 2) xi0
  (cec 22 0 (.iinc 4 1) xi0
  (cec 25 0 (.goto (-20)) xi0
  (cec 28 0 (.lload_n 2) xi0
  (cec 29 0 .lreturn xi0 [])))))))))))))))))
noncomputable def cs_193_6 : List CE := cec 607 0 (.newarray .int) xi0
  (cec 609 0 (.putfield 226) (12, 99, 2, 0)
  (cec 612 0 (.aload_n 0) xi0
  (cec 613 0 (.bipush 30) xi0
  (cec 615 0 (.newarray .int) xi0
  (cec 617 0 (.putfield 229) (12, 100, 2, 0)
  (cec 620 0 (.aload_n 0) xi0
  (cec 621 0 (.bipush 10) xi0
  (cec 623 0 (.newarray .int) xi0
  (cec 625 0 (.putfield 232) (12, 101, 2, 0)
  (cec 628 0 (.aload_n 0) xi0
  (cec 629 0 (.bipush 100) xi0
  (cec 631 0 (.newarray .int) xi0
  (cec 633 0 (.putfield 235) (12, 103, 2, 0)
  (cec 636 0 (.aload_n 0) xi0
  (cec 637 0 (.bipush 100) xi0
  (cec 639 0 (.newarray .int) xi0
  (cec 641 0 (.putfield 238) (12, 104, 2, 0)
  (cec 644 0 (.aload_n 0) xi0
  (cec 645 0 (.bipush 100) xi0
  (cec 647 0 (.newarray .int) xi0
  (cec 649 0 (.putfield 241) (12, 105, 2, 0)
  (cec 652 0 .return_ xi0 []))))))))))))))))))))))
noncomputable def cs_193_5 : List CE := cec 509 0 (.newarray .boolean) xi0
  (cec 511 0 (.putfield 190) (12, 82, 2, 0)
  (cec 514 0 (.aload_n 0) xi0
  (cec 515 0 (.sipush 3120) xi0
  (cec 518 0 (.newarray .long) xi0
  (cec 520 0 (.putfield 193) (12, 83, 2, 0)
  (cec 523 0 (.aload_n 0) xi0
  (cec 524 0 (.sipush 520) xi0
  (cec 527 0 (.newarray .long) xi0
  (cec 529 0 (.putfield 196) (12, 84, 2, 0)
  (cec 532 0 (.aload_n 0) xi0
  (cec 533 0 (.bipush 9) xi0
  (cec 535 0 (.newarray .int) xi0
  (cec 537 0 (.putfield 199) (12, 88, 2, 0)
  (cec 540 0 (.aload_n 0) xi0
  (cec 541 0 (.bipush 9) xi0
  (cec 543 0 (.newarray .int) xi0
  (cec 545 0 (.putfield 202) (12, 89, 2, 0)
  (cec 548 0 (.aload_n 0) xi0
  (cec 549 0 (.bipush 9) xi0
  (cec 551 0 (.newarray .int) xi0
  (cec 553 0 (.putfield 205) (12, 90, 2, 0)
  (cec 556 0 (.aload_n 0) xi0
  (cec 557 0 (.bipush 9) xi0
  (cec 559 0 (.newarray .int) xi0
  (cec 561 0 (.putfield 208) (12, 91, 2, 0)
  (cec 564 0 (.aload_n 0) xi0
  (cec 565 0 (.bipush 12) xi0
  (cec 567 0 (.newarray .int) xi0
  (cec 569 0 (.putfield 211) (12, 94, 2, 0)
  (cec 572 0 (.aload_n 0) xi0
  (cec 573 0 (.bipush 12) xi0
  (cec 575 0 (.newarray .int) xi0
  (cec 577 0 (.putfield 214) (12, 95, 2, 0)
  (cec 580 0 (.aload_n 0) xi0
  (cec 581 0 (.bipush 12) xi0
  (cec 583 0 (.newarray .boolean) xi0
  (cec 585 0 (.putfield 217) (12, 96, 2, 0)
  (cec 588 0 (.aload_n 0) xi0
  (cec 589 0 (.bipush 30) xi0
  (cec 591 0 (.newarray .int) xi0
  (cec 593 0 (.putfield 220) (12, 97, 2, 0)
  (cec 596 0 (.aload_n 0) xi0
  (cec 597 0 (.bipush 30) xi0
  (cec 599 0 (.newarray .int) xi0
  (cec 601 0 (.putfield 223) (12, 98, 2, 0)
  (cec 604 0 (.aload_n 0) xi0
  (cec 605 0 (.bipush 30) xi0 cs_193_6)))))))))))))))))))))))))))))))))))))))))))))))
noncomputable def cs_193_4 : List CE := cec 408 0 (.newarray .boolean) xi0
  (cec 410 0 (.putfield 154) (12, 66, 2, 0)
  (cec 413 0 (.aload_n 0) xi0
  (cec 414 0 (.sipush 300) xi0
  (cec 417 0 (.newarray .boolean) xi0
  (cec 419 0 (.putfield 157) (12, 67, 2, 0)
  (cec 422 0 (.aload_n 0) xi0
  (cec 423 0 (.sipush 300) xi0
  (cec 426 0 (.newarray .int) xi0
  (cec 428 0 (.putfield 160) (12, 68, 2, 0)
  (cec 431 0 (.aload_n 0) xi0
  (cec 432 0 (.sipush 300) xi0
  (cec 435 0 (.newarray .long) xi0
  (cec 437 0 (.putfield 163) (12, 69, 2, 0)
  (cec 440 0 (.aload_n 0) xi0
  (cec 441 0 (.bipush 20) xi0
  (cec 443 0 (.newarray .int) xi0
  (cec 445 0 (.putfield 166) (12, 71, 2, 0)
  (cec 448 0 (.aload_n 0) xi0
  (cec 449 0 (.bipush 20) xi0
  (cec 451 0 (.newarray .int) xi0
  (cec 453 0 (.putfield 169) (12, 72, 2, 0)
  (cec 456 0 (.aload_n 0) xi0
  (cec 457 0 (.bipush 20) xi0
  (cec 459 0 (.newarray .int) xi0
  (cec 461 0 (.putfield 172) (12, 73, 2, 0)
  (cec 464 0 (.aload_n 0) xi0
  (cec 465 0 (.bipush 20) xi0
  (cec 467 0 (.newarray .int) xi0
  (cec 469 0 (.putfield 175) (12, 74, 2, 0)
  (cec 472 0 (.aload_n 0) xi0
  (cec 473 0 (.sipush 220) xi0
  (cec 476 0 (.newarray .long) xi0
  (cec 478 0 (.putfield 178) (12, 77, 2, 0)
  (cec 481 0 (.aload_n 0) xi0
  (cec 482 0 (.sipush 220) xi0
  (cec 485 0 (.newarray .boolean) xi0
  (cec 487 0 (.putfield 181) (12, 78, 2, 0)
  (cec 490 0 (.aload_n 0) xi0
  (cec 491 0 (.bipush 14) xi0
  (cec 493 0 (.newarray .int) xi0
  (cec 495 0 (.putfield 184) (12, 80, 2, 0)
  (cec 498 0 (.aload_n 0) xi0
  (cec 499 0 (.bipush 14) xi0
  (cec 501 0 (.newarray .int) xi0
  (cec 503 0 (.putfield 187) (12, 81, 2, 0)
  (cec 506 0 (.aload_n 0) xi0
  (cec 507 0 (.bipush 14) xi0 cs_193_5)))))))))))))))))))))))))))))))))))))))))))))))
noncomputable def cs_193_3 : List CE := cec 300 0 (.newarray .int) xi0
  (cec 302 0 (.putfield 118) (12, 54, 2, 0)
  (cec 305 0 (.aload_n 0) xi0
  (cec 306 0 (.sipush 300) xi0
  (cec 309 0 (.newarray .int) xi0
  (cec 311 0 (.putfield 121) (12, 55, 2, 0)
  (cec 314 0 (.aload_n 0) xi0
  (cec 315 0 (.sipush 300) xi0
  (cec 318 0 (.newarray .int) xi0
  (cec 320 0 (.putfield 124) (12, 56, 2, 0)
  (cec 323 0 (.aload_n 0) xi0
  (cec 324 0 (.sipush 300) xi0
  (cec 327 0 (.newarray .int) xi0
  (cec 329 0 (.putfield 127) (12, 57, 2, 0)
  (cec 332 0 (.aload_n 0) xi0
  (cec 333 0 (.sipush 300) xi0
  (cec 336 0 (.newarray .int) xi0
  (cec 338 0 (.putfield 130) (12, 58, 2, 0)
  (cec 341 0 (.aload_n 0) xi0
  (cec 342 0 (.sipush 300) xi0
  (cec 345 0 (.newarray .boolean) xi0
  (cec 347 0 (.putfield 133) (12, 59, 2, 0)
  (cec 350 0 (.aload_n 0) xi0
  (cec 351 0 (.sipush 300) xi0
  (cec 354 0 (.newarray .int) xi0
  (cec 356 0 (.putfield 136) (12, 60, 2, 0)
  (cec 359 0 (.aload_n 0) xi0
  (cec 360 0 (.sipush 300) xi0
  (cec 363 0 (.newarray .int) xi0
  (cec 365 0 (.putfield 139) (12, 61, 2, 0)
  (cec 368 0 (.aload_n 0) xi0
  (cec 369 0 (.sipush 300) xi0
  (cec 372 0 (.newarray .int) xi0
  (cec 374 0 (.putfield 142) (12, 62, 2, 0)
  (cec 377 0 (.aload_n 0) xi0
  (cec 378 0 (.sipush 300) xi0
  (cec 381 0 (.newarray .int) xi0
  (cec 383 0 (.putfield 145) (12, 63, 2, 0)
  (cec 386 0 (.aload_n 0) xi0
  (cec 387 0 (.sipush 300) xi0
  (cec 390 0 (.newarray .int) xi0
  (cec 392 0 (.putfield 148) (12, 64, 2, 0)
  (cec 395 0 (.aload_n 0) xi0
  (cec 396 0 (.sipush 300) xi0
  (cec 399 0 (.newarray .boolean) xi0
  (cec 401 0 (.putfield 151) (12, 65, 2, 0)
  (cec 404 0 (.aload_n 0) xi0
  (cec 405 0 (.sipush 300) xi0 cs_193_4)))))))))))))))))))))))))))))))))))))))))))))))
noncomputable def cs_193_2 : List CE := cec 203 0 (.newarray .boolean) xi0
  (cec 205 0 (.putfield 81) (12, 39, 2, 0)
  (cec 208 0 (.aload_n 0) xi0
  (cec 209 0 (.bipush 80) xi0
  (cec 211 0 (.newarray .int) xi0
  (cec 213 0 (.putfield 85) (12, 41, 2, 0)
  (cec 216 0 (.aload_n 0) xi0
  (cec 217 0 (.bipush 80) xi0
  (cec 219 0 (.newarray .int) xi0
  (cec 221 0 (.putfield 88) (12, 42, 2, 0)
  (cec 224 0 (.aload_n 0) xi0
  (cec 225 0 (.bipush 80) xi0
  (cec 227 0 (.newarray .int) xi0
  (cec 229 0 (.putfield 91) (12, 43, 2, 0)
  (cec 232 0 (.aload_n 0) xi0
  (cec 233 0 (.bipush 80) xi0
  (cec 235 0 (.newarray .int) xi0
  (cec 237 0 (.putfield 94) (12, 44, 2, 0)
  (cec 240 0 (.aload_n 0) xi0
  (cec 241 0 (.bipush 80) xi0
  (cec 243 0 (.newarray .int) xi0
  (cec 245 0 (.putfield 97) (12, 45, 2, 0)
  (cec 248 0 (.aload_n 0) xi0
  (cec 249 0 (.bipush 80) xi0
  (cec 251 0 (.newarray .int) xi0
  (cec 253 0 (.putfield 100) (12, 46, 2, 0)
  (cec 256 0 (.aload_n 0) xi0
  (cec 257 0 (.bipush 80) xi0
  (cec 259 0 (.newarray .int) xi0
  (cec 261 0 (.putfield 103) (12, 47, 2, 0)
  (cec 264 0 (.aload_n 0) xi0
  (cec 265 0 (.bipush 80) xi0
  (cec 267 0 (.newarray .int) xi0
  (cec 269 0 (.putfield 106) (12, 48, 2, 0)
  (cec 272 0 (.aload_n 0) xi0
  (cec 273 0 (.bipush 80) xi0
  (cec 275 0 (.newarray .boolean) xi0
  (cec 277 0 (.putfield 109) (12, 49, 2, 0)
  (cec 280 0 (.aload_n 0) xi0
  (cec 281 0 (.bipush 80) xi0
  (cec 283 0 (.newarray .long) xi0
  (cec 285 0 (.putfield 112) (12, 50, 2, 0)
  (cec 288 0 (.aload_n 0) xi0
  (cec 289 0 (.bipush 80) xi0
  (cec 291 0 (.newarray .long) xi0
  (cec 293 0 (.putfield 115) (12, 51, 2, 0)
  (cec 296 0 (.aload_n 0) xi0
  (cec 297 0 (.sipush 300) xi0 cs_193_3)))))))))))))))))))))))))))))))))))))))))))))))
noncomputable def cs_193_1 : List CE := cec 102 0 (.newarray .int) xi0
  (cec 104 0 (.putfield 45) (12, 16, 2, 0)
  (cec 107 0 (.aload_n 0) xi0
  (cec 108 0 (.sipush 20000) xi0
  (cec 111 0 (.newarray .int) xi0
  (cec 113 0 (.putfield 48) (12, 17, 2, 0)
  (cec 116 0 (.aload_n 0) xi0
  (cec 117 0 (.bipush 16) xi0
  (cec 119 0 (.newarray .int) xi0
  (cec 121 0 (.putfield 51) (12, 27, 2, 0)
  (cec 124 0 (.aload_n 0) xi0
  (cec 125 0 (.bipush 16) xi0
  (cec 127 0 (.newarray .int) xi0
  (cec 129 0 (.putfield 54) (12, 28, 2, 0)
  (cec 132 0 (.aload_n 0) xi0
  (cec 133 0 (.bipush 16) xi0
  (cec 135 0 (.newarray .int) xi0
  (cec 137 0 (.putfield 57) (12, 29, 2, 0)
  (cec 140 0 (.aload_n 0) xi0
  (cec 141 0 (.bipush 16) xi0
  (cec 143 0 (.newarray .int) xi0
  (cec 145 0 (.putfield 60) (12, 30, 2, 0)
  (cec 148 0 (.aload_n 0) xi0
  (cec 149 0 (.bipush 16) xi0
  (cec 151 0 (.newarray .int) xi0
  (cec 153 0 (.putfield 63) (12, 31, 2, 0)
  (cec 156 0 (.aload_n 0) xi0
  (cec 157 0 (.sipush 220) xi0
  (cec 160 0 (.newarray .int) xi0
  (cec 162 0 (.putfield 66) (12, 32, 2, 0)
  (cec 165 0 (.aload_n 0) xi0
  (cec 166 0 (.sipush 220) xi0
  (cec 169 0 (.newarray .int) xi0
  (cec 171 0 (.putfield 69) (12, 33, 2, 0)
  (cec 174 0 (.aload_n 0) xi0
  (cec 175 0 (.sipush 220) xi0
  (cec 178 0 (.newarray .int) xi0
  (cec 180 0 (.putfield 72) (12, 34, 2, 0)
  (cec 183 0 (.aload_n 0) xi0
  (cec 184 0 (.bipush 20) xi0
  (cec 186 0 (.newarray .int) xi0
  (cec 188 0 (.putfield 75) (12, 37, 2, 0)
  (cec 191 0 (.aload_n 0) xi0
  (cec 192 0 (.bipush 20) xi0
  (cec 194 0 (.newarray .int) xi0
  (cec 196 0 (.putfield 78) (12, 38, 2, 0)
  (cec 199 0 (.aload_n 0) xi0
  (cec 200 0 (.sipush 320) xi0 cs_193_2)))))))))))))))))))))))))))))))))))))))))))))))
/-- SupplyBookModel.<init>()V -/
noncomputable def cs_193 : List CE := cec 0 0 (.aload_n 0) xi0
  (cec 1 0 (.invokespecial 1) (9999, 1, 9, 22)
  (cec 4 0 (.aload_n 0) xi0
  (cec 5 0 (.sipush 400) xi0
  (cec 8 0 (.newarray .byte) xi0
  (cec 10 0 (.putfield 7) (12, 0, 2, 0)
  (cec 13 0 (.aload_n 0) xi0
  (cec 14 0 (.bipush 40) xi0
  (cec 16 0 (.newarray .int) xi0
  (cec 18 0 (.putfield 13) (12, 6, 2, 0)
  (cec 21 0 (.aload_n 0) xi0
  (cec 22 0 (.bipush 16) xi0
  (cec 24 0 (.newarray .int) xi0
  (cec 26 0 (.putfield 17) (12, 7, 2, 0)
  (cec 29 0 (.aload_n 0) xi0
  (cec 30 0 (.bipush 16) xi0
  (cec 32 0 (.newarray .int) xi0
  (cec 34 0 (.putfield 20) (12, 8, 2, 0)
  (cec 37 0 (.aload_n 0) xi0
  (cec 38 0 (.bipush 16) xi0
  (cec 40 0 (.newarray .long) xi0
  (cec 42 0 (.putfield 23) (12, 9, 2, 0)
  (cec 45 0 (.aload_n 0) xi0
  (cec 46 0 (.bipush 100) xi0
  (cec 48 0 (.newarray .int) xi0
  (cec 50 0 (.putfield 27) (12, 10, 2, 0)
  (cec 53 0 (.aload_n 0) xi0
  (cec 54 0 (.sipush 1600) xi0
  (cec 57 0 (.newarray .int) xi0
  (cec 59 0 (.putfield 30) (12, 11, 2, 0)
  (cec 62 0 (.aload_n 0) xi0
  (cec 63 0 (.sipush 1600) xi0
  (cec 66 0 (.newarray .int) xi0
  (cec 68 0 (.putfield 33) (12, 12, 2, 0)
  (cec 71 0 (.aload_n 0) xi0
  (cec 72 0 (.sipush 1600) xi0
  (cec 75 0 (.newarray .int) xi0
  (cec 77 0 (.putfield 36) (12, 13, 2, 0)
  (cec 80 0 (.aload_n 0) xi0
  (cec 81 0 (.sipush 1600) xi0
  (cec 84 0 (.newarray .int) xi0
  (cec 86 0 (.putfield 39) (12, 14, 2, 0)
  (cec 89 0 (.aload_n 0) xi0
  (cec 90 0 (.sipush 1600) xi0
  (cec 93 0 (.newarray .int) xi0
  (cec 95 0 (.putfield 42) (12, 15, 2, 0)
  (cec 98 0 (.aload_n 0) xi0
  (cec 99 0 (.sipush 20000) xi0 cs_193_1)))))))))))))))))))))))))))))))))))))))))))))))
/-- SupplyBookModel.now(I)Z -/
noncomputable def cs_194 : List CE := cec 0 0 (.iload_n 1) xi0
  (cec 1 0 .i2l xi0
  (cec 2 0 (.aload_n 0) xi0
  (cec 3 0 (.getfield 250) (12, 2, 0, 0)
  (cec 6 0 .i2l xi0
  (cec 7 0 (.ldc2_w 254) (0, 0, 3599, 0)
  (cec 10 0 (.invokestatic 246) (195, 3, 0, 0)
  (cec 13 0 (.ifCond .ne 5) xi0
  (cec 16 0 (.iconst 0) xi0
  (cec 17 0 .ireturn xi0
  (cec 18 0 (.aload_n 0) xi0
  (cec 19 0 (.iload_n 1) xi0
  (cec 20 0 (.putfield 250) (12, 2, 0, 0)
  (cec 23 0 (.iconst 1) xi0
  (cec 24 0 .ireturn xi0 []))))))))))))))
/-- SupplyBookModel.lies(JJJ)Z -/
noncomputable def cs_195 : List CE := cec 0 0 (.lload_n 0) xi0
  (cec 1 0 (.lload_n 2) xi0
  (cec 2 0 .lcmp xi0
  (cec 3 0 (.ifCond .lt 14) xi0
  (cec 6 0 (.lload_n 0) xi0
  (cec 7 0 (.lload 4) xi0
  (cec 9 0 .lcmp xi0
  (cec 10 0 (.ifCond .gt 7) xi0
  (cec 13 0 (.iconst 1) xi0
  (cec 14 0 (.goto 4) xi0
  (cec 17 0 (.iconst 0) xi0
  (cec 18 0 .ireturn xi0 [])))))))))))
/-- SupplyBookModel.head(I)I -/
noncomputable def cs_196 : List CE := cec 0 0 (.aload_n 0) xi0
  (cec 1 0 (.getfield 256) (12, 4, 0, 0)
  (cec 4 0 (.bipush 40) xi0
  (cec 6 0 (.if_icmp .eq 16) xi0
  (cec 9 0 (.iload_n 1) xi0
  (cec 10 0 (.iconst (-1)) xi0
  (cec 11 0 (.if_icmp .eq 13) xi0
  (cec 14 0 (.aload_n 0) xi0
  (cec 15 0 (.iload_n 1) xi0
  (cec 16 0 (.invokevirtual 262) (197, 2, 0, 22)
  (cec 19 0 (.ifCond .ne 5) xi0
  (cec 22 0 (.iconst (-1)) xi0
  (cec 23 0 .ireturn xi0
  (cec 24 7 (.aload_n 0) xi0
  (cec 25 0 (.getfield 13) (12, 6, 2, 0)
  (cec 28 0 (.aload_n 0) xi0
  (cec 29 0 (.getfield 256) (12, 4, 0, 0)
  (cec 32 0 (.iload_n 1) xi0
  (cec 33 0 .iastore xi0
  (cec 34 0 (.aload_n 0) xi0
  (cec 35 0 .dup xi0
  (cec 36 0 (.getfield 256) (12, 4, 0, 0)
  (cec 39 0 (.iconst 1) xi0
  (cec 40 0 .iadd xi0
  (cec 41 0 (.putfield 256) (12, 4, 0, 0)
  (cec 44 0 (.aload_n 0) xi0
  (cec 45 0 (.getfield 256) (12, 4, 0, 0)
  (cec 48 0 (.iconst 1) xi0
  (cec 49 0 .isub xi0
  (cec 50 0 .ireturn xi0 [])))))))))))))))))))))))))))))
/-- SupplyBookModel.isHead(I)Z -/
noncomputable def cs_197 : List CE := cec 0 0 (.iload_n 1) xi0
  (cec 1 0 .i2l xi0
  (cec 2 0 (.lconst 0) xi0
  (cec 3 0 (.aload_n 0) xi0
  (cec 4 0 (.getfield 256) (12, 4, 0, 0)
  (cec 7 0 (.iconst 1) xi0
  (cec 8 0 .isub xi0
  (cec 9 0 .i2l xi0
  (cec 10 0 (.invokestatic 246) (195, 3, 0, 0)
  (cec 13 0 .ireturn xi0 [])))))))))
/-- SupplyBookModel.under(II)I -/
noncomputable def cs_198 : List CE := cec 0 0 (.aload_n 0) xi0
  (cec 1 0 (.iload_n 1) xi0
  (cec 2 0 (.invokevirtual 262) (197, 2, 0, 22)
  (cec 5 0 (.ifCond .eq 11) xi0
  (cec 8 0 (.aload_n 0) xi0
  (cec 9 0 (.iload_n 2) xi0
  (cec 10 0 (.invokevirtual 262) (197, 2, 0, 22)
  (cec 13 0 (.ifCond .ne 7) xi0
  (cec 16 0 (.iconst (-1)) xi0
  (cec 17 0 (.goto 17) xi0
  (cec 20 0 (.aload_n 0) xi0
  (cec 21 0 (.iload_n 1) xi0
  (cec 22 0 (.iload_n 2) xi0
  (cec 23 0 (.invokevirtual 266) (199, 3, 0, 22)
  (cec 26 0 (.ifCond .eq 7) xi0
  (cec 29 0 (.iconst 1) xi0
  (cec 30 0 (.goto 4) xi0
  (cec 33 0 (.iconst 0) xi0
  (cec 34 0 .ireturn xi0 []))))))))))))))))))
/-- SupplyBookModel.isUnder(II)Z -/
noncomputable def cs_199 : List CE := cec 0 0 (.iload_n 1) xi0
  (cec 1 0 (.istore_n 3) xi0
  (cec 2 27 (.iload_n 3) xi0
  (cec 3 0 (.iconst (-1)) xi0
  (cec 4 0 (.if_icmp .eq 18) xi0
  (cec 7 0 (.iload_n 3) xi0
  (cec 8 0 (.iload_n 2) xi0
  (cec 9 0 (.if_icmp .eq 13) xi0
  (cec 12 0 (.aload_n 0) xi0
  (cec 13 0 (.getfield 13) (12, 6, 2, 0)
  (cec 16 0 (.iload_n 3) xi0
  (cec 17 0 .iaload xi0
  (cec 18 0 (.istore_n 3) xi0
  (cec 19 0 (.goto (-17)) xi0
  (cec 22 0 (.iload_n 3) xi0
  (cec 23 0 (.iload_n 2) xi0
  (cec 24 0 (.if_icmp .ne 7) xi0
  (cec 27 0 (.iconst 1) xi0
  (cec 28 0 (.goto 4) xi0
  (cec 31 0 (.iconst 0) xi0
  (cec 32 0 .ireturn xi0 []))))))))))))))))))))
/-- SupplyBookModel.hand(II)I -/
noncomputable def cs_200 : List CE := cec 0 0 (.aload_n 0) xi0
  (cec 1 0 (.getfield 259) (12, 5, 0, 0)
  (cec 4 0 (.bipush 16) xi0
  (cec 6 0 (.if_icmp .eq 23) xi0
  (cec 9 0 (.aload_n 0) xi0
  (cec 10 0 (.iload_n 1) xi0
  (cec 11 0 (.invokevirtual 262) (197, 2, 0, 22)
  (cec 14 0 (.ifCond .eq 15) xi0
  (cec 17 0 (.iload_n 2) xi0
  (cec 18 0 .i2l xi0
  (cec 19 0 (.lconst 1) xi0
  (cec 20 0 (.ldc2_w 270) (0, 0, 9, 0)
  (cec 23 0 (.invokestatic 246) (195, 3, 0, 0)
  (cec 26 0 (.ifCond .ne 5) xi0
  (cec 29 0 (.iconst (-1)) xi0
  (cec 30 0 .ireturn xi0
  (cec 31 0 (.aload_n 0) xi0
  (cec 32 0 (.getfield 17) (12, 7, 2, 0)
  (cec 35 0 (.aload_n 0) xi0
  (cec 36 0 (.getfield 259) (12, 5, 0, 0)
  (cec 39 0 (.iload_n 1) xi0
  (cec 40 0 .iastore xi0
  (cec 41 0 (.aload_n 0) xi0
  (cec 42 0 (.getfield 20) (12, 8, 2, 0)
  (cec 45 0 (.aload_n 0) xi0
  (cec 46 0 (.getfield 259) (12, 5, 0, 0)
  (cec 49 0 (.iload_n 2) xi0
  (cec 50 0 .iastore xi0
  (cec 51 0 (.aload_n 0) xi0
  (cec 52 0 .dup xi0
  (cec 53 0 (.getfield 259) (12, 5, 0, 0)
  (cec 56 0 (.iconst 1) xi0
  (cec 57 0 .iadd xi0
  (cec 58 0 (.putfield 259) (12, 5, 0, 0)
  (cec 61 0 (.aload_n 0) xi0
  (cec 62 0 (.getfield 259) (12, 5, 0, 0)
  (cec 65 0 (.iconst 1) xi0
  (cec 66 0 .isub xi0
  (cec 67 0 .ireturn xi0 []))))))))))))))))))))))))))))))))))))))
/-- SupplyBookModel.feed(IIIII)I -/
noncomputable def cs_201 : List CE := cec 0 0 (.aload_n 0) xi0
  (cec 1 0 (.getfield 272) (12, 1, 0, 0)
  (cec 4 0 (.bipush 20) xi0
  (cec 6 0 .iadd xi0
  (cec 7 0 (.sipush 400) xi0
  (cec 10 0 (.if_icmp .le 5) xi0
  (cec 13 0 (.iconst (-1)) xi0
  (cec 14 0 .ireturn xi0
  (cec 15 0 (.aload_n 0) xi0
  (cec 16 0 (.iload_n 1) xi0
  (cec 17 0 (.invokevirtual 275) (202, 2, 9, 22)
  (cec 20 0 (.aload_n 0) xi0
  (cec 21 0 (.iload_n 2) xi0
  (cec 22 0 (.invokevirtual 275) (202, 2, 9, 22)
  (cec 25 0 (.aload_n 0) xi0
  (cec 26 0 (.iload_n 3) xi0
  (cec 27 0 (.invokevirtual 275) (202, 2, 9, 22)
  (cec 30 0 (.aload_n 0) xi0
  (cec 31 0 (.iload 4) xi0
  (cec 33 0 (.invokevirtual 275) (202, 2, 9, 22)
  (cec 36 0 (.aload_n 0) xi0
  (cec 37 0 (.iload 5) xi0
  (cec 39 0 (.invokevirtual 275) (202, 2, 9, 22)
  (cec 42 0 (.aload_n 0) xi0
  (cec 43 0 (.getfield 272) (12, 1, 0, 0)
  (cec 46 0 .ireturn xi0 [])))))))))))))))))))))))))
/-- SupplyBookModel.push(I)V -/
noncomputable def cs_202 : List CE := cec 0 0 (.bipush 24) xi0
  (cec 2 0 (.istore_n 2) xi0
  (cec 3 15 (.iload_n 2) xi0
  (cec 4 0 (.ifCond .lt 32) xi0
  (cec 7 0 (.aload_n 0) xi0
  (cec 8 0 (.getfield 7) (12, 0, 2, 0)
  (cec 11 0 (.aload_n 0) xi0
  (cec 12 0 (.getfield 272) (12, 1, 0, 0)
  (cec 15 0 (.iload_n 1) xi0
  (cec 16 0 (.iload_n 2) xi0
  (cec 17 0 .ishr xi0
  (cec 18 0 .i2b xi0
  (cec 19 0 .bastore xi0
  (cec 20 0 (.aload_n 0) xi0
  (cec 21 0 .dup xi0
  (cec 22 0 (.getfield 272) (12, 1, 0, 0)
  (cec 25 0 (.iconst 1) xi0
  (cec 26 0 .iadd xi0
  (cec 27 0 (.putfield 272) (12, 1, 0, 0)
  (cec 30 0 (.iinc 2 (-8)) xi0
  (cec 33 0 (.goto (-30)) xi0
  (cec 36 0 .return_ xi0 [])))))))))))))))))))))
noncomputable def cs_203_1 : List CE := cec 90 0 (.iload_n 2) xi0
  (cec 91 0 .iastore xi0
  (cec 92 0 (.aload_n 0) xi0
  (cec 93 0 (.aload_n 0) xi0
  (cec 94 0 (.getfield 397) (12, 36, 0, 0)
  (cec 97 0 (.invokevirtual 406) (230, 2, 9, 22)
  (cec 100 0 (.aload_n 0) xi0
  (cec 101 0 .dup xi0
  (cec 102 0 (.getfield 397) (12, 36, 0, 0)
  (cec 105 0 (.iconst 1) xi0
  (cec 106 0 .iadd xi0
  (cec 107 0 (.putfield 397) (12, 36, 0, 0)
  (cec 110 0 (.aload_n 0) xi0
  (cec 111 0 (.getfield 397) (12, 36, 0, 0)
  (cec 114 0 (.iconst 1) xi0
  (cec 115 0 .isub xi0
  (cec 116 0 .ireturn xi0 []))))))))))))))))
/-- SupplyBookModel.law(III)I -/
noncomputable def cs_203 : List CE := cec 0 0 (.aload_n 0) xi0
  (cec 1 0 (.getfield 397) (12, 36, 0, 0)
  (cec 4 0 (.bipush 20) xi0
  (cec 6 0 (.if_icmp .eq 48) xi0
  (cec 9 0 (.iload_n 1) xi0
  (cec 10 0 .i2l xi0
  (cec 11 0 (.lconst 0) xi0
  (cec 12 0 (.ldc2_w 254) (0, 0, 3599, 0)
  (cec 15 0 (.invokestatic 246) (195, 3, 0, 0)
  (cec 18 0 (.ifCond .eq 36) xi0
  (cec 21 0 (.iload_n 2) xi0
  (cec 22 0 .i2l xi0
  (cec 23 0 (.iload_n 1) xi0
  (cec 24 0 .i2l xi0
  (cec 25 0 (.ldc2_w 254) (0, 0, 3599, 0)
  (cec 28 0 (.invokestatic 246) (195, 3, 0, 0)
  (cec 31 0 (.ifCond .eq 23) xi0
  (cec 34 0 (.iload_n 3) xi0
  (cec 35 0 .i2l xi0
  (cec 36 0 (.lconst 1) xi0
  (cec 37 0 (.ldc2_w 400) (0, 0, 200, 0)
  (cec 40 0 (.invokestatic 246) (195, 3, 0, 0)
  (cec 43 0 (.ifCond .eq 11) xi0
  (cec 46 0 (.iload_n 3) xi0
  (cec 47 0 (.aload_n 0) xi0
  (cec 48 0 (.getfield 272) (12, 1, 0, 0)
  (cec 51 0 (.if_icmp .le 5) xi0
  (cec 54 0 (.iconst (-1)) xi0
  (cec 55 0 .ireturn xi0
  (cec 56 0 (.aload_n 0) xi0
  (cec 57 0 (.iload_n 3) xi0
  (cec 58 0 (.iconst 1) xi0
  (cec 59 0 (.invokevirtual 402) (204, 3, 0, 22)
  (cec 62 0 (.istore 4) xi0
  (cec 64 0 (.iload 4) xi0
  (cec 66 0 (.ifCond .ge 6) xi0
  (cec 69 0 (.iload 4) xi0
  (cec 71 0 .ireturn xi0
  (cec 72 0 (.aload_n 0) xi0
  (cec 73 0 (.getfield 75) (12, 37, 2, 0)
  (cec 76 0 (.aload_n 0) xi0
  (cec 77 0 (.getfield 397) (12, 36, 0, 0)
  (cec 80 0 (.iload_n 1) xi0
  (cec 81 0 .iastore xi0
  (cec 82 0 (.aload_n 0) xi0
  (cec 83 0 (.getfield 78) (12, 38, 2, 0)
  (cec 86 0 (.aload_n 0) xi0
  (cec 87 0 (.getfield 397) (12, 36, 0, 0) cs_203_1)))))))))))))))))))))))))))))))))))))))))))))))
noncomputable def cs_204_1 : List CE := cec 88 0 (.aload_n 0) xi0
  (cec 89 0 (.invokevirtual 305) (207, 1, 0, 22)
  (cec 92 0 (.bipush 59) xi0
  (cec 94 0 (.if_icmp .eq 12) xi0
  (cec 97 0 (.aload_n 0) xi0
  (cec 98 0 (.iconst 1) xi0
  (cec 99 0 (.aload_n 0) xi0
  (cec 100 0 (.getfield 279) (12, 18, 0, 0)
  (cec 103 0 (.invokevirtual 301) (210, 3, 9, 22)
  (cec 106 0 (.aload_n 0) xi0
  (cec 107 0 .dup xi0
  (cec 108 0 (.getfield 279) (12, 18, 0, 0)
  (cec 111 0 (.iconst 1) xi0
  (cec 112 0 .iadd xi0
  (cec 113 0 (.putfield 279) (12, 18, 0, 0)
  (cec 116 0 (.goto (-71)) xi0
  (cec 119 0 (.aload_n 0) xi0
  (cec 120 0 (.getfield 285) (12, 20, 0, 0)
  (cec 123 0 .ireturn xi0 []))))))))))))))))))
/-- SupplyBookModel.readText(IZ)I -/
noncomputable def cs_204 : List CE := cec 0 0 (.aload_n 0) xi0
  (cec 1 0 (.iconst 0) xi0
  (cec 2 0 (.putfield 272) (12, 1, 0, 0)
  (cec 5 0 (.aload_n 0) xi0
  (cec 6 0 (.iconst 0) xi0
  (cec 7 0 (.putfield 279) (12, 18, 0, 0)
  (cec 10 0 (.aload_n 0) xi0
  (cec 11 0 (.iload_n 1) xi0
  (cec 12 0 (.putfield 282) (12, 19, 0, 0)
  (cec 15 0 (.aload_n 0) xi0
  (cec 16 0 (.iconst 0) xi0
  (cec 17 0 (.putfield 285) (12, 20, 0, 0)
  (cec 20 0 (.aload_n 0) xi0
  (cec 21 0 (.iconst 0) xi0
  (cec 22 0 (.putfield 386) (12, 21, 0, 0)
  (cec 25 0 (.aload_n 0) xi0
  (cec 26 0 (.iconst 0) xi0
  (cec 27 0 (.putfield 292) (12, 22, 0, 0)
  (cec 30 0 (.aload_n 0) xi0
  (cec 31 0 (.iload_n 2) xi0
  (cec 32 0 (.putfield 383) (12, 25, 4, 0)
  (cec 35 0 (.iload_n 1) xi0
  (cec 36 0 (.ifCond .le 7) xi0
  (cec 39 0 (.iconst 1) xi0
  (cec 40 0 (.goto 4) xi0
  (cec 43 0 (.iconst 0) xi0
  (cec 44 0 (.istore_n 3) xi0
  (cec 45 19 (.iload_n 3) xi0
  (cec 46 0 (.ifCond .eq 73) xi0
  (cec 49 0 (.aload_n 0) xi0
  (cec 50 0 (.invokevirtual 288) (205, 1, 0, 22)
  (cec 53 0 (.ifCond .eq 66) xi0
  (cec 56 0 (.aload_n 0) xi0
  (cec 57 0 (.invokevirtual 394) (206, 1, 9, 22)
  (cec 60 0 (.aload_n 0) xi0
  (cec 61 0 (.invokevirtual 288) (205, 1, 0, 22)
  (cec 64 0 (.ifCond .eq 18) xi0
  (cec 67 0 (.aload_n 0) xi0
  (cec 68 0 (.getfield 279) (12, 18, 0, 0)
  (cec 71 0 (.aload_n 0) xi0
  (cec 72 0 (.getfield 282) (12, 19, 0, 0)
  (cec 75 0 (.if_icmp .ge 7) xi0
  (cec 78 0 (.iconst 1) xi0
  (cec 79 0 (.goto 4) xi0
  (cec 82 0 (.iconst 0) xi0
  (cec 83 3 (.istore_n 3) xi0
  (cec 84 0 (.iload_n 3) xi0
  (cec 85 0 (.ifCond .eq 21) xi0 cs_204_1)))))))))))))))))))))))))))))))))))))))))))))))
/-- SupplyBookModel.isGood()Z -/
noncomputable def cs_205 : List CE := cec 0 0 (.aload_n 0) xi0
  (cec 1 0 (.getfield 285) (12, 20, 0, 0)
  (cec 4 0 (.ifCond .ne 7) xi0
  (cec 7 0 (.iconst 1) xi0
  (cec 8 0 (.goto 4) xi0
  (cec 11 0 (.iconst 0) xi0
  (cec 12 0 .ireturn xi0 []))))))
noncomputable def cs_206_3 : List CE := cec 283 0 (.aload_n 0) xi0
  (cec 284 0 (.getfield 386) (12, 21, 0, 0)
  (cec 287 0 (.aload_n 0) xi0
  (cec 288 0 (.bipush 15) xi0
  (cec 290 0 (.invokevirtual 332) (214, 2, 0, 22)
  (cec 293 0 .iastore xi0
  (cec 294 0 (.goto 36) xi0
  (cec 297 0 (.aload_n 0) xi0
  (cec 298 0 (.getfield 54) (12, 28, 2, 0)
  (cec 301 0 (.aload_n 0) xi0
  (cec 302 0 (.getfield 386) (12, 21, 0, 0)
  (cec 305 0 (.aload_n 0) xi0
  (cec 306 0 (.iload_n 1) xi0
  (cec 307 0 (.bipush 109) xi0
  (cec 309 0 (.if_icmp .eq 9) xi0
  (cec 312 0 (.iload_n 1) xi0
  (cec 313 0 (.bipush 99) xi0
  (cec 315 0 (.if_icmp .ne 8) xi0
  (cec 318 0 (.bipush 100) xi0
  (cec 320 0 (.goto 6) xi0
  (cec 323 0 (.ldc_w 331) (0, 0, 999999, 0)
  (cec 326 3 (.invokevirtual 332) (214, 2, 0, 22)
  (cec 329 0 .iastore xi0
  (cec 330 0 (.aload_n 0) xi0
  (cec 331 0 (.getfield 63) (12, 31, 2, 0)
  (cec 334 0 (.aload_n 0) xi0
  (cec 335 0 (.getfield 386) (12, 21, 0, 0)
  (cec 338 0 (.aload_n 0) xi0
  (cec 339 0 (.getfield 292) (12, 22, 0, 0)
  (cec 342 0 .iastore xi0
  (cec 343 0 (.aload_n 0) xi0
  (cec 344 0 .dup xi0
  (cec 345 0 (.getfield 386) (12, 21, 0, 0)
  (cec 348 0 (.iconst 1) xi0
  (cec 349 0 .iadd xi0
  (cec 350 0 (.putfield 386) (12, 21, 0, 0)
  (cec 353 0 .return_ xi0 []))))))))))))))))))))))))))))))))))))
noncomputable def cs_206_2 : List CE := cec 191 0 (.aload_n 0) xi0
  (cec 192 0 (.getfield 386) (12, 21, 0, 0)
  (cec 195 0 (.aload_n 0) xi0
  (cec 196 0 (.invokevirtual 305) (207, 1, 0, 22)
  (cec 199 0 (.bipush 48) xi0
  (cec 201 0 .isub xi0
  (cec 202 0 .iastore xi0
  (cec 203 0 (.aload_n 0) xi0
  (cec 204 0 .dup xi0
  (cec 205 0 (.getfield 279) (12, 18, 0, 0)
  (cec 208 0 (.iconst 1) xi0
  (cec 209 0 .iadd xi0
  (cec 210 0 (.putfield 279) (12, 18, 0, 0)
  (cec 213 0 (.goto 117) xi0
  (cec 216 0 (.iload_n 1) xi0
  (cec 217 0 (.bipush 120) xi0
  (cec 219 0 (.if_icmp .ne 78) xi0
  (cec 222 0 (.aload_n 0) xi0
  (cec 223 0 (.getfield 54) (12, 28, 2, 0)
  (cec 226 0 (.aload_n 0) xi0
  (cec 227 0 (.getfield 386) (12, 21, 0, 0)
  (cec 230 0 (.aload_n 0) xi0
  (cec 231 0 (.bipush 19) xi0
  (cec 233 0 (.invokevirtual 332) (214, 2, 0, 22)
  (cec 236 0 .iastore xi0
  (cec 237 0 (.aload_n 0) xi0
  (cec 238 0 (.invokevirtual 288) (205, 1, 0, 22)
  (cec 241 0 (.ifCond .eq 21) xi0
  (cec 244 0 (.aload_n 0) xi0
  (cec 245 0 (.invokevirtual 305) (207, 1, 0, 22)
  (cec 248 0 (.bipush 46) xi0
  (cec 250 0 (.if_icmp .eq 12) xi0
  (cec 253 0 (.aload_n 0) xi0
  (cec 254 0 (.iconst 1) xi0
  (cec 255 0 (.aload_n 0) xi0
  (cec 256 0 (.getfield 279) (12, 18, 0, 0)
  (cec 259 0 (.invokevirtual 301) (210, 3, 9, 22)
  (cec 262 3 (.aload_n 0) xi0
  (cec 263 0 .dup xi0
  (cec 264 0 (.getfield 279) (12, 18, 0, 0)
  (cec 267 0 (.iconst 1) xi0
  (cec 268 0 .iadd xi0
  (cec 269 0 (.putfield 279) (12, 18, 0, 0)
  (cec 272 0 (.aload_n 0) xi0
  (cec 273 0 (.invokevirtual 288) (205, 1, 0, 22)
  (cec 276 0 (.ifCond .eq 54) xi0
  (cec 279 0 (.aload_n 0) xi0
  (cec 280 0 (.getfield 57) (12, 29, 2, 0) cs_206_3)))))))))))))))))))))))))))))))))))))))))))))))
noncomputable def cs_206_1 : List CE := cec 98 0 (.aload_n 0) xi0
  (cec 99 0 (.getfield 386) (12, 21, 0, 0)
  (cec 102 0 (.iconst 0) xi0
  (cec 103 0 .iastore xi0
  (cec 104 0 (.aload_n 0) xi0
  (cec 105 0 (.getfield 57) (12, 29, 2, 0)
  (cec 108 0 (.aload_n 0) xi0
  (cec 109 0 (.getfield 386) (12, 21, 0, 0)
  (cec 112 0 (.iconst 0) xi0
  (cec 113 0 .iastore xi0
  (cec 114 0 (.aload_n 0) xi0
  (cec 115 0 (.getfield 60) (12, 30, 2, 0)
  (cec 118 0 (.aload_n 0) xi0
  (cec 119 0 (.getfield 386) (12, 21, 0, 0)
  (cec 122 0 (.aload_n 0) xi0
  (cec 123 0 (.getfield 292) (12, 22, 0, 0)
  (cec 126 0 .iastore xi0
  (cec 127 0 (.aload_n 0) xi0
  (cec 128 0 .dup xi0
  (cec 129 0 (.getfield 279) (12, 18, 0, 0)
  (cec 132 0 (.iconst 1) xi0
  (cec 133 0 .iadd xi0
  (cec 134 0 (.putfield 279) (12, 18, 0, 0)
  (cec 137 0 (.iload_n 1) xi0
  (cec 138 0 (.invokestatic 377) (208, 1, 0, 0)
  (cec 141 0 (.ifCond .eq 75) xi0
  (cec 144 0 (.aload_n 0) xi0
  (cec 145 0 (.invokevirtual 389) (211, 1, 9, 22)
  (cec 148 0 (.aload_n 0) xi0
  (cec 149 0 (.invokevirtual 288) (205, 1, 0, 22)
  (cec 152 0 (.ifCond .eq 178) xi0
  (cec 155 0 (.iload_n 1) xi0
  (cec 156 0 (.bipush 115) xi0
  (cec 158 0 (.if_icmp .ne 172) xi0
  (cec 161 0 (.aload_n 0) xi0
  (cec 162 0 (.invokevirtual 305) (207, 1, 0, 22)
  (cec 165 0 .i2l xi0
  (cec 166 0 (.ldc2_w 392) (0, 0, 49, 0)
  (cec 169 0 (.ldc2_w 311) (0, 0, 57, 0)
  (cec 172 0 (.invokestatic 246) (195, 3, 0, 0)
  (cec 175 0 (.ifCond .ne 12) xi0
  (cec 178 0 (.aload_n 0) xi0
  (cec 179 0 (.iconst 1) xi0
  (cec 180 0 (.aload_n 0) xi0
  (cec 181 0 (.getfield 279) (12, 18, 0, 0)
  (cec 184 0 (.invokevirtual 301) (210, 3, 9, 22)
  (cec 187 3 (.aload_n 0) xi0
  (cec 188 0 (.getfield 54) (12, 28, 2, 0) cs_206_2)))))))))))))))))))))))))))))))))))))))))))))))
/-- SupplyBookModel.clause()V -/
noncomputable def cs_206 : List CE := cec 0 0 (.aload_n 0) xi0
  (cec 1 0 (.invokevirtual 305) (207, 1, 0, 22)
  (cec 4 0 (.istore_n 1) xi0
  (cec 5 0 (.iload_n 1) xi0
  (cec 6 0 (.invokestatic 377) (208, 1, 0, 0)
  (cec 9 0 (.ifCond .ne 22) xi0
  (cec 12 0 (.iload_n 1) xi0
  (cec 13 0 (.invokestatic 380) (209, 1, 0, 0)
  (cec 16 0 (.ifCond .ne 15) xi0
  (cec 19 0 (.aload_n 0) xi0
  (cec 20 0 (.iconst 1) xi0
  (cec 21 0 (.aload_n 0) xi0
  (cec 22 0 (.getfield 279) (12, 18, 0, 0)
  (cec 25 0 (.invokevirtual 301) (210, 3, 9, 22)
  (cec 28 0 (.goto 48) xi0
  (cec 31 7 (.aload_n 0) xi0
  (cec 32 0 (.getfield 383) (12, 25, 4, 0)
  (cec 35 0 (.ifCond .ne 23) xi0
  (cec 38 0 (.iload_n 1) xi0
  (cec 39 0 (.invokestatic 380) (209, 1, 0, 0)
  (cec 42 0 (.ifCond .eq 16) xi0
  (cec 45 0 (.aload_n 0) xi0
  (cec 46 0 (.bipush 6) xi0
  (cec 48 0 (.aload_n 0) xi0
  (cec 49 0 (.getfield 279) (12, 18, 0, 0)
  (cec 52 0 (.invokevirtual 301) (210, 3, 9, 22)
  (cec 55 0 (.goto 21) xi0
  (cec 58 0 (.aload_n 0) xi0
  (cec 59 0 (.getfield 386) (12, 21, 0, 0)
  (cec 62 0 (.bipush 16) xi0
  (cec 64 0 (.if_icmp .ne 12) xi0
  (cec 67 0 (.aload_n 0) xi0
  (cec 68 0 (.iconst 4) xi0
  (cec 69 0 (.aload_n 0) xi0
  (cec 70 0 (.getfield 279) (12, 18, 0, 0)
  (cec 73 0 (.invokevirtual 301) (210, 3, 9, 22)
  (cec 76 7 (.aload_n 0) xi0
  (cec 77 0 (.invokevirtual 288) (205, 1, 0, 22)
  (cec 80 0 (.ifCond .ne 4) xi0
  (cec 83 0 .return_ xi0
  (cec 84 0 (.aload_n 0) xi0
  (cec 85 0 (.getfield 51) (12, 27, 2, 0)
  (cec 88 0 (.aload_n 0) xi0
  (cec 89 0 (.getfield 386) (12, 21, 0, 0)
  (cec 92 0 (.iload_n 1) xi0
  (cec 93 0 .iastore xi0
  (cec 94 0 (.aload_n 0) xi0
  (cec 95 0 (.getfield 54) (12, 28, 2, 0) cs_206_1)))))))))))))))))))))))))))))))))))))))))))))))
/-- SupplyBookModel.here()I -/
noncomputable def cs_207 : List CE := cec 0 0 (.aload_n 0) xi0
  (cec 1 0 (.getfield 279) (12, 18, 0, 0)
  (cec 4 0 (.aload_n 0) xi0
  (cec 5 0 (.getfield 282) (12, 19, 0, 0)
  (cec 8 0 (.if_icmp .ge 19) xi0
  (cec 11 0 (.aload_n 0) xi0
  (cec 12 0 (.getfield 7) (12, 0, 2, 0)
  (cec 15 0 (.aload_n 0) xi0
  (cec 16 0 (.getfield 279) (12, 18, 0, 0)
  (cec 19 0 .baload xi0
  (cec 20 0 (.sipush 255) xi0
  (cec 23 0 .iand xi0
  (cec 24 0 (.goto 4) xi0
  (cec 27 0 (.iconst 0) xi0
  (cec 28 0 .ireturn xi0 []))))))))))))))
/-- SupplyBookModel.isOfWords(I)Z -/
noncomputable def cs_208 : List CE := cec 0 0 (.iload_n 0) xi0
  (cec 1 0 (.bipush 111) xi0
  (cec 3 0 (.if_icmp .eq 21) xi0
  (cec 6 0 (.iload_n 0) xi0
  (cec 7 0 (.bipush 110) xi0
  (cec 9 0 (.if_icmp .eq 15) xi0
  (cec 12 0 (.iload_n 0) xi0
  (cec 13 0 (.bipush 115) xi0
  (cec 15 0 (.if_icmp .eq 9) xi0
  (cec 18 0 (.iload_n 0) xi0
  (cec 19 0 (.bipush 116) xi0
  (cec 21 0 (.if_icmp .ne 7) xi0
  (cec 24 0 (.iconst 1) xi0
  (cec 25 0 (.goto 4) xi0
  (cec 28 0 (.iconst 0) xi0
  (cec 29 0 .ireturn xi0 [])))))))))))))))
/-- SupplyBookModel.isOfLaws(I)Z -/
noncomputable def cs_209 : List CE := cec 0 0 (.iload_n 0) xi0
  (cec 1 0 (.bipush 109) xi0
  (cec 3 0 (.if_icmp .eq 33) xi0
  (cec 6 0 (.iload_n 0) xi0
  (cec 7 0 (.bipush 99) xi0
  (cec 9 0 (.if_icmp .eq 27) xi0
  (cec 12 0 (.iload_n 0) xi0
  (cec 13 0 (.bipush 98) xi0
  (cec 15 0 (.if_icmp .eq 21) xi0
  (cec 18 0 (.iload_n 0) xi0
  (cec 19 0 (.bipush 101) xi0
  (cec 21 0 (.if_icmp .eq 15) xi0
  (cec 24 0 (.iload_n 0) xi0
  (cec 25 0 (.bipush 100) xi0
  (cec 27 0 (.if_icmp .eq 9) xi0
  (cec 30 0 (.iload_n 0) xi0
  (cec 31 0 (.bipush 120) xi0
  (cec 33 0 (.if_icmp .ne 7) xi0
  (cec 36 0 (.iconst 1) xi0
  (cec 37 0 (.goto 4) xi0
  (cec 40 0 (.iconst 0) xi0
  (cec 41 0 .ireturn xi0 [])))))))))))))))))))))
/-- SupplyBookModel.fails(II)V -/
noncomputable def cs_210 : List CE := cec 0 0 (.aload_n 0) xi0
  (cec 1 0 (.aload_n 0) xi0
  (cec 2 0 (.getfield 285) (12, 20, 0, 0)
  (cec 5 0 (.ifCond .ge 10) xi0
  (cec 8 0 (.aload_n 0) xi0
  (cec 9 0 (.getfield 285) (12, 20, 0, 0)
  (cec 12 0 (.goto 10) xi0
  (cec 15 0 (.sipush (-1000)) xi0
  (cec 18 0 (.iload_n 1) xi0
  (cec 19 0 .imul xi0
  (cec 20 0 (.iload_n 2) xi0
  (cec 21 0 .isub xi0
  (cec 22 0 (.putfield 285) (12, 20, 0, 0)
  (cec 25 0 .return_ xi0 [])))))))))))))
/-- SupplyBookModel.condition()V -/
noncomputable def cs_211 : List CE := cec 0 0 (.aload_n 0) xi0
  (cec 1 0 (.iconst 0) xi0
  (cec 2 0 (.putfield 295) (12, 24, 0, 0)
  (cec 5 0 (.aload_n 0) xi0
  (cec 6 0 (.iconst 0) xi0
  (cec 7 0 (.putfield 298) (12, 23, 0, 0)
  (cec 10 0 (.aload_n 0) xi0
  (cec 11 0 (.iconst 0) xi0
  (cec 12 0 (.putfield 368) (12, 26, 4, 0)
  (cec 15 0 (.aload_n 0) xi0
  (cec 16 0 (.invokevirtual 305) (207, 1, 0, 22)
  (cec 19 0 (.bipush 40) xi0
  (cec 21 0 (.if_icmp .eq 12) xi0
  (cec 24 0 (.aload_n 0) xi0
  (cec 25 0 (.iconst 1) xi0
  (cec 26 0 (.aload_n 0) xi0
  (cec 27 0 (.getfield 279) (12, 18, 0, 0)
  (cec 30 0 (.invokevirtual 301) (210, 3, 9, 22)
  (cec 33 0 (.aload_n 0) xi0
  (cec 34 0 (.invokevirtual 288) (205, 1, 0, 22)
  (cec 37 0 (.ifCond .ne 4) xi0
  (cec 40 0 .return_ xi0
  (cec 41 0 (.aload_n 0) xi0
  (cec 42 0 (.invokevirtual 328) (212, 1, 9, 22)
  (cec 45 0 (.iconst 1) xi0
  (cec 46 0 (.istore_n 1) xi0
  (cec 47 7 (.aload_n 0) xi0
  (cec 48 0 (.invokevirtual 288) (205, 1, 0, 22)
  (cec 51 0 (.ifCond .eq 33) xi0
  (cec 54 0 (.aload_n 0) xi0
  (cec 55 0 (.getfield 368) (12, 26, 4, 0)
  (cec 58 0 (.ifCond .ne 26) xi0
  (cec 61 0 (.iload_n 1) xi0
  (cec 62 0 (.ifCond .eq 7) xi0
  (cec 65 0 (.aload_n 0) xi0
  (cec 66 0 (.invokevirtual 371) (213, 1, 9, 22)
  (cec 69 0 (.aload_n 0) xi0
  (cec 70 0 (.invokevirtual 288) (205, 1, 0, 22)
  (cec 73 0 (.ifCond .eq (-26)) xi0
  (cec 76 0 (.aload_n 0) xi0
  (cec 77 0 (.invokevirtual 374) (228, 1, 0, 22)
  (cec 80 0 (.istore_n 1) xi0
  (cec 81 0 (.goto (-34)) xi0
  (cec 84 0 .return_ xi0 [])))))))))))))))))))))))))))))))))))))))))))
/-- SupplyBookModel.opens()V -/
noncomputable def cs_212 : List CE := cec 0 0 (.aload_n 0) xi0
  (cec 1 0 (.getfield 298) (12, 23, 0, 0)
  (cec 4 0 (.bipush 8) xi0
  (cec 6 0 (.if_icmp .ne 12) xi0
  (cec 9 0 (.aload_n 0) xi0
  (cec 10 0 (.iconst 5) xi0
  (cec 11 0 (.aload_n 0) xi0
  (cec 12 0 (.getfield 279) (12, 18, 0, 0)
  (cec 15 0 (.invokevirtual 301) (210, 3, 9, 22)
  (cec 18 3 (.aload_n 0) xi0
  (cec 19 0 (.getfield 72) (12, 34, 2, 0)
  (cec 22 0 (.aload_n 0) xi0
  (cec 23 0 (.getfield 295) (12, 24, 0, 0)
  (cec 26 0 (.aload_n 0) xi0
  (cec 27 0 (.invokevirtual 305) (207, 1, 0, 22)
  (cec 30 0 .iastore xi0
  (cec 31 0 (.aload_n 0) xi0
  (cec 32 0 .dup xi0
  (cec 33 0 (.getfield 295) (12, 24, 0, 0)
  (cec 36 0 (.iconst 1) xi0
  (cec 37 0 .iadd xi0
  (cec 38 0 (.putfield 295) (12, 24, 0, 0)
  (cec 41 0 (.aload_n 0) xi0
  (cec 42 0 .dup xi0
  (cec 43 0 (.getfield 298) (12, 23, 0, 0)
  (cec 46 0 (.iconst 1) xi0
  (cec 47 0 .iadd xi0
  (cec 48 0 (.putfield 298) (12, 23, 0, 0)
  (cec 51 0 (.aload_n 0) xi0
  (cec 52 0 .dup xi0
  (cec 53 0 (.getfield 279) (12, 18, 0, 0)
  (cec 56 0 (.iconst 1) xi0
  (cec 57 0 .iadd xi0
  (cec 58 0 (.putfield 279) (12, 18, 0, 0)
  (cec 61 0 .return_ xi0 []))))))))))))))))))))))))))))))))))
/-- SupplyBookModel.piece()V -/
noncomputable def cs_213 : List CE := cec 0 3 (.aload_n 0) xi0
  (cec 1 0 (.invokevirtual 288) (205, 1, 0, 22)
  (cec 4 0 (.ifCond .eq 28) xi0
  (cec 7 0 (.aload_n 0) xi0
  (cec 8 0 (.invokevirtual 305) (207, 1, 0, 22)
  (cec 11 0 (.bipush 33) xi0
  (cec 13 0 (.if_icmp .eq 12) xi0
  (cec 16 0 (.aload_n 0) xi0
  (cec 17 0 (.invokevirtual 305) (207, 1, 0, 22)
  (cec 20 0 (.bipush 40) xi0
  (cec 22 0 (.if_icmp .ne 10) xi0
  (cec 25 0 (.aload_n 0) xi0
  (cec 26 0 (.invokevirtual 328) (212, 1, 9, 22)
  (cec 29 0 (.goto (-29)) xi0
  (cec 32 3 (.aload_n 0) xi0
  (cec 33 0 (.invokevirtual 288) (205, 1, 0, 22)
  (cec 36 0 (.ifCond .ne 4) xi0
  (cec 39 0 .return_ xi0
  (cec 40 0 (.aload_n 0) xi0
  (cec 41 0 (.invokevirtual 305) (207, 1, 0, 22)
  (cec 44 0 (.bipush 117) xi0
  (cec 46 0 (.if_icmp .ne 27) xi0
  (cec 49 0 (.aload_n 0) xi0
  (cec 50 0 .dup xi0
  (cec 51 0 (.getfield 279) (12, 18, 0, 0)
  (cec 54 0 (.iconst 1) xi0
  (cec 55 0 .iadd xi0
  (cec 56 0 (.putfield 279) (12, 18, 0, 0)
  (cec 59 0 (.aload_n 0) xi0
  (cec 60 0 (.iconst 2) xi0
  (cec 61 0 (.aload_n 0) xi0
  (cec 62 0 (.bipush 39) xi0
  (cec 64 0 (.invokevirtual 332) (214, 2, 0, 22)
  (cec 67 0 (.invokevirtual 325) (216, 3, 9, 22)
  (cec 70 0 (.goto 7) xi0
  (cec 73 0 (.aload_n 0) xi0
  (cec 74 0 (.invokevirtual 359) (217, 1, 9, 22)
  (cec 77 0 (.aload_n 0) xi0
  (cec 78 0 (.invokevirtual 288) (205, 1, 0, 22)
  (cec 81 0 (.ifCond .eq 7) xi0
  (cec 84 0 (.aload_n 0) xi0
  (cec 85 0 (.invokevirtual 362) (227, 1, 9, 22)
  (cec 88 0 .return_ xi0 []))))))))))))))))))))))))))))))))))))))))))
noncomputable def cs_214_1 : List CE := cec 85 0 (.if_icmp .le 9) xi0
  (cec 88 0 (.aload_n 0) xi0
  (cec 89 0 (.iconst 3) xi0
  (cec 90 0 (.iload_n 2) xi0
  (cec 91 0 (.invokevirtual 301) (210, 3, 9, 22)
  (cec 94 0 (.iload_n 3) xi0
  (cec 95 0 .ireturn xi0 []))))))
/-- SupplyBookModel.reads(I)I -/
noncomputable def cs_214 : List CE := cec 0 0 (.aload_n 0) xi0
  (cec 1 0 (.getfield 279) (12, 18, 0, 0)
  (cec 4 0 (.istore_n 2) xi0
  (cec 5 0 (.iconst 0) xi0
  (cec 6 0 (.istore_n 3) xi0
  (cec 7 0 (.aload_n 0) xi0
  (cec 8 0 (.invokevirtual 313) (215, 1, 0, 22)
  (cec 11 0 (.ifCond .ne 12) xi0
  (cec 14 0 (.aload_n 0) xi0
  (cec 15 0 (.iconst 1) xi0
  (cec 16 0 (.aload_n 0) xi0
  (cec 17 0 (.getfield 279) (12, 18, 0, 0)
  (cec 20 0 (.invokevirtual 301) (210, 3, 9, 22)
  (cec 23 31 (.aload_n 0) xi0
  (cec 24 0 (.invokevirtual 288) (205, 1, 0, 22)
  (cec 27 0 (.ifCond .eq 56) xi0
  (cec 30 0 (.aload_n 0) xi0
  (cec 31 0 (.invokevirtual 313) (215, 1, 0, 22)
  (cec 34 0 (.ifCond .eq 49) xi0
  (cec 37 0 (.aload_n 0) xi0
  (cec 38 0 (.getfield 279) (12, 18, 0, 0)
  (cec 41 0 (.iload_n 2) xi0
  (cec 42 0 (.bipush 6) xi0
  (cec 44 0 .iadd xi0
  (cec 45 0 (.if_icmp .ne 12) xi0
  (cec 48 0 (.aload_n 0) xi0
  (cec 49 0 (.iconst 2) xi0
  (cec 50 0 (.aload_n 0) xi0
  (cec 51 0 (.getfield 279) (12, 18, 0, 0)
  (cec 54 0 (.invokevirtual 301) (210, 3, 9, 22)
  (cec 57 31 (.bipush 10) xi0
  (cec 59 0 (.iload_n 3) xi0
  (cec 60 0 .imul xi0
  (cec 61 0 (.aload_n 0) xi0
  (cec 62 0 (.invokevirtual 305) (207, 1, 0, 22)
  (cec 65 0 .iadd xi0
  (cec 66 0 (.bipush 48) xi0
  (cec 68 0 .isub xi0
  (cec 69 0 (.istore_n 3) xi0
  (cec 70 0 (.aload_n 0) xi0
  (cec 71 0 .dup xi0
  (cec 72 0 (.getfield 279) (12, 18, 0, 0)
  (cec 75 0 (.iconst 1) xi0
  (cec 76 0 .iadd xi0
  (cec 77 0 (.putfield 279) (12, 18, 0, 0)
  (cec 80 0 (.goto (-57)) xi0
  (cec 83 0 (.iload_n 3) xi0
  (cec 84 0 (.iload_n 1) xi0 cs_214_1)))))))))))))))))))))))))))))))))))))))))))))))
/-- SupplyBookModel.seesDigit()Z -/
noncomputable def cs_215 : List CE := cec 0 0 (.aload_n 0) xi0
  (cec 1 0 (.invokevirtual 305) (207, 1, 0, 22)
  (cec 4 0 .i2l xi0
  (cec 5 0 (.ldc2_w 309) (0, 0, 48, 0)
  (cec 8 0 (.ldc2_w 311) (0, 0, 57, 0)
  (cec 11 0 (.invokestatic 246) (195, 3, 0, 0)
  (cec 14 0 .ireturn xi0 []))))))
/-- SupplyBookModel.emit(II)V -/
noncomputable def cs_216 : List CE := cec 0 0 (.aload_n 0) xi0
  (cec 1 0 (.invokevirtual 288) (205, 1, 0, 22)
  (cec 4 0 (.ifCond .ne 4) xi0
  (cec 7 0 .return_ xi0
  (cec 8 0 (.aload_n 0) xi0
  (cec 9 0 (.getfield 66) (12, 32, 2, 0)
  (cec 12 0 (.aload_n 0) xi0
  (cec 13 0 (.getfield 292) (12, 22, 0, 0)
  (cec 16 0 (.iload_n 1) xi0
  (cec 17 0 .iastore xi0
  (cec 18 0 (.aload_n 0) xi0
  (cec 19 0 (.getfield 69) (12, 33, 2, 0)
  (cec 22 0 (.aload_n 0) xi0
  (cec 23 0 (.getfield 292) (12, 22, 0, 0)
  (cec 26 0 (.iload_n 2) xi0
  (cec 27 0 .iastore xi0
  (cec 28 0 (.aload_n 0) xi0
  (cec 29 0 .dup xi0
  (cec 30 0 (.getfield 292) (12, 22, 0, 0)
  (cec 33 0 (.iconst 1) xi0
  (cec 34 0 .iadd xi0
  (cec 35 0 (.putfield 292) (12, 22, 0, 0)
  (cec 38 0 .return_ xi0 []))))))))))))))))))))))
/-- SupplyBookModel.expression()V -/
noncomputable def cs_217 : List CE := cec 0 0 (.iconst 1) xi0
  (cec 1 0 (.istore_n 1) xi0
  (cec 2 0 (.aload_n 0) xi0
  (cec 3 0 (.iconst 0) xi0
  (cec 4 0 (.putfield 349) (12, 35, 4, 0)
  (cec 7 7 (.iload_n 1) xi0
  (cec 8 0 (.ifCond .eq 49) xi0
  (cec 11 0 (.aload_n 0) xi0
  (cec 12 0 (.invokevirtual 288) (205, 1, 0, 22)
  (cec 15 0 (.ifCond .eq 42) xi0
  (cec 18 0 (.aload_n 0) xi0
  (cec 19 0 (.getfield 349) (12, 35, 4, 0)
  (cec 22 0 (.ifCond .ne 7) xi0
  (cec 25 0 (.aload_n 0) xi0
  (cec 26 0 (.invokevirtual 353) (218, 1, 9, 22)
  (cec 29 3 (.aload_n 0) xi0
  (cec 30 0 (.iconst 0) xi0
  (cec 31 0 (.putfield 349) (12, 35, 4, 0)
  (cec 34 0 (.aload_n 0) xi0
  (cec 35 0 (.invokevirtual 288) (205, 1, 0, 22)
  (cec 38 0 (.ifCond .eq 14) xi0
  (cec 41 0 (.aload_n 0) xi0
  (cec 42 0 (.invokevirtual 356) (220, 1, 0, 22)
  (cec 45 0 (.ifCond .eq 7) xi0
  (cec 48 0 (.iconst 1) xi0
  (cec 49 0 (.goto 4) xi0
  (cec 52 0 (.iconst 0) xi0
  (cec 53 0 (.istore_n 1) xi0
  (cec 54 0 (.goto (-47)) xi0
  (cec 57 0 .return_ xi0 [])))))))))))))))))))))))))))))
/-- SupplyBookModel.factor()V -/
noncomputable def cs_218 : List CE := cec 0 3 (.aload_n 0) xi0
  (cec 1 0 (.invokevirtual 288) (205, 1, 0, 22)
  (cec 4 0 (.ifCond .eq 19) xi0
  (cec 7 0 (.aload_n 0) xi0
  (cec 8 0 (.invokevirtual 305) (207, 1, 0, 22)
  (cec 11 0 (.bipush 91) xi0
  (cec 13 0 (.if_icmp .ne 10) xi0
  (cec 16 0 (.aload_n 0) xi0
  (cec 17 0 (.invokevirtual 328) (212, 1, 9, 22)
  (cec 20 0 (.goto (-20)) xi0
  (cec 23 3 (.aload_n 0) xi0
  (cec 24 0 (.invokevirtual 288) (205, 1, 0, 22)
  (cec 27 0 (.ifCond .ne 4) xi0
  (cec 30 0 .return_ xi0
  (cec 31 0 (.aload_n 0) xi0
  (cec 32 0 (.invokevirtual 313) (215, 1, 0, 22)
  (cec 35 0 (.ifCond .eq 18) xi0
  (cec 38 0 (.aload_n 0) xi0
  (cec 39 0 (.iconst 0) xi0
  (cec 40 0 (.aload_n 0) xi0
  (cec 41 0 (.ldc_w 331) (0, 0, 999999, 0)
  (cec 44 0 (.invokevirtual 332) (214, 2, 0, 22)
  (cec 47 0 (.invokevirtual 325) (216, 3, 9, 22)
  (cec 50 0 (.goto 44) xi0
  (cec 53 0 (.aload_n 0) xi0
  (cec 54 0 (.invokevirtual 305) (207, 1, 0, 22)
  (cec 57 0 (.invokestatic 336) (219, 1, 0, 0)
  (cec 60 0 (.ifCond .eq 25) xi0
  (cec 63 0 (.aload_n 0) xi0
  (cec 64 0 (.iconst 1) xi0
  (cec 65 0 (.aload_n 0) xi0
  (cec 66 0 (.invokevirtual 305) (207, 1, 0, 22)
  (cec 69 0 (.invokevirtual 325) (216, 3, 9, 22)
  (cec 72 0 (.aload_n 0) xi0
  (cec 73 0 .dup xi0
  (cec 74 0 (.getfield 279) (12, 18, 0, 0)
  (cec 77 0 (.iconst 1) xi0
  (cec 78 0 .iadd xi0
  (cec 79 0 (.putfield 279) (12, 18, 0, 0)
  (cec 82 0 (.goto 12) xi0
  (cec 85 0 (.aload_n 0) xi0
  (cec 86 0 (.iconst 1) xi0
  (cec 87 0 (.aload_n 0) xi0
  (cec 88 0 (.getfield 279) (12, 18, 0, 0)
  (cec 91 0 (.invokevirtual 301) (210, 3, 9, 22)
  (cec 94 0 .return_ xi0 [])))))))))))))))))))))))))))))))))))))))))))))
/-- SupplyBookModel.isValue(I)Z -/
noncomputable def cs_219 : List CE := cec 0 0 (.iload_n 0) xi0
  (cec 1 0 (.bipush 97) xi0
  (cec 3 0 (.if_icmp .eq 39) xi0
  (cec 6 0 (.iload_n 0) xi0
  (cec 7 0 (.bipush 121) xi0
  (cec 9 0 (.if_icmp .eq 33) xi0
  (cec 12 0 (.iload_n 0) xi0
  (cec 13 0 (.bipush 104) xi0
  (cec 15 0 (.if_icmp .eq 27) xi0
  (cec 18 0 (.iload_n 0) xi0
  (cec 19 0 (.bipush 107) xi0
  (cec 21 0 (.if_icmp .eq 21) xi0
  (cec 24 0 (.iload_n 0) xi0
  (cec 25 0 (.bipush 114) xi0
  (cec 27 0 (.if_icmp .eq 15) xi0
  (cec 30 0 (.iload_n 0) xi0
  (cec 31 0 (.bipush 113) xi0
  (cec 33 0 (.if_icmp .eq 9) xi0
  (cec 36 0 (.iload_n 0) xi0
  (cec 37 0 (.bipush 108) xi0
  (cec 39 0 (.if_icmp .ne 7) xi0
  (cec 42 0 (.iconst 1) xi0
  (cec 43 0 (.goto 4) xi0
  (cec 46 0 (.iconst 0) xi0
  (cec 47 0 .ireturn xi0 []))))))))))))))))))))))))
noncomputable def cs_220_2 : List CE := cec 177 0 (.invokevirtual 301) (210, 3, 9, 22)
  (cec 180 7 (.aload_n 0) xi0
  (cec 181 0 (.getfield 72) (12, 34, 2, 0)
  (cec 184 0 (.aload_n 0) xi0
  (cec 185 0 (.getfield 295) (12, 24, 0, 0)
  (cec 188 0 (.iload_n 1) xi0
  (cec 189 0 .iastore xi0
  (cec 190 0 (.aload_n 0) xi0
  (cec 191 0 .dup xi0
  (cec 192 0 (.getfield 295) (12, 24, 0, 0)
  (cec 195 0 (.iconst 1) xi0
  (cec 196 0 .iadd xi0
  (cec 197 0 (.putfield 295) (12, 24, 0, 0)
  (cec 200 0 (.aload_n 0) xi0
  (cec 201 0 .dup xi0
  (cec 202 0 (.getfield 279) (12, 18, 0, 0)
  (cec 205 0 (.iconst 1) xi0
  (cec 206 0 .iadd xi0
  (cec 207 0 (.putfield 279) (12, 18, 0, 0)
  (cec 210 0 (.iconst 1) xi0
  (cec 211 0 .ireturn xi0
  (cec 212 0 (.aload_n 0) xi0
  (cec 213 0 (.invokevirtual 316) (224, 1, 0, 22)
  (cec 216 0 (.invokestatic 346) (226, 1, 0, 0)
  (cec 219 0 (.ifCond .eq 25) xi0
  (cec 222 0 (.aload_n 0) xi0
  (cec 223 0 (.aload_n 0) xi0
  (cec 224 0 (.invokevirtual 316) (224, 1, 0, 22)
  (cec 227 0 (.iconst 0) xi0
  (cec 228 0 (.invokevirtual 325) (216, 3, 9, 22)
  (cec 231 0 (.aload_n 0) xi0
  (cec 232 0 .dup xi0
  (cec 233 0 (.getfield 295) (12, 24, 0, 0)
  (cec 236 0 (.iconst 1) xi0
  (cec 237 0 .isub xi0
  (cec 238 0 (.putfield 295) (12, 24, 0, 0)
  (cec 241 0 (.goto 12) xi0
  (cec 244 0 (.aload_n 0) xi0
  (cec 245 0 (.iconst 1) xi0
  (cec 246 0 (.aload_n 0) xi0
  (cec 247 0 (.getfield 279) (12, 18, 0, 0)
  (cec 250 0 (.invokevirtual 301) (210, 3, 9, 22)
  (cec 253 0 (.iconst 0) xi0
  (cec 254 0 .ireturn xi0 [])))))))))))))))))))))))))))))))))))))))))))
noncomputable def cs_220_1 : List CE := cec 88 0 (.iconst 0) xi0
  (cec 89 0 .ireturn xi0
  (cec 90 0 (.aload_n 0) xi0
  (cec 91 0 .dup xi0
  (cec 92 0 (.getfield 295) (12, 24, 0, 0)
  (cec 95 0 (.iconst 1) xi0
  (cec 96 0 .isub xi0
  (cec 97 0 (.putfield 295) (12, 24, 0, 0)
  (cec 100 0 (.aload_n 0) xi0
  (cec 101 0 .dup xi0
  (cec 102 0 (.getfield 298) (12, 23, 0, 0)
  (cec 105 0 (.iconst 1) xi0
  (cec 106 0 .isub xi0
  (cec 107 0 (.putfield 298) (12, 23, 0, 0)
  (cec 110 0 (.aload_n 0) xi0
  (cec 111 0 .dup xi0
  (cec 112 0 (.getfield 279) (12, 18, 0, 0)
  (cec 115 0 (.iconst 1) xi0
  (cec 116 0 .iadd xi0
  (cec 117 0 (.putfield 279) (12, 18, 0, 0)
  (cec 120 0 (.aload_n 0) xi0
  (cec 121 0 (.invokevirtual 288) (205, 1, 0, 22)
  (cec 124 0 (.ifCond .eq 14) xi0
  (cec 127 0 (.aload_n 0) xi0
  (cec 128 0 (.invokevirtual 343) (225, 1, 0, 22)
  (cec 131 0 (.ifCond .eq 7) xi0
  (cec 134 0 (.iconst 1) xi0
  (cec 135 0 (.goto 4) xi0
  (cec 138 0 (.iconst 0) xi0
  (cec 139 0 .ireturn xi0
  (cec 140 0 (.aload_n 0) xi0
  (cec 141 0 (.iconst 1) xi0
  (cec 142 0 (.invokevirtual 339) (223, 2, 9, 22)
  (cec 145 0 (.iload_n 1) xi0
  (cec 146 0 (.invokestatic 346) (226, 1, 0, 0)
  (cec 149 0 (.ifCond .eq 63) xi0
  (cec 152 0 (.aload_n 0) xi0
  (cec 153 0 (.invokevirtual 316) (224, 1, 0, 22)
  (cec 156 0 (.bipush 91) xi0
  (cec 158 0 (.if_icmp .eq 13) xi0
  (cec 161 0 (.aload_n 0) xi0
  (cec 162 0 (.invokevirtual 316) (224, 1, 0, 22)
  (cec 165 0 (.invokestatic 346) (226, 1, 0, 0)
  (cec 168 0 (.ifCond .eq 12) xi0
  (cec 171 0 (.aload_n 0) xi0
  (cec 172 0 (.iconst 1) xi0
  (cec 173 0 (.aload_n 0) xi0
  (cec 174 0 (.getfield 279) (12, 18, 0, 0) cs_220_2)))))))))))))))))))))))))))))))))))))))))))))))
/-- SupplyBookModel.goesOn()Z -/
noncomputable def cs_220 : List CE := cec 0 0 (.aload_n 0) xi0
  (cec 1 0 (.invokevirtual 305) (207, 1, 0, 22)
  (cec 4 0 (.istore_n 1) xi0
  (cec 5 0 (.iload_n 1) xi0
  (cec 6 0 (.invokestatic 319) (221, 1, 0, 0)
  (cec 9 0 (.ifCond .ne 10) xi0
  (cec 12 0 (.iload_n 1) xi0
  (cec 13 0 (.invokestatic 322) (222, 1, 0, 0)
  (cec 16 0 (.ifCond .eq 43) xi0
  (cec 19 7 (.aload_n 0) xi0
  (cec 20 0 (.iload_n 1) xi0
  (cec 21 0 (.invokestatic 322) (222, 1, 0, 0)
  (cec 24 0 (.invokevirtual 339) (223, 2, 9, 22)
  (cec 27 0 (.aload_n 0) xi0
  (cec 28 0 (.getfield 72) (12, 34, 2, 0)
  (cec 31 0 (.aload_n 0) xi0
  (cec 32 0 (.getfield 295) (12, 24, 0, 0)
  (cec 35 0 (.iload_n 1) xi0
  (cec 36 0 .iastore xi0
  (cec 37 0 (.aload_n 0) xi0
  (cec 38 0 .dup xi0
  (cec 39 0 (.getfield 295) (12, 24, 0, 0)
  (cec 42 0 (.iconst 1) xi0
  (cec 43 0 .iadd xi0
  (cec 44 0 (.putfield 295) (12, 24, 0, 0)
  (cec 47 0 (.aload_n 0) xi0
  (cec 48 0 .dup xi0
  (cec 49 0 (.getfield 279) (12, 18, 0, 0)
  (cec 52 0 (.iconst 1) xi0
  (cec 53 0 .iadd xi0
  (cec 54 0 (.putfield 279) (12, 18, 0, 0)
  (cec 57 0 (.iconst 1) xi0
  (cec 58 0 .ireturn xi0
  (cec 59 0 (.iload_n 1) xi0
  (cec 60 0 (.bipush 93) xi0
  (cec 62 0 (.if_icmp .ne 78) xi0
  (cec 65 0 (.aload_n 0) xi0
  (cec 66 0 (.iconst 1) xi0
  (cec 67 0 (.invokevirtual 339) (223, 2, 9, 22)
  (cec 70 0 (.aload_n 0) xi0
  (cec 71 0 (.invokevirtual 316) (224, 1, 0, 22)
  (cec 74 0 (.bipush 91) xi0
  (cec 76 0 (.if_icmp .eq 14) xi0
  (cec 79 0 (.aload_n 0) xi0
  (cec 80 0 (.iconst 1) xi0
  (cec 81 0 (.aload_n 0) xi0
  (cec 82 0 (.getfield 279) (12, 18, 0, 0)
  (cec 85 0 (.invokevirtual 301) (210, 3, 9, 22) cs_220_1)))))))))))))))))))))))))))))))))))))))))))))))
/-- SupplyBookModel.isTimes(I)Z -/
noncomputable def cs_221 : List CE := cec 0 0 (.iload_n 0) xi0
  (cec 1 0 (.bipush 42) xi0
  (cec 3 0 (.if_icmp .eq 15) xi0
  (cec 6 0 (.iload_n 0) xi0
  (cec 7 0 (.bipush 47) xi0
  (cec 9 0 (.if_icmp .eq 9) xi0
  (cec 12 0 (.iload_n 0) xi0
  (cec 13 0 (.bipush 37) xi0
  (cec 15 0 (.if_icmp .ne 7) xi0
  (cec 18 0 (.iconst 1) xi0
  (cec 19 0 (.goto 4) xi0
  (cec 22 0 (.iconst 0) xi0
  (cec 23 0 .ireturn xi0 []))))))))))))
/-- SupplyBookModel.isPlus(I)Z -/
noncomputable def cs_222 : List CE := cec 0 0 (.iload_n 0) xi0
  (cec 1 0 (.bipush 43) xi0
  (cec 3 0 (.if_icmp .eq 9) xi0
  (cec 6 0 (.iload_n 0) xi0
  (cec 7 0 (.bipush 45) xi0
  (cec 9 0 (.if_icmp .ne 7) xi0
  (cec 12 0 (.iconst 1) xi0
  (cec 13 0 (.goto 4) xi0
  (cec 16 0 (.iconst 0) xi0
  (cec 17 0 .ireturn xi0 [])))))))))
/-- SupplyBookModel.sums(Z)V -/
noncomputable def cs_223 : List CE := cec 0 7 (.aload_n 0) xi0
  (cec 1 0 (.invokevirtual 316) (224, 1, 0, 22)
  (cec 4 0 (.invokestatic 319) (221, 1, 0, 0)
  (cec 7 0 (.ifCond .ne 17) xi0
  (cec 10 0 (.iload_n 1) xi0
  (cec 11 0 (.ifCond .eq 35) xi0
  (cec 14 0 (.aload_n 0) xi0
  (cec 15 0 (.invokevirtual 316) (224, 1, 0, 22)
  (cec 18 0 (.invokestatic 322) (222, 1, 0, 0)
  (cec 21 0 (.ifCond .eq 25) xi0
  (cec 24 0 (.aload_n 0) xi0
  (cec 25 0 (.aload_n 0) xi0
  (cec 26 0 (.invokevirtual 316) (224, 1, 0, 22)
  (cec 29 0 (.iconst 0) xi0
  (cec 30 0 (.invokevirtual 325) (216, 3, 9, 22)
  (cec 33 0 (.aload_n 0) xi0
  (cec 34 0 .dup xi0
  (cec 35 0 (.getfield 295) (12, 24, 0, 0)
  (cec 38 0 (.iconst 1) xi0
  (cec 39 0 .isub xi0
  (cec 40 0 (.putfield 295) (12, 24, 0, 0)
  (cec 43 0 (.goto (-43)) xi0
  (cec 46 0 .return_ xi0 []))))))))))))))))))))))
/-- SupplyBookModel.top()I -/
noncomputable def cs_224 : List CE := cec 0 0 (.aload_n 0) xi0
  (cec 1 0 (.getfield 295) (12, 24, 0, 0)
  (cec 4 0 (.ifCond .le 17) xi0
  (cec 7 0 (.aload_n 0) xi0
  (cec 8 0 (.getfield 72) (12, 34, 2, 0)
  (cec 11 0 (.aload_n 0) xi0
  (cec 12 0 (.getfield 295) (12, 24, 0, 0)
  (cec 15 0 (.iconst 1) xi0
  (cec 16 0 .isub xi0
  (cec 17 0 .iaload xi0
  (cec 18 0 (.goto 4) xi0
  (cec 21 0 (.iconst 0) xi0
  (cec 22 0 .ireturn xi0 []))))))))))))
/-- SupplyBookModel.goesOnBehind()Z -/
noncomputable def cs_225 : List CE := cec 0 0 (.aload_n 0) xi0
  (cec 1 0 (.iconst 1) xi0
  (cec 2 0 (.putfield 349) (12, 35, 4, 0)
  (cec 5 0 (.iconst 1) xi0
  (cec 6 0 .ireturn xi0 []))))
/-- SupplyBookModel.isSign(I)Z -/
noncomputable def cs_226 : List CE := cec 0 0 (.iload_n 0) xi0
  (cec 1 0 (.bipush 60) xi0
  (cec 3 0 (.if_icmp .eq 15) xi0
  (cec 6 0 (.iload_n 0) xi0
  (cec 7 0 (.bipush 62) xi0
  (cec 9 0 (.if_icmp .eq 9) xi0
  (cec 12 0 (.iload_n 0) xi0
  (cec 13 0 (.bipush 61) xi0
  (cec 15 0 (.if_icmp .ne 7) xi0
  (cec 18 0 (.iconst 1) xi0
  (cec 19 0 (.goto 4) xi0
  (cec 22 0 (.iconst 0) xi0
  (cec 23 0 .ireturn xi0 []))))))))))))
/-- SupplyBookModel.ends()V -/
noncomputable def cs_227 : List CE := cec 0 3 (.aload_n 0) xi0
  (cec 1 0 (.invokevirtual 316) (224, 1, 0, 22)
  (cec 4 0 (.bipush 33) xi0
  (cec 6 0 (.if_icmp .ne 32) xi0
  (cec 9 0 (.aload_n 0) xi0
  (cec 10 0 (.iconst 3) xi0
  (cec 11 0 (.iconst 0) xi0
  (cec 12 0 (.invokevirtual 325) (216, 3, 9, 22)
  (cec 15 0 (.aload_n 0) xi0
  (cec 16 0 .dup xi0
  (cec 17 0 (.getfield 295) (12, 24, 0, 0)
  (cec 20 0 (.iconst 1) xi0
  (cec 21 0 .isub xi0
  (cec 22 0 (.putfield 295) (12, 24, 0, 0)
  (cec 25 0 (.aload_n 0) xi0
  (cec 26 0 .dup xi0
  (cec 27 0 (.getfield 298) (12, 23, 0, 0)
  (cec 30 0 (.iconst 1) xi0
  (cec 31 0 .isub xi0
  (cec 32 0 (.putfield 298) (12, 23, 0, 0)
  (cec 35 0 (.goto (-35)) xi0
  (cec 38 0 .return_ xi0 [])))))))))))))))))))))
noncomputable def cs_228_1 : List CE := cec 82 0 (.iconst 1) xi0
  (cec 83 0 (.invokevirtual 365) (229, 2, 9, 22)
  (cec 86 0 (.aload_n 0) xi0
  (cec 87 0 .dup xi0
  (cec 88 0 (.getfield 295) (12, 24, 0, 0)
  (cec 91 0 (.iconst 1) xi0
  (cec 92 0 .isub xi0
  (cec 93 0 (.putfield 295) (12, 24, 0, 0)
  (cec 96 0 (.aload_n 0) xi0
  (cec 97 0 .dup xi0
  (cec 98 0 (.getfield 298) (12, 23, 0, 0)
  (cec 101 0 (.iconst 1) xi0
  (cec 102 0 .isub xi0
  (cec 103 0 (.putfield 298) (12, 23, 0, 0)
  (cec 106 0 (.aload_n 0) xi0
  (cec 107 0 .dup xi0
  (cec 108 0 (.getfield 279) (12, 18, 0, 0)
  (cec 111 0 (.iconst 1) xi0
  (cec 112 0 .iadd xi0
  (cec 113 0 (.putfield 279) (12, 18, 0, 0)
  (cec 116 0 (.aload_n 0) xi0
  (cec 117 0 (.aload_n 0) xi0
  (cec 118 0 (.getfield 295) (12, 24, 0, 0)
  (cec 121 0 (.ifCond .ne 7) xi0
  (cec 124 0 (.iconst 1) xi0
  (cec 125 0 (.goto 4) xi0
  (cec 128 0 (.iconst 0) xi0
  (cec 129 0 (.putfield 368) (12, 26, 4, 0)
  (cec 132 0 (.aload_n 0) xi0
  (cec 133 0 (.getfield 368) (12, 26, 4, 0)
  (cec 136 0 (.ifCond .ne 7) xi0
  (cec 139 0 (.aload_n 0) xi0
  (cec 140 0 (.invokevirtual 362) (227, 1, 9, 22)
  (cec 143 0 (.iconst 0) xi0
  (cec 144 0 .ireturn xi0 []))))))))))))))))))))))))))))))))))
/-- SupplyBookModel.goesBehind()Z -/
noncomputable def cs_228 : List CE := cec 0 0 (.aload_n 0) xi0
  (cec 1 0 (.invokevirtual 305) (207, 1, 0, 22)
  (cec 4 0 (.istore_n 1) xi0
  (cec 5 0 (.iload_n 1) xi0
  (cec 6 0 (.bipush 38) xi0
  (cec 8 0 (.if_icmp .eq 9) xi0
  (cec 11 0 (.iload_n 1) xi0
  (cec 12 0 (.bipush 124) xi0
  (cec 14 0 (.if_icmp .ne 50) xi0
  (cec 17 0 (.aload_n 0) xi0
  (cec 18 0 (.iload_n 1) xi0
  (cec 19 0 (.bipush 124) xi0
  (cec 21 0 (.if_icmp .ne 7) xi0
  (cec 24 0 (.iconst 1) xi0
  (cec 25 0 (.goto 4) xi0
  (cec 28 0 (.iconst 0) xi0
  (cec 29 7 (.invokevirtual 365) (229, 2, 9, 22)
  (cec 32 0 (.aload_n 0) xi0
  (cec 33 0 (.getfield 72) (12, 34, 2, 0)
  (cec 36 0 (.aload_n 0) xi0
  (cec 37 0 (.getfield 295) (12, 24, 0, 0)
  (cec 40 0 (.iload_n 1) xi0
  (cec 41 0 .iastore xi0
  (cec 42 0 (.aload_n 0) xi0
  (cec 43 0 .dup xi0
  (cec 44 0 (.getfield 295) (12, 24, 0, 0)
  (cec 47 0 (.iconst 1) xi0
  (cec 48 0 .iadd xi0
  (cec 49 0 (.putfield 295) (12, 24, 0, 0)
  (cec 52 0 (.aload_n 0) xi0
  (cec 53 0 .dup xi0
  (cec 54 0 (.getfield 279) (12, 18, 0, 0)
  (cec 57 0 (.iconst 1) xi0
  (cec 58 0 .iadd xi0
  (cec 59 0 (.putfield 279) (12, 18, 0, 0)
  (cec 62 0 (.iconst 1) xi0
  (cec 63 0 .ireturn xi0
  (cec 64 0 (.iload_n 1) xi0
  (cec 65 0 (.bipush 41) xi0
  (cec 67 0 (.if_icmp .eq 14) xi0
  (cec 70 0 (.aload_n 0) xi0
  (cec 71 0 (.iconst 1) xi0
  (cec 72 0 (.aload_n 0) xi0
  (cec 73 0 (.getfield 279) (12, 18, 0, 0)
  (cec 76 0 (.invokevirtual 301) (210, 3, 9, 22)
  (cec 79 0 (.iconst 0) xi0
  (cec 80 0 .ireturn xi0
  (cec 81 0 (.aload_n 0) xi0 cs_228_1)))))))))))))))))))))))))))))))))))))))))))))))
/-- SupplyBookModel.joins(Z)V -/
noncomputable def cs_229 : List CE := cec 0 7 (.aload_n 0) xi0
  (cec 1 0 (.invokevirtual 316) (224, 1, 0, 22)
  (cec 4 0 (.bipush 38) xi0
  (cec 6 0 (.if_icmp .eq 16) xi0
  (cec 9 0 (.iload_n 1) xi0
  (cec 10 0 (.ifCond .eq 34) xi0
  (cec 13 0 (.aload_n 0) xi0
  (cec 14 0 (.invokevirtual 316) (224, 1, 0, 22)
  (cec 17 0 (.bipush 124) xi0
  (cec 19 0 (.if_icmp .ne 25) xi0
  (cec 22 0 (.aload_n 0) xi0
  (cec 23 0 (.aload_n 0) xi0
  (cec 24 0 (.invokevirtual 316) (224, 1, 0, 22)
  (cec 27 0 (.iconst 0) xi0
  (cec 28 0 (.invokevirtual 325) (216, 3, 9, 22)
  (cec 31 0 (.aload_n 0) xi0
  (cec 32 0 .dup xi0
  (cec 33 0 (.getfield 295) (12, 24, 0, 0)
  (cec 36 0 (.iconst 1) xi0
  (cec 37 0 .isub xi0
  (cec 38 0 (.putfield 295) (12, 24, 0, 0)
  (cec 41 0 (.goto (-41)) xi0
  (cec 44 0 .return_ xi0 []))))))))))))))))))))))
noncomputable def cs_230_2 : List CE := cec 147 0 .imul xi0
  (cec 148 0 (.iload_n 2) xi0
  (cec 149 0 .iadd xi0
  (cec 150 0 (.aload_n 0) xi0
  (cec 151 0 (.getfield 69) (12, 33, 2, 0)
  (cec 154 0 (.iload_n 2) xi0
  (cec 155 0 .iaload xi0
  (cec 156 0 .iastore xi0
  (cec 157 0 (.iinc 2 1) xi0
  (cec 160 0 (.goto (-47)) xi0
  (cec 163 0 .return_ xi0 []))))))))))
noncomputable def cs_230_1 : List CE := cec 71 0 (.aload_n 0) xi0
  (cec 72 0 (.getfield 39) (12, 14, 2, 0)
  (cec 75 0 (.bipush 16) xi0
  (cec 77 0 (.iload_n 1) xi0
  (cec 78 0 .imul xi0
  (cec 79 0 (.iload_n 2) xi0
  (cec 80 0 .iadd xi0
  (cec 81 0 (.aload_n 0) xi0
  (cec 82 0 (.getfield 60) (12, 30, 2, 0)
  (cec 85 0 (.iload_n 2) xi0
  (cec 86 0 .iaload xi0
  (cec 87 0 .iastore xi0
  (cec 88 0 (.aload_n 0) xi0
  (cec 89 0 (.getfield 42) (12, 15, 2, 0)
  (cec 92 0 (.bipush 16) xi0
  (cec 94 0 (.iload_n 1) xi0
  (cec 95 0 .imul xi0
  (cec 96 0 (.iload_n 2) xi0
  (cec 97 0 .iadd xi0
  (cec 98 0 (.aload_n 0) xi0
  (cec 99 0 (.getfield 63) (12, 31, 2, 0)
  (cec 102 0 (.iload_n 2) xi0
  (cec 103 0 .iaload xi0
  (cec 104 0 .iastore xi0
  (cec 105 0 (.iinc 2 1) xi0
  (cec 108 0 (.goto (-96)) xi0
  (cec 111 0 (.iconst 0) xi0
  (cec 112 0 (.istore_n 2) xi0
  (cec 113 15 (.iload_n 2) xi0
  (cec 114 0 (.aload_n 0) xi0
  (cec 115 0 (.getfield 292) (12, 22, 0, 0)
  (cec 118 0 (.if_icmp .ge 45) xi0
  (cec 121 0 (.aload_n 0) xi0
  (cec 122 0 (.getfield 45) (12, 16, 2, 0)
  (cec 125 0 (.sipush 200) xi0
  (cec 128 0 (.iload_n 1) xi0
  (cec 129 0 .imul xi0
  (cec 130 0 (.iload_n 2) xi0
  (cec 131 0 .iadd xi0
  (cec 132 0 (.aload_n 0) xi0
  (cec 133 0 (.getfield 66) (12, 32, 2, 0)
  (cec 136 0 (.iload_n 2) xi0
  (cec 137 0 .iaload xi0
  (cec 138 0 .iastore xi0
  (cec 139 0 (.aload_n 0) xi0
  (cec 140 0 (.getfield 48) (12, 17, 2, 0)
  (cec 143 0 (.sipush 200) xi0
  (cec 146 0 (.iload_n 1) xi0 cs_230_2)))))))))))))))))))))))))))))))))))))))))))))))
/-- SupplyBookModel.keepsText(I)V -/
noncomputable def cs_230 : List CE := cec 0 0 (.aload_n 0) xi0
  (cec 1 0 (.getfield 27) (12, 10, 2, 0)
  (cec 4 0 (.iload_n 1) xi0
  (cec 5 0 (.aload_n 0) xi0
  (cec 6 0 (.getfield 386) (12, 21, 0, 0)
  (cec 9 0 .iastore xi0
  (cec 10 0 (.iconst 0) xi0
  (cec 11 0 (.istore_n 2) xi0
  (cec 12 15 (.iload_n 2) xi0
  (cec 13 0 (.aload_n 0) xi0
  (cec 14 0 (.getfield 386) (12, 21, 0, 0)
  (cec 17 0 (.if_icmp .ge 94) xi0
  (cec 20 0 (.aload_n 0) xi0
  (cec 21 0 (.getfield 30) (12, 11, 2, 0)
  (cec 24 0 (.bipush 16) xi0
  (cec 26 0 (.iload_n 1) xi0
  (cec 27 0 .imul xi0
  (cec 28 0 (.iload_n 2) xi0
  (cec 29 0 .iadd xi0
  (cec 30 0 (.aload_n 0) xi0
  (cec 31 0 (.getfield 51) (12, 27, 2, 0)
  (cec 34 0 (.iload_n 2) xi0
  (cec 35 0 .iaload xi0
  (cec 36 0 .iastore xi0
  (cec 37 0 (.aload_n 0) xi0
  (cec 38 0 (.getfield 33) (12, 12, 2, 0)
  (cec 41 0 (.bipush 16) xi0
  (cec 43 0 (.iload_n 1) xi0
  (cec 44 0 .imul xi0
  (cec 45 0 (.iload_n 2) xi0
  (cec 46 0 .iadd xi0
  (cec 47 0 (.aload_n 0) xi0
  (cec 48 0 (.getfield 54) (12, 28, 2, 0)
  (cec 51 0 (.iload_n 2) xi0
  (cec 52 0 .iaload xi0
  (cec 53 0 .iastore xi0
  (cec 54 0 (.aload_n 0) xi0
  (cec 55 0 (.getfield 36) (12, 13, 2, 0)
  (cec 58 0 (.bipush 16) xi0
  (cec 60 0 (.iload_n 1) xi0
  (cec 61 0 .imul xi0
  (cec 62 0 (.iload_n 2) xi0
  (cec 63 0 .iadd xi0
  (cec 64 0 (.aload_n 0) xi0
  (cec 65 0 (.getfield 57) (12, 29, 2, 0)
  (cec 68 0 (.iload_n 2) xi0
  (cec 69 0 .iaload xi0
  (cec 70 0 .iastore xi0 cs_230_1)))))))))))))))))))))))))))))))))))))))))))))))
/-- SupplyBookModel.counts(II)I -/
noncomputable def cs_231 : List CE := cec 0 0 (.iload_n 1) xi0
  (cec 1 0 .i2l xi0
  (cec 2 0 (.lconst 0) xi0
  (cec 3 0 (.aload_n 0) xi0
  (cec 4 0 (.getfield 397) (12, 36, 0, 0)
  (cec 7 0 (.iconst 1) xi0
  (cec 8 0 .isub xi0
  (cec 9 0 .i2l xi0
  (cec 10 0 (.invokestatic 246) (195, 3, 0, 0)
  (cec 13 0 (.ifCond .eq 15) xi0
  (cec 16 0 (.iload_n 2) xi0
  (cec 17 0 .i2l xi0
  (cec 18 0 (.lconst 0) xi0
  (cec 19 0 (.ldc2_w 254) (0, 0, 3599, 0)
  (cec 22 0 (.invokestatic 246) (195, 3, 0, 0)
  (cec 25 0 (.ifCond .ne 5) xi0
  (cec 28 0 (.iconst (-1)) xi0
  (cec 29 0 .ireturn xi0
  (cec 30 0 (.aload_n 0) xi0
  (cec 31 0 (.iload_n 2) xi0
  (cec 32 0 (.invokevirtual 412) (232, 2, 9, 22)
  (cec 35 0 (.iconst 0) xi0
  (cec 36 0 (.istore_n 3) xi0
  (cec 37 0 (.iconst 0) xi0
  (cec 38 0 (.istore 4) xi0
  (cec 40 63 (.iload 4) xi0
  (cec 42 0 (.aload_n 0) xi0
  (cec 43 0 (.getfield 27) (12, 10, 2, 0)
  (cec 46 0 (.iload_n 1) xi0
  (cec 47 0 .iaload xi0
  (cec 48 0 (.if_icmp .ge 28) xi0
  (cec 51 0 (.iload_n 3) xi0
  (cec 52 0 (.aload_n 0) xi0
  (cec 53 0 (.iload_n 1) xi0
  (cec 54 0 (.iload 4) xi0
  (cec 56 0 (.iload_n 2) xi0
  (cec 57 0 (.invokevirtual 415) (234, 4, 0, 22)
  (cec 60 0 (.ifCond .eq 7) xi0
  (cec 63 0 (.iconst 1) xi0
  (cec 64 0 (.goto 4) xi0
  (cec 67 0 (.iconst 0) xi0
  (cec 68 0 .iadd xi0
  (cec 69 0 (.istore_n 3) xi0
  (cec 70 0 (.iinc 4 1) xi0
  (cec 73 0 (.goto (-33)) xi0
  (cec 76 0 (.iload_n 3) xi0
  (cec 77 0 .ireturn xi0 []))))))))))))))))))))))))))))))))))))))))))))))
noncomputable def cs_232_1 : List CE := cec 79 0 (.if_icmp .ne 38) xi0
  (cec 82 0 (.aload_n 0) xi0
  (cec 83 0 (.getfield 33) (12, 12, 2, 0)
  (cec 86 0 (.iload_n 3) xi0
  (cec 87 0 .iaload xi0
  (cec 88 0 (.iload_n 2) xi0
  (cec 89 0 (.if_icmp .lt 6) xi0
  (cec 92 0 (.goto 25) xi0
  (cec 95 0 (.aload_n 0) xi0
  (cec 96 0 (.getfield 81) (12, 39, 2, 0)
  (cec 99 0 (.bipush 16) xi0
  (cec 101 0 (.aload_n 0) xi0
  (cec 102 0 (.getfield 33) (12, 12, 2, 0)
  (cec 105 0 (.iload_n 3) xi0
  (cec 106 0 .iaload xi0
  (cec 107 0 .imul xi0
  (cec 108 0 (.aload_n 0) xi0
  (cec 109 0 (.getfield 36) (12, 13, 2, 0)
  (cec 112 0 (.iload_n 3) xi0
  (cec 113 0 .iaload xi0
  (cec 114 0 .iadd xi0
  (cec 115 0 (.iconst 1) xi0
  (cec 116 0 .bastore xi0
  (cec 117 0 (.iinc 3 1) xi0
  (cec 120 0 (.goto (-82)) xi0
  (cec 123 0 (.iinc 2 (-1)) xi0
  (cec 126 0 (.goto (-97)) xi0
  (cec 129 0 .return_ xi0 [])))))))))))))))))))))))))))
/-- SupplyBookModel.strikes(I)V -/
noncomputable def cs_232 : List CE := cec 0 0 (.iconst 0) xi0
  (cec 1 0 (.istore_n 2) xi0
  (cec 2 15 (.iload_n 2) xi0
  (cec 3 0 (.sipush 320) xi0
  (cec 6 0 (.if_icmp .ge 16) xi0
  (cec 9 0 (.aload_n 0) xi0
  (cec 10 0 (.getfield 81) (12, 39, 2, 0)
  (cec 13 0 (.iload_n 2) xi0
  (cec 14 0 (.iconst 0) xi0
  (cec 15 0 .bastore xi0
  (cec 16 0 (.iinc 2 1) xi0
  (cec 19 0 (.goto (-17)) xi0
  (cec 22 0 (.aload_n 0) xi0
  (cec 23 0 (.getfield 397) (12, 36, 0, 0)
  (cec 26 0 (.iconst 1) xi0
  (cec 27 0 .isub xi0
  (cec 28 0 (.istore_n 2) xi0
  (cec 29 15 (.iload_n 2) xi0
  (cec 30 0 (.ifCond .lt 99) xi0
  (cec 33 0 (.bipush 16) xi0
  (cec 35 0 (.iload_n 2) xi0
  (cec 36 0 .imul xi0
  (cec 37 0 (.istore_n 3) xi0
  (cec 38 31 (.iload_n 3) xi0
  (cec 39 0 (.bipush 16) xi0
  (cec 41 0 (.iload_n 2) xi0
  (cec 42 0 .imul xi0
  (cec 43 0 (.aload_n 0) xi0
  (cec 44 0 (.getfield 27) (12, 10, 2, 0)
  (cec 47 0 (.iload_n 2) xi0
  (cec 48 0 .iaload xi0
  (cec 49 0 .iadd xi0
  (cec 50 0 (.if_icmp .ge 73) xi0
  (cec 53 0 (.aload_n 0) xi0
  (cec 54 0 (.iload_n 2) xi0
  (cec 55 0 (.iload_n 1) xi0
  (cec 56 0 (.invokevirtual 409) (233, 3, 0, 22)
  (cec 59 0 (.ifCond .eq 64) xi0
  (cec 62 0 (.aload_n 0) xi0
  (cec 63 0 (.getfield 81) (12, 39, 2, 0)
  (cec 66 0 (.iload_n 3) xi0
  (cec 67 0 .baload xi0
  (cec 68 0 (.ifCond .ne 49) xi0
  (cec 71 0 (.aload_n 0) xi0
  (cec 72 0 (.getfield 30) (12, 11, 2, 0)
  (cec 75 0 (.iload_n 3) xi0
  (cec 76 0 .iaload xi0
  (cec 77 0 (.bipush 120) xi0 cs_232_1)))))))))))))))))))))))))))))))))))))))))))))))
/-- SupplyBookModel.isInForce(II)Z -/
noncomputable def cs_233 : List CE := cec 0 0 (.iload_n 2) xi0
  (cec 1 0 .i2l xi0
  (cec 2 0 (.aload_n 0) xi0
  (cec 3 0 (.getfield 75) (12, 37, 2, 0)
  (cec 6 0 (.iload_n 1) xi0
  (cec 7 0 .iaload xi0
  (cec 8 0 .i2l xi0
  (cec 9 0 (.aload_n 0) xi0
  (cec 10 0 (.getfield 78) (12, 38, 2, 0)
  (cec 13 0 (.iload_n 1) xi0
  (cec 14 0 .iaload xi0
  (cec 15 0 .i2l xi0
  (cec 16 0 (.invokestatic 246) (195, 3, 0, 0)
  (cec 19 0 .ireturn xi0 [])))))))))))))
/-- SupplyBookModel.isCounted(III)Z -/
noncomputable def cs_234 : List CE := cec 0 0 (.aload_n 0) xi0
  (cec 1 0 (.iload_n 1) xi0
  (cec 2 0 (.iload_n 3) xi0
  (cec 3 0 (.invokevirtual 409) (233, 3, 0, 22)
  (cec 6 0 (.ifCond .eq 21) xi0
  (cec 9 0 (.aload_n 0) xi0
  (cec 10 0 (.getfield 81) (12, 39, 2, 0)
  (cec 13 0 (.bipush 16) xi0
  (cec 15 0 (.iload_n 1) xi0
  (cec 16 0 .imul xi0
  (cec 17 0 (.iload_n 2) xi0
  (cec 18 0 .iadd xi0
  (cec 19 0 .baload xi0
  (cec 20 0 (.ifCond .ne 7) xi0
  (cec 23 0 (.iconst 1) xi0
  (cec 24 0 (.goto 4) xi0
  (cec 27 0 (.iconst 0) xi0
  (cec 28 0 .ireturn xi0 [])))))))))))))))))
/-- SupplyBookModel.number(II)I -/
noncomputable def cs_235 : List CE := cec 0 0 (.iload_n 2) xi0
  (cec 1 0 .i2l xi0
  (cec 2 0 (.lconst 0) xi0
  (cec 3 0 (.ldc2_w 254) (0, 0, 3599, 0)
  (cec 6 0 (.invokestatic 246) (195, 3, 0, 0)
  (cec 9 0 (.ifCond .ne 5) xi0
  (cec 12 0 (.iconst (-1)) xi0
  (cec 13 0 .ireturn xi0
  (cec 14 0 (.iload_n 1) xi0
  (cec 15 0 (.tableswitch 73 0 4 #[33, 41, 49, 57, 65]) xi0
  (cec 48 0 (.aload_n 0) xi0
  (cec 49 0 (.bipush 109) xi0
  (cec 51 0 (.iload_n 2) xi0
  (cec 52 0 (.invokevirtual 419) (236, 3, 0, 22)
  (cec 55 0 .ireturn xi0
  (cec 56 0 (.aload_n 0) xi0
  (cec 57 0 (.bipush 99) xi0
  (cec 59 0 (.iload_n 2) xi0
  (cec 60 0 (.invokevirtual 419) (236, 3, 0, 22)
  (cec 63 0 .ireturn xi0
  (cec 64 0 (.aload_n 0) xi0
  (cec 65 0 (.bipush 98) xi0
  (cec 67 0 (.iload_n 2) xi0
  (cec 68 0 (.invokevirtual 419) (236, 3, 0, 22)
  (cec 71 0 .ireturn xi0
  (cec 72 0 (.aload_n 0) xi0
  (cec 73 0 (.bipush 101) xi0
  (cec 75 0 (.iload_n 2) xi0
  (cec 76 0 (.invokevirtual 419) (236, 3, 0, 22)
  (cec 79 0 .ireturn xi0
  (cec 80 0 (.aload_n 0) xi0
  (cec 81 0 (.bipush 100) xi0
  (cec 83 0 (.iload_n 2) xi0
  (cec 84 0 (.invokevirtual 419) (236, 3, 0, 22)
  (cec 87 0 .ireturn xi0
  (cec 88 0 (.iconst (-1)) xi0
  (cec 89 0 .ireturn xi0 []))))))))))))))))))))))))))))))))))))
noncomputable def cs_236_1 : List CE := cec 83 0 (.iload_n 1) xi0
  (cec 84 0 (.bipush 109) xi0
  (cec 86 0 (.if_icmp .ne 8) xi0
  (cec 89 0 (.bipush 10) xi0
  (cec 91 0 (.goto 15) xi0
  (cec 94 0 (.iload_n 1) xi0
  (cec 95 0 (.bipush 100) xi0
  (cec 97 0 (.if_icmp .ne 8) xi0
  (cec 100 0 (.bipush 30) xi0
  (cec 102 0 (.goto 4) xi0
  (cec 105 0 (.iconst 0) xi0
  (cec 106 0 .ireturn xi0 [])))))))))))
/-- SupplyBookModel.numberOf(II)I -/
noncomputable def cs_236 : List CE := cec 0 0 (.aload_n 0) xi0
  (cec 1 0 (.iload_n 2) xi0
  (cec 2 0 (.invokevirtual 412) (232, 2, 9, 22)
  (cec 5 0 (.aload_n 0) xi0
  (cec 6 0 (.getfield 397) (12, 36, 0, 0)
  (cec 9 0 (.iconst 1) xi0
  (cec 10 0 .isub xi0
  (cec 11 0 (.istore_n 3) xi0
  (cec 12 31 (.iload_n 3) xi0
  (cec 13 0 (.ifCond .lt 70) xi0
  (cec 16 0 (.aload_n 0) xi0
  (cec 17 0 (.getfield 27) (12, 10, 2, 0)
  (cec 20 0 (.iload_n 3) xi0
  (cec 21 0 .iaload xi0
  (cec 22 0 (.iconst 1) xi0
  (cec 23 0 .isub xi0
  (cec 24 0 (.istore 4) xi0
  (cec 26 63 (.iload 4) xi0
  (cec 28 0 (.ifCond .lt 49) xi0
  (cec 31 0 (.aload_n 0) xi0
  (cec 32 0 (.getfield 30) (12, 11, 2, 0)
  (cec 35 0 (.bipush 16) xi0
  (cec 37 0 (.iload_n 3) xi0
  (cec 38 0 .imul xi0
  (cec 39 0 (.iload 4) xi0
  (cec 41 0 .iadd xi0
  (cec 42 0 .iaload xi0
  (cec 43 0 (.iload_n 1) xi0
  (cec 44 0 (.if_icmp .ne 27) xi0
  (cec 47 0 (.aload_n 0) xi0
  (cec 48 0 (.iload_n 3) xi0
  (cec 49 0 (.iload 4) xi0
  (cec 51 0 (.iload_n 2) xi0
  (cec 52 0 (.invokevirtual 415) (234, 4, 0, 22)
  (cec 55 0 (.ifCond .eq 16) xi0
  (cec 58 0 (.aload_n 0) xi0
  (cec 59 0 (.getfield 33) (12, 12, 2, 0)
  (cec 62 0 (.bipush 16) xi0
  (cec 64 0 (.iload_n 3) xi0
  (cec 65 0 .imul xi0
  (cec 66 0 (.iload 4) xi0
  (cec 68 0 .iadd xi0
  (cec 69 0 .iaload xi0
  (cec 70 0 .ireturn xi0
  (cec 71 0 (.iinc 4 (-1)) xi0
  (cec 74 0 (.goto (-48)) xi0
  (cec 77 0 (.iinc 3 (-1)) xi0
  (cec 80 0 (.goto (-68)) xi0 cs_236_1)))))))))))))))))))))))))))))))))))))))))))))))
noncomputable def cs_237_1 : List CE := cec 94 0 (.iload_n 2) xi0
  (cec 95 0 (.iload_n 3) xi0
  (cec 96 0 (.iload 4) xi0
  (cec 98 0 (.invokevirtual 429) (239, 5, 0, 22)
  (cec 101 0 (.istore 7) xi0
  (cec 103 0 (.aload_n 0) xi0
  (cec 104 0 (.bipush 20) xi0
  (cec 106 0 (.iload 7) xi0
  (cec 108 0 .iadd xi0
  (cec 109 0 (.invokevirtual 406) (230, 2, 9, 22)
  (cec 112 0 (.iload 7) xi0
  (cec 114 0 .ireturn xi0 [])))))))))))
/-- SupplyBookModel.vote(IIIII)I -/
noncomputable def cs_237 : List CE := cec 0 0 (.aload_n 0) xi0
  (cec 1 0 (.getfield 423) (12, 40, 0, 0)
  (cec 4 0 (.bipush 80) xi0
  (cec 6 0 (.if_icmp .eq 67) xi0
  (cec 9 0 (.iload_n 1) xi0
  (cec 10 0 (.ifCond .eq 13) xi0
  (cec 13 0 (.iload_n 1) xi0
  (cec 14 0 (.iconst 2) xi0
  (cec 15 0 (.if_icmp .eq 8) xi0
  (cec 18 0 (.iload_n 1) xi0
  (cec 19 0 (.iconst 3) xi0
  (cec 20 0 (.if_icmp .ne 53) xi0
  (cec 23 127 (.aload_n 0) xi0
  (cec 24 0 (.iload_n 2) xi0
  (cec 25 0 (.invokevirtual 262) (197, 2, 0, 22)
  (cec 28 0 (.ifCond .eq 45) xi0
  (cec 31 0 (.iload_n 3) xi0
  (cec 32 0 (.invokestatic 426) (238, 1, 0, 0)
  (cec 35 0 (.ifCond .eq 38) xi0
  (cec 38 0 (.iload 4) xi0
  (cec 40 0 .i2l xi0
  (cec 41 0 (.lconst 0) xi0
  (cec 42 0 (.ldc2_w 270) (0, 0, 9, 0)
  (cec 45 0 (.invokestatic 246) (195, 3, 0, 0)
  (cec 48 0 (.ifCond .eq 25) xi0
  (cec 51 0 (.iload 5) xi0
  (cec 53 0 .i2l xi0
  (cec 54 0 (.lconst 0) xi0
  (cec 55 0 (.ldc2_w 400) (0, 0, 200, 0)
  (cec 58 0 (.invokestatic 246) (195, 3, 0, 0)
  (cec 61 0 (.ifCond .eq 12) xi0
  (cec 64 0 (.iload 5) xi0
  (cec 66 0 (.aload_n 0) xi0
  (cec 67 0 (.getfield 272) (12, 1, 0, 0)
  (cec 70 0 (.if_icmp .le 5) xi0
  (cec 73 0 (.iconst (-1)) xi0
  (cec 74 0 .ireturn xi0
  (cec 75 0 (.aload_n 0) xi0
  (cec 76 0 (.iload 5) xi0
  (cec 78 0 (.iconst 0) xi0
  (cec 79 0 (.invokevirtual 402) (204, 3, 0, 22)
  (cec 82 0 (.istore 6) xi0
  (cec 84 0 (.iload 6) xi0
  (cec 86 0 (.ifCond .ge 6) xi0
  (cec 89 0 (.iload 6) xi0
  (cec 91 0 .ireturn xi0
  (cec 92 0 (.aload_n 0) xi0
  (cec 93 0 (.iload_n 1) xi0 cs_237_1)))))))))))))))))))))))))))))))))))))))))))))))
/-- SupplyBookModel.isSum(I)Z -/
noncomputable def cs_238 : List CE := cec 0 0 (.iload_n 0) xi0
  (cec 1 0 .i2l xi0
  (cec 2 0 (.lconst 0) xi0
  (cec 3 0 (.ldc2_w 244) (0, 0, 1000000000, 0)
  (cec 6 0 (.invokestatic 246) (195, 3, 0, 0)
  (cec 9 0 .ireturn xi0 [])))))
noncomputable def cs_239_1 : List CE := cec 82 0 .iadd xi0
  (cec 83 0 (.iconst 0) xi0
  (cec 84 0 .iastore xi0
  (cec 85 0 (.aload_n 0) xi0
  (cec 86 0 .dup xi0
  (cec 87 0 (.getfield 423) (12, 40, 0, 0)
  (cec 90 0 (.iconst 1) xi0
  (cec 91 0 .iadd xi0
  (cec 92 0 (.putfield 423) (12, 40, 0, 0)
  (cec 95 0 (.iload 5) xi0
  (cec 97 0 .ireturn xi0 []))))))))))
/-- SupplyBookModel.makes(IIII)I -/
noncomputable def cs_239 : List CE := cec 0 0 (.aload_n 0) xi0
  (cec 1 0 (.getfield 423) (12, 40, 0, 0)
  (cec 4 0 (.istore 5) xi0
  (cec 6 0 (.aload_n 0) xi0
  (cec 7 0 (.getfield 85) (12, 41, 2, 0)
  (cec 10 0 (.iload 5) xi0
  (cec 12 0 (.iload_n 1) xi0
  (cec 13 0 .iastore xi0
  (cec 14 0 (.aload_n 0) xi0
  (cec 15 0 (.getfield 88) (12, 42, 2, 0)
  (cec 18 0 (.iload 5) xi0
  (cec 20 0 (.iload_n 2) xi0
  (cec 21 0 .iastore xi0
  (cec 22 0 (.aload_n 0) xi0
  (cec 23 0 (.getfield 91) (12, 43, 2, 0)
  (cec 26 0 (.iload 5) xi0
  (cec 28 0 (.iload_n 3) xi0
  (cec 29 0 .iastore xi0
  (cec 30 0 (.aload_n 0) xi0
  (cec 31 0 (.getfield 94) (12, 44, 2, 0)
  (cec 34 0 (.iload 5) xi0
  (cec 36 0 (.iload 4) xi0
  (cec 38 0 .iastore xi0
  (cec 39 0 (.aload_n 0) xi0
  (cec 40 0 (.getfield 97) (12, 45, 2, 0)
  (cec 43 0 (.iload 5) xi0
  (cec 45 0 (.iconst (-1)) xi0
  (cec 46 0 .iastore xi0
  (cec 47 0 (.aload_n 0) xi0
  (cec 48 0 (.getfield 100) (12, 46, 2, 0)
  (cec 51 0 (.iload 5) xi0
  (cec 53 0 (.iconst (-1)) xi0
  (cec 54 0 .iastore xi0
  (cec 55 0 (.aload_n 0) xi0
  (cec 56 0 (.getfield 103) (12, 47, 2, 0)
  (cec 59 0 (.iload 5) xi0
  (cec 61 0 (.iconst (-1)) xi0
  (cec 62 0 .iastore xi0
  (cec 63 0 (.aload_n 0) xi0
  (cec 64 0 (.getfield 106) (12, 48, 2, 0)
  (cec 67 0 (.iload 5) xi0
  (cec 69 0 (.aload_n 0) xi0
  (cec 70 0 (.getfield 250) (12, 2, 0, 0)
  (cec 73 0 .iastore xi0
  (cec 74 0 (.aload_n 0) xi0
  (cec 75 0 (.getfield 27) (12, 10, 2, 0)
  (cec 78 0 (.bipush 20) xi0
  (cec 80 0 (.iload 5) xi0 cs_239_1)))))))))))))))))))))))))))))))))))))))))))))))
/-- SupplyBookModel.ceiling(III)I -/
noncomputable def cs_240 : List CE := cec 0 0 (.aload_n 0) xi0
  (cec 1 0 (.getfield 423) (12, 40, 0, 0)
  (cec 4 0 (.bipush 80) xi0
  (cec 6 0 (.if_icmp .eq 50) xi0
  (cec 9 0 (.aload_n 0) xi0
  (cec 10 0 (.iload_n 1) xi0
  (cec 11 0 (.invokevirtual 433) (241, 2, 0, 22)
  (cec 14 0 (.ifCond .eq 42) xi0
  (cec 17 0 (.aload_n 0) xi0
  (cec 18 0 (.getfield 85) (12, 41, 2, 0)
  (cec 21 0 (.iload_n 1) xi0
  (cec 22 0 .iaload xi0
  (cec 23 0 (.iconst 1) xi0
  (cec 24 0 (.if_icmp .eq 32) xi0
  (cec 27 0 (.aload_n 0) xi0
  (cec 28 0 (.iload_n 2) xi0
  (cec 29 0 (.invokevirtual 262) (197, 2, 0, 22)
  (cec 32 0 (.ifCond .eq 24) xi0
  (cec 35 0 (.aload_n 0) xi0
  (cec 36 0 (.iload_n 2) xi0
  (cec 37 0 (.aload_n 0) xi0
  (cec 38 0 (.getfield 88) (12, 42, 2, 0)
  (cec 41 0 (.iload_n 1) xi0
  (cec 42 0 .iaload xi0
  (cec 43 0 (.invokevirtual 266) (199, 3, 0, 22)
  (cec 46 0 (.ifCond .eq 10) xi0
  (cec 49 0 (.iload_n 3) xi0
  (cec 50 0 (.invokestatic 426) (238, 1, 0, 0)
  (cec 53 0 (.ifCond .ne 5) xi0
  (cec 56 0 (.iconst (-1)) xi0
  (cec 57 0 .ireturn xi0
  (cec 58 0 (.aload_n 0) xi0
  (cec 59 0 (.iconst 1) xi0
  (cec 60 0 (.iload_n 2) xi0
  (cec 61 0 (.iload_n 3) xi0
  (cec 62 0 (.aload_n 0) xi0
  (cec 63 0 (.getfield 94) (12, 44, 2, 0)
  (cec 66 0 (.iload_n 1) xi0
  (cec 67 0 .iaload xi0
  (cec 68 0 (.invokevirtual 429) (239, 5, 0, 22)
  (cec 71 0 (.istore 4) xi0
  (cec 73 0 (.aload_n 0) xi0
  (cec 74 0 (.getfield 100) (12, 46, 2, 0)
  (cec 77 0 (.iload 4) xi0
  (cec 79 0 (.iload_n 1) xi0
  (cec 80 0 .iastore xi0
  (cec 81 0 (.iload 4) xi0
  (cec 83 0 .ireturn xi0 [])))))))))))))))))))))))))))))))))))))))))))))))
/-- SupplyBookModel.isAuthority(I)Z -/
noncomputable def cs_241 : List CE := cec 0 0 (.iload_n 1) xi0
  (cec 1 0 .i2l xi0
  (cec 2 0 (.lconst 0) xi0
  (cec 3 0 (.aload_n 0) xi0
  (cec 4 0 (.getfield 423) (12, 40, 0, 0)
  (cec 7 0 (.iconst 1) xi0
  (cec 8 0 .isub xi0
  (cec 9 0 .i2l xi0
  (cec 10 0 (.invokestatic 246) (195, 3, 0, 0)
  (cec 13 0 .ireturn xi0 [])))))))))
noncomputable def cs_242_1 : List CE := cec 88 0 (.ldc2_w 439) (0, 0, 1000, 0)
  (cec 91 0 (.aload_n 0) xi0
  (cec 92 0 (.bipush 101) xi0
  (cec 94 0 (.aload_n 0) xi0
  (cec 95 0 (.getfield 250) (12, 2, 0, 0)
  (cec 98 0 (.invokevirtual 419) (236, 3, 0, 22)
  (cec 101 0 .i2l xi0
  (cec 102 0 .lmul xi0
  (cec 103 0 .lcmp xi0
  (cec 104 0 (.ifCond .le 7) xi0
  (cec 107 0 (.iconst (-1)) xi0
  (cec 108 0 (.goto 14) xi0
  (cec 111 0 (.aload_n 0) xi0
  (cec 112 0 (.iconst 4) xi0
  (cec 113 0 (.iload_n 1) xi0
  (cec 114 0 (.iload_n 2) xi0
  (cec 115 0 (.aload_n 0) xi0
  (cec 116 0 (.invokevirtual 436) (243, 1, 0, 22)
  (cec 119 0 (.invokevirtual 429) (239, 5, 0, 22)
  (cec 122 0 .ireturn xi0 [])))))))))))))))))))
/-- SupplyBookModel.advance(II)I -/
noncomputable def cs_242 : List CE := cec 0 0 (.aload_n 0) xi0
  (cec 1 0 (.getfield 423) (12, 40, 0, 0)
  (cec 4 0 (.bipush 80) xi0
  (cec 6 0 (.if_icmp .eq 18) xi0
  (cec 9 0 (.aload_n 0) xi0
  (cec 10 0 (.iload_n 1) xi0
  (cec 11 0 (.invokevirtual 262) (197, 2, 0, 22)
  (cec 14 0 (.ifCond .eq 10) xi0
  (cec 17 0 (.iload_n 2) xi0
  (cec 18 0 (.invokestatic 426) (238, 1, 0, 0)
  (cec 21 0 (.ifCond .ne 5) xi0
  (cec 24 0 (.iconst (-1)) xi0
  (cec 25 0 .ireturn xi0
  (cec 26 0 (.iload_n 2) xi0
  (cec 27 0 .i2l xi0
  (cec 28 0 (.lstore_n 3) xi0
  (cec 29 0 (.iconst 0) xi0
  (cec 30 0 (.istore 5) xi0
  (cec 32 95 (.iload 5) xi0
  (cec 34 0 (.aload_n 0) xi0
  (cec 35 0 (.getfield 423) (12, 40, 0, 0)
  (cec 38 0 (.if_icmp .ge 49) xi0
  (cec 41 0 (.lload_n 3) xi0
  (cec 42 0 (.aload_n 0) xi0
  (cec 43 0 (.getfield 85) (12, 41, 2, 0)
  (cec 46 0 (.iload 5) xi0
  (cec 48 0 .iaload xi0
  (cec 49 0 (.iconst 4) xi0
  (cec 50 0 (.if_icmp .ne 28) xi0
  (cec 53 0 (.aload_n 0) xi0
  (cec 54 0 (.getfield 94) (12, 44, 2, 0)
  (cec 57 0 (.iload 5) xi0
  (cec 59 0 .iaload xi0
  (cec 60 0 (.aload_n 0) xi0
  (cec 61 0 (.invokevirtual 436) (243, 1, 0, 22)
  (cec 64 0 (.if_icmp .ne 14) xi0
  (cec 67 0 (.aload_n 0) xi0
  (cec 68 0 (.getfield 91) (12, 43, 2, 0)
  (cec 71 0 (.iload 5) xi0
  (cec 73 0 .iaload xi0
  (cec 74 0 .i2l xi0
  (cec 75 0 (.goto 4) xi0
  (cec 78 0 (.lconst 0) xi0
  (cec 79 0 .ladd xi0
  (cec 80 0 (.lstore_n 3) xi0
  (cec 81 0 (.iinc 5 1) xi0
  (cec 84 0 (.goto (-52)) xi0
  (cec 87 0 (.lload_n 3) xi0 cs_242_1)))))))))))))))))))))))))))))))))))))))))))))))
/-- SupplyBookModel.year()I -/
noncomputable def cs_243 : List CE := cec 0 0 (.aload_n 0) xi0
  (cec 1 0 (.getfield 250) (12, 2, 0, 0)
  (cec 4 0 (.sipush 360) xi0
  (cec 7 0 .idiv xi0
  (cec 8 0 .ireturn xi0 []))))
/-- SupplyBookModel.left(II)J -/
noncomputable def cs_244 : List CE := cec 0 0 (.aload_n 0) xi0
  (cec 1 0 (.iload_n 1) xi0
  (cec 2 0 (.invokevirtual 433) (241, 2, 0, 22)
  (cec 5 0 (.ifCond .eq 33) xi0
  (cec 8 0 (.iload_n 2) xi0
  (cec 9 0 .i2l xi0
  (cec 10 0 (.lconst 0) xi0
  (cec 11 0 (.ldc2_w 270) (0, 0, 9, 0)
  (cec 14 0 (.invokestatic 246) (195, 3, 0, 0)
  (cec 17 0 (.ifCond .eq 21) xi0
  (cec 20 0 (.aload_n 0) xi0
  (cec 21 0 (.iload_n 1) xi0
  (cec 22 0 (.iload_n 2) xi0
  (cec 23 0 (.invokevirtual 461) (245, 3, 0, 22)
  (cec 26 0 (.ifCond .eq 12) xi0
  (cec 29 0 (.aload_n 0) xi0
  (cec 30 0 (.iload_n 1) xi0
  (cec 31 0 (.iload_n 2) xi0
  (cec 32 0 (.invokevirtual 464) (246, 3, 1, 22)
  (cec 35 0 (.goto 6) xi0
  (cec 38 0 (.ldc2_w 467) (0, 0, (-1000000000000), 0)
  (cec 41 0 .lreturn xi0 [])))))))))))))))))))))
/-- SupplyBookModel.isOf(II)Z -/
noncomputable def cs_245 : List CE := cec 0 0 (.aload_n 0) xi0
  (cec 1 0 (.getfield 85) (12, 41, 2, 0)
  (cec 4 0 (.iload_n 1) xi0
  (cec 5 0 .iaload xi0
  (cec 6 0 (.iconst 1) xi0
  (cec 7 0 (.if_icmp .ne 12) xi0
  (cec 10 0 (.aload_n 0) xi0
  (cec 11 0 (.getfield 100) (12, 46, 2, 0)
  (cec 14 0 (.iload_n 1) xi0
  (cec 15 0 .iaload xi0
  (cec 16 0 (.goto 4) xi0
  (cec 19 0 (.iload_n 1) xi0
  (cec 20 11 (.istore_n 3) xi0
  (cec 21 0 (.aload_n 0) xi0
  (cec 22 0 (.getfield 85) (12, 41, 2, 0)
  (cec 25 0 (.iload_n 3) xi0
  (cec 26 0 .iaload xi0
  (cec 27 0 (.iconst 3) xi0
  (cec 28 0 (.if_icmp .ne 21) xi0
  (cec 31 0 (.iload_n 2) xi0
  (cec 32 0 (.aload_n 0) xi0
  (cec 33 0 (.getfield 94) (12, 44, 2, 0)
  (cec 36 0 (.iload_n 3) xi0
  (cec 37 0 .iaload xi0
  (cec 38 0 (.if_icmp .lt 7) xi0
  (cec 41 0 (.iconst 1) xi0
  (cec 42 0 (.goto 22) xi0
  (cec 45 0 (.iconst 0) xi0
  (cec 46 0 (.goto 18) xi0
  (cec 49 0 (.iload_n 2) xi0
  (cec 50 0 (.aload_n 0) xi0
  (cec 51 0 (.getfield 94) (12, 44, 2, 0)
  (cec 54 0 (.iload_n 3) xi0
  (cec 55 0 .iaload xi0
  (cec 56 0 (.if_icmp .ne 7) xi0
  (cec 59 0 (.iconst 1) xi0
  (cec 60 0 (.goto 4) xi0
  (cec 63 0 (.iconst 0) xi0
  (cec 64 0 .ireturn xi0 []))))))))))))))))))))))))))))))))))))))
noncomputable def cs_246_1 : List CE := cec 72 0 (.aload_n 0) xi0
  (cec 73 0 (.getfield 115) (12, 51, 2, 0)
  (cec 76 0 (.iload_n 1) xi0
  (cec 77 0 .laload xi0
  (cec 78 0 .lsub xi0
  (cec 79 0 (.aload_n 0) xi0
  (cec 80 0 (.iload_n 1) xi0
  (cec 81 0 (.iload_n 2) xi0
  (cec 82 0 (.iconst (-1)) xi0
  (cec 83 0 (.invokevirtual 450) (247, 4, 1, 22)
  (cec 86 0 .lsub xi0
  (cec 87 0 (.lstore_n 3) xi0
  (cec 88 0 (.iconst 0) xi0
  (cec 89 0 (.istore 5) xi0
  (cec 91 95 (.iload 5) xi0
  (cec 93 0 (.aload_n 0) xi0
  (cec 94 0 (.getfield 454) (12, 70, 0, 0)
  (cec 97 0 (.if_icmp .ge 34) xi0
  (cec 100 0 (.lload_n 3) xi0
  (cec 101 0 (.aload_n 0) xi0
  (cec 102 0 (.getfield 166) (12, 71, 2, 0)
  (cec 105 0 (.iload 5) xi0
  (cec 107 0 .iaload xi0
  (cec 108 0 (.iload_n 1) xi0
  (cec 109 0 (.if_icmp .ne 13) xi0
  (cec 112 0 (.aload_n 0) xi0
  (cec 113 0 (.iload 5) xi0
  (cec 115 0 (.iload_n 2) xi0
  (cec 116 0 (.invokevirtual 457) (250, 3, 1, 22)
  (cec 119 0 (.goto 4) xi0
  (cec 122 0 (.lconst 0) xi0
  (cec 123 0 .lsub xi0
  (cec 124 0 (.lstore_n 3) xi0
  (cec 125 0 (.iinc 5 1) xi0
  (cec 128 0 (.goto (-37)) xi0
  (cec 131 0 (.lload_n 3) xi0
  (cec 132 0 .lreturn xi0 []))))))))))))))))))))))))))))))))))))
/-- SupplyBookModel.leftOf(II)J -/
noncomputable def cs_246 : List CE := cec 0 0 (.aload_n 0) xi0
  (cec 1 0 (.getfield 85) (12, 41, 2, 0)
  (cec 4 0 (.iload_n 1) xi0
  (cec 5 0 .iaload xi0
  (cec 6 0 (.iconst 1) xi0
  (cec 7 0 (.if_icmp .ne 29) xi0
  (cec 10 0 (.aload_n 0) xi0
  (cec 11 0 (.getfield 91) (12, 43, 2, 0)
  (cec 14 0 (.iload_n 1) xi0
  (cec 15 0 .iaload xi0
  (cec 16 0 .i2l xi0
  (cec 17 0 (.aload_n 0) xi0
  (cec 18 0 (.aload_n 0) xi0
  (cec 19 0 (.getfield 100) (12, 46, 2, 0)
  (cec 22 0 (.iload_n 1) xi0
  (cec 23 0 .iaload xi0
  (cec 24 0 (.iload_n 2) xi0
  (cec 25 0 (.aload_n 0) xi0
  (cec 26 0 (.getfield 88) (12, 42, 2, 0)
  (cec 29 0 (.iload_n 1) xi0
  (cec 30 0 .iaload xi0
  (cec 31 0 (.invokevirtual 450) (247, 4, 1, 22)
  (cec 34 0 .lsub xi0
  (cec 35 0 .lreturn xi0
  (cec 36 0 (.aload_n 0) xi0
  (cec 37 0 (.getfield 85) (12, 41, 2, 0)
  (cec 40 0 (.iload_n 1) xi0
  (cec 41 0 .iaload xi0
  (cec 42 0 (.iconst 4) xi0
  (cec 43 0 (.if_icmp .ne 15) xi0
  (cec 46 0 (.aload_n 0) xi0
  (cec 47 0 (.getfield 100) (12, 46, 2, 0)
  (cec 50 0 (.iload_n 1) xi0
  (cec 51 0 .iaload xi0
  (cec 52 0 (.iconst (-1)) xi0
  (cec 53 0 (.if_icmp .eq 5) xi0
  (cec 56 0 (.lconst 0) xi0
  (cec 57 0 .lreturn xi0
  (cec 58 15 (.aload_n 0) xi0
  (cec 59 0 (.getfield 91) (12, 43, 2, 0)
  (cec 62 0 (.iload_n 1) xi0
  (cec 63 0 .iaload xi0
  (cec 64 0 .i2l xi0
  (cec 65 0 (.aload_n 0) xi0
  (cec 66 0 (.getfield 112) (12, 50, 2, 0)
  (cec 69 0 (.iload_n 1) xi0
  (cec 70 0 .laload xi0
  (cec 71 0 .ladd xi0 cs_246_1)))))))))))))))))))))))))))))))))))))))))))))))
/-- SupplyBookModel.paidBy(III)J -/
noncomputable def cs_247 : List CE := cec 0 0 (.lconst 0) xi0
  (cec 1 0 (.lstore 4) xi0
  (cec 3 0 (.iconst 0) xi0
  (cec 4 0 (.istore 6) xi0
  (cec 6 191 (.iload 6) xi0
  (cec 8 0 (.aload_n 0) xi0
  (cec 9 0 (.getfield 441) (12, 52, 0, 0)
  (cec 12 0 (.if_icmp .ge 62) xi0
  (cec 15 0 (.aload_n 0) xi0
  (cec 16 0 (.iload 6) xi0
  (cec 18 0 (.iload_n 2) xi0
  (cec 19 0 (.invokevirtual 444) (248, 3, 0, 22)
  (cec 22 0 (.ifCond .eq 46) xi0
  (cec 25 0 (.aload_n 0) xi0
  (cec 26 0 (.iload 6) xi0
  (cec 28 0 (.invokevirtual 447) (249, 2, 0, 22)
  (cec 31 0 (.iload_n 1) xi0
  (cec 32 0 (.if_icmp .ne 36) xi0
  (cec 35 0 (.iload_n 3) xi0
  (cec 36 0 (.iconst (-1)) xi0
  (cec 37 0 (.if_icmp .eq 18) xi0
  (cec 40 0 (.aload_n 0) xi0
  (cec 41 0 (.aload_n 0) xi0
  (cec 42 0 (.getfield 121) (12, 55, 2, 0)
  (cec 45 0 (.iload 6) xi0
  (cec 47 0 .iaload xi0
  (cec 48 0 (.iload_n 3) xi0
  (cec 49 0 (.invokevirtual 266) (199, 3, 0, 22)
  (cec 52 0 (.ifCond .eq 16) xi0
  (cec 55 0 (.lload 4) xi0
  (cec 57 0 (.aload_n 0) xi0
  (cec 58 0 (.getfield 127) (12, 57, 2, 0)
  (cec 61 0 (.iload 6) xi0
  (cec 63 0 .iaload xi0
  (cec 64 0 .i2l xi0
  (cec 65 0 .ladd xi0
  (cec 66 0 (.lstore 4) xi0
  (cec 68 0 (.iinc 6 1) xi0
  (cec 71 0 (.goto (-65)) xi0
  (cec 74 0 (.lload 4) xi0
  (cec 76 0 .lreturn xi0 []))))))))))))))))))))))))))))))))))))))))
/-- SupplyBookModel.isPaidIn(II)Z -/
noncomputable def cs_248 : List CE := cec 0 0 (.aload_n 0) xi0
  (cec 1 0 (.getfield 139) (12, 61, 2, 0)
  (cec 4 0 (.iload_n 1) xi0
  (cec 5 0 .iaload xi0
  (cec 6 0 (.iconst (-1)) xi0
  (cec 7 0 (.if_icmp .eq 21) xi0
  (cec 10 0 (.aload_n 0) xi0
  (cec 11 0 (.getfield 139) (12, 61, 2, 0)
  (cec 14 0 (.iload_n 1) xi0
  (cec 15 0 .iaload xi0
  (cec 16 0 (.sipush 360) xi0
  (cec 19 0 .idiv xi0
  (cec 20 0 (.iload_n 2) xi0
  (cec 21 0 (.if_icmp .ne 7) xi0
  (cec 24 0 (.iconst 1) xi0
  (cec 25 0 (.goto 4) xi0
  (cec 28 0 (.iconst 0) xi0
  (cec 29 0 .ireturn xi0 [])))))))))))))))))
/-- SupplyBookModel.countsBy(I)I -/
noncomputable def cs_249 : List CE := cec 0 0 (.aload_n 0) xi0
  (cec 1 0 (.getfield 142) (12, 62, 2, 0)
  (cec 4 0 (.iload_n 1) xi0
  (cec 5 0 .iaload xi0
  (cec 6 0 (.iconst (-1)) xi0
  (cec 7 0 (.if_icmp .eq 47) xi0
  (cec 10 0 (.aload_n 0) xi0
  (cec 11 0 (.getfield 85) (12, 41, 2, 0)
  (cec 14 0 (.aload_n 0) xi0
  (cec 15 0 (.getfield 142) (12, 62, 2, 0)
  (cec 18 0 (.iload_n 1) xi0
  (cec 19 0 .iaload xi0
  (cec 20 0 .iaload xi0
  (cec 21 0 (.iconst 4) xi0
  (cec 22 0 (.if_icmp .ne 32) xi0
  (cec 25 0 (.aload_n 0) xi0
  (cec 26 0 (.getfield 100) (12, 46, 2, 0)
  (cec 29 0 (.aload_n 0) xi0
  (cec 30 0 (.getfield 142) (12, 62, 2, 0)
  (cec 33 0 (.iload_n 1) xi0
  (cec 34 0 .iaload xi0
  (cec 35 0 .iaload xi0
  (cec 36 0 (.iconst (-1)) xi0
  (cec 37 0 (.if_icmp .eq 17) xi0
  (cec 40 0 (.aload_n 0) xi0
  (cec 41 0 (.getfield 100) (12, 46, 2, 0)
  (cec 44 0 (.aload_n 0) xi0
  (cec 45 0 (.getfield 142) (12, 62, 2, 0)
  (cec 48 0 (.iload_n 1) xi0
  (cec 49 0 .iaload xi0
  (cec 50 0 .iaload xi0
  (cec 51 0 (.goto 9) xi0
  (cec 54 0 (.aload_n 0) xi0
  (cec 55 0 (.getfield 142) (12, 62, 2, 0)
  (cec 58 0 (.iload_n 1) xi0
  (cec 59 0 .iaload xi0
  (cec 60 0 .ireturn xi0 []))))))))))))))))))))))))))))))))))))
noncomputable def cs_250_1 : List CE := cec 79 0 (.lstore_n 3) xi0
  (cec 80 0 (.iinc 5 1) xi0
  (cec 83 0 (.goto (-48)) xi0
  (cec 86 0 (.lload_n 3) xi0
  (cec 87 0 .lreturn xi0 []))))
/-- SupplyBookModel.boundBy(II)J -/
noncomputable def cs_250 : List CE := cec 0 0 (.iload_n 2) xi0
  (cec 1 0 .i2l xi0
  (cec 2 0 (.aload_n 0) xi0
  (cec 3 0 (.getfield 172) (12, 73, 2, 0)
  (cec 6 0 (.iload_n 1) xi0
  (cec 7 0 .iaload xi0
  (cec 8 0 .i2l xi0
  (cec 9 0 (.aload_n 0) xi0
  (cec 10 0 (.getfield 175) (12, 74, 2, 0)
  (cec 13 0 (.iload_n 1) xi0
  (cec 14 0 .iaload xi0
  (cec 15 0 .i2l xi0
  (cec 16 0 (.invokestatic 246) (195, 3, 0, 0)
  (cec 19 0 (.ifCond .ne 5) xi0
  (cec 22 0 (.lconst 0) xi0
  (cec 23 0 .lreturn xi0
  (cec 24 0 (.aload_n 0) xi0
  (cec 25 0 (.getfield 169) (12, 72, 2, 0)
  (cec 28 0 (.iload_n 1) xi0
  (cec 29 0 .iaload xi0
  (cec 30 0 .i2l xi0
  (cec 31 0 (.lstore_n 3) xi0
  (cec 32 0 (.iconst 0) xi0
  (cec 33 0 (.istore 5) xi0
  (cec 35 95 (.iload 5) xi0
  (cec 37 0 (.aload_n 0) xi0
  (cec 38 0 (.getfield 441) (12, 52, 0, 0)
  (cec 41 0 (.if_icmp .ge 45) xi0
  (cec 44 0 (.lload_n 3) xi0
  (cec 45 0 (.aload_n 0) xi0
  (cec 46 0 (.getfield 130) (12, 58, 2, 0)
  (cec 49 0 (.iload 5) xi0
  (cec 51 0 .iaload xi0
  (cec 52 0 (.iload_n 1) xi0
  (cec 53 0 (.if_icmp .ne 24) xi0
  (cec 56 0 (.aload_n 0) xi0
  (cec 57 0 (.iload 5) xi0
  (cec 59 0 (.iload_n 2) xi0
  (cec 60 0 (.invokevirtual 444) (248, 3, 0, 22)
  (cec 63 0 (.ifCond .eq 14) xi0
  (cec 66 0 (.aload_n 0) xi0
  (cec 67 0 (.getfield 127) (12, 57, 2, 0)
  (cec 70 0 (.iload 5) xi0
  (cec 72 0 .iaload xi0
  (cec 73 0 .i2l xi0
  (cec 74 0 (.goto 4) xi0
  (cec 77 0 (.lconst 0) xi0
  (cec 78 0 .lsub xi0 cs_250_1)))))))))))))))))))))))))))))))))))))))))))))))
noncomputable def cs_251_2 : List CE := cec 174 0 (.aload_n 0) xi0
  (cec 175 0 (.getfield 454) (12, 70, 0, 0)
  (cec 178 0 (.iconst 1) xi0
  (cec 179 0 .isub xi0
  (cec 180 0 .ireturn xi0 []))))
noncomputable def cs_251_1 : List CE := cec 89 0 (.if_icmp .gt 34) xi0
  (cec 92 0 (.aload_n 0) xi0
  (cec 93 0 (.iload_n 1) xi0
  (cec 94 0 (.iload 5) xi0
  (cec 96 0 (.invokevirtual 461) (245, 3, 0, 22)
  (cec 99 0 (.ifCond .eq 16) xi0
  (cec 102 0 (.aload_n 0) xi0
  (cec 103 0 (.iload_n 1) xi0
  (cec 104 0 (.iload 5) xi0
  (cec 106 0 (.invokevirtual 464) (246, 3, 1, 22)
  (cec 109 0 (.iload_n 2) xi0
  (cec 110 0 .i2l xi0
  (cec 111 0 .lcmp xi0
  (cec 112 0 (.ifCond .ge 5) xi0
  (cec 115 0 (.iconst (-1)) xi0
  (cec 116 0 .ireturn xi0
  (cec 117 0 (.iinc 5 1) xi0
  (cec 120 0 (.goto (-35)) xi0
  (cec 123 0 (.aload_n 0) xi0
  (cec 124 0 (.getfield 166) (12, 71, 2, 0)
  (cec 127 0 (.aload_n 0) xi0
  (cec 128 0 (.getfield 454) (12, 70, 0, 0)
  (cec 131 0 (.iload_n 1) xi0
  (cec 132 0 .iastore xi0
  (cec 133 0 (.aload_n 0) xi0
  (cec 134 0 (.getfield 169) (12, 72, 2, 0)
  (cec 137 0 (.aload_n 0) xi0
  (cec 138 0 (.getfield 454) (12, 70, 0, 0)
  (cec 141 0 (.iload_n 2) xi0
  (cec 142 0 .iastore xi0
  (cec 143 0 (.aload_n 0) xi0
  (cec 144 0 (.getfield 172) (12, 73, 2, 0)
  (cec 147 0 (.aload_n 0) xi0
  (cec 148 0 (.getfield 454) (12, 70, 0, 0)
  (cec 151 0 (.iload_n 3) xi0
  (cec 152 0 .iastore xi0
  (cec 153 0 (.aload_n 0) xi0
  (cec 154 0 (.getfield 175) (12, 74, 2, 0)
  (cec 157 0 (.aload_n 0) xi0
  (cec 158 0 (.getfield 454) (12, 70, 0, 0)
  (cec 161 0 (.iload 4) xi0
  (cec 163 0 .iastore xi0
  (cec 164 0 (.aload_n 0) xi0
  (cec 165 0 .dup xi0
  (cec 166 0 (.getfield 454) (12, 70, 0, 0)
  (cec 169 0 (.iconst 1) xi0
  (cec 170 0 .iadd xi0
  (cec 171 0 (.putfield 454) (12, 70, 0, 0) cs_251_2)))))))))))))))))))))))))))))))))))))))))))))))
/-- SupplyBookModel.commit(IIII)I -/
noncomputable def cs_251 : List CE := cec 0 0 (.aload_n 0) xi0
  (cec 1 0 (.getfield 454) (12, 70, 0, 0)
  (cec 4 0 (.bipush 20) xi0
  (cec 6 0 (.if_icmp .eq 74) xi0
  (cec 9 0 (.aload_n 0) xi0
  (cec 10 0 (.iload_n 1) xi0
  (cec 11 0 (.invokevirtual 433) (241, 2, 0, 22)
  (cec 14 0 (.ifCond .eq 66) xi0
  (cec 17 0 (.aload_n 0) xi0
  (cec 18 0 (.getfield 85) (12, 41, 2, 0)
  (cec 21 0 (.iload_n 1) xi0
  (cec 22 0 .iaload xi0
  (cec 23 0 (.iconst 1) xi0
  (cec 24 0 (.if_icmp .eq 56) xi0
  (cec 27 0 (.aload_n 0) xi0
  (cec 28 0 (.getfield 85) (12, 41, 2, 0)
  (cec 31 0 (.iload_n 1) xi0
  (cec 32 0 .iaload xi0
  (cec 33 0 (.iconst 4) xi0
  (cec 34 0 (.if_icmp .eq 46) xi0
  (cec 37 0 (.aload_n 0) xi0
  (cec 38 0 (.getfield 97) (12, 45, 2, 0)
  (cec 41 0 (.iload_n 1) xi0
  (cec 42 0 .iaload xi0
  (cec 43 0 (.iconst (-1)) xi0
  (cec 44 0 (.if_icmp .ne 36) xi0
  (cec 47 0 (.iload_n 2) xi0
  (cec 48 0 (.invokestatic 426) (238, 1, 0, 0)
  (cec 51 0 (.ifCond .eq 29) xi0
  (cec 54 0 (.iload_n 3) xi0
  (cec 55 0 .i2l xi0
  (cec 56 0 (.lconst 0) xi0
  (cec 57 0 (.ldc2_w 270) (0, 0, 9, 0)
  (cec 60 0 (.invokestatic 246) (195, 3, 0, 0)
  (cec 63 0 (.ifCond .eq 17) xi0
  (cec 66 0 (.iload 4) xi0
  (cec 68 0 .i2l xi0
  (cec 69 0 (.iload_n 3) xi0
  (cec 70 0 .i2l xi0
  (cec 71 0 (.ldc2_w 270) (0, 0, 9, 0)
  (cec 74 0 (.invokestatic 246) (195, 3, 0, 0)
  (cec 77 0 (.ifCond .ne 5) xi0
  (cec 80 0 (.iconst (-1)) xi0
  (cec 81 0 .ireturn xi0
  (cec 82 0 (.iload_n 3) xi0
  (cec 83 0 (.istore 5) xi0
  (cec 85 127 (.iload 5) xi0
  (cec 87 0 (.iload 4) xi0 cs_251_1)))))))))))))))))))))))))))))))))))))))))))))))
noncomputable def cs_252_1 : List CE := cec 81 0 (.iconst 0) xi0
  (cec 82 0 .ireturn xi0
  (cec 83 0 (.aload_n 0) xi0
  (cec 84 0 (.getfield 115) (12, 51, 2, 0)
  (cec 87 0 (.iload_n 1) xi0
  (cec 88 0 .dup2 xi0
  (cec 89 0 .laload xi0
  (cec 90 0 (.iload_n 3) xi0
  (cec 91 0 .i2l xi0
  (cec 92 0 .ladd xi0
  (cec 93 0 .lastore xi0
  (cec 94 0 (.aload_n 0) xi0
  (cec 95 0 (.getfield 112) (12, 50, 2, 0)
  (cec 98 0 (.iload_n 2) xi0
  (cec 99 0 .dup2 xi0
  (cec 100 0 .laload xi0
  (cec 101 0 (.iload_n 3) xi0
  (cec 102 0 .i2l xi0
  (cec 103 0 .ladd xi0
  (cec 104 0 .lastore xi0
  (cec 105 0 (.iconst 1) xi0
  (cec 106 0 .ireturn xi0 [])))))))))))))))))))))
/-- SupplyBookModel.move(III)Z -/
noncomputable def cs_252 : List CE := cec 0 0 (.aload_n 0) xi0
  (cec 1 0 (.iload_n 1) xi0
  (cec 2 0 (.invokevirtual 469) (253, 2, 0, 22)
  (cec 5 0 (.ifCond .eq 38) xi0
  (cec 8 0 (.aload_n 0) xi0
  (cec 9 0 (.iload_n 2) xi0
  (cec 10 0 (.invokevirtual 469) (253, 2, 0, 22)
  (cec 13 0 (.ifCond .eq 30) xi0
  (cec 16 0 (.iload_n 1) xi0
  (cec 17 0 (.iload_n 2) xi0
  (cec 18 0 (.if_icmp .eq 25) xi0
  (cec 21 0 (.iload_n 3) xi0
  (cec 22 0 (.invokestatic 426) (238, 1, 0, 0)
  (cec 25 0 (.ifCond .eq 18) xi0
  (cec 28 0 (.iload_n 3) xi0
  (cec 29 0 .i2l xi0
  (cec 30 0 (.aload_n 0) xi0
  (cec 31 0 (.iload_n 1) xi0
  (cec 32 0 (.aload_n 0) xi0
  (cec 33 0 (.invokevirtual 436) (243, 1, 0, 22)
  (cec 36 0 (.invokevirtual 464) (246, 3, 1, 22)
  (cec 39 0 .lcmp xi0
  (cec 40 0 (.ifCond .le 5) xi0
  (cec 43 0 (.iconst 0) xi0
  (cec 44 0 .ireturn xi0
  (cec 45 0 (.aload_n 0) xi0
  (cec 46 0 (.getfield 115) (12, 51, 2, 0)
  (cec 49 0 (.iload_n 1) xi0
  (cec 50 0 .laload xi0
  (cec 51 0 (.iload_n 3) xi0
  (cec 52 0 .i2l xi0
  (cec 53 0 .ladd xi0
  (cec 54 0 (.aload_n 0) xi0
  (cec 55 0 (.getfield 91) (12, 43, 2, 0)
  (cec 58 0 (.iload_n 1) xi0
  (cec 59 0 .iaload xi0
  (cec 60 0 .i2l xi0
  (cec 61 0 (.aload_n 0) xi0
  (cec 62 0 (.bipush 109) xi0
  (cec 64 0 (.aload_n 0) xi0
  (cec 65 0 (.getfield 250) (12, 2, 0, 0)
  (cec 68 0 (.invokevirtual 419) (236, 3, 0, 22)
  (cec 71 0 .i2l xi0
  (cec 72 0 .lmul xi0
  (cec 73 0 (.ldc2_w 472) (0, 0, 100, 0)
  (cec 76 0 .ldiv xi0
  (cec 77 0 .lcmp xi0
  (cec 78 0 (.ifCond .le 5) xi0 cs_252_1)))))))))))))))))))))))))))))))))))))))))))))))
/-- SupplyBookModel.canMove(I)Z -/
noncomputable def cs_253 : List CE := cec 0 0 (.aload_n 0) xi0
  (cec 1 0 (.iload_n 1) xi0
  (cec 2 0 (.invokevirtual 433) (241, 2, 0, 22)
  (cec 5 0 (.ifCond .eq 49) xi0
  (cec 8 0 (.aload_n 0) xi0
  (cec 9 0 (.getfield 85) (12, 41, 2, 0)
  (cec 12 0 (.iload_n 1) xi0
  (cec 13 0 .iaload xi0
  (cec 14 0 (.ifCond .eq 13) xi0
  (cec 17 0 (.aload_n 0) xi0
  (cec 18 0 (.getfield 85) (12, 41, 2, 0)
  (cec 21 0 (.iload_n 1) xi0
  (cec 22 0 .iaload xi0
  (cec 23 0 (.iconst 2) xi0
  (cec 24 0 (.if_icmp .ne 30) xi0
  (cec 27 7 (.aload_n 0) xi0
  (cec 28 0 (.getfield 94) (12, 44, 2, 0)
  (cec 31 0 (.iload_n 1) xi0
  (cec 32 0 .iaload xi0
  (cec 33 0 (.aload_n 0) xi0
  (cec 34 0 (.invokevirtual 436) (243, 1, 0, 22)
  (cec 37 0 (.if_icmp .ne 17) xi0
  (cec 40 0 (.aload_n 0) xi0
  (cec 41 0 (.getfield 97) (12, 45, 2, 0)
  (cec 44 0 (.iload_n 1) xi0
  (cec 45 0 .iaload xi0
  (cec 46 0 (.iconst (-1)) xi0
  (cec 47 0 (.if_icmp .ne 7) xi0
  (cec 50 0 (.iconst 1) xi0
  (cec 51 0 (.goto 4) xi0
  (cec 54 0 (.iconst 0) xi0
  (cec 55 0 .ireturn xi0 [])))))))))))))))))))))))))))))))
noncomputable def cs_254_1 : List CE := cec 82 0 .iaload xi0
  (cec 83 0 (.invokevirtual 266) (199, 3, 0, 22)
  (cec 86 0 (.ifCond .eq 30) xi0
  (cec 89 0 (.aload_n 0) xi0
  (cec 90 0 (.iload_n 2) xi0
  (cec 91 0 (.aload_n 0) xi0
  (cec 92 0 (.getfield 94) (12, 44, 2, 0)
  (cec 95 0 (.iload_n 1) xi0
  (cec 96 0 .iaload xi0
  (cec 97 0 (.invokevirtual 464) (246, 3, 1, 22)
  (cec 100 0 (.aload_n 0) xi0
  (cec 101 0 (.iload_n 1) xi0
  (cec 102 0 (.aload_n 0) xi0
  (cec 103 0 (.getfield 94) (12, 44, 2, 0)
  (cec 106 0 (.iload_n 1) xi0
  (cec 107 0 .iaload xi0
  (cec 108 0 (.iconst (-1)) xi0
  (cec 109 0 (.invokevirtual 450) (247, 4, 1, 22)
  (cec 112 0 .lcmp xi0
  (cec 113 0 (.ifCond .ge 5) xi0
  (cec 116 0 (.iconst 0) xi0
  (cec 117 0 .ireturn xi0
  (cec 118 0 (.aload_n 0) xi0
  (cec 119 0 (.getfield 100) (12, 46, 2, 0)
  (cec 122 0 (.iload_n 1) xi0
  (cec 123 0 (.iload_n 2) xi0
  (cec 124 0 .iastore xi0
  (cec 125 0 (.aload_n 0) xi0
  (cec 126 0 (.getfield 103) (12, 47, 2, 0)
  (cec 129 0 (.iload_n 1) xi0
  (cec 130 0 (.aload_n 0) xi0
  (cec 131 0 (.getfield 250) (12, 2, 0, 0)
  (cec 134 0 .iastore xi0
  (cec 135 0 (.iconst 1) xi0
  (cec 136 0 .ireturn xi0 []))))))))))))))))))))))))))))))))))
/-- SupplyBookModel.cover(II)Z -/
noncomputable def cs_254 : List CE := cec 0 0 (.aload_n 0) xi0
  (cec 1 0 (.iload_n 1) xi0
  (cec 2 0 (.invokevirtual 433) (241, 2, 0, 22)
  (cec 5 0 (.ifCond .eq 111) xi0
  (cec 8 0 (.aload_n 0) xi0
  (cec 9 0 (.iload_n 2) xi0
  (cec 10 0 (.invokevirtual 433) (241, 2, 0, 22)
  (cec 13 0 (.ifCond .eq 103) xi0
  (cec 16 0 (.aload_n 0) xi0
  (cec 17 0 (.getfield 85) (12, 41, 2, 0)
  (cec 20 0 (.iload_n 1) xi0
  (cec 21 0 .iaload xi0
  (cec 22 0 (.iconst 4) xi0
  (cec 23 0 (.if_icmp .ne 93) xi0
  (cec 26 0 (.aload_n 0) xi0
  (cec 27 0 (.getfield 100) (12, 46, 2, 0)
  (cec 30 0 (.iload_n 1) xi0
  (cec 31 0 .iaload xi0
  (cec 32 0 (.iconst (-1)) xi0
  (cec 33 0 (.if_icmp .ne 83) xi0
  (cec 36 0 (.aload_n 0) xi0
  (cec 37 0 (.getfield 85) (12, 41, 2, 0)
  (cec 40 0 (.iload_n 2) xi0
  (cec 41 0 .iaload xi0
  (cec 42 0 (.ifCond .ne 74) xi0
  (cec 45 0 (.aload_n 0) xi0
  (cec 46 0 (.getfield 97) (12, 45, 2, 0)
  (cec 49 0 (.iload_n 2) xi0
  (cec 50 0 .iaload xi0
  (cec 51 0 (.iconst (-1)) xi0
  (cec 52 0 (.if_icmp .ne 64) xi0
  (cec 55 0 (.aload_n 0) xi0
  (cec 56 0 (.getfield 94) (12, 44, 2, 0)
  (cec 59 0 (.iload_n 2) xi0
  (cec 60 0 .iaload xi0
  (cec 61 0 (.aload_n 0) xi0
  (cec 62 0 (.getfield 94) (12, 44, 2, 0)
  (cec 65 0 (.iload_n 1) xi0
  (cec 66 0 .iaload xi0
  (cec 67 0 (.if_icmp .ne 49) xi0
  (cec 70 0 (.aload_n 0) xi0
  (cec 71 0 (.aload_n 0) xi0
  (cec 72 0 (.getfield 88) (12, 42, 2, 0)
  (cec 75 0 (.iload_n 1) xi0
  (cec 76 0 .iaload xi0
  (cec 77 0 (.aload_n 0) xi0
  (cec 78 0 (.getfield 88) (12, 42, 2, 0)
  (cec 81 0 (.iload_n 2) xi0 cs_254_1)))))))))))))))))))))))))))))))))))))))))))))))
/-- SupplyBookModel.strike(I)Z -/
noncomputable def cs_255 : List CE := cec 0 0 (.aload_n 0) xi0
  (cec 1 0 (.iload_n 1) xi0
  (cec 2 0 (.invokevirtual 433) (241, 2, 0, 22)
  (cec 5 0 (.ifCond .eq 13) xi0
  (cec 8 0 (.aload_n 0) xi0
  (cec 9 0 (.getfield 97) (12, 45, 2, 0)
  (cec 12 0 (.iload_n 1) xi0
  (cec 13 0 .iaload xi0
  (cec 14 0 (.iconst (-1)) xi0
  (cec 15 0 (.if_icmp .eq 5) xi0
  (cec 18 0 (.iconst 0) xi0
  (cec 19 0 .ireturn xi0
  (cec 20 0 (.aload_n 0) xi0
  (cec 21 0 (.getfield 97) (12, 45, 2, 0)
  (cec 24 0 (.iload_n 1) xi0
  (cec 25 0 (.aload_n 0) xi0
  (cec 26 0 (.getfield 250) (12, 2, 0, 0)
  (cec 29 0 .iastore xi0
  (cec 30 0 (.iconst 1) xi0
  (cec 31 0 .ireturn xi0 [])))))))))))))))))))
noncomputable def cs_256_2 : List CE := cec 175 0 .iadd xi0
  (cec 176 0 (.putfield 441) (12, 52, 0, 0)
  (cec 179 0 (.aload_n 0) xi0
  (cec 180 0 (.getfield 441) (12, 52, 0, 0)
  (cec 183 0 (.iconst 1) xi0
  (cec 184 0 .isub xi0
  (cec 185 0 .ireturn xi0 []))))))
noncomputable def cs_256_1 : List CE := cec 94 0 (.iload_n 1) xi0
  (cec 95 0 .iastore xi0
  (cec 96 0 (.aload_n 0) xi0
  (cec 97 0 (.getfield 121) (12, 55, 2, 0)
  (cec 100 0 (.aload_n 0) xi0
  (cec 101 0 (.getfield 441) (12, 52, 0, 0)
  (cec 104 0 (.iload_n 2) xi0
  (cec 105 0 .iastore xi0
  (cec 106 0 (.aload_n 0) xi0
  (cec 107 0 (.getfield 124) (12, 56, 2, 0)
  (cec 110 0 (.aload_n 0) xi0
  (cec 111 0 (.getfield 441) (12, 52, 0, 0)
  (cec 114 0 (.iload_n 3) xi0
  (cec 115 0 .iastore xi0
  (cec 116 0 (.aload_n 0) xi0
  (cec 117 0 (.getfield 127) (12, 57, 2, 0)
  (cec 120 0 (.aload_n 0) xi0
  (cec 121 0 (.getfield 441) (12, 52, 0, 0)
  (cec 124 0 (.iload 4) xi0
  (cec 126 0 .iastore xi0
  (cec 127 0 (.aload_n 0) xi0
  (cec 128 0 (.getfield 130) (12, 58, 2, 0)
  (cec 131 0 (.aload_n 0) xi0
  (cec 132 0 (.getfield 441) (12, 52, 0, 0)
  (cec 135 0 (.iload 5) xi0
  (cec 137 0 .iastore xi0
  (cec 138 0 (.aload_n 0) xi0
  (cec 139 0 (.getfield 133) (12, 59, 2, 0)
  (cec 142 0 (.aload_n 0) xi0
  (cec 143 0 (.getfield 441) (12, 52, 0, 0)
  (cec 146 0 (.iload 6) xi0
  (cec 148 0 .bastore xi0
  (cec 149 0 (.aload_n 0) xi0
  (cec 150 0 (.getfield 139) (12, 61, 2, 0)
  (cec 153 0 (.aload_n 0) xi0
  (cec 154 0 (.getfield 441) (12, 52, 0, 0)
  (cec 157 0 (.iconst (-1)) xi0
  (cec 158 0 .iastore xi0
  (cec 159 0 (.aload_n 0) xi0
  (cec 160 0 (.getfield 142) (12, 62, 2, 0)
  (cec 163 0 (.aload_n 0) xi0
  (cec 164 0 (.getfield 441) (12, 52, 0, 0)
  (cec 167 0 (.iconst (-1)) xi0
  (cec 168 0 .iastore xi0
  (cec 169 0 (.aload_n 0) xi0
  (cec 170 0 .dup xi0
  (cec 171 0 (.getfield 441) (12, 52, 0, 0)
  (cec 174 0 (.iconst 1) xi0 cs_256_2)))))))))))))))))))))))))))))))))))))))))))))))
/-- SupplyBookModel.claim(IIIIIZ)I -/
noncomputable def cs_256 : List CE := cec 0 0 (.aload_n 0) xi0
  (cec 1 0 (.getfield 441) (12, 52, 0, 0)
  (cec 4 0 (.sipush 300) xi0
  (cec 7 0 (.if_icmp .eq 77) xi0
  (cec 10 0 (.aload_n 0) xi0
  (cec 11 0 (.iload_n 1) xi0
  (cec 12 0 (.invokevirtual 510) (257, 2, 0, 22)
  (cec 15 0 (.ifCond .eq 69) xi0
  (cec 18 0 (.aload_n 0) xi0
  (cec 19 0 (.iload_n 2) xi0
  (cec 20 0 (.invokevirtual 262) (197, 2, 0, 22)
  (cec 23 0 (.ifCond .eq 61) xi0
  (cec 26 0 (.aload_n 0) xi0
  (cec 27 0 (.iload_n 2) xi0
  (cec 28 0 (.aload_n 0) xi0
  (cec 29 0 (.getfield 17) (12, 7, 2, 0)
  (cec 32 0 (.iload_n 1) xi0
  (cec 33 0 .iaload xi0
  (cec 34 0 (.invokevirtual 266) (199, 3, 0, 22)
  (cec 37 0 (.ifCond .eq 47) xi0
  (cec 40 0 (.iload_n 3) xi0
  (cec 41 0 .i2l xi0
  (cec 42 0 (.lconst 0) xi0
  (cec 43 0 (.ldc2_w 270) (0, 0, 9, 0)
  (cec 46 0 (.invokestatic 246) (195, 3, 0, 0)
  (cec 49 0 (.ifCond .eq 35) xi0
  (cec 52 0 (.iload 4) xi0
  (cec 54 0 .i2l xi0
  (cec 55 0 (.lconst 1) xi0
  (cec 56 0 (.ldc2_w 244) (0, 0, 1000000000, 0)
  (cec 59 0 (.invokestatic 246) (195, 3, 0, 0)
  (cec 62 0 (.ifCond .eq 22) xi0
  (cec 65 0 (.iload 5) xi0
  (cec 67 0 .i2l xi0
  (cec 68 0 (.ldc2_w 513) (0, 0, (-1), 0)
  (cec 71 0 (.aload_n 0) xi0
  (cec 72 0 (.getfield 454) (12, 70, 0, 0)
  (cec 75 0 (.iconst 1) xi0
  (cec 76 0 .isub xi0
  (cec 77 0 .i2l xi0
  (cec 78 0 (.invokestatic 246) (195, 3, 0, 0)
  (cec 81 0 (.ifCond .ne 5) xi0
  (cec 84 0 (.iconst (-1)) xi0
  (cec 85 0 .ireturn xi0
  (cec 86 0 (.aload_n 0) xi0
  (cec 87 0 (.getfield 118) (12, 54, 2, 0)
  (cec 90 0 (.aload_n 0) xi0
  (cec 91 0 (.getfield 441) (12, 52, 0, 0) cs_256_1)))))))))))))))))))))))))))))))))))))))))))))))
/-- SupplyBookModel.isHand(I)Z -/
noncomputable def cs_257 : List CE := cec 0 0 (.iload_n 1) xi0
  (cec 1 0 .i2l xi0
  (cec 2 0 (.lconst 0) xi0
  (cec 3 0 (.aload_n 0) xi0
  (cec 4 0 (.getfield 259) (12, 5, 0, 0)
  (cec 7 0 (.iconst 1) xi0
  (cec 8 0 .isub xi0
  (cec 9 0 .i2l xi0
  (cec 10 0 (.invokestatic 246) (195, 3, 0, 0)
  (cec 13 0 .ireturn xi0 [])))))))))
noncomputable def cs_258_1 : List CE := cec 78 0 (.iconst 1) xi0
  (cec 79 0 (.iload_n 2) xi0
  (cec 80 0 .ishl xi0
  (cec 81 0 .ior xi0
  (cec 82 0 .iastore xi0
  (cec 83 0 (.iconst 1) xi0
  (cec 84 0 .ireturn xi0 []))))))
/-- SupplyBookModel.sign(II)Z -/
noncomputable def cs_258 : List CE := cec 0 0 (.aload_n 0) xi0
  (cec 1 0 (.iload_n 1) xi0
  (cec 2 0 (.invokevirtual 515) (259, 2, 0, 22)
  (cec 5 0 (.ifCond .eq 64) xi0
  (cec 8 0 (.aload_n 0) xi0
  (cec 9 0 (.iload_n 2) xi0
  (cec 10 0 (.invokevirtual 510) (257, 2, 0, 22)
  (cec 13 0 (.ifCond .eq 56) xi0
  (cec 16 0 (.aload_n 0) xi0
  (cec 17 0 (.getfield 118) (12, 54, 2, 0)
  (cec 20 0 (.iload_n 1) xi0
  (cec 21 0 .iaload xi0
  (cec 22 0 (.iload_n 2) xi0
  (cec 23 0 (.if_icmp .eq 46) xi0
  (cec 26 0 (.aload_n 0) xi0
  (cec 27 0 (.getfield 136) (12, 60, 2, 0)
  (cec 30 0 (.iload_n 1) xi0
  (cec 31 0 .iaload xi0
  (cec 32 0 (.iload_n 2) xi0
  (cec 33 0 .ishr xi0
  (cec 34 0 (.iconst 1) xi0
  (cec 35 0 .iand xi0
  (cec 36 0 (.iconst 1) xi0
  (cec 37 0 (.if_icmp .eq 32) xi0
  (cec 40 0 (.aload_n 0) xi0
  (cec 41 0 (.aload_n 0) xi0
  (cec 42 0 (.getfield 121) (12, 55, 2, 0)
  (cec 45 0 (.iload_n 1) xi0
  (cec 46 0 .iaload xi0
  (cec 47 0 (.aload_n 0) xi0
  (cec 48 0 (.getfield 17) (12, 7, 2, 0)
  (cec 51 0 (.iload_n 2) xi0
  (cec 52 0 .iaload xi0
  (cec 53 0 (.invokevirtual 266) (199, 3, 0, 22)
  (cec 56 0 (.ifCond .eq 13) xi0
  (cec 59 0 (.aload_n 0) xi0
  (cec 60 0 (.getfield 139) (12, 61, 2, 0)
  (cec 63 0 (.iload_n 1) xi0
  (cec 64 0 .iaload xi0
  (cec 65 0 (.iconst (-1)) xi0
  (cec 66 0 (.if_icmp .eq 5) xi0
  (cec 69 0 (.iconst 0) xi0
  (cec 70 0 .ireturn xi0
  (cec 71 0 (.aload_n 0) xi0
  (cec 72 0 (.getfield 136) (12, 60, 2, 0)
  (cec 75 0 (.iload_n 1) xi0
  (cec 76 0 .dup2 xi0
  (cec 77 0 .iaload xi0 cs_258_1)))))))))))))))))))))))))))))))))))))))))))))))
/-- SupplyBookModel.isClaim(I)Z -/
noncomputable def cs_259 : List CE := cec 0 0 (.iload_n 1) xi0
  (cec 1 0 .i2l xi0
  (cec 2 0 (.lconst 0) xi0
  (cec 3 0 (.aload_n 0) xi0
  (cec 4 0 (.getfield 441) (12, 52, 0, 0)
  (cec 7 0 (.iconst 1) xi0
  (cec 8 0 .isub xi0
  (cec 9 0 .i2l xi0
  (cec 10 0 (.invokestatic 246) (195, 3, 0, 0)
  (cec 13 0 .ireturn xi0 [])))))))))
/-- SupplyBookModel.may(I)I -/
noncomputable def cs_260 : List CE := cec 0 0 (.aload_n 0) xi0
  (cec 1 0 (.iload_n 1) xi0
  (cec 2 0 (.invokevirtual 515) (259, 2, 0, 22)
  (cec 5 0 (.ifCond .eq 21) xi0
  (cec 8 0 (.aload_n 0) xi0
  (cec 9 0 (.getfield 139) (12, 61, 2, 0)
  (cec 12 0 (.iload_n 1) xi0
  (cec 13 0 .iaload xi0
  (cec 14 0 (.iconst (-1)) xi0
  (cec 15 0 (.if_icmp .ne 11) xi0
  (cec 18 0 (.aload_n 0) xi0
  (cec 19 0 (.iload_n 1) xi0
  (cec 20 0 (.invokevirtual 518) (261, 2, 0, 22)
  (cec 23 0 (.goto 4) xi0
  (cec 26 0 (.iconst (-1)) xi0
  (cec 27 0 .ireturn xi0 [])))))))))))))))
noncomputable def cs_261_1 : List CE := cec 85 0 (.iload_n 2) xi0
  (cec 86 0 (.if_icmp .le 8) xi0
  (cec 89 0 (.iload 5) xi0
  (cec 91 0 (.goto 4) xi0
  (cec 94 0 (.iload_n 2) xi0
  (cec 95 0 (.istore_n 2) xi0
  (cec 96 0 (.iinc 4 1) xi0
  (cec 99 0 (.goto (-87)) xi0
  (cec 102 0 (.iinc 3 1) xi0
  (cec 105 0 (.goto (-101)) xi0
  (cec 108 0 (.bipush (-10)) xi0
  (cec 110 0 (.iload_n 2) xi0
  (cec 111 0 .isub xi0
  (cec 112 0 .ireturn xi0 [])))))))))))))
/-- SupplyBookModel.lets(I)I -/
noncomputable def cs_261 : List CE := cec 0 0 (.iconst 1) xi0
  (cec 1 0 (.istore_n 2) xi0
  (cec 2 0 (.iconst 0) xi0
  (cec 3 0 (.istore_n 3) xi0
  (cec 4 31 (.iload_n 3) xi0
  (cec 5 0 (.iconst 4) xi0
  (cec 6 0 (.if_icmp .gt 102) xi0
  (cec 9 0 (.iconst 0) xi0
  (cec 10 0 (.istore 4) xi0
  (cec 12 63 (.iload 4) xi0
  (cec 14 0 (.aload_n 0) xi0
  (cec 15 0 (.getfield 423) (12, 40, 0, 0)
  (cec 18 0 (.if_icmp .ge 84) xi0
  (cec 21 0 (.aload_n 0) xi0
  (cec 22 0 (.getfield 85) (12, 41, 2, 0)
  (cec 25 0 (.iload 4) xi0
  (cec 27 0 .iaload xi0
  (cec 28 0 (.iload_n 3) xi0
  (cec 29 0 (.if_icmp .ne 67) xi0
  (cec 32 0 (.iload_n 3) xi0
  (cec 33 0 (.iconst 1) xi0
  (cec 34 0 (.if_icmp .eq 62) xi0
  (cec 37 0 (.aload_n 0) xi0
  (cec 38 0 (.getfield 130) (12, 58, 2, 0)
  (cec 41 0 (.iload_n 1) xi0
  (cec 42 0 .iaload xi0
  (cec 43 0 (.iconst (-1)) xi0
  (cec 44 0 (.if_icmp .eq 22) xi0
  (cec 47 0 (.aload_n 0) xi0
  (cec 48 0 (.getfield 166) (12, 71, 2, 0)
  (cec 51 0 (.aload_n 0) xi0
  (cec 52 0 (.getfield 130) (12, 58, 2, 0)
  (cec 55 0 (.iload_n 1) xi0
  (cec 56 0 .iaload xi0
  (cec 57 0 .iaload xi0
  (cec 58 0 (.iload 4) xi0
  (cec 60 0 (.if_icmp .eq 6) xi0
  (cec 63 0 (.goto 33) xi0
  (cec 66 63 (.aload_n 0) xi0
  (cec 67 0 (.iload_n 1) xi0
  (cec 68 0 (.iload 4) xi0
  (cec 70 0 (.invokevirtual 507) (262, 3, 0, 22)
  (cec 73 0 (.istore 5) xi0
  (cec 75 0 (.iload 5) xi0
  (cec 77 0 (.ifCond .ne 6) xi0
  (cec 80 0 (.iload 4) xi0
  (cec 82 0 .ireturn xi0
  (cec 83 0 (.iload 5) xi0 cs_261_1)))))))))))))))))))))))))))))))))))))))))))))))
noncomputable def cs_262_1 : List CE := cec 78 0 (.invokevirtual 436) (243, 1, 0, 22)
  (cec 81 0 (.invokevirtual 464) (246, 3, 1, 22)
  (cec 84 0 (.goto 17) xi0
  (cec 87 0 (.aload_n 0) xi0
  (cec 88 0 (.aload_n 0) xi0
  (cec 89 0 (.getfield 130) (12, 58, 2, 0)
  (cec 92 0 (.iload_n 1) xi0
  (cec 93 0 .iaload xi0
  (cec 94 0 (.aload_n 0) xi0
  (cec 95 0 (.invokevirtual 436) (243, 1, 0, 22)
  (cec 98 0 (.invokevirtual 457) (250, 3, 1, 22)
  (cec 101 15 (.lstore_n 3) xi0
  (cec 102 0 (.lload_n 3) xi0
  (cec 103 0 (.aload_n 0) xi0
  (cec 104 0 (.getfield 127) (12, 57, 2, 0)
  (cec 107 0 (.iload_n 1) xi0
  (cec 108 0 .iaload xi0
  (cec 109 0 .i2l xi0
  (cec 110 0 .lcmp xi0
  (cec 111 0 (.ifCond .ge 5) xi0
  (cec 114 0 (.iconst 3) xi0
  (cec 115 0 .ireturn xi0
  (cec 116 0 (.aload_n 0) xi0
  (cec 117 0 (.iload_n 1) xi0
  (cec 118 0 (.iload_n 2) xi0
  (cec 119 0 (.invokevirtual 501) (263, 3, 0, 22)
  (cec 122 0 (.ifCond .ne 5) xi0
  (cec 125 0 (.iconst 4) xi0
  (cec 126 0 .ireturn xi0
  (cec 127 0 (.aload_n 0) xi0
  (cec 128 0 (.iload_n 1) xi0
  (cec 129 0 (.putfield 474) (12, 75, 0, 0)
  (cec 132 0 (.aload_n 0) xi0
  (cec 133 0 (.aload_n 0) xi0
  (cec 134 0 (.iload_n 2) xi0
  (cec 135 0 (.aload_n 0) xi0
  (cec 136 0 (.invokevirtual 436) (243, 1, 0, 22)
  (cec 139 0 (.invokevirtual 464) (246, 3, 1, 22)
  (cec 142 0 (.putfield 480) (12, 76, 1, 0)
  (cec 145 0 (.aload_n 0) xi0
  (cec 146 0 (.iload_n 2) xi0
  (cec 147 0 (.invokevirtual 504) (264, 2, 0, 22)
  (cec 150 0 .ireturn xi0 []))))))))))))))))))))))))))))))))))))))))))
/-- SupplyBookModel.bar(II)I -/
noncomputable def cs_262 : List CE := cec 0 0 (.aload_n 0) xi0
  (cec 1 0 (.aload_n 0) xi0
  (cec 2 0 (.getfield 121) (12, 55, 2, 0)
  (cec 5 0 (.iload_n 1) xi0
  (cec 6 0 .iaload xi0
  (cec 7 0 (.aload_n 0) xi0
  (cec 8 0 (.getfield 88) (12, 42, 2, 0)
  (cec 11 0 (.iload_n 2) xi0
  (cec 12 0 .iaload xi0
  (cec 13 0 (.invokevirtual 266) (199, 3, 0, 22)
  (cec 16 0 (.ifCond .eq 15) xi0
  (cec 19 0 (.aload_n 0) xi0
  (cec 20 0 (.iload_n 2) xi0
  (cec 21 0 (.aload_n 0) xi0
  (cec 22 0 (.invokevirtual 436) (243, 1, 0, 22)
  (cec 25 0 (.invokevirtual 461) (245, 3, 0, 22)
  (cec 28 0 (.ifCond .ne 5) xi0
  (cec 31 0 (.iconst 1) xi0
  (cec 32 0 .ireturn xi0
  (cec 33 0 (.aload_n 0) xi0
  (cec 34 0 (.getfield 97) (12, 45, 2, 0)
  (cec 37 0 (.iload_n 2) xi0
  (cec 38 0 .iaload xi0
  (cec 39 0 (.iconst (-1)) xi0
  (cec 40 0 (.if_icmp .ne 23) xi0
  (cec 43 0 (.aload_n 0) xi0
  (cec 44 0 (.getfield 85) (12, 41, 2, 0)
  (cec 47 0 (.iload_n 2) xi0
  (cec 48 0 .iaload xi0
  (cec 49 0 (.iconst 4) xi0
  (cec 50 0 (.if_icmp .ne 15) xi0
  (cec 53 0 (.aload_n 0) xi0
  (cec 54 0 (.getfield 100) (12, 46, 2, 0)
  (cec 57 0 (.iload_n 2) xi0
  (cec 58 0 .iaload xi0
  (cec 59 0 (.iconst (-1)) xi0
  (cec 60 0 (.if_icmp .eq 5) xi0
  (cec 63 0 (.iconst 2) xi0
  (cec 64 0 .ireturn xi0
  (cec 65 15 (.aload_n 0) xi0
  (cec 66 0 (.getfield 130) (12, 58, 2, 0)
  (cec 69 0 (.iload_n 1) xi0
  (cec 70 0 .iaload xi0
  (cec 71 0 (.iconst (-1)) xi0
  (cec 72 0 (.if_icmp .ne 15) xi0
  (cec 75 0 (.aload_n 0) xi0
  (cec 76 0 (.iload_n 2) xi0
  (cec 77 0 (.aload_n 0) xi0 cs_262_1)))))))))))))))))))))))))))))))))))))))))))))))
noncomputable def cs_263_1 : List CE := cec 80 0 .ireturn xi0
  (cec 81 0 (.iinc 3 1) xi0
  (cec 84 0 (.goto (-82)) xi0
  (cec 87 0 (.iconst 1) xi0
  (cec 88 0 .ireturn xi0 []))))
/-- SupplyBookModel.isBelowCeilings(II)Z -/
noncomputable def cs_263 : List CE := cec 0 0 (.iconst 0) xi0
  (cec 1 0 (.istore_n 3) xi0
  (cec 2 31 (.iload_n 3) xi0
  (cec 3 0 (.aload_n 0) xi0
  (cec 4 0 (.getfield 423) (12, 40, 0, 0)
  (cec 7 0 (.if_icmp .ge 80) xi0
  (cec 10 0 (.aload_n 0) xi0
  (cec 11 0 (.getfield 85) (12, 41, 2, 0)
  (cec 14 0 (.iload_n 3) xi0
  (cec 15 0 .iaload xi0
  (cec 16 0 (.iconst 1) xi0
  (cec 17 0 (.if_icmp .ne 64) xi0
  (cec 20 0 (.aload_n 0) xi0
  (cec 21 0 (.getfield 100) (12, 46, 2, 0)
  (cec 24 0 (.iload_n 3) xi0
  (cec 25 0 .iaload xi0
  (cec 26 0 (.iload_n 2) xi0
  (cec 27 0 (.if_icmp .ne 54) xi0
  (cec 30 0 (.aload_n 0) xi0
  (cec 31 0 (.getfield 97) (12, 45, 2, 0)
  (cec 34 0 (.iload_n 3) xi0
  (cec 35 0 .iaload xi0
  (cec 36 0 (.iconst (-1)) xi0
  (cec 37 0 (.if_icmp .ne 44) xi0
  (cec 40 0 (.aload_n 0) xi0
  (cec 41 0 (.aload_n 0) xi0
  (cec 42 0 (.getfield 121) (12, 55, 2, 0)
  (cec 45 0 (.iload_n 1) xi0
  (cec 46 0 .iaload xi0
  (cec 47 0 (.aload_n 0) xi0
  (cec 48 0 (.getfield 88) (12, 42, 2, 0)
  (cec 51 0 (.iload_n 3) xi0
  (cec 52 0 .iaload xi0
  (cec 53 0 (.invokevirtual 266) (199, 3, 0, 22)
  (cec 56 0 (.ifCond .eq 25) xi0
  (cec 59 0 (.aload_n 0) xi0
  (cec 60 0 (.iload_n 3) xi0
  (cec 61 0 (.aload_n 0) xi0
  (cec 62 0 (.invokevirtual 436) (243, 1, 0, 22)
  (cec 65 0 (.invokevirtual 464) (246, 3, 1, 22)
  (cec 68 0 (.aload_n 0) xi0
  (cec 69 0 (.getfield 127) (12, 57, 2, 0)
  (cec 72 0 (.iload_n 1) xi0
  (cec 73 0 .iaload xi0
  (cec 74 0 .i2l xi0
  (cec 75 0 .lcmp xi0
  (cec 76 0 (.ifCond .ge 5) xi0
  (cec 79 0 (.iconst 0) xi0 cs_263_1)))))))))))))))))))))))))))))))))))))))))))))))
noncomputable def cs_264_1 : List CE := cec 75 0 (.getfield 250) (12, 2, 0, 0)
  (cec 78 0 (.invokevirtual 415) (234, 4, 0, 22)
  (cec 81 0 (.ifCond .eq 16) xi0
  (cec 84 0 (.aload_n 0) xi0
  (cec 85 0 (.bipush 16) xi0
  (cec 87 0 (.iload_n 2) xi0
  (cec 88 0 .imul xi0
  (cec 89 0 (.iload_n 3) xi0
  (cec 90 0 .iadd xi0
  (cec 91 0 (.invokevirtual 498) (265, 2, 0, 22)
  (cec 94 0 (.goto 4) xi0
  (cec 97 0 (.iconst 0) xi0
  (cec 98 0 (.istore 4) xi0
  (cec 100 0 (.iload 4) xi0
  (cec 102 0 (.ifCond .le 6) xi0
  (cec 105 0 (.iload 4) xi0
  (cec 107 0 .ireturn xi0
  (cec 108 0 (.iinc 3 1) xi0
  (cec 111 0 (.goto (-50)) xi0
  (cec 114 0 (.iinc 2 1) xi0
  (cec 117 0 (.goto (-66)) xi0
  (cec 120 0 (.iconst 0) xi0
  (cec 121 0 .ireturn xi0 []))))))))))))))))))))))
/-- SupplyBookModel.barsOfTexts(I)I -/
noncomputable def cs_264 : List CE := cec 0 0 (.iconst 0) xi0
  (cec 1 0 (.istore_n 2) xi0
  (cec 2 15 (.iload_n 2) xi0
  (cec 3 0 (.aload_n 0) xi0
  (cec 4 0 (.getfield 27) (12, 10, 2, 0)
  (cec 7 0 (.bipush 20) xi0
  (cec 9 0 (.iload_n 1) xi0
  (cec 10 0 .iadd xi0
  (cec 11 0 .iaload xi0
  (cec 12 0 (.if_icmp .ge 29) xi0
  (cec 15 0 (.aload_n 0) xi0
  (cec 16 0 (.bipush 16) xi0
  (cec 18 0 (.bipush 20) xi0
  (cec 20 0 (.iload_n 1) xi0
  (cec 21 0 .iadd xi0
  (cec 22 0 .imul xi0
  (cec 23 0 (.iload_n 2) xi0
  (cec 24 0 .iadd xi0
  (cec 25 0 (.invokevirtual 498) (265, 2, 0, 22)
  (cec 28 0 (.istore_n 3) xi0
  (cec 29 0 (.iload_n 3) xi0
  (cec 30 0 (.ifCond .le 5) xi0
  (cec 33 0 (.iload_n 3) xi0
  (cec 34 0 .ireturn xi0
  (cec 35 0 (.iinc 2 1) xi0
  (cec 38 0 (.goto (-36)) xi0
  (cec 41 0 (.aload_n 0) xi0
  (cec 42 0 (.aload_n 0) xi0
  (cec 43 0 (.getfield 250) (12, 2, 0, 0)
  (cec 46 0 (.invokevirtual 412) (232, 2, 9, 22)
  (cec 49 0 (.iconst 0) xi0
  (cec 50 0 (.istore_n 2) xi0
  (cec 51 11 (.iload_n 2) xi0
  (cec 52 0 (.aload_n 0) xi0
  (cec 53 0 (.getfield 397) (12, 36, 0, 0)
  (cec 56 0 (.if_icmp .ge 64) xi0
  (cec 59 0 (.iconst 0) xi0
  (cec 60 0 (.istore_n 3) xi0
  (cec 61 27 (.iload_n 3) xi0
  (cec 62 0 (.aload_n 0) xi0
  (cec 63 0 (.getfield 27) (12, 10, 2, 0)
  (cec 66 0 (.iload_n 2) xi0
  (cec 67 0 .iaload xi0
  (cec 68 0 (.if_icmp .ge 46) xi0
  (cec 71 0 (.aload_n 0) xi0
  (cec 72 0 (.iload_n 2) xi0
  (cec 73 0 (.iload_n 3) xi0
  (cec 74 0 (.aload_n 0) xi0 cs_264_1)))))))))))))))))))))))))))))))))))))))))))))))
noncomputable def cs_265_1 : List CE := cec 80 0 .iaload xi0
  (cec 81 0 (.if_icmp .ge 8) xi0
  (cec 84 0 (.bipush 6) xi0
  (cec 86 0 (.goto 4) xi0
  (cec 89 0 (.iconst 0) xi0
  (cec 90 0 .ireturn xi0
  (cec 91 0 (.aload_n 0) xi0
  (cec 92 0 (.getfield 133) (12, 59, 2, 0)
  (cec 95 0 (.aload_n 0) xi0
  (cec 96 0 (.getfield 474) (12, 75, 0, 0)
  (cec 99 0 .baload xi0
  (cec 100 0 (.ifCond .eq 7) xi0
  (cec 103 0 (.iconst 0) xi0
  (cec 104 0 (.goto 5) xi0
  (cec 107 0 (.bipush 7) xi0
  (cec 109 0 .ireturn xi0 [])))))))))))))))
/-- SupplyBookModel.barOf(I)I -/
noncomputable def cs_265 : List CE := cec 0 0 (.aload_n 0) xi0
  (cec 1 0 (.getfield 30) (12, 11, 2, 0)
  (cec 4 0 (.iload_n 1) xi0
  (cec 5 0 .iaload xi0
  (cec 6 0 (.istore_n 2) xi0
  (cec 7 0 (.iload_n 2) xi0
  (cec 8 0 (.invokestatic 377) (208, 1, 0, 0)
  (cec 11 0 (.ifCond .ne 5) xi0
  (cec 14 0 (.iconst 0) xi0
  (cec 15 0 .ireturn xi0
  (cec 16 0 (.aload_n 0) xi0
  (cec 17 0 (.iload_n 1) xi0
  (cec 18 0 (.invokevirtual 495) (266, 2, 0, 22)
  (cec 21 0 (.istore_n 3) xi0
  (cec 22 0 (.iload_n 3) xi0
  (cec 23 0 (.iconst 2) xi0
  (cec 24 0 (.if_icmp .ne 6) xi0
  (cec 27 0 (.bipush 8) xi0
  (cec 29 0 .ireturn xi0
  (cec 30 0 (.iload_n 2) xi0
  (cec 31 0 (.bipush 111) xi0
  (cec 33 0 (.if_icmp .ne 14) xi0
  (cec 36 0 (.iload_n 3) xi0
  (cec 37 0 (.iconst 1) xi0
  (cec 38 0 (.if_icmp .ne 7) xi0
  (cec 41 0 (.iconst 0) xi0
  (cec 42 0 (.goto 4) xi0
  (cec 45 0 (.iconst 5) xi0
  (cec 46 0 .ireturn xi0
  (cec 47 0 (.iload_n 3) xi0
  (cec 48 0 (.ifCond .ne 5) xi0
  (cec 51 0 (.iconst 0) xi0
  (cec 52 0 .ireturn xi0
  (cec 53 0 (.iload_n 2) xi0
  (cec 54 0 (.bipush 110) xi0
  (cec 56 0 (.if_icmp .ne 5) xi0
  (cec 59 0 (.iconst 5) xi0
  (cec 60 0 .ireturn xi0
  (cec 61 0 (.iload_n 2) xi0
  (cec 62 0 (.bipush 115) xi0
  (cec 64 0 (.if_icmp .ne 27) xi0
  (cec 67 0 (.aload_n 0) xi0
  (cec 68 0 (.aload_n 0) xi0
  (cec 69 0 (.getfield 474) (12, 75, 0, 0)
  (cec 72 0 (.invokevirtual 477) (270, 2, 0, 22)
  (cec 75 0 (.aload_n 0) xi0
  (cec 76 0 (.getfield 33) (12, 12, 2, 0)
  (cec 79 0 (.iload_n 1) xi0 cs_265_1)))))))))))))))))))))))))))))))))))))))))))))))
noncomputable def cs_266_2 : List CE := cec 161 0 (.getfield 256) (12, 4, 0, 0)
  (cec 164 0 (.if_icmp .ge 30) xi0
  (cec 167 0 (.aload_n 0) xi0
  (cec 168 0 (.aload_n 0) xi0
  (cec 169 0 (.getfield 121) (12, 55, 2, 0)
  (cec 172 0 (.aload_n 0) xi0
  (cec 173 0 (.getfield 474) (12, 75, 0, 0)
  (cec 176 0 .iaload xi0
  (cec 177 0 (.aload_n 0) xi0
  (cec 178 0 (.getfield 48) (12, 17, 2, 0)
  (cec 181 0 (.iload 4) xi0
  (cec 183 0 .iaload xi0
  (cec 184 0 (.invokevirtual 266) (199, 3, 0, 22)
  (cec 187 0 (.ifCond .eq 7) xi0
  (cec 190 0 (.lconst 1) xi0
  (cec 191 0 (.goto 4) xi0
  (cec 194 0 (.lconst 0) xi0
  (cec 195 0 .lastore xi0
  (cec 196 0 (.iinc 2 1) xi0
  (cec 199 0 (.iinc 4 1) xi0
  (cec 202 0 (.goto (-181)) xi0
  (cec 205 0 (.aload_n 0) xi0
  (cec 206 0 (.getfield 181) (12, 78, 2, 0)
  (cec 209 0 (.iconst 0) xi0
  (cec 210 0 .baload xi0
  (cec 211 0 (.ifCond .eq 7) xi0
  (cec 214 0 (.iconst 2) xi0
  (cec 215 0 (.goto 10) xi0
  (cec 218 0 (.aload_n 0) xi0
  (cec 219 0 (.getfield 178) (12, 77, 2, 0)
  (cec 222 0 (.iconst 0) xi0
  (cec 223 0 .laload xi0
  (cec 224 0 .l2i xi0
  (cec 225 0 .ireturn xi0 [])))))))))))))))))))))))))))))))))
noncomputable def cs_266_1 : List CE := cec 80 0 .isub xi0
  (cec 81 0 (.lconst 1) xi0
  (cec 82 0 (.aload_n 0) xi0
  (cec 83 0 (.getfield 178) (12, 77, 2, 0)
  (cec 86 0 (.iload_n 2) xi0
  (cec 87 0 (.iconst 1) xi0
  (cec 88 0 .isub xi0
  (cec 89 0 .laload xi0
  (cec 90 0 .lsub xi0
  (cec 91 0 .lastore xi0
  (cec 92 0 (.goto 107) xi0
  (cec 95 0 (.aload_n 0) xi0
  (cec 96 0 (.getfield 181) (12, 78, 2, 0)
  (cec 99 0 (.iload_n 2) xi0
  (cec 100 0 (.iconst 0) xi0
  (cec 101 0 .bastore xi0
  (cec 102 0 (.aload_n 0) xi0
  (cec 103 0 (.getfield 178) (12, 77, 2, 0)
  (cec 106 0 (.iload_n 2) xi0
  (cec 107 0 (.aload_n 0) xi0
  (cec 108 0 (.getfield 45) (12, 16, 2, 0)
  (cec 111 0 (.iload 4) xi0
  (cec 113 0 .iaload xi0
  (cec 114 0 (.ifCond .ne 14) xi0
  (cec 117 0 (.aload_n 0) xi0
  (cec 118 0 (.getfield 48) (12, 17, 2, 0)
  (cec 121 0 (.iload 4) xi0
  (cec 123 0 .iaload xi0
  (cec 124 0 .i2l xi0
  (cec 125 0 (.goto 70) xi0
  (cec 128 0 (.aload_n 0) xi0
  (cec 129 0 (.getfield 45) (12, 16, 2, 0)
  (cec 132 0 (.iload 4) xi0
  (cec 134 0 .iaload xi0
  (cec 135 0 (.iconst 1) xi0
  (cec 136 0 (.if_icmp .ne 17) xi0
  (cec 139 0 (.aload_n 0) xi0
  (cec 140 0 (.aload_n 0) xi0
  (cec 141 0 (.getfield 48) (12, 17, 2, 0)
  (cec 144 0 (.iload 4) xi0
  (cec 146 0 .iaload xi0
  (cec 147 0 (.invokevirtual 491) (269, 2, 1, 22)
  (cec 150 0 (.goto 45) xi0
  (cec 153 0 (.aload_n 0) xi0
  (cec 154 0 (.getfield 48) (12, 17, 2, 0)
  (cec 157 0 (.iload 4) xi0
  (cec 159 0 .iaload xi0
  (cec 160 0 (.aload_n 0) xi0 cs_266_2)))))))))))))))))))))))))))))))))))))))))))))))
/-- SupplyBookModel.holds(I)I -/
noncomputable def cs_266 : List CE := cec 0 0 (.iconst 0) xi0
  (cec 1 0 (.istore_n 2) xi0
  (cec 2 0 (.iload_n 1) xi0
  (cec 3 0 (.bipush 16) xi0
  (cec 5 0 .idiv xi0
  (cec 6 0 (.sipush 200) xi0
  (cec 9 0 .imul xi0
  (cec 10 0 (.istore_n 3) xi0
  (cec 11 0 (.iload_n 3) xi0
  (cec 12 0 (.aload_n 0) xi0
  (cec 13 0 (.getfield 39) (12, 14, 2, 0)
  (cec 16 0 (.iload_n 1) xi0
  (cec 17 0 .iaload xi0
  (cec 18 0 .iadd xi0
  (cec 19 0 (.istore 4) xi0
  (cec 21 63 (.iload 4) xi0
  (cec 23 0 (.iload_n 3) xi0
  (cec 24 0 (.aload_n 0) xi0
  (cec 25 0 (.getfield 42) (12, 15, 2, 0)
  (cec 28 0 (.iload_n 1) xi0
  (cec 29 0 .iaload xi0
  (cec 30 0 .iadd xi0
  (cec 31 0 (.if_icmp .ge 174) xi0
  (cec 34 0 (.aload_n 0) xi0
  (cec 35 0 (.getfield 45) (12, 16, 2, 0)
  (cec 38 0 (.iload 4) xi0
  (cec 40 0 .iaload xi0
  (cec 41 0 (.iconst 3) xi0
  (cec 42 0 (.if_icmp .le 21) xi0
  (cec 45 0 (.aload_n 0) xi0
  (cec 46 0 (.aload_n 0) xi0
  (cec 47 0 (.getfield 45) (12, 16, 2, 0)
  (cec 50 0 (.iload 4) xi0
  (cec 52 0 .iaload xi0
  (cec 53 0 (.iload_n 2) xi0
  (cec 54 0 (.invokevirtual 488) (267, 3, 9, 22)
  (cec 57 0 (.iinc 2 (-1)) xi0
  (cec 60 0 (.goto 139) xi0
  (cec 63 0 (.aload_n 0) xi0
  (cec 64 0 (.getfield 45) (12, 16, 2, 0)
  (cec 67 0 (.iload 4) xi0
  (cec 69 0 .iaload xi0
  (cec 70 0 (.iconst 3) xi0
  (cec 71 0 (.if_icmp .ne 24) xi0
  (cec 74 0 (.aload_n 0) xi0
  (cec 75 0 (.getfield 178) (12, 77, 2, 0)
  (cec 78 0 (.iload_n 2) xi0
  (cec 79 0 (.iconst 1) xi0 cs_266_1)))))))))))))))))))))))))))))))))))))))))))))))
noncomputable def cs_267_2 : List CE := cec 163 0 .laload xi0
  (cec 164 0 (.invokestatic 484) (268, 3, 1, 0)
  (cec 167 0 .lastore xi0
  (cec 168 0 .return_ xi0 [])))
noncomputable def cs_267_1 : List CE := cec 81 0 (.iload_n 3) xi0
  (cec 82 0 (.aload_n 0) xi0
  (cec 83 0 (.getfield 181) (12, 78, 2, 0)
  (cec 86 0 (.iload 4) xi0
  (cec 88 0 .baload xi0
  (cec 89 0 .bastore xi0
  (cec 90 0 .return_ xi0
  (cec 91 0 (.aload_n 0) xi0
  (cec 92 0 (.getfield 181) (12, 78, 2, 0)
  (cec 95 0 (.iload_n 3) xi0
  (cec 96 0 (.aload_n 0) xi0
  (cec 97 0 (.getfield 181) (12, 78, 2, 0)
  (cec 100 0 (.iload_n 3) xi0
  (cec 101 0 .baload xi0
  (cec 102 0 (.ifCond .ne 37) xi0
  (cec 105 0 (.aload_n 0) xi0
  (cec 106 0 (.getfield 181) (12, 78, 2, 0)
  (cec 109 0 (.iload 4) xi0
  (cec 111 0 .baload xi0
  (cec 112 0 (.ifCond .ne 27) xi0
  (cec 115 0 (.iload_n 1) xi0
  (cec 116 0 (.bipush 47) xi0
  (cec 118 0 (.if_icmp .eq 9) xi0
  (cec 121 0 (.iload_n 1) xi0
  (cec 122 0 (.bipush 37) xi0
  (cec 124 0 (.if_icmp .ne 19) xi0
  (cec 127 0 (.aload_n 0) xi0
  (cec 128 0 (.getfield 178) (12, 77, 2, 0)
  (cec 131 0 (.iload 4) xi0
  (cec 133 0 .laload xi0
  (cec 134 0 (.lconst 0) xi0
  (cec 135 0 .lcmp xi0
  (cec 136 0 (.ifCond .ne 7) xi0
  (cec 139 0 (.iconst 1) xi0
  (cec 140 0 (.goto 4) xi0
  (cec 143 0 (.iconst 0) xi0
  (cec 144 55 .bastore xi0
  (cec 145 0 (.aload_n 0) xi0
  (cec 146 0 (.getfield 178) (12, 77, 2, 0)
  (cec 149 0 (.iload_n 3) xi0
  (cec 150 0 (.iload_n 1) xi0
  (cec 151 0 (.aload_n 0) xi0
  (cec 152 0 (.getfield 178) (12, 77, 2, 0)
  (cec 155 0 (.iload_n 3) xi0
  (cec 156 0 .laload xi0
  (cec 157 0 (.aload_n 0) xi0
  (cec 158 0 (.getfield 178) (12, 77, 2, 0)
  (cec 161 0 (.iload 4) xi0 cs_267_2)))))))))))))))))))))))))))))))))))))))))))))))
/-- SupplyBookModel.does(II)V -/
noncomputable def cs_267 : List CE := cec 0 0 (.iload_n 2) xi0
  (cec 1 0 (.iconst 2) xi0
  (cec 2 0 .isub xi0
  (cec 3 0 (.istore_n 3) xi0
  (cec 4 0 (.iload_n 2) xi0
  (cec 5 0 (.iconst 1) xi0
  (cec 6 0 .isub xi0
  (cec 7 0 (.istore 4) xi0
  (cec 9 0 (.iload_n 1) xi0
  (cec 10 0 (.bipush 38) xi0
  (cec 12 0 (.if_icmp .eq 9) xi0
  (cec 15 0 (.iload_n 1) xi0
  (cec 16 0 (.bipush 124) xi0
  (cec 18 0 (.if_icmp .ne 73) xi0
  (cec 21 55 (.aload_n 0) xi0
  (cec 22 0 (.getfield 181) (12, 78, 2, 0)
  (cec 25 0 (.iload_n 3) xi0
  (cec 26 0 .baload xi0
  (cec 27 0 (.ifCond .ne 28) xi0
  (cec 30 0 (.aload_n 0) xi0
  (cec 31 0 (.getfield 178) (12, 77, 2, 0)
  (cec 34 0 (.iload_n 3) xi0
  (cec 35 0 .laload xi0
  (cec 36 0 (.iload_n 1) xi0
  (cec 37 0 (.bipush 38) xi0
  (cec 39 0 (.if_icmp .ne 7) xi0
  (cec 42 0 (.lconst 1) xi0
  (cec 43 0 (.goto 4) xi0
  (cec 46 0 (.lconst 0) xi0
  (cec 47 0 .lcmp xi0
  (cec 48 0 (.ifCond .ne 7) xi0
  (cec 51 0 (.iconst 1) xi0
  (cec 52 0 (.goto 4) xi0
  (cec 55 0 (.iconst 0) xi0
  (cec 56 51 (.istore 5) xi0
  (cec 58 0 (.iload 5) xi0
  (cec 60 0 (.ifCond .ne 4) xi0
  (cec 63 0 .return_ xi0
  (cec 64 0 (.aload_n 0) xi0
  (cec 65 0 (.getfield 178) (12, 77, 2, 0)
  (cec 68 0 (.iload_n 3) xi0
  (cec 69 0 (.aload_n 0) xi0
  (cec 70 0 (.getfield 178) (12, 77, 2, 0)
  (cec 73 0 (.iload 4) xi0
  (cec 75 0 .laload xi0
  (cec 76 0 .lastore xi0
  (cec 77 0 (.aload_n 0) xi0
  (cec 78 0 (.getfield 181) (12, 78, 2, 0) cs_267_1)))))))))))))))))))))))))))))))))))))))))))))))
noncomputable def cs_268_1 : List CE := cec 130 0 (.lconst 0) xi0
  (cec 131 0 .lreturn xi0
  (cec 132 0 (.lload_n 1) xi0
  (cec 133 0 (.lload_n 3) xi0
  (cec 134 0 .lcmp xi0
  (cec 135 0 (.ifCond .ne 7) xi0
  (cec 138 0 (.lconst 1) xi0
  (cec 139 0 (.goto 4) xi0
  (cec 142 0 (.lconst 0) xi0
  (cec 143 0 .lreturn xi0 [])))))))))
/-- SupplyBookModel.worked(IJJ)J -/
noncomputable def cs_268 : List CE := cec 0 0 (.iload_n 0) xi0
  (cec 1 0 (.lookupswitch 131 #[(37, 93), (42, 75), (43, 67), (45, 71), (47, 79), (60, 107), (62, 119)]) xi0
  (cec 68 0 (.lload_n 1) xi0
  (cec 69 0 (.lload_n 3) xi0
  (cec 70 0 .ladd xi0
  (cec 71 0 .lreturn xi0
  (cec 72 0 (.lload_n 1) xi0
  (cec 73 0 (.lload_n 3) xi0
  (cec 74 0 .lsub xi0
  (cec 75 0 .lreturn xi0
  (cec 76 0 (.lload_n 1) xi0
  (cec 77 0 (.lload_n 3) xi0
  (cec 78 0 .lmul xi0
  (cec 79 0 .lreturn xi0
  (cec 80 0 (.lload_n 3) xi0
  (cec 81 0 (.lconst 0) xi0
  (cec 82 0 .lcmp xi0
  (cec 83 0 (.ifCond .ne 7) xi0
  (cec 86 0 (.lconst 0) xi0
  (cec 87 0 (.goto 6) xi0
  (cec 90 0 (.lload_n 1) xi0
  (cec 91 0 (.lload_n 3) xi0
  (cec 92 0 .ldiv xi0
  (cec 93 0 .lreturn xi0
  (cec 94 0 (.lload_n 3) xi0
  (cec 95 0 (.lconst 0) xi0
  (cec 96 0 .lcmp xi0
  (cec 97 0 (.ifCond .ne 7) xi0
  (cec 100 0 (.lconst 0) xi0
  (cec 101 0 (.goto 6) xi0
  (cec 104 0 (.lload_n 1) xi0
  (cec 105 0 (.lload_n 3) xi0
  (cec 106 0 .lrem xi0
  (cec 107 0 .lreturn xi0
  (cec 108 0 (.lload_n 1) xi0
  (cec 109 0 (.lload_n 3) xi0
  (cec 110 0 .lcmp xi0
  (cec 111 0 (.ifCond .ge 7) xi0
  (cec 114 0 (.lconst 1) xi0
  (cec 115 0 (.goto 4) xi0
  (cec 118 0 (.lconst 0) xi0
  (cec 119 0 .lreturn xi0
  (cec 120 0 (.lload_n 1) xi0
  (cec 121 0 (.lload_n 3) xi0
  (cec 122 0 .lcmp xi0
  (cec 123 0 (.ifCond .le 7) xi0
  (cec 126 0 (.lconst 1) xi0
  (cec 127 0 (.goto 4) xi0 cs_268_1)))))))))))))))))))))))))))))))))))))))))))))))
noncomputable def cs_269_1 : List CE := cec 128 0 (.getfield 118) (12, 54, 2, 0)
  (cec 131 0 (.iload_n 2) xi0
  (cec 132 0 .iaload xi0
  (cec 133 0 (.if_icmp .ne 20) xi0
  (cec 136 0 (.aload_n 0) xi0
  (cec 137 0 (.iload 4) xi0
  (cec 139 0 (.aload_n 0) xi0
  (cec 140 0 (.invokevirtual 436) (243, 1, 0, 22)
  (cec 143 0 (.invokevirtual 444) (248, 3, 0, 22)
  (cec 146 0 (.ifCond .eq 7) xi0
  (cec 149 0 (.iconst 1) xi0
  (cec 150 0 (.goto 4) xi0
  (cec 153 0 (.iconst 0) xi0
  (cec 154 0 .iadd xi0
  (cec 155 0 (.istore_n 3) xi0
  (cec 156 0 (.iinc 4 1) xi0
  (cec 159 0 (.goto (-49)) xi0
  (cec 162 0 (.iload_n 3) xi0
  (cec 163 0 .i2l xi0
  (cec 164 0 .lreturn xi0
  (cec 165 0 (.aload_n 0) xi0
  (cec 166 0 (.getfield 480) (12, 76, 1, 0)
  (cec 169 0 .lreturn xi0 []))))))))))))))))))))))
/-- SupplyBookModel.letterOf(I)J -/
noncomputable def cs_269 : List CE := cec 0 0 (.aload_n 0) xi0
  (cec 1 0 (.getfield 474) (12, 75, 0, 0)
  (cec 4 0 (.istore_n 2) xi0
  (cec 5 0 (.iload_n 1) xi0
  (cec 6 0 (.lookupswitch 159 #[(97, 58), (104, 76), (107, 84), (113, 99), (114, 92), (121, 66)]) xi0
  (cec 64 0 (.aload_n 0) xi0
  (cec 65 0 (.getfield 127) (12, 57, 2, 0)
  (cec 68 0 (.iload_n 2) xi0
  (cec 69 0 .iaload xi0
  (cec 70 0 .i2l xi0
  (cec 71 0 .lreturn xi0
  (cec 72 0 (.aload_n 0) xi0
  (cec 73 0 (.getfield 250) (12, 2, 0, 0)
  (cec 76 0 (.sipush 360) xi0
  (cec 79 0 .irem xi0
  (cec 80 0 .i2l xi0
  (cec 81 0 .lreturn xi0
  (cec 82 0 (.aload_n 0) xi0
  (cec 83 0 (.getfield 121) (12, 55, 2, 0)
  (cec 86 0 (.iload_n 2) xi0
  (cec 87 0 .iaload xi0
  (cec 88 0 .i2l xi0
  (cec 89 0 .lreturn xi0
  (cec 90 0 (.aload_n 0) xi0
  (cec 91 0 (.getfield 124) (12, 56, 2, 0)
  (cec 94 0 (.iload_n 2) xi0
  (cec 95 0 .iaload xi0
  (cec 96 0 .i2l xi0
  (cec 97 0 .lreturn xi0
  (cec 98 0 (.aload_n 0) xi0
  (cec 99 0 (.iload_n 2) xi0
  (cec 100 0 (.invokevirtual 477) (270, 2, 0, 22)
  (cec 103 0 .i2l xi0
  (cec 104 0 .lreturn xi0
  (cec 105 0 (.iconst 0) xi0
  (cec 106 0 (.istore_n 3) xi0
  (cec 107 0 (.iconst 0) xi0
  (cec 108 0 (.istore 4) xi0
  (cec 110 59 (.iload 4) xi0
  (cec 112 0 (.aload_n 0) xi0
  (cec 113 0 (.getfield 441) (12, 52, 0, 0)
  (cec 116 0 (.if_icmp .ge 46) xi0
  (cec 119 0 (.iload_n 3) xi0
  (cec 120 0 (.aload_n 0) xi0
  (cec 121 0 (.getfield 118) (12, 54, 2, 0)
  (cec 124 0 (.iload 4) xi0
  (cec 126 0 .iaload xi0
  (cec 127 0 (.aload_n 0) xi0 cs_269_1)))))))))))))))))))))))))))))))))))))))))))))))
/-- SupplyBookModel.rankOf(I)I -/
noncomputable def cs_270 : List CE := cec 0 0 (.iconst 0) xi0
  (cec 1 0 (.istore_n 2) xi0
  (cec 2 0 (.iconst 0) xi0
  (cec 3 0 (.istore_n 3) xi0
  (cec 4 31 (.iload_n 3) xi0
  (cec 5 0 (.aload_n 0) xi0
  (cec 6 0 (.getfield 259) (12, 5, 0, 0)
  (cec 9 0 (.if_icmp .ge 40) xi0
  (cec 12 0 (.aload_n 0) xi0
  (cec 13 0 (.getfield 136) (12, 60, 2, 0)
  (cec 16 0 (.iload_n 1) xi0
  (cec 17 0 .iaload xi0
  (cec 18 0 (.iload_n 3) xi0
  (cec 19 0 .ishr xi0
  (cec 20 0 (.iconst 1) xi0
  (cec 21 0 .iand xi0
  (cec 22 0 (.iconst 1) xi0
  (cec 23 0 (.if_icmp .ne 20) xi0
  (cec 26 0 (.aload_n 0) xi0
  (cec 27 0 (.getfield 20) (12, 8, 2, 0)
  (cec 30 0 (.iload_n 3) xi0
  (cec 31 0 .iaload xi0
  (cec 32 0 (.iload_n 2) xi0
  (cec 33 0 (.if_icmp .le 10) xi0
  (cec 36 0 (.aload_n 0) xi0
  (cec 37 0 (.getfield 20) (12, 8, 2, 0)
  (cec 40 0 (.iload_n 3) xi0
  (cec 41 0 .iaload xi0
  (cec 42 0 (.istore_n 2) xi0
  (cec 43 0 (.iinc 3 1) xi0
  (cec 46 0 (.goto (-42)) xi0
  (cec 49 0 (.iload_n 2) xi0
  (cec 50 0 .ireturn xi0 []))))))))))))))))))))))))))))))))
noncomputable def cs_271_1 : List CE := cec 77 0 (.getfield 142) (12, 62, 2, 0)
  (cec 80 0 (.iload_n 1) xi0
  (cec 81 0 (.iload_n 2) xi0
  (cec 82 0 .iastore xi0
  (cec 83 0 (.aload_n 0) xi0
  (cec 84 0 (.getfield 145) (12, 63, 2, 0)
  (cec 87 0 (.iload_n 1) xi0
  (cec 88 0 (.aload_n 0) xi0
  (cec 89 0 (.getfield 524) (12, 53, 0, 0)
  (cec 92 0 .iastore xi0
  (cec 93 0 (.aload_n 0) xi0
  (cec 94 0 .dup xi0
  (cec 95 0 (.getfield 524) (12, 53, 0, 0)
  (cec 98 0 (.iconst 1) xi0
  (cec 99 0 .iadd xi0
  (cec 100 0 (.putfield 524) (12, 53, 0, 0)
  (cec 103 0 (.iload_n 2) xi0
  (cec 104 0 .ireturn xi0 [])))))))))))))))))
/-- SupplyBookModel.pay(I)I -/
noncomputable def cs_271 : List CE := cec 0 0 (.aload_n 0) xi0
  (cec 1 0 (.iload_n 1) xi0
  (cec 2 0 (.invokevirtual 515) (259, 2, 0, 22)
  (cec 5 0 (.ifCond .eq 13) xi0
  (cec 8 0 (.aload_n 0) xi0
  (cec 9 0 (.getfield 139) (12, 61, 2, 0)
  (cec 12 0 (.iload_n 1) xi0
  (cec 13 0 .iaload xi0
  (cec 14 0 (.iconst (-1)) xi0
  (cec 15 0 (.if_icmp .eq 5) xi0
  (cec 18 0 (.iconst (-1)) xi0
  (cec 19 0 .ireturn xi0
  (cec 20 0 (.aload_n 0) xi0
  (cec 21 0 (.iload_n 1) xi0
  (cec 22 0 (.invokevirtual 518) (261, 2, 0, 22)
  (cec 25 0 (.istore_n 2) xi0
  (cec 26 0 (.iload_n 2) xi0
  (cec 27 0 (.ifCond .ge 5) xi0
  (cec 30 0 (.iload_n 2) xi0
  (cec 31 0 .ireturn xi0
  (cec 32 0 (.aload_n 0) xi0
  (cec 33 0 (.getfield 521) (12, 3, 1, 0)
  (cec 36 0 (.aload_n 0) xi0
  (cec 37 0 (.getfield 127) (12, 57, 2, 0)
  (cec 40 0 (.iload_n 1) xi0
  (cec 41 0 .iaload xi0
  (cec 42 0 .i2l xi0
  (cec 43 0 .lcmp xi0
  (cec 44 0 (.ifCond .ge 6) xi0
  (cec 47 0 (.bipush (-9)) xi0
  (cec 49 0 .ireturn xi0
  (cec 50 0 (.aload_n 0) xi0
  (cec 51 0 .dup xi0
  (cec 52 0 (.getfield 521) (12, 3, 1, 0)
  (cec 55 0 (.aload_n 0) xi0
  (cec 56 0 (.getfield 127) (12, 57, 2, 0)
  (cec 59 0 (.iload_n 1) xi0
  (cec 60 0 .iaload xi0
  (cec 61 0 .i2l xi0
  (cec 62 0 .lsub xi0
  (cec 63 0 (.putfield 521) (12, 3, 1, 0)
  (cec 66 0 (.aload_n 0) xi0
  (cec 67 0 (.getfield 139) (12, 61, 2, 0)
  (cec 70 0 (.iload_n 1) xi0
  (cec 71 0 (.aload_n 0) xi0
  (cec 72 0 (.getfield 250) (12, 2, 0, 0)
  (cec 75 0 .iastore xi0
  (cec 76 0 (.aload_n 0) xi0 cs_271_1)))))))))))))))))))))))))))))))))))))))))))))))
/-- SupplyBookModel.ask(IIIZ)I -/
noncomputable def cs_272 : List CE := cec 0 0 (.aload_n 0) xi0
  (cec 1 0 (.getfield 527) (12, 79, 0, 0)
  (cec 4 0 (.bipush 14) xi0
  (cec 6 0 (.if_icmp .eq 30) xi0
  (cec 9 0 (.aload_n 0) xi0
  (cec 10 0 (.iload_n 1) xi0
  (cec 11 0 (.invokevirtual 262) (197, 2, 0, 22)
  (cec 14 0 (.ifCond .eq 22) xi0
  (cec 17 0 (.iload_n 2) xi0
  (cec 18 0 (.invokestatic 426) (238, 1, 0, 0)
  (cec 21 0 (.ifCond .eq 15) xi0
  (cec 24 0 (.iload_n 3) xi0
  (cec 25 0 .i2l xi0
  (cec 26 0 (.lconst 0) xi0
  (cec 27 0 (.ldc2_w 530) (0, 0, 1000000, 0)
  (cec 30 0 (.invokestatic 246) (195, 3, 0, 0)
  (cec 33 0 (.ifCond .ne 5) xi0
  (cec 36 0 (.iconst (-1)) xi0
  (cec 37 0 .ireturn xi0
  (cec 38 0 (.aload_n 0) xi0
  (cec 39 0 (.getfield 184) (12, 80, 2, 0)
  (cec 42 0 (.aload_n 0) xi0
  (cec 43 0 (.getfield 527) (12, 79, 0, 0)
  (cec 46 0 (.iload_n 2) xi0
  (cec 47 0 .iastore xi0
  (cec 48 0 (.aload_n 0) xi0
  (cec 49 0 (.getfield 187) (12, 81, 2, 0)
  (cec 52 0 (.aload_n 0) xi0
  (cec 53 0 (.getfield 527) (12, 79, 0, 0)
  (cec 56 0 (.iload_n 3) xi0
  (cec 57 0 .iastore xi0
  (cec 58 0 (.aload_n 0) xi0
  (cec 59 0 (.getfield 190) (12, 82, 2, 0)
  (cec 62 0 (.aload_n 0) xi0
  (cec 63 0 (.getfield 527) (12, 79, 0, 0)
  (cec 66 0 (.iload 4) xi0
  (cec 68 0 .bastore xi0
  (cec 69 0 (.aload_n 0) xi0
  (cec 70 0 .dup xi0
  (cec 71 0 (.getfield 527) (12, 79, 0, 0)
  (cec 74 0 (.iconst 1) xi0
  (cec 75 0 .iadd xi0
  (cec 76 0 (.putfield 527) (12, 79, 0, 0)
  (cec 79 0 (.aload_n 0) xi0
  (cec 80 0 (.getfield 527) (12, 79, 0, 0)
  (cec 83 0 (.iconst 1) xi0
  (cec 84 0 .isub xi0
  (cec 85 0 .ireturn xi0 [])))))))))))))))))))))))))))))))))))))))))))))))
noncomputable def cs_273_1 : List CE := cec 82 0 (.iload_n 2) xi0
  (cec 83 0 (.invokevirtual 535) (275, 2, 1, 22)
  (cec 86 0 .lcmp xi0
  (cec 87 0 (.ifCond .ge 5) xi0
  (cec 90 0 (.iload_n 3) xi0
  (cec 91 0 (.istore_n 2) xi0
  (cec 92 0 (.iinc 3 1) xi0
  (cec 95 0 (.goto (-82)) xi0
  (cec 98 0 (.iload_n 2) xi0
  (cec 99 0 .ireturn xi0 [])))))))))
/-- SupplyBookModel.cut(I)I -/
noncomputable def cs_273 : List CE := cec 0 0 (.iload_n 1) xi0
  (cec 1 0 (.invokestatic 426) (238, 1, 0, 0)
  (cec 4 0 (.ifCond .ne 5) xi0
  (cec 7 0 (.iconst (-1)) xi0
  (cec 8 0 .ireturn xi0
  (cec 9 0 (.iconst (-1)) xi0
  (cec 10 0 (.istore_n 2) xi0
  (cec 11 0 (.iconst 0) xi0
  (cec 12 0 (.istore_n 3) xi0
  (cec 13 31 (.iload_n 3) xi0
  (cec 14 0 (.iconst 1) xi0
  (cec 15 0 (.aload_n 0) xi0
  (cec 16 0 (.getfield 527) (12, 79, 0, 0)
  (cec 19 0 .ishl xi0
  (cec 20 0 (.if_icmp .ge 78) xi0
  (cec 23 0 (.aload_n 0) xi0
  (cec 24 0 (.iload_n 3) xi0
  (cec 25 0 (.invokevirtual 532) (274, 2, 0, 22)
  (cec 28 0 (.ifCond .eq 64) xi0
  (cec 31 0 (.aload_n 0) xi0
  (cec 32 0 (.iload_n 3) xi0
  (cec 33 0 (.invokevirtual 535) (275, 2, 1, 22)
  (cec 36 0 (.iload_n 1) xi0
  (cec 37 0 .i2l xi0
  (cec 38 0 .lcmp xi0
  (cec 39 0 (.ifCond .le 6) xi0
  (cec 42 0 (.goto 50) xi0
  (cec 45 0 (.iload_n 2) xi0
  (cec 46 0 (.iconst (-1)) xi0
  (cec 47 0 (.if_icmp .eq 43) xi0
  (cec 50 0 (.aload_n 0) xi0
  (cec 51 0 (.iload_n 3) xi0
  (cec 52 0 (.invokevirtual 538) (276, 2, 0, 22)
  (cec 55 0 (.aload_n 0) xi0
  (cec 56 0 (.iload_n 2) xi0
  (cec 57 0 (.invokevirtual 538) (276, 2, 0, 22)
  (cec 60 0 (.if_icmp .gt 30) xi0
  (cec 63 0 (.aload_n 0) xi0
  (cec 64 0 (.iload_n 3) xi0
  (cec 65 0 (.invokevirtual 538) (276, 2, 0, 22)
  (cec 68 0 (.aload_n 0) xi0
  (cec 69 0 (.iload_n 2) xi0
  (cec 70 0 (.invokevirtual 538) (276, 2, 0, 22)
  (cec 73 0 (.if_icmp .ne 19) xi0
  (cec 76 0 (.aload_n 0) xi0
  (cec 77 0 (.iload_n 3) xi0
  (cec 78 0 (.invokevirtual 535) (275, 2, 1, 22)
  (cec 81 0 (.aload_n 0) xi0 cs_273_1)))))))))))))))))))))))))))))))))))))))))))))))
/-- SupplyBookModel.hasFloors(I)Z -/
noncomputable def cs_274 : List CE := cec 0 0 (.iconst 0) xi0
  (cec 1 0 (.istore_n 2) xi0
  (cec 2 15 (.iload_n 2) xi0
  (cec 3 0 (.aload_n 0) xi0
  (cec 4 0 (.getfield 527) (12, 79, 0, 0)
  (cec 7 0 (.if_icmp .ge 28) xi0
  (cec 10 0 (.aload_n 0) xi0
  (cec 11 0 (.getfield 190) (12, 82, 2, 0)
  (cec 14 0 (.iload_n 2) xi0
  (cec 15 0 .baload xi0
  (cec 16 0 (.ifCond .eq 13) xi0
  (cec 19 0 (.iload_n 1) xi0
  (cec 20 0 (.iload_n 2) xi0
  (cec 21 0 .ishr xi0
  (cec 22 0 (.iconst 1) xi0
  (cec 23 0 .iand xi0
  (cec 24 0 (.ifCond .ne 5) xi0
  (cec 27 0 (.iconst 0) xi0
  (cec 28 0 .ireturn xi0
  (cec 29 0 (.iinc 2 1) xi0
  (cec 32 0 (.goto (-30)) xi0
  (cec 35 0 (.iconst 1) xi0
  (cec 36 0 .ireturn xi0 []))))))))))))))))))))))
/-- SupplyBookModel.sumOf(I)J -/
noncomputable def cs_275 : List CE := cec 0 0 (.lconst 0) xi0
  (cec 1 0 (.lstore_n 2) xi0
  (cec 2 0 (.iconst 0) xi0
  (cec 3 0 (.istore 4) xi0
  (cec 5 47 (.iload 4) xi0
  (cec 7 0 (.aload_n 0) xi0
  (cec 8 0 (.getfield 527) (12, 79, 0, 0)
  (cec 11 0 (.if_icmp .ge 34) xi0
  (cec 14 0 (.lload_n 2) xi0
  (cec 15 0 (.iload_n 1) xi0
  (cec 16 0 (.iload 4) xi0
  (cec 18 0 .ishr xi0
  (cec 19 0 (.iconst 1) xi0
  (cec 20 0 .iand xi0
  (cec 21 0 (.iconst 1) xi0
  (cec 22 0 (.if_icmp .ne 14) xi0
  (cec 25 0 (.aload_n 0) xi0
  (cec 26 0 (.getfield 184) (12, 80, 2, 0)
  (cec 29 0 (.iload 4) xi0
  (cec 31 0 .iaload xi0
  (cec 32 0 .i2l xi0
  (cec 33 0 (.goto 4) xi0
  (cec 36 0 (.lconst 0) xi0
  (cec 37 0 .ladd xi0
  (cec 38 0 (.lstore_n 2) xi0
  (cec 39 0 (.iinc 4 1) xi0
  (cec 42 0 (.goto (-37)) xi0
  (cec 45 0 (.lload_n 2) xi0
  (cec 46 0 .lreturn xi0 []))))))))))))))))))))))))))))
/-- SupplyBookModel.worthOf(I)I -/
noncomputable def cs_276 : List CE := cec 0 0 (.iconst 0) xi0
  (cec 1 0 (.istore_n 2) xi0
  (cec 2 0 (.iconst 0) xi0
  (cec 3 0 (.istore_n 3) xi0
  (cec 4 31 (.iload_n 3) xi0
  (cec 5 0 (.aload_n 0) xi0
  (cec 6 0 (.getfield 527) (12, 79, 0, 0)
  (cec 9 0 (.if_icmp .ge 31) xi0
  (cec 12 0 (.iload_n 2) xi0
  (cec 13 0 (.iload_n 1) xi0
  (cec 14 0 (.iload_n 3) xi0
  (cec 15 0 .ishr xi0
  (cec 16 0 (.iconst 1) xi0
  (cec 17 0 .iand xi0
  (cec 18 0 (.iconst 1) xi0
  (cec 19 0 (.if_icmp .ne 12) xi0
  (cec 22 0 (.aload_n 0) xi0
  (cec 23 0 (.getfield 187) (12, 81, 2, 0)
  (cec 26 0 (.iload_n 3) xi0
  (cec 27 0 .iaload xi0
  (cec 28 0 (.goto 4) xi0
  (cec 31 0 (.iconst 0) xi0
  (cec 32 0 .iadd xi0
  (cec 33 0 (.istore_n 2) xi0
  (cec 34 0 (.iinc 3 1) xi0
  (cec 37 0 (.goto (-33)) xi0
  (cec 40 0 (.iload_n 2) xi0
  (cec 41 0 .ireturn xi0 [])))))))))))))))))))))))))))
noncomputable def cs_277_1 : List CE := cec 86 0 (.lload_n 3) xi0
  (cec 87 0 (.lstore_n 3) xi0
  (cec 88 0 (.iinc 5 1) xi0
  (cec 91 0 (.goto (-71)) xi0
  (cec 94 0 (.lload_n 3) xi0
  (cec 95 0 .lreturn xi0 [])))))
/-- SupplyBookModel.more(I)J -/
noncomputable def cs_277 : List CE := cec 0 0 (.aload_n 0) xi0
  (cec 1 0 (.iload_n 1) xi0
  (cec 2 0 (.invokevirtual 541) (273, 2, 0, 22)
  (cec 5 0 (.istore_n 2) xi0
  (cec 6 0 (.iload_n 2) xi0
  (cec 7 0 (.iconst (-1)) xi0
  (cec 8 0 (.if_icmp .ne 7) xi0
  (cec 11 0 (.ldc2_w 513) (0, 0, (-1), 0)
  (cec 14 0 .lreturn xi0
  (cec 15 0 (.lconst 0) xi0
  (cec 16 0 (.lstore_n 3) xi0
  (cec 17 0 (.iconst 0) xi0
  (cec 18 0 (.istore 5) xi0
  (cec 20 95 (.iload 5) xi0
  (cec 22 0 (.iconst 1) xi0
  (cec 23 0 (.aload_n 0) xi0
  (cec 24 0 (.getfield 527) (12, 79, 0, 0)
  (cec 27 0 .ishl xi0
  (cec 28 0 (.if_icmp .ge 66) xi0
  (cec 31 0 (.aload_n 0) xi0
  (cec 32 0 (.iload 5) xi0
  (cec 34 0 (.invokevirtual 532) (274, 2, 0, 22)
  (cec 37 0 (.ifCond .eq 51) xi0
  (cec 40 0 (.aload_n 0) xi0
  (cec 41 0 (.iload 5) xi0
  (cec 43 0 (.invokevirtual 538) (276, 2, 0, 22)
  (cec 46 0 (.aload_n 0) xi0
  (cec 47 0 (.iload_n 2) xi0
  (cec 48 0 (.invokevirtual 538) (276, 2, 0, 22)
  (cec 51 0 (.if_icmp .gt 6) xi0
  (cec 54 0 (.goto 34) xi0
  (cec 57 0 (.aload_n 0) xi0
  (cec 58 0 (.iload 5) xi0
  (cec 60 0 (.invokevirtual 535) (275, 2, 1, 22)
  (cec 63 0 (.iload_n 1) xi0
  (cec 64 0 .i2l xi0
  (cec 65 0 .lsub xi0
  (cec 66 0 (.lstore 6) xi0
  (cec 68 0 (.lload_n 3) xi0
  (cec 69 0 (.lconst 0) xi0
  (cec 70 0 .lcmp xi0
  (cec 71 0 (.ifCond .eq 10) xi0
  (cec 74 0 (.lload 6) xi0
  (cec 76 0 (.lload_n 3) xi0
  (cec 77 0 .lcmp xi0
  (cec 78 0 (.ifCond .ge 8) xi0
  (cec 81 0 (.lload 6) xi0
  (cec 83 0 (.goto 4) xi0 cs_277_1)))))))))))))))))))))))))))))))))))))))))))))))
noncomputable def cs_278_1 : List CE := cec 79 0 .ladd xi0
  (cec 80 0 (.putfield 552) (12, 85, 1, 0)
  (cec 83 0 (.aload_n 0) xi0
  (cec 84 0 .dup xi0
  (cec 85 0 (.getfield 521) (12, 3, 1, 0)
  (cec 88 0 (.iload_n 2) xi0
  (cec 89 0 .i2l xi0
  (cec 90 0 .ladd xi0
  (cec 91 0 (.putfield 521) (12, 3, 1, 0)
  (cec 94 0 (.iconst 1) xi0
  (cec 95 0 .ireturn xi0 []))))))))))
/-- SupplyBookModel.comes(II)Z -/
noncomputable def cs_278 : List CE := cec 0 0 (.iload_n 1) xi0
  (cec 1 0 .i2l xi0
  (cec 2 0 (.lconst 0) xi0
  (cec 3 0 (.ldc2_w 544) (0, 0, 5, 0)
  (cec 6 0 (.invokestatic 246) (195, 3, 0, 0)
  (cec 9 0 (.ifCond .eq 33) xi0
  (cec 12 0 (.iload_n 2) xi0
  (cec 13 0 (.invokestatic 426) (238, 1, 0, 0)
  (cec 16 0 (.ifCond .eq 26) xi0
  (cec 19 0 (.aload_n 0) xi0
  (cec 20 0 (.iload_n 1) xi0
  (cec 21 0 (.aload_n 0) xi0
  (cec 22 0 (.invokevirtual 436) (243, 1, 0, 22)
  (cec 25 0 (.aload_n 0) xi0
  (cec 26 0 (.invokevirtual 546) (279, 1, 0, 22)
  (cec 29 0 (.invokevirtual 549) (280, 4, 1, 22)
  (cec 32 0 (.iload_n 2) xi0
  (cec 33 0 .i2l xi0
  (cec 34 0 .ladd xi0
  (cec 35 0 (.ldc2_w 244) (0, 0, 1000000000, 0)
  (cec 38 0 .lcmp xi0
  (cec 39 0 (.ifCond .le 5) xi0
  (cec 42 0 (.iconst 0) xi0
  (cec 43 0 .ireturn xi0
  (cec 44 0 (.aload_n 0) xi0
  (cec 45 0 (.getfield 193) (12, 83, 2, 0)
  (cec 48 0 (.sipush 520) xi0
  (cec 51 0 (.iload_n 1) xi0
  (cec 52 0 .imul xi0
  (cec 53 0 (.bipush 52) xi0
  (cec 55 0 (.aload_n 0) xi0
  (cec 56 0 (.invokevirtual 436) (243, 1, 0, 22)
  (cec 59 0 .imul xi0
  (cec 60 0 .iadd xi0
  (cec 61 0 (.aload_n 0) xi0
  (cec 62 0 (.invokevirtual 546) (279, 1, 0, 22)
  (cec 65 0 .iadd xi0
  (cec 66 0 .dup2 xi0
  (cec 67 0 .laload xi0
  (cec 68 0 (.iload_n 2) xi0
  (cec 69 0 .i2l xi0
  (cec 70 0 .ladd xi0
  (cec 71 0 .lastore xi0
  (cec 72 0 (.aload_n 0) xi0
  (cec 73 0 .dup xi0
  (cec 74 0 (.getfield 552) (12, 85, 1, 0)
  (cec 77 0 (.iload_n 2) xi0
  (cec 78 0 .i2l xi0 cs_278_1)))))))))))))))))))))))))))))))))))))))))))))))
/-- SupplyBookModel.week()I -/
noncomputable def cs_279 : List CE := cec 0 0 (.aload_n 0) xi0
  (cec 1 0 (.getfield 250) (12, 2, 0, 0)
  (cec 4 0 (.sipush 360) xi0
  (cec 7 0 .irem xi0
  (cec 8 0 (.bipush 7) xi0
  (cec 10 0 .idiv xi0
  (cec 11 0 .ireturn xi0 []))))))
/-- SupplyBookModel.cameIn(III)J -/
noncomputable def cs_280 : List CE := cec 0 0 (.iload_n 2) xi0
  (cec 1 0 (.ifCond .ge 7) xi0
  (cec 4 0 (.lconst 0) xi0
  (cec 5 0 (.goto 20) xi0
  (cec 8 0 (.aload_n 0) xi0
  (cec 9 0 (.getfield 193) (12, 83, 2, 0)
  (cec 12 0 (.sipush 520) xi0
  (cec 15 0 (.iload_n 1) xi0
  (cec 16 0 .imul xi0
  (cec 17 0 (.bipush 52) xi0
  (cec 19 0 (.iload_n 2) xi0
  (cec 20 0 .imul xi0
  (cec 21 0 .iadd xi0
  (cec 22 0 (.iload_n 3) xi0
  (cec 23 0 .iadd xi0
  (cec 24 0 .laload xi0
  (cec 25 0 .lreturn xi0 []))))))))))))))))
/-- SupplyBookModel.came(III)J -/
noncomputable def cs_281 : List CE := cec 0 0 (.iload_n 1) xi0
  (cec 1 0 .i2l xi0
  (cec 2 0 (.lconst 0) xi0
  (cec 3 0 (.ldc2_w 544) (0, 0, 5, 0)
  (cec 6 0 (.invokestatic 246) (195, 3, 0, 0)
  (cec 9 0 (.ifCond .eq 37) xi0
  (cec 12 0 (.iload_n 2) xi0
  (cec 13 0 .i2l xi0
  (cec 14 0 (.lconst 0) xi0
  (cec 15 0 (.ldc2_w 270) (0, 0, 9, 0)
  (cec 18 0 (.invokestatic 246) (195, 3, 0, 0)
  (cec 21 0 (.ifCond .eq 25) xi0
  (cec 24 0 (.iload_n 3) xi0
  (cec 25 0 .i2l xi0
  (cec 26 0 (.lconst 0) xi0
  (cec 27 0 (.ldc2_w 555) (0, 0, 51, 0)
  (cec 30 0 (.invokestatic 246) (195, 3, 0, 0)
  (cec 33 0 (.ifCond .eq 13) xi0
  (cec 36 0 (.aload_n 0) xi0
  (cec 37 0 (.iload_n 1) xi0
  (cec 38 0 (.iload_n 2) xi0
  (cec 39 0 (.iload_n 3) xi0
  (cec 40 0 (.invokevirtual 549) (280, 4, 1, 22)
  (cec 43 0 (.goto 6) xi0
  (cec 46 0 (.ldc2_w 513) (0, 0, (-1), 0)
  (cec 49 0 .lreturn xi0 [])))))))))))))))))))))))))
/-- SupplyBookModel.foretold(III)J -/
noncomputable def cs_282 : List CE := cec 0 0 (.iload_n 1) xi0
  (cec 1 0 .i2l xi0
  (cec 2 0 (.lconst 0) xi0
  (cec 3 0 (.ldc2_w 544) (0, 0, 5, 0)
  (cec 6 0 (.invokestatic 246) (195, 3, 0, 0)
  (cec 9 0 (.ifCond .eq 43) xi0
  (cec 12 0 (.iload_n 2) xi0
  (cec 13 0 .i2l xi0
  (cec 14 0 (.aload_n 0) xi0
  (cec 15 0 (.invokevirtual 546) (279, 1, 0, 22)
  (cec 18 0 (.iconst 1) xi0
  (cec 19 0 .iadd xi0
  (cec 20 0 .i2l xi0
  (cec 21 0 (.ldc2_w 555) (0, 0, 51, 0)
  (cec 24 0 (.invokestatic 246) (195, 3, 0, 0)
  (cec 27 0 (.ifCond .eq 25) xi0
  (cec 30 0 (.iload_n 3) xi0
  (cec 31 0 .i2l xi0
  (cec 32 0 (.lconst 0) xi0
  (cec 33 0 (.ldc2_w 557) (0, 0, 2, 0)
  (cec 36 0 (.invokestatic 246) (195, 3, 0, 0)
  (cec 39 0 (.ifCond .eq 13) xi0
  (cec 42 0 (.aload_n 0) xi0
  (cec 43 0 (.iload_n 1) xi0
  (cec 44 0 (.iload_n 2) xi0
  (cec 45 0 (.iload_n 3) xi0
  (cec 46 0 (.invokevirtual 559) (283, 4, 1, 22)
  (cec 49 0 (.goto 6) xi0
  (cec 52 0 (.ldc2_w 513) (0, 0, (-1), 0)
  (cec 55 0 .lreturn xi0 [])))))))))))))))))))))))))))))
noncomputable def cs_283_2 : List CE := cec 176 0 (.lconst 0) xi0
  (cec 177 0 .lcmp xi0
  (cec 178 0 (.ifCond .ne 6) xi0
  (cec 181 0 (.lload 5) xi0
  (cec 183 0 .lreturn xi0
  (cec 184 0 (.iload_n 3) xi0
  (cec 185 0 (.ifCond .ne 14) xi0
  (cec 188 0 (.lload 5) xi0
  (cec 190 0 (.lload 7) xi0
  (cec 192 0 .lmul xi0
  (cec 193 0 (.lload 9) xi0
  (cec 195 0 .ldiv xi0
  (cec 196 0 (.goto 5) xi0
  (cec 199 0 (.lload 11) xi0
  (cec 201 0 .lreturn xi0 []))))))))))))))
noncomputable def cs_283_1 : List CE := cec 86 0 (.aload_n 0) xi0
  (cec 87 0 (.iload_n 1) xi0
  (cec 88 0 (.iload 4) xi0
  (cec 90 0 (.iconst 1) xi0
  (cec 91 0 .isub xi0
  (cec 92 0 (.iload 13) xi0
  (cec 94 0 (.invokevirtual 549) (280, 4, 1, 22)
  (cec 97 0 .ladd xi0
  (cec 98 0 (.lstore 9) xi0
  (cec 100 0 (.lload 5) xi0
  (cec 102 0 (.aload_n 0) xi0
  (cec 103 0 (.iload_n 1) xi0
  (cec 104 0 (.iload 4) xi0
  (cec 106 0 (.iload 13) xi0
  (cec 108 0 (.invokevirtual 549) (280, 4, 1, 22)
  (cec 111 0 .lmul xi0
  (cec 112 0 (.aload_n 0) xi0
  (cec 113 0 (.iload_n 1) xi0
  (cec 114 0 (.iload 4) xi0
  (cec 116 0 (.iconst 1) xi0
  (cec 117 0 .isub xi0
  (cec 118 0 (.iload 13) xi0
  (cec 120 0 (.invokevirtual 549) (280, 4, 1, 22)
  (cec 123 0 .ldiv xi0
  (cec 124 0 (.lstore 14) xi0
  (cec 126 0 (.lload 11) xi0
  (cec 128 0 (.ldc2_w 513) (0, 0, (-1), 0)
  (cec 131 0 .lcmp xi0
  (cec 132 0 (.ifCond .eq 27) xi0
  (cec 135 0 (.iload_n 3) xi0
  (cec 136 0 (.iconst 1) xi0
  (cec 137 0 (.if_icmp .ne 14) xi0
  (cec 140 0 (.lload 14) xi0
  (cec 142 0 (.lload 11) xi0
  (cec 144 0 .lcmp xi0
  (cec 145 0 (.ifCond .ge 19) xi0
  (cec 148 0 (.goto 11) xi0
  (cec 151 0 (.lload 14) xi0
  (cec 153 0 (.lload 11) xi0
  (cec 155 0 .lcmp xi0
  (cec 156 0 (.ifCond .le 8) xi0
  (cec 159 0 (.lload 14) xi0
  (cec 161 0 (.goto 5) xi0
  (cec 164 0 (.lload 11) xi0
  (cec 166 0 (.lstore 11) xi0
  (cec 168 0 (.iinc 13 1) xi0
  (cec 171 0 (.goto (-134)) xi0
  (cec 174 0 (.lload 9) xi0 cs_283_2)))))))))))))))))))))))))))))))))))))))))))))))
/-- SupplyBookModel.foretells(III)J -/
noncomputable def cs_283 : List CE := cec 0 0 (.aload_n 0) xi0
  (cec 1 0 (.invokevirtual 436) (243, 1, 0, 22)
  (cec 4 0 (.istore 4) xi0
  (cec 6 0 (.aload_n 0) xi0
  (cec 7 0 (.iload_n 1) xi0
  (cec 8 0 (.iload 4) xi0
  (cec 10 0 (.iconst 1) xi0
  (cec 11 0 .isub xi0
  (cec 12 0 (.iload_n 2) xi0
  (cec 13 0 (.invokevirtual 549) (280, 4, 1, 22)
  (cec 16 0 (.lstore 5) xi0
  (cec 18 0 (.lconst 0) xi0
  (cec 19 0 (.lstore 7) xi0
  (cec 21 0 (.lconst 0) xi0
  (cec 22 0 (.lstore 9) xi0
  (cec 24 0 (.ldc2_w 513) (0, 0, (-1), 0)
  (cec 27 0 (.lstore 11) xi0
  (cec 29 0 (.aload_n 0) xi0
  (cec 30 0 (.invokevirtual 546) (279, 1, 0, 22)
  (cec 33 0 (.iconst 4) xi0
  (cec 34 0 .isub xi0
  (cec 35 0 (.istore 13) xi0
  (cec 37 21879 (.iload 13) xi0
  (cec 39 0 (.aload_n 0) xi0
  (cec 40 0 (.invokevirtual 546) (279, 1, 0, 22)
  (cec 43 0 (.if_icmp .ge 131) xi0
  (cec 46 0 (.iload 13) xi0
  (cec 48 0 (.ifCond .lt 120) xi0
  (cec 51 0 (.aload_n 0) xi0
  (cec 52 0 (.iload_n 1) xi0
  (cec 53 0 (.iload 4) xi0
  (cec 55 0 (.iconst 1) xi0
  (cec 56 0 .isub xi0
  (cec 57 0 (.iload 13) xi0
  (cec 59 0 (.invokevirtual 549) (280, 4, 1, 22)
  (cec 62 0 (.lconst 0) xi0
  (cec 63 0 .lcmp xi0
  (cec 64 0 (.ifCond .ne 6) xi0
  (cec 67 0 (.goto 101) xi0
  (cec 70 0 (.lload 7) xi0
  (cec 72 0 (.aload_n 0) xi0
  (cec 73 0 (.iload_n 1) xi0
  (cec 74 0 (.iload 4) xi0
  (cec 76 0 (.iload 13) xi0
  (cec 78 0 (.invokevirtual 549) (280, 4, 1, 22)
  (cec 81 0 .ladd xi0
  (cec 82 0 (.lstore 7) xi0
  (cec 84 0 (.lload 9) xi0 cs_283_1)))))))))))))))))))))))))))))))))))))))))))))))
/-- SupplyBookModel.due(II)Z -/
noncomputable def cs_284 : List CE := cec 0 0 (.iload_n 1) xi0
  (cec 1 0 .i2l xi0
  (cec 2 0 (.lconst 0) xi0
  (cec 3 0 (.ldc2_w 555) (0, 0, 51, 0)
  (cec 6 0 (.invokestatic 246) (195, 3, 0, 0)
  (cec 9 0 (.ifCond .eq 10) xi0
  (cec 12 0 (.iload_n 2) xi0
  (cec 13 0 (.invokestatic 426) (238, 1, 0, 0)
  (cec 16 0 (.ifCond .ne 5) xi0
  (cec 19 0 (.iconst 0) xi0
  (cec 20 0 .ireturn xi0
  (cec 21 0 (.aload_n 0) xi0
  (cec 22 0 (.getfield 196) (12, 84, 2, 0)
  (cec 25 0 (.bipush 52) xi0
  (cec 27 0 (.aload_n 0) xi0
  (cec 28 0 (.invokevirtual 436) (243, 1, 0, 22)
  (cec 31 0 .imul xi0
  (cec 32 0 (.iload_n 1) xi0
  (cec 33 0 .iadd xi0
  (cec 34 0 .dup2 xi0
  (cec 35 0 .laload xi0
  (cec 36 0 (.iload_n 2) xi0
  (cec 37 0 .i2l xi0
  (cec 38 0 .ladd xi0
  (cec 39 0 .lastore xi0
  (cec 40 0 (.iconst 1) xi0
  (cec 41 0 .ireturn xi0 []))))))))))))))))))))))))))
/-- SupplyBookModel.shortWeek()I -/
noncomputable def cs_285 : List CE := cec 0 0 (.aload_n 0) xi0
  (cec 1 0 (.iconst 0) xi0
  (cec 2 0 (.invokevirtual 565) (286, 2, 0, 22)
  (cec 5 0 .ireturn xi0 [])))
noncomputable def cs_286_2 : List CE := cec 166 0 (.lstore_n 2) xi0
  (cec 167 0 (.iinc 5 1) xi0
  (cec 170 0 (.goto (-101)) xi0
  (cec 173 0 (.lload_n 2) xi0
  (cec 174 0 (.lconst 0) xi0
  (cec 175 0 .lcmp xi0
  (cec 176 0 (.ifCond .ge 6) xi0
  (cec 179 0 (.iload 4) xi0
  (cec 181 0 .ireturn xi0
  (cec 182 0 (.iinc 4 1) xi0
  (cec 185 0 (.goto (-172)) xi0
  (cec 188 0 (.iconst (-1)) xi0
  (cec 189 0 .ireturn xi0 []))))))))))))
noncomputable def cs_286_1 : List CE := cec 83 0 .iand xi0
  (cec 84 0 (.ifCond .eq 83) xi0
  (cec 87 0 (.aload_n 0) xi0
  (cec 88 0 (.getfield 202) (12, 89, 2, 0)
  (cec 91 0 (.iload 5) xi0
  (cec 93 0 .iaload xi0
  (cec 94 0 (.aload_n 0) xi0
  (cec 95 0 (.invokevirtual 546) (279, 1, 0, 22)
  (cec 98 0 (.if_icmp .gt 6) xi0
  (cec 101 0 (.goto 66) xi0
  (cec 104 0 (.aload_n 0) xi0
  (cec 105 0 (.getfield 202) (12, 89, 2, 0)
  (cec 108 0 (.iload 5) xi0
  (cec 110 0 .iaload xi0
  (cec 111 0 (.iload 4) xi0
  (cec 113 0 (.if_icmp .ne 14) xi0
  (cec 116 0 (.lload_n 2) xi0
  (cec 117 0 (.aload_n 0) xi0
  (cec 118 0 (.getfield 199) (12, 88, 2, 0)
  (cec 121 0 (.iload 5) xi0
  (cec 123 0 .iaload xi0
  (cec 124 0 .i2l xi0
  (cec 125 0 .ladd xi0
  (cec 126 0 (.lstore_n 2) xi0
  (cec 127 111 (.aload_n 0) xi0
  (cec 128 0 (.getfield 202) (12, 89, 2, 0)
  (cec 131 0 (.iload 5) xi0
  (cec 133 0 .iaload xi0
  (cec 134 0 (.aload_n 0) xi0
  (cec 135 0 (.getfield 205) (12, 90, 2, 0)
  (cec 138 0 (.iload 5) xi0
  (cec 140 0 .iaload xi0
  (cec 141 0 .iadd xi0
  (cec 142 0 (.iload 4) xi0
  (cec 144 0 (.if_icmp .ne 23) xi0
  (cec 147 0 (.lload_n 2) xi0
  (cec 148 0 (.aload_n 0) xi0
  (cec 149 0 (.getfield 199) (12, 88, 2, 0)
  (cec 152 0 (.iload 5) xi0
  (cec 154 0 .iaload xi0
  (cec 155 0 .i2l xi0
  (cec 156 0 (.aload_n 0) xi0
  (cec 157 0 (.getfield 208) (12, 91, 2, 0)
  (cec 160 0 (.iload 5) xi0
  (cec 162 0 .iaload xi0
  (cec 163 0 .i2l xi0
  (cec 164 0 .ladd xi0
  (cec 165 0 .lsub xi0 cs_286_2)))))))))))))))))))))))))))))))))))))))))))))))
/-- SupplyBookModel.shortBy(I)I -/
noncomputable def cs_286 : List CE := cec 0 0 (.aload_n 0) xi0
  (cec 1 0 (.getfield 521) (12, 3, 1, 0)
  (cec 4 0 (.lstore_n 2) xi0
  (cec 5 0 (.aload_n 0) xi0
  (cec 6 0 (.invokevirtual 546) (279, 1, 0, 22)
  (cec 9 0 (.iconst 1) xi0
  (cec 10 0 .iadd xi0
  (cec 11 0 (.istore 4) xi0
  (cec 13 47 (.iload 4) xi0
  (cec 15 0 (.bipush 52) xi0
  (cec 17 0 (.if_icmp .ge 171) xi0
  (cec 20 0 (.iconst 0) xi0
  (cec 21 0 (.istore 5) xi0
  (cec 23 111 (.iload 5) xi0
  (cec 25 0 (.bipush 6) xi0
  (cec 27 0 (.if_icmp .ge 21) xi0
  (cec 30 0 (.lload_n 2) xi0
  (cec 31 0 (.aload_n 0) xi0
  (cec 32 0 (.iload 5) xi0
  (cec 34 0 (.iload 4) xi0
  (cec 36 0 (.iconst 1) xi0
  (cec 37 0 (.invokevirtual 559) (283, 4, 1, 22)
  (cec 40 0 .ladd xi0
  (cec 41 0 (.lstore_n 2) xi0
  (cec 42 0 (.iinc 5 1) xi0
  (cec 45 0 (.goto (-22)) xi0
  (cec 48 0 (.lload_n 2) xi0
  (cec 49 0 (.aload_n 0) xi0
  (cec 50 0 (.getfield 196) (12, 84, 2, 0)
  (cec 53 0 (.bipush 52) xi0
  (cec 55 0 (.aload_n 0) xi0
  (cec 56 0 (.invokevirtual 436) (243, 1, 0, 22)
  (cec 59 0 .imul xi0
  (cec 60 0 (.iload 4) xi0
  (cec 62 0 .iadd xi0
  (cec 63 0 .laload xi0
  (cec 64 0 .lsub xi0
  (cec 65 0 (.lstore_n 2) xi0
  (cec 66 0 (.iconst 0) xi0
  (cec 67 0 (.istore 5) xi0
  (cec 69 111 (.iload 5) xi0
  (cec 71 0 (.aload_n 0) xi0
  (cec 72 0 (.getfield 562) (12, 87, 0, 0)
  (cec 75 0 (.if_icmp .ge 98) xi0
  (cec 78 0 (.iload_n 1) xi0
  (cec 79 0 (.iload 5) xi0
  (cec 81 0 .ishr xi0
  (cec 82 0 (.iconst 1) xi0 cs_286_1)))))))))))))))))))))))))))))))))))))))))))))))
noncomputable def cs_287_1 : List CE := cec 91 0 (.aload_n 0) xi0
  (cec 92 0 .dup xi0
  (cec 93 0 (.getfield 562) (12, 87, 0, 0)
  (cec 96 0 (.iconst 1) xi0
  (cec 97 0 .iadd xi0
  (cec 98 0 (.putfield 562) (12, 87, 0, 0)
  (cec 101 0 (.aload_n 0) xi0
  (cec 102 0 (.getfield 562) (12, 87, 0, 0)
  (cec 105 0 (.iconst 1) xi0
  (cec 106 0 .isub xi0
  (cec 107 0 .ireturn xi0 []))))))))))
/-- SupplyBookModel.offer(IIII)I -/
noncomputable def cs_287 : List CE := cec 0 0 (.aload_n 0) xi0
  (cec 1 0 (.getfield 562) (12, 87, 0, 0)
  (cec 4 0 (.bipush 9) xi0
  (cec 6 0 (.if_icmp .eq 42) xi0
  (cec 9 0 (.iload_n 1) xi0
  (cec 10 0 (.invokestatic 426) (238, 1, 0, 0)
  (cec 13 0 (.ifCond .eq 35) xi0
  (cec 16 0 (.iload_n 2) xi0
  (cec 17 0 .i2l xi0
  (cec 18 0 (.lconst 0) xi0
  (cec 19 0 (.ldc2_w 555) (0, 0, 51, 0)
  (cec 22 0 (.invokestatic 246) (195, 3, 0, 0)
  (cec 25 0 (.ifCond .eq 23) xi0
  (cec 28 0 (.iload_n 3) xi0
  (cec 29 0 .i2l xi0
  (cec 30 0 (.lconst 1) xi0
  (cec 31 0 (.ldc2_w 555) (0, 0, 51, 0)
  (cec 34 0 (.invokestatic 246) (195, 3, 0, 0)
  (cec 37 0 (.ifCond .eq 11) xi0
  (cec 40 0 (.iload 4) xi0
  (cec 42 0 (.invokestatic 426) (238, 1, 0, 0)
  (cec 45 0 (.ifCond .ne 5) xi0
  (cec 48 0 (.iconst (-1)) xi0
  (cec 49 0 .ireturn xi0
  (cec 50 0 (.aload_n 0) xi0
  (cec 51 0 (.getfield 199) (12, 88, 2, 0)
  (cec 54 0 (.aload_n 0) xi0
  (cec 55 0 (.getfield 562) (12, 87, 0, 0)
  (cec 58 0 (.iload_n 1) xi0
  (cec 59 0 .iastore xi0
  (cec 60 0 (.aload_n 0) xi0
  (cec 61 0 (.getfield 202) (12, 89, 2, 0)
  (cec 64 0 (.aload_n 0) xi0
  (cec 65 0 (.getfield 562) (12, 87, 0, 0)
  (cec 68 0 (.iload_n 2) xi0
  (cec 69 0 .iastore xi0
  (cec 70 0 (.aload_n 0) xi0
  (cec 71 0 (.getfield 205) (12, 90, 2, 0)
  (cec 74 0 (.aload_n 0) xi0
  (cec 75 0 (.getfield 562) (12, 87, 0, 0)
  (cec 78 0 (.iload_n 3) xi0
  (cec 79 0 .iastore xi0
  (cec 80 0 (.aload_n 0) xi0
  (cec 81 0 (.getfield 208) (12, 91, 2, 0)
  (cec 84 0 (.aload_n 0) xi0
  (cec 85 0 (.getfield 562) (12, 87, 0, 0)
  (cec 88 0 (.iload 4) xi0
  (cec 90 0 .iastore xi0 cs_287_1)))))))))))))))))))))))))))))))))))))))))))))))
/-- SupplyBookModel.plan()I -/
noncomputable def cs_288 : List CE := cec 0 0 (.iconst (-1)) xi0
  (cec 1 0 (.istore_n 1) xi0
  (cec 2 0 (.iconst 0) xi0
  (cec 3 0 (.istore_n 2) xi0
  (cec 4 15 (.iload_n 2) xi0
  (cec 5 0 (.iconst 1) xi0
  (cec 6 0 (.aload_n 0) xi0
  (cec 7 0 (.getfield 562) (12, 87, 0, 0)
  (cec 10 0 .ishl xi0
  (cec 11 0 (.if_icmp .ge 67) xi0
  (cec 14 0 (.iload_n 1) xi0
  (cec 15 0 (.iconst (-1)) xi0
  (cec 16 0 (.if_icmp .eq 42) xi0
  (cec 19 0 (.aload_n 0) xi0
  (cec 20 0 (.iload_n 2) xi0
  (cec 21 0 (.invokevirtual 568) (289, 2, 1, 22)
  (cec 24 0 (.aload_n 0) xi0
  (cec 25 0 (.iload_n 1) xi0
  (cec 26 0 (.invokevirtual 568) (289, 2, 1, 22)
  (cec 29 0 .lcmp xi0
  (cec 30 0 (.ifCond .gt 42) xi0
  (cec 33 0 (.aload_n 0) xi0
  (cec 34 0 (.iload_n 2) xi0
  (cec 35 0 (.invokevirtual 568) (289, 2, 1, 22)
  (cec 38 0 (.aload_n 0) xi0
  (cec 39 0 (.iload_n 1) xi0
  (cec 40 0 (.invokevirtual 568) (289, 2, 1, 22)
  (cec 43 0 .lcmp xi0
  (cec 44 0 (.ifCond .ne 14) xi0
  (cec 47 0 (.iload_n 2) xi0
  (cec 48 0 (.invokestatic 571) (290, 1, 0, 0)
  (cec 51 0 (.iload_n 1) xi0
  (cec 52 0 (.invokestatic 571) (290, 1, 0, 0)
  (cec 55 0 (.if_icmp .ge 17) xi0
  (cec 58 0 (.aload_n 0) xi0
  (cec 59 0 (.iload_n 2) xi0
  (cec 60 0 (.invokevirtual 565) (286, 2, 0, 22)
  (cec 63 0 (.iconst (-1)) xi0
  (cec 64 0 (.if_icmp .eq 6) xi0
  (cec 67 0 (.goto 5) xi0
  (cec 70 0 (.iload_n 2) xi0
  (cec 71 0 (.istore_n 1) xi0
  (cec 72 0 (.iinc 2 1) xi0
  (cec 75 0 (.goto (-71)) xi0
  (cec 78 0 (.iload_n 1) xi0
  (cec 79 0 .ireturn xi0 [])))))))))))))))))))))))))))))))))))))))))))))
/-- SupplyBookModel.costOf(I)J -/
noncomputable def cs_289 : List CE := cec 0 0 (.lconst 0) xi0
  (cec 1 0 (.lstore_n 2) xi0
  (cec 2 0 (.iconst 0) xi0
  (cec 3 0 (.istore 4) xi0
  (cec 5 47 (.iload 4) xi0
  (cec 7 0 (.aload_n 0) xi0
  (cec 8 0 (.getfield 562) (12, 87, 0, 0)
  (cec 11 0 (.if_icmp .ge 34) xi0
  (cec 14 0 (.lload_n 2) xi0
  (cec 15 0 (.iload_n 1) xi0
  (cec 16 0 (.iload 4) xi0
  (cec 18 0 .ishr xi0
  (cec 19 0 (.iconst 1) xi0
  (cec 20 0 .iand xi0
  (cec 21 0 (.iconst 1) xi0
  (cec 22 0 (.if_icmp .ne 14) xi0
  (cec 25 0 (.aload_n 0) xi0
  (cec 26 0 (.getfield 208) (12, 91, 2, 0)
  (cec 29 0 (.iload 4) xi0
  (cec 31 0 .iaload xi0
  (cec 32 0 .i2l xi0
  (cec 33 0 (.goto 4) xi0
  (cec 36 0 (.lconst 0) xi0
  (cec 37 0 .ladd xi0
  (cec 38 0 (.lstore_n 2) xi0
  (cec 39 0 (.iinc 4 1) xi0
  (cec 42 0 (.goto (-37)) xi0
  (cec 45 0 (.lload_n 2) xi0
  (cec 46 0 .lreturn xi0 []))))))))))))))))))))))))))))
/-- SupplyBookModel.sizeOf(I)I -/
noncomputable def cs_290 : List CE := cec 0 0 (.iconst 0) xi0
  (cec 1 0 (.istore_n 1) xi0
  (cec 2 0 (.iload_n 0) xi0
  (cec 3 0 (.istore_n 2) xi0
  (cec 4 13 (.iload_n 2) xi0
  (cec 5 0 (.ifCond .eq 15) xi0
  (cec 8 0 (.iinc 1 1) xi0
  (cec 11 0 (.iload_n 2) xi0
  (cec 12 0 (.iload_n 2) xi0
  (cec 13 0 (.iconst 1) xi0
  (cec 14 0 .isub xi0
  (cec 15 0 .iand xi0
  (cec 16 0 (.istore_n 2) xi0
  (cec 17 0 (.goto (-13)) xi0
  (cec 20 0 (.iload_n 1) xi0
  (cec 21 0 .ireturn xi0 [])))))))))))))))
/-- SupplyBookModel.judge(I)J -/
noncomputable def cs_291 : List CE := cec 0 0 (.iload_n 1) xi0
  (cec 1 0 .i2l xi0
  (cec 2 0 (.lconst 0) xi0
  (cec 3 0 (.iconst 1) xi0
  (cec 4 0 (.aload_n 0) xi0
  (cec 5 0 (.getfield 562) (12, 87, 0, 0)
  (cec 8 0 .ishl xi0
  (cec 9 0 (.iconst 1) xi0
  (cec 10 0 .isub xi0
  (cec 11 0 .i2l xi0
  (cec 12 0 (.invokestatic 246) (195, 3, 0, 0)
  (cec 15 0 (.ifCond .ne 7) xi0
  (cec 18 0 (.ldc2_w 513) (0, 0, (-1), 0)
  (cec 21 0 .lreturn xi0
  (cec 22 0 (.aload_n 0) xi0
  (cec 23 0 (.iload_n 1) xi0
  (cec 24 0 (.invokevirtual 565) (286, 2, 0, 22)
  (cec 27 0 (.istore_n 2) xi0
  (cec 28 0 (.iload_n 2) xi0
  (cec 29 0 (.iconst (-1)) xi0
  (cec 30 0 (.if_icmp .ne 11) xi0
  (cec 33 0 (.aload_n 0) xi0
  (cec 34 0 (.iload_n 1) xi0
  (cec 35 0 (.invokevirtual 568) (289, 2, 1, 22)
  (cec 38 0 (.goto 8) xi0
  (cec 41 0 (.bipush (-2)) xi0
  (cec 43 0 (.iload_n 2) xi0
  (cec 44 0 .isub xi0
  (cec 45 0 .i2l xi0
  (cec 46 0 .lreturn xi0 [])))))))))))))))))))))))))))))
/-- SupplyBookModel.bid(II)I -/
noncomputable def cs_292 : List CE := cec 0 0 (.aload_n 0) xi0
  (cec 1 0 (.getfield 574) (12, 92, 0, 0)
  (cec 4 0 (.bipush 12) xi0
  (cec 6 0 (.if_icmp .eq 27) xi0
  (cec 9 0 (.iload_n 1) xi0
  (cec 10 0 .i2l xi0
  (cec 11 0 (.lconst 1) xi0
  (cec 12 0 (.ldc2_w 244) (0, 0, 1000000000, 0)
  (cec 15 0 (.invokestatic 246) (195, 3, 0, 0)
  (cec 18 0 (.ifCond .eq 15) xi0
  (cec 21 0 (.iload_n 2) xi0
  (cec 22 0 .i2l xi0
  (cec 23 0 (.lconst 0) xi0
  (cec 24 0 (.ldc2_w 577) (0, 0, 9999, 0)
  (cec 27 0 (.invokestatic 246) (195, 3, 0, 0)
  (cec 30 0 (.ifCond .ne 5) xi0
  (cec 33 0 (.iconst (-1)) xi0
  (cec 34 0 .ireturn xi0
  (cec 35 0 (.aload_n 0) xi0
  (cec 36 0 (.getfield 211) (12, 94, 2, 0)
  (cec 39 0 (.aload_n 0) xi0
  (cec 40 0 (.getfield 574) (12, 92, 0, 0)
  (cec 43 0 (.iload_n 1) xi0
  (cec 44 0 .iastore xi0
  (cec 45 0 (.aload_n 0) xi0
  (cec 46 0 (.getfield 214) (12, 95, 2, 0)
  (cec 49 0 (.aload_n 0) xi0
  (cec 50 0 (.getfield 574) (12, 92, 0, 0)
  (cec 53 0 (.iload_n 2) xi0
  (cec 54 0 .iastore xi0
  (cec 55 0 (.aload_n 0) xi0
  (cec 56 0 .dup xi0
  (cec 57 0 (.getfield 574) (12, 92, 0, 0)
  (cec 60 0 (.iconst 1) xi0
  (cec 61 0 .iadd xi0
  (cec 62 0 (.putfield 574) (12, 92, 0, 0)
  (cec 65 0 (.aload_n 0) xi0
  (cec 66 0 (.getfield 574) (12, 92, 0, 0)
  (cec 69 0 (.iconst 1) xi0
  (cec 70 0 .isub xi0
  (cec 71 0 .ireturn xi0 []))))))))))))))))))))))))))))))))))))))))
noncomputable def cs_293_4 : List CE := cec 341 0 (.iload 4) xi0
  (cec 343 0 .ireturn xi0 [])
noncomputable def cs_293_3 : List CE := cec 258 0 (.aload_n 0) xi0
  (cec 259 0 (.getfield 214) (12, 95, 2, 0)
  (cec 262 0 (.iload 6) xi0
  (cec 264 0 .iaload xi0
  (cec 265 379 .iastore xi0
  (cec 266 0 (.aload_n 0) xi0
  (cec 267 0 (.getfield 226) (12, 99, 2, 0)
  (cec 270 0 (.aload_n 0) xi0
  (cec 271 0 (.getfield 579) (12, 93, 0, 0)
  (cec 274 0 (.aload_n 0) xi0
  (cec 275 0 (.getfield 250) (12, 2, 0, 0)
  (cec 278 0 .iastore xi0
  (cec 279 0 (.aload_n 0) xi0
  (cec 280 0 (.getfield 229) (12, 100, 2, 0)
  (cec 283 0 (.aload_n 0) xi0
  (cec 284 0 (.getfield 579) (12, 93, 0, 0)
  (cec 287 0 (.iconst (-1)) xi0
  (cec 288 0 .iastore xi0
  (cec 289 0 (.iload_n 3) xi0
  (cec 290 0 (.aload_n 0) xi0
  (cec 291 0 (.getfield 220) (12, 97, 2, 0)
  (cec 294 0 (.aload_n 0) xi0
  (cec 295 0 (.getfield 579) (12, 93, 0, 0)
  (cec 298 0 .iaload xi0
  (cec 299 0 .isub xi0
  (cec 300 0 (.istore_n 3) xi0
  (cec 301 0 (.aload_n 0) xi0
  (cec 302 0 .dup xi0
  (cec 303 0 (.getfield 521) (12, 3, 1, 0)
  (cec 306 0 (.aload_n 0) xi0
  (cec 307 0 (.getfield 220) (12, 97, 2, 0)
  (cec 310 0 (.aload_n 0) xi0
  (cec 311 0 (.getfield 579) (12, 93, 0, 0)
  (cec 314 0 .iaload xi0
  (cec 315 0 .i2l xi0
  (cec 316 0 .ladd xi0
  (cec 317 0 (.putfield 521) (12, 3, 1, 0)
  (cec 320 0 (.aload_n 0) xi0
  (cec 321 0 .dup xi0
  (cec 322 0 (.getfield 579) (12, 93, 0, 0)
  (cec 325 0 (.iconst 1) xi0
  (cec 326 0 .iadd xi0
  (cec 327 0 (.putfield 579) (12, 93, 0, 0)
  (cec 330 0 (.iinc 7 1) xi0
  (cec 333 0 (.goto (-144)) xi0
  (cec 336 0 (.aload_n 0) xi0
  (cec 337 0 (.iconst 0) xi0
  (cec 338 0 (.putfield 574) (12, 92, 0, 0) cs_293_4)))))))))))))))))))))))))))))))))))))))))))))))
noncomputable def cs_293_2 : List CE := cec 165 0 (.aload_n 0) xi0
  (cec 166 0 (.getfield 574) (12, 92, 0, 0)
  (cec 169 0 (.if_icmp .ge 17) xi0
  (cec 172 0 (.aload_n 0) xi0
  (cec 173 0 (.getfield 217) (12, 96, 2, 0)
  (cec 176 0 (.iload 7) xi0
  (cec 178 0 (.iconst 0) xi0
  (cec 179 0 .bastore xi0
  (cec 180 0 (.iinc 7 1) xi0
  (cec 183 0 (.goto (-20)) xi0
  (cec 186 0 (.iconst 0) xi0
  (cec 187 0 (.istore 7) xi0
  (cec 189 379 (.iload 7) xi0
  (cec 191 0 (.iload 4) xi0
  (cec 193 0 (.if_icmp .ge 143) xi0
  (cec 196 0 (.aload_n 0) xi0
  (cec 197 0 (.invokevirtual 582) (294, 1, 0, 22)
  (cec 200 0 (.istore 6) xi0
  (cec 202 0 (.aload_n 0) xi0
  (cec 203 0 (.getfield 217) (12, 96, 2, 0)
  (cec 206 0 (.iload 6) xi0
  (cec 208 0 (.iconst 1) xi0
  (cec 209 0 .bastore xi0
  (cec 210 0 (.aload_n 0) xi0
  (cec 211 0 (.getfield 220) (12, 97, 2, 0)
  (cec 214 0 (.aload_n 0) xi0
  (cec 215 0 (.getfield 579) (12, 93, 0, 0)
  (cec 218 0 (.aload_n 0) xi0
  (cec 219 0 (.getfield 211) (12, 94, 2, 0)
  (cec 222 0 (.iload 6) xi0
  (cec 224 0 .iaload xi0
  (cec 225 0 (.iload_n 3) xi0
  (cec 226 0 (.if_icmp .ge 13) xi0
  (cec 229 0 (.aload_n 0) xi0
  (cec 230 0 (.getfield 211) (12, 94, 2, 0)
  (cec 233 0 (.iload 6) xi0
  (cec 235 0 .iaload xi0
  (cec 236 0 (.goto 4) xi0
  (cec 239 0 (.iload_n 3) xi0
  (cec 240 0 .iastore xi0
  (cec 241 0 (.aload_n 0) xi0
  (cec 242 0 (.getfield 223) (12, 98, 2, 0)
  (cec 245 0 (.aload_n 0) xi0
  (cec 246 0 (.getfield 579) (12, 93, 0, 0)
  (cec 249 0 (.iload_n 2) xi0
  (cec 250 0 (.ifCond .eq 8) xi0
  (cec 253 0 (.iload 5) xi0
  (cec 255 0 (.goto 10) xi0 cs_293_3)))))))))))))))))))))))))))))))))))))))))))))))
noncomputable def cs_293_1 : List CE := cec 84 175 .isub xi0
  (cec 85 0 (.istore_n 3) xi0
  (cec 86 0 (.aload_n 0) xi0
  (cec 87 0 (.getfield 217) (12, 96, 2, 0)
  (cec 90 0 (.iload 6) xi0
  (cec 92 0 (.iconst 1) xi0
  (cec 93 0 .bastore xi0
  (cec 94 0 (.aload_n 0) xi0
  (cec 95 0 (.getfield 214) (12, 95, 2, 0)
  (cec 98 0 (.iload 6) xi0
  (cec 100 0 .iaload xi0
  (cec 101 0 (.istore 5) xi0
  (cec 103 0 (.iinc 4 1) xi0
  (cec 106 0 (.aload_n 0) xi0
  (cec 107 0 (.invokevirtual 582) (294, 1, 0, 22)
  (cec 110 0 (.istore 6) xi0
  (cec 112 0 (.goto (-61)) xi0
  (cec 115 127 (.aload_n 0) xi0
  (cec 116 0 (.invokevirtual 585) (295, 1, 1, 22)
  (cec 119 0 (.iload_n 1) xi0
  (cec 120 0 .i2l xi0
  (cec 121 0 .ladd xi0
  (cec 122 0 (.iload_n 3) xi0
  (cec 123 0 .i2l xi0
  (cec 124 0 .lsub xi0
  (cec 125 0 (.ldc2_w 439) (0, 0, 1000, 0)
  (cec 128 0 (.aload_n 0) xi0
  (cec 129 0 (.bipush 98) xi0
  (cec 131 0 (.aload_n 0) xi0
  (cec 132 0 (.getfield 250) (12, 2, 0, 0)
  (cec 135 0 (.invokevirtual 419) (236, 3, 0, 22)
  (cec 138 0 .i2l xi0
  (cec 139 0 .lmul xi0
  (cec 140 0 .lcmp xi0
  (cec 141 0 (.ifCond .gt 15) xi0
  (cec 144 0 (.aload_n 0) xi0
  (cec 145 0 (.getfield 579) (12, 93, 0, 0)
  (cec 148 0 (.iload 4) xi0
  (cec 150 0 .iadd xi0
  (cec 151 0 (.bipush 30) xi0
  (cec 153 0 (.if_icmp .le 5) xi0
  (cec 156 0 (.iconst (-1)) xi0
  (cec 157 0 .ireturn xi0
  (cec 158 0 (.iload_n 1) xi0
  (cec 159 0 (.istore_n 3) xi0
  (cec 160 0 (.iconst 0) xi0
  (cec 161 0 (.istore 7) xi0
  (cec 163 379 (.iload 7) xi0 cs_293_2)))))))))))))))))))))))))))))))))))))))))))))))
/-- SupplyBookModel.tender(IZ)I -/
noncomputable def cs_293 : List CE := cec 0 0 (.iload_n 1) xi0
  (cec 1 0 .i2l xi0
  (cec 2 0 (.lconst 1) xi0
  (cec 3 0 (.ldc2_w 244) (0, 0, 1000000000, 0)
  (cec 6 0 (.invokestatic 246) (195, 3, 0, 0)
  (cec 9 0 (.ifCond .ne 5) xi0
  (cec 12 0 (.iconst (-1)) xi0
  (cec 13 0 .ireturn xi0
  (cec 14 0 (.iconst 0) xi0
  (cec 15 0 (.istore_n 3) xi0
  (cec 16 31 (.iload_n 3) xi0
  (cec 17 0 (.aload_n 0) xi0
  (cec 18 0 (.getfield 574) (12, 92, 0, 0)
  (cec 21 0 (.if_icmp .ge 16) xi0
  (cec 24 0 (.aload_n 0) xi0
  (cec 25 0 (.getfield 217) (12, 96, 2, 0)
  (cec 28 0 (.iload_n 3) xi0
  (cec 29 0 (.iconst 0) xi0
  (cec 30 0 .bastore xi0
  (cec 31 0 (.iinc 3 1) xi0
  (cec 34 0 (.goto (-18)) xi0
  (cec 37 0 (.iload_n 1) xi0
  (cec 38 0 (.istore_n 3) xi0
  (cec 39 0 (.iconst 0) xi0
  (cec 40 0 (.istore 4) xi0
  (cec 42 0 (.iconst 0) xi0
  (cec 43 0 (.istore 5) xi0
  (cec 45 0 (.aload_n 0) xi0
  (cec 46 0 (.invokevirtual 582) (294, 1, 0, 22)
  (cec 49 0 (.istore 6) xi0
  (cec 51 255 (.iload_n 3) xi0
  (cec 52 0 (.ifCond .le 63) xi0
  (cec 55 0 (.iload 6) xi0
  (cec 57 0 (.iconst (-1)) xi0
  (cec 58 0 (.if_icmp .eq 57) xi0
  (cec 61 0 (.iload_n 3) xi0
  (cec 62 0 (.aload_n 0) xi0
  (cec 63 0 (.getfield 211) (12, 94, 2, 0)
  (cec 66 0 (.iload 6) xi0
  (cec 68 0 .iaload xi0
  (cec 69 0 (.iload_n 3) xi0
  (cec 70 0 (.if_icmp .ge 13) xi0
  (cec 73 0 (.aload_n 0) xi0
  (cec 74 0 (.getfield 211) (12, 94, 2, 0)
  (cec 77 0 (.iload 6) xi0
  (cec 79 0 .iaload xi0
  (cec 80 0 (.goto 4) xi0
  (cec 83 0 (.iload_n 3) xi0 cs_293_1)))))))))))))))))))))))))))))))))))))))))))))))
/-- SupplyBookModel.nextBid()I -/
noncomputable def cs_294 : List CE := cec 0 0 (.iconst (-1)) xi0
  (cec 1 0 (.istore_n 1) xi0
  (cec 2 0 (.iconst 0) xi0
  (cec 3 0 (.istore_n 2) xi0
  (cec 4 15 (.iload_n 2) xi0
  (cec 5 0 (.aload_n 0) xi0
  (cec 6 0 (.getfield 574) (12, 92, 0, 0)
  (cec 9 0 (.if_icmp .ge 40) xi0
  (cec 12 0 (.aload_n 0) xi0
  (cec 13 0 (.getfield 217) (12, 96, 2, 0)
  (cec 16 0 (.iload_n 2) xi0
  (cec 17 0 .baload xi0
  (cec 18 0 (.ifCond .ne 25) xi0
  (cec 21 0 (.iload_n 1) xi0
  (cec 22 0 (.iconst (-1)) xi0
  (cec 23 0 (.if_icmp .eq 18) xi0
  (cec 26 0 (.aload_n 0) xi0
  (cec 27 0 (.getfield 214) (12, 95, 2, 0)
  (cec 30 0 (.iload_n 2) xi0
  (cec 31 0 .iaload xi0
  (cec 32 0 (.aload_n 0) xi0
  (cec 33 0 (.getfield 214) (12, 95, 2, 0)
  (cec 36 0 (.iload_n 1) xi0
  (cec 37 0 .iaload xi0
  (cec 38 0 (.if_icmp .ge 5) xi0
  (cec 41 0 (.iload_n 2) xi0
  (cec 42 0 (.istore_n 1) xi0
  (cec 43 0 (.iinc 2 1) xi0
  (cec 46 0 (.goto (-42)) xi0
  (cec 49 0 (.iload_n 1) xi0
  (cec 50 0 .ireturn xi0 []))))))))))))))))))))))))))))))
/-- SupplyBookModel.owed()J -/
noncomputable def cs_295 : List CE := cec 0 0 (.lconst 0) xi0
  (cec 1 0 (.lstore_n 1) xi0
  (cec 2 0 (.iconst 0) xi0
  (cec 3 0 (.istore_n 3) xi0
  (cec 4 23 (.iload_n 3) xi0
  (cec 5 0 (.aload_n 0) xi0
  (cec 6 0 (.getfield 579) (12, 93, 0, 0)
  (cec 9 0 (.if_icmp .ge 33) xi0
  (cec 12 0 (.lload_n 1) xi0
  (cec 13 0 (.aload_n 0) xi0
  (cec 14 0 (.getfield 229) (12, 100, 2, 0)
  (cec 17 0 (.iload_n 3) xi0
  (cec 18 0 .iaload xi0
  (cec 19 0 (.iconst (-1)) xi0
  (cec 20 0 (.if_icmp .ne 13) xi0
  (cec 23 0 (.aload_n 0) xi0
  (cec 24 0 (.getfield 220) (12, 97, 2, 0)
  (cec 27 0 (.iload_n 3) xi0
  (cec 28 0 .iaload xi0
  (cec 29 0 .i2l xi0
  (cec 30 0 (.goto 4) xi0
  (cec 33 0 (.lconst 0) xi0
  (cec 34 0 .ladd xi0
  (cec 35 0 (.lstore_n 1) xi0
  (cec 36 0 (.iinc 3 1) xi0
  (cec 39 0 (.goto (-35)) xi0
  (cec 42 0 (.lload_n 1) xi0
  (cec 43 0 .lreturn xi0 [])))))))))))))))))))))))))))
noncomputable def cs_296_1 : List CE := cec 76 0 (.putfield 521) (12, 3, 1, 0)
  (cec 79 0 (.aload_n 0) xi0
  (cec 80 0 .dup xi0
  (cec 81 0 (.getfield 594) (12, 86, 1, 0)
  (cec 84 0 (.aload_n 0) xi0
  (cec 85 0 (.iload_n 1) xi0
  (cec 86 0 (.aload_n 0) xi0
  (cec 87 0 (.getfield 250) (12, 2, 0, 0)
  (cec 90 0 (.invokevirtual 591) (297, 3, 1, 22)
  (cec 93 0 .ladd xi0
  (cec 94 0 (.putfield 594) (12, 86, 1, 0)
  (cec 97 0 (.aload_n 0) xi0
  (cec 98 0 (.getfield 229) (12, 100, 2, 0)
  (cec 101 0 (.iload_n 1) xi0
  (cec 102 0 (.aload_n 0) xi0
  (cec 103 0 (.getfield 250) (12, 2, 0, 0)
  (cec 106 0 .iastore xi0
  (cec 107 0 (.iconst 1) xi0
  (cec 108 0 .ireturn xi0 []))))))))))))))))))
/-- SupplyBookModel.repay(I)Z -/
noncomputable def cs_296 : List CE := cec 0 0 (.iload_n 1) xi0
  (cec 1 0 .i2l xi0
  (cec 2 0 (.lconst 0) xi0
  (cec 3 0 (.aload_n 0) xi0
  (cec 4 0 (.getfield 579) (12, 93, 0, 0)
  (cec 7 0 (.iconst 1) xi0
  (cec 8 0 .isub xi0
  (cec 9 0 .i2l xi0
  (cec 10 0 (.invokestatic 246) (195, 3, 0, 0)
  (cec 13 0 (.ifCond .eq 38) xi0
  (cec 16 0 (.aload_n 0) xi0
  (cec 17 0 (.getfield 229) (12, 100, 2, 0)
  (cec 20 0 (.iload_n 1) xi0
  (cec 21 0 .iaload xi0
  (cec 22 0 (.iconst (-1)) xi0
  (cec 23 0 (.if_icmp .ne 28) xi0
  (cec 26 0 (.aload_n 0) xi0
  (cec 27 0 (.getfield 521) (12, 3, 1, 0)
  (cec 30 0 (.aload_n 0) xi0
  (cec 31 0 (.getfield 220) (12, 97, 2, 0)
  (cec 34 0 (.iload_n 1) xi0
  (cec 35 0 .iaload xi0
  (cec 36 0 .i2l xi0
  (cec 37 0 (.aload_n 0) xi0
  (cec 38 0 (.iload_n 1) xi0
  (cec 39 0 (.aload_n 0) xi0
  (cec 40 0 (.getfield 250) (12, 2, 0, 0)
  (cec 43 0 (.invokevirtual 591) (297, 3, 1, 22)
  (cec 46 0 .ladd xi0
  (cec 47 0 .lcmp xi0
  (cec 48 0 (.ifCond .ge 5) xi0
  (cec 51 0 (.iconst 0) xi0
  (cec 52 0 .ireturn xi0
  (cec 53 0 (.aload_n 0) xi0
  (cec 54 0 .dup xi0
  (cec 55 0 (.getfield 521) (12, 3, 1, 0)
  (cec 58 0 (.aload_n 0) xi0
  (cec 59 0 (.getfield 220) (12, 97, 2, 0)
  (cec 62 0 (.iload_n 1) xi0
  (cec 63 0 .iaload xi0
  (cec 64 0 .i2l xi0
  (cec 65 0 (.aload_n 0) xi0
  (cec 66 0 (.iload_n 1) xi0
  (cec 67 0 (.aload_n 0) xi0
  (cec 68 0 (.getfield 250) (12, 2, 0, 0)
  (cec 71 0 (.invokevirtual 591) (297, 3, 1, 22)
  (cec 74 0 .ladd xi0
  (cec 75 0 .lsub xi0 cs_296_1)))))))))))))))))))))))))))))))))))))))))))))))
/-- SupplyBookModel.interest(II)J -/
noncomputable def cs_297 : List CE := cec 0 0 (.aload_n 0) xi0
  (cec 1 0 (.getfield 220) (12, 97, 2, 0)
  (cec 4 0 (.iload_n 1) xi0
  (cec 5 0 .iaload xi0
  (cec 6 0 .i2l xi0
  (cec 7 0 (.aload_n 0) xi0
  (cec 8 0 (.getfield 223) (12, 98, 2, 0)
  (cec 11 0 (.iload_n 1) xi0
  (cec 12 0 .iaload xi0
  (cec 13 0 .i2l xi0
  (cec 14 0 .lmul xi0
  (cec 15 0 (.iload_n 2) xi0
  (cec 16 0 (.aload_n 0) xi0
  (cec 17 0 (.getfield 226) (12, 99, 2, 0)
  (cec 20 0 (.iload_n 1) xi0
  (cec 21 0 .iaload xi0
  (cec 22 0 .isub xi0
  (cec 23 0 .i2l xi0
  (cec 24 0 .lmul xi0
  (cec 25 0 (.ldc2_w 589) (0, 0, 3600000, 0)
  (cec 28 0 .ldiv xi0
  (cec 29 0 .lreturn xi0 [])))))))))))))))))))))
noncomputable def cs_298_1 : List CE := cec 104 0 (.goto 9) xi0
  (cec 107 0 (.aload_n 0) xi0
  (cec 108 0 (.getfield 229) (12, 100, 2, 0)
  (cec 111 0 (.iload_n 1) xi0
  (cec 112 0 .iaload xi0
  (cec 113 0 (.invokevirtual 591) (297, 3, 1, 22)
  (cec 116 0 .lreturn xi0
  (cec 117 0 (.ldc2_w 513) (0, 0, (-1), 0)
  (cec 120 0 .lreturn xi0 []))))))))
/-- SupplyBookModel.loan(II)J -/
noncomputable def cs_298 : List CE := cec 0 0 (.iload_n 1) xi0
  (cec 1 0 .i2l xi0
  (cec 2 0 (.lconst 0) xi0
  (cec 3 0 (.aload_n 0) xi0
  (cec 4 0 (.getfield 579) (12, 93, 0, 0)
  (cec 7 0 (.iconst 1) xi0
  (cec 8 0 .isub xi0
  (cec 9 0 .i2l xi0
  (cec 10 0 (.invokestatic 246) (195, 3, 0, 0)
  (cec 13 0 (.ifCond .ne 7) xi0
  (cec 16 0 (.ldc2_w 513) (0, 0, (-1), 0)
  (cec 19 0 .lreturn xi0
  (cec 20 0 (.iload_n 2) xi0
  (cec 21 0 (.tableswitch 96 0 4 #[35, 43, 51, 59, 67]) xi0
  (cec 56 0 (.aload_n 0) xi0
  (cec 57 0 (.getfield 220) (12, 97, 2, 0)
  (cec 60 0 (.iload_n 1) xi0
  (cec 61 0 .iaload xi0
  (cec 62 0 .i2l xi0
  (cec 63 0 .lreturn xi0
  (cec 64 0 (.aload_n 0) xi0
  (cec 65 0 (.getfield 223) (12, 98, 2, 0)
  (cec 68 0 (.iload_n 1) xi0
  (cec 69 0 .iaload xi0
  (cec 70 0 .i2l xi0
  (cec 71 0 .lreturn xi0
  (cec 72 0 (.aload_n 0) xi0
  (cec 73 0 (.getfield 226) (12, 99, 2, 0)
  (cec 76 0 (.iload_n 1) xi0
  (cec 77 0 .iaload xi0
  (cec 78 0 .i2l xi0
  (cec 79 0 .lreturn xi0
  (cec 80 0 (.aload_n 0) xi0
  (cec 81 0 (.getfield 229) (12, 100, 2, 0)
  (cec 84 0 (.iload_n 1) xi0
  (cec 85 0 .iaload xi0
  (cec 86 0 .i2l xi0
  (cec 87 0 .lreturn xi0
  (cec 88 0 (.aload_n 0) xi0
  (cec 89 0 (.iload_n 1) xi0
  (cec 90 0 (.aload_n 0) xi0
  (cec 91 0 (.getfield 229) (12, 100, 2, 0)
  (cec 94 0 (.iload_n 1) xi0
  (cec 95 0 .iaload xi0
  (cec 96 0 (.iconst (-1)) xi0
  (cec 97 0 (.if_icmp .ne 10) xi0
  (cec 100 0 (.aload_n 0) xi0
  (cec 101 0 (.getfield 250) (12, 2, 0, 0) cs_298_1)))))))))))))))))))))))))))))))))))))))))))))))
noncomputable def cs_299_2 : List CE := cec 156 0 (.iconst 0) xi0
  (cec 157 0 .iadd xi0
  (cec 158 0 (.istore 6) xi0
  (cec 160 0 (.lload 4) xi0
  (cec 162 0 (.aload_n 0) xi0
  (cec 163 0 (.getfield 127) (12, 57, 2, 0)
  (cec 166 0 (.iload 7) xi0
  (cec 168 0 .iaload xi0
  (cec 169 0 .i2l xi0
  (cec 170 0 .ladd xi0
  (cec 171 0 (.lstore 4) xi0
  (cec 173 0 (.iinc 7 1) xi0
  (cec 176 0 (.goto (-121)) xi0
  (cec 179 0 (.iload 6) xi0
  (cec 181 0 .ireturn xi0 []))))))))))))))
noncomputable def cs_299_1 : List CE := cec 82 0 (.ifCond .gt 8) xi0
  (cec 85 0 (.iload_n 2) xi0
  (cec 86 0 .i2l xi0
  (cec 87 0 (.goto 22) xi0
  (cec 90 0 (.iload_n 2) xi0
  (cec 91 0 .i2l xi0
  (cec 92 0 (.lload 4) xi0
  (cec 94 0 (.iload_n 2) xi0
  (cec 95 0 .i2l xi0
  (cec 96 0 .lsub xi0
  (cec 97 0 (.iload_n 3) xi0
  (cec 98 0 .i2l xi0
  (cec 99 0 .ladd xi0
  (cec 100 0 (.lconst 1) xi0
  (cec 101 0 .lsub xi0
  (cec 102 0 (.iload_n 3) xi0
  (cec 103 0 .i2l xi0
  (cec 104 0 .ldiv xi0
  (cec 105 0 (.iload_n 3) xi0
  (cec 106 0 .i2l xi0
  (cec 107 0 .lmul xi0
  (cec 108 0 .ladd xi0
  (cec 109 447 (.lstore 8) xi0
  (cec 111 0 (.aload_n 0) xi0
  (cec 112 0 (.getfield 154) (12, 66, 2, 0)
  (cec 115 0 (.iload 7) xi0
  (cec 117 0 (.lload 8) xi0
  (cec 119 0 (.lload 4) xi0
  (cec 121 0 (.aload_n 0) xi0
  (cec 122 0 (.getfield 127) (12, 57, 2, 0)
  (cec 125 0 (.iload 7) xi0
  (cec 127 0 .iaload xi0
  (cec 128 0 .i2l xi0
  (cec 129 0 .ladd xi0
  (cec 130 0 .lcmp xi0
  (cec 131 0 (.ifCond .ge 7) xi0
  (cec 134 0 (.iconst 1) xi0
  (cec 135 0 (.goto 4) xi0
  (cec 138 0 (.iconst 0) xi0
  (cec 139 447 .bastore xi0
  (cec 140 0 (.iload 6) xi0
  (cec 142 0 (.aload_n 0) xi0
  (cec 143 0 (.getfield 154) (12, 66, 2, 0)
  (cec 146 0 (.iload 7) xi0
  (cec 148 0 .baload xi0
  (cec 149 0 (.ifCond .eq 7) xi0
  (cec 152 0 (.iconst 1) xi0
  (cec 153 0 (.goto 4) xi0 cs_299_2)))))))))))))))))))))))))))))))))))))))))))))))
/-- SupplyBookModel.draw(III)I -/
noncomputable def cs_299 : List CE := cec 0 0 (.iload_n 1) xi0
  (cec 1 0 .i2l xi0
  (cec 2 0 (.lconst 0) xi0
  (cec 3 0 (.ldc2_w 270) (0, 0, 9, 0)
  (cec 6 0 (.invokestatic 246) (195, 3, 0, 0)
  (cec 9 0 (.ifCond .eq 28) xi0
  (cec 12 0 (.iload_n 3) xi0
  (cec 13 0 .i2l xi0
  (cec 14 0 (.lconst 1) xi0
  (cec 15 0 (.ldc2_w 244) (0, 0, 1000000000, 0)
  (cec 18 0 (.invokestatic 246) (195, 3, 0, 0)
  (cec 21 0 (.ifCond .eq 16) xi0
  (cec 24 0 (.iload_n 2) xi0
  (cec 25 0 .i2l xi0
  (cec 26 0 (.lconst 0) xi0
  (cec 27 0 (.iload_n 3) xi0
  (cec 28 0 (.iconst 1) xi0
  (cec 29 0 .isub xi0
  (cec 30 0 .i2l xi0
  (cec 31 0 (.invokestatic 246) (195, 3, 0, 0)
  (cec 34 0 (.ifCond .ne 5) xi0
  (cec 37 0 (.iconst (-1)) xi0
  (cec 38 0 .ireturn xi0
  (cec 39 0 (.aload_n 0) xi0
  (cec 40 0 (.getfield 232) (12, 101, 2, 0)
  (cec 43 0 (.iload_n 1) xi0
  (cec 44 0 (.iload_n 3) xi0
  (cec 45 0 .iastore xi0
  (cec 46 0 (.lconst 0) xi0
  (cec 47 0 (.lstore 4) xi0
  (cec 49 0 (.iconst 0) xi0
  (cec 50 0 (.istore 6) xi0
  (cec 52 0 (.iconst 0) xi0
  (cec 53 0 (.istore 7) xi0
  (cec 55 447 (.iload 7) xi0
  (cec 57 0 (.aload_n 0) xi0
  (cec 58 0 (.getfield 441) (12, 52, 0, 0)
  (cec 61 0 (.if_icmp .ge 118) xi0
  (cec 64 0 (.aload_n 0) xi0
  (cec 65 0 (.iload 7) xi0
  (cec 67 0 (.iload_n 1) xi0
  (cec 68 0 (.invokevirtual 444) (248, 3, 0, 22)
  (cec 71 0 (.ifCond .ne 6) xi0
  (cec 74 0 (.goto 99) xi0
  (cec 77 0 (.lload 4) xi0
  (cec 79 0 (.iload_n 2) xi0
  (cec 80 0 .i2l xi0
  (cec 81 0 .lcmp xi0 cs_299_1)))))))))))))))))))))))))))))))))))))))))))))))
/-- SupplyBookModel.drawn(II)I -/
noncomputable def cs_300 : List CE := cec 0 0 (.iload_n 1) xi0
  (cec 1 0 .i2l xi0
  (cec 2 0 (.lconst 0) xi0
  (cec 3 0 (.ldc2_w 270) (0, 0, 9, 0)
  (cec 6 0 (.invokestatic 246) (195, 3, 0, 0)
  (cec 9 0 (.ifCond .eq 7) xi0
  (cec 12 0 (.iload_n 2) xi0
  (cec 13 0 (.ifCond .ge 5) xi0
  (cec 16 0 (.iconst (-1)) xi0
  (cec 17 0 .ireturn xi0
  (cec 18 0 (.iconst 0) xi0
  (cec 19 0 (.istore_n 3) xi0
  (cec 20 0 (.iconst 0) xi0
  (cec 21 0 (.istore 4) xi0
  (cec 23 63 (.iload 4) xi0
  (cec 25 0 (.aload_n 0) xi0
  (cec 26 0 (.getfield 441) (12, 52, 0, 0)
  (cec 29 0 (.if_icmp .ge 43) xi0
  (cec 32 0 (.aload_n 0) xi0
  (cec 33 0 (.iload 4) xi0
  (cec 35 0 (.iload_n 1) xi0
  (cec 36 0 (.invokevirtual 444) (248, 3, 0, 22)
  (cec 39 0 (.ifCond .eq 27) xi0
  (cec 42 0 (.aload_n 0) xi0
  (cec 43 0 (.getfield 154) (12, 66, 2, 0)
  (cec 46 0 (.iload 4) xi0
  (cec 48 0 .baload xi0
  (cec 49 0 (.ifCond .ne 6) xi0
  (cec 52 0 (.goto 14) xi0
  (cec 55 0 (.iload_n 3) xi0
  (cec 56 0 (.iload_n 2) xi0
  (cec 57 0 (.if_icmp .ne 6) xi0
  (cec 60 0 (.iload 4) xi0
  (cec 62 0 .ireturn xi0
  (cec 63 0 (.iinc 3 1) xi0
  (cec 66 0 (.iinc 4 1) xi0
  (cec 69 0 (.goto (-46)) xi0
  (cec 72 0 (.iconst (-1)) xi0
  (cec 73 0 .ireturn xi0 []))))))))))))))))))))))))))))))))))))))
/-- SupplyBookModel.test(II)Z -/
noncomputable def cs_301 : List CE := cec 0 0 (.aload_n 0) xi0
  (cec 1 0 (.iload_n 1) xi0
  (cec 2 0 (.invokevirtual 515) (259, 2, 0, 22)
  (cec 5 0 (.ifCond .eq 28) xi0
  (cec 8 0 (.aload_n 0) xi0
  (cec 9 0 (.getfield 154) (12, 66, 2, 0)
  (cec 12 0 (.iload_n 1) xi0
  (cec 13 0 .baload xi0
  (cec 14 0 (.ifCond .eq 19) xi0
  (cec 17 0 (.iload_n 2) xi0
  (cec 18 0 .i2l xi0
  (cec 19 0 (.lconst 0) xi0
  (cec 20 0 (.aload_n 0) xi0
  (cec 21 0 (.getfield 127) (12, 57, 2, 0)
  (cec 24 0 (.iload_n 1) xi0
  (cec 25 0 .iaload xi0
  (cec 26 0 .i2l xi0
  (cec 27 0 (.invokestatic 246) (195, 3, 0, 0)
  (cec 30 0 (.ifCond .ne 5) xi0
  (cec 33 0 (.iconst 0) xi0
  (cec 34 0 .ireturn xi0
  (cec 35 0 (.aload_n 0) xi0
  (cec 36 0 (.getfield 157) (12, 67, 2, 0)
  (cec 39 0 (.iload_n 1) xi0
  (cec 40 0 (.iconst 1) xi0
  (cec 41 0 .bastore xi0
  (cec 42 0 (.aload_n 0) xi0
  (cec 43 0 (.getfield 160) (12, 68, 2, 0)
  (cec 46 0 (.iload_n 1) xi0
  (cec 47 0 (.iload_n 2) xi0
  (cec 48 0 .iastore xi0
  (cec 49 0 (.iconst 1) xi0
  (cec 50 0 .ireturn xi0 []))))))))))))))))))))))))))))))))
noncomputable def cs_302_2 : List CE := cec 179 0 .iaload xi0
  (cec 180 0 .i2l xi0
  (cec 181 0 (.aload_n 0) xi0
  (cec 182 0 (.getfield 232) (12, 101, 2, 0)
  (cec 185 0 (.iload_n 1) xi0
  (cec 186 0 .iaload xi0
  (cec 187 0 .i2l xi0
  (cec 188 0 .lmul xi0
  (cec 189 0 (.aload_n 0) xi0
  (cec 190 0 (.getfield 127) (12, 57, 2, 0)
  (cec 193 0 (.iload 5) xi0
  (cec 195 0 .iaload xi0
  (cec 196 0 .i2l xi0
  (cec 197 0 .ldiv xi0
  (cec 198 0 .ladd xi0
  (cec 199 0 (.lstore_n 3) xi0
  (cec 200 0 (.iinc 5 1) xi0
  (cec 203 0 (.goto (-170)) xi0
  (cec 206 0 (.lload_n 3) xi0
  (cec 207 0 .lreturn xi0 [])))))))))))))))))))
noncomputable def cs_302_1 : List CE := cec 93 0 (.aload_n 0) xi0
  (cec 94 0 (.getfield 160) (12, 68, 2, 0)
  (cec 97 0 (.iload 5) xi0
  (cec 99 0 .iaload xi0
  (cec 100 0 .i2l xi0
  (cec 101 0 (.goto 11) xi0
  (cec 104 0 (.aload_n 0) xi0
  (cec 105 0 (.getfield 127) (12, 57, 2, 0)
  (cec 108 0 (.iload 5) xi0
  (cec 110 0 .iaload xi0
  (cec 111 0 .i2l xi0
  (cec 112 0 .ladd xi0
  (cec 113 0 (.lstore_n 3) xi0
  (cec 114 0 (.goto 86) xi0
  (cec 117 0 (.iload 6) xi0
  (cec 119 0 (.ifCond .eq 21) xi0
  (cec 122 0 (.iload_n 2) xi0
  (cec 123 0 (.ifCond .ne 17) xi0
  (cec 126 0 (.lload_n 3) xi0
  (cec 127 0 (.aload_n 0) xi0
  (cec 128 0 (.getfield 160) (12, 68, 2, 0)
  (cec 131 0 (.iload 5) xi0
  (cec 133 0 .iaload xi0
  (cec 134 0 .i2l xi0
  (cec 135 0 .ladd xi0
  (cec 136 0 (.lstore_n 3) xi0
  (cec 137 0 (.goto 63) xi0
  (cec 140 223 (.iload 6) xi0
  (cec 142 0 (.ifCond .eq 58) xi0
  (cec 145 0 (.lload_n 3) xi0
  (cec 146 0 (.aload_n 0) xi0
  (cec 147 0 (.getfield 127) (12, 57, 2, 0)
  (cec 150 0 (.iload 5) xi0
  (cec 152 0 .iaload xi0
  (cec 153 0 (.aload_n 0) xi0
  (cec 154 0 (.getfield 232) (12, 101, 2, 0)
  (cec 157 0 (.iload_n 1) xi0
  (cec 158 0 .iaload xi0
  (cec 159 0 (.if_icmp .lt 14) xi0
  (cec 162 0 (.aload_n 0) xi0
  (cec 163 0 (.getfield 160) (12, 68, 2, 0)
  (cec 166 0 (.iload 5) xi0
  (cec 168 0 .iaload xi0
  (cec 169 0 .i2l xi0
  (cec 170 0 (.goto 28) xi0
  (cec 173 0 (.aload_n 0) xi0
  (cec 174 0 (.getfield 160) (12, 68, 2, 0)
  (cec 177 0 (.iload 5) xi0 cs_302_2)))))))))))))))))))))))))))))))))))))))))))))))
/-- SupplyBookModel.found(II)J -/
noncomputable def cs_302 : List CE := cec 0 0 (.iload_n 1) xi0
  (cec 1 0 .i2l xi0
  (cec 2 0 (.lconst 0) xi0
  (cec 3 0 (.ldc2_w 270) (0, 0, 9, 0)
  (cec 6 0 (.invokestatic 246) (195, 3, 0, 0)
  (cec 9 0 (.ifCond .eq 15) xi0
  (cec 12 0 (.iload_n 2) xi0
  (cec 13 0 .i2l xi0
  (cec 14 0 (.lconst 0) xi0
  (cec 15 0 (.ldc2_w 557) (0, 0, 2, 0)
  (cec 18 0 (.invokestatic 246) (195, 3, 0, 0)
  (cec 21 0 (.ifCond .ne 7) xi0
  (cec 24 0 (.ldc2_w 513) (0, 0, (-1), 0)
  (cec 27 0 .lreturn xi0
  (cec 28 0 (.lconst 0) xi0
  (cec 29 0 (.lstore_n 3) xi0
  (cec 30 0 (.iconst 0) xi0
  (cec 31 0 (.istore 5) xi0
  (cec 33 95 (.iload 5) xi0
  (cec 35 0 (.aload_n 0) xi0
  (cec 36 0 (.getfield 441) (12, 52, 0, 0)
  (cec 39 0 (.if_icmp .ge 167) xi0
  (cec 42 0 (.aload_n 0) xi0
  (cec 43 0 (.iload 5) xi0
  (cec 45 0 (.iload_n 1) xi0
  (cec 46 0 (.invokevirtual 444) (248, 3, 0, 22)
  (cec 49 0 (.ifCond .ne 6) xi0
  (cec 52 0 (.goto 148) xi0
  (cec 55 0 (.aload_n 0) xi0
  (cec 56 0 (.getfield 154) (12, 66, 2, 0)
  (cec 59 0 (.iload 5) xi0
  (cec 61 0 .baload xi0
  (cec 62 0 (.ifCond .eq 17) xi0
  (cec 65 0 (.aload_n 0) xi0
  (cec 66 0 (.getfield 157) (12, 67, 2, 0)
  (cec 69 0 (.iload 5) xi0
  (cec 71 0 .baload xi0
  (cec 72 0 (.ifCond .eq 7) xi0
  (cec 75 0 (.iconst 1) xi0
  (cec 76 0 (.goto 4) xi0
  (cec 79 0 (.iconst 0) xi0
  (cec 80 95 (.istore 6) xi0
  (cec 82 0 (.iload_n 2) xi0
  (cec 83 0 (.iconst 2) xi0
  (cec 84 0 (.if_icmp .ne 33) xi0
  (cec 87 0 (.lload_n 3) xi0
  (cec 88 0 (.iload 6) xi0
  (cec 90 0 (.ifCond .eq 14) xi0 cs_302_1)))))))))))))))))))))))))))))))))))))))))))))))
/-- SupplyBookModel.question(I)Z -/
noncomputable def cs_303 : List CE := cec 0 0 (.aload_n 0) xi0
  (cec 1 0 (.iload_n 1) xi0
  (cec 2 0 (.invokevirtual 515) (259, 2, 0, 22)
  (cec 5 0 (.ifCond .eq 22) xi0
  (cec 8 0 (.aload_n 0) xi0
  (cec 9 0 (.getfield 139) (12, 61, 2, 0)
  (cec 12 0 (.iload_n 1) xi0
  (cec 13 0 .iaload xi0
  (cec 14 0 (.iconst (-1)) xi0
  (cec 15 0 (.if_icmp .eq 12) xi0
  (cec 18 0 (.aload_n 0) xi0
  (cec 19 0 (.getfield 148) (12, 64, 2, 0)
  (cec 22 0 (.iload_n 1) xi0
  (cec 23 0 .iaload xi0
  (cec 24 0 (.ifCond .eq 5) xi0
  (cec 27 0 (.iconst 0) xi0
  (cec 28 0 .ireturn xi0
  (cec 29 0 (.aload_n 0) xi0
  (cec 30 0 (.getfield 148) (12, 64, 2, 0)
  (cec 33 0 (.iload_n 1) xi0
  (cec 34 0 (.iconst 1) xi0
  (cec 35 0 .iastore xi0
  (cec 36 0 (.iconst 1) xi0
  (cec 37 0 .ireturn xi0 [])))))))))))))))))))))))
/-- SupplyBookModel.answer(IZ)Z -/
noncomputable def cs_304 : List CE := cec 0 0 (.aload_n 0) xi0
  (cec 1 0 (.iload_n 1) xi0
  (cec 2 0 (.invokevirtual 515) (259, 2, 0, 22)
  (cec 5 0 (.ifCond .eq 13) xi0
  (cec 8 0 (.aload_n 0) xi0
  (cec 9 0 (.getfield 148) (12, 64, 2, 0)
  (cec 12 0 (.iload_n 1) xi0
  (cec 13 0 .iaload xi0
  (cec 14 0 (.iconst 1) xi0
  (cec 15 0 (.if_icmp .eq 5) xi0
  (cec 18 0 (.iconst 0) xi0
  (cec 19 0 .ireturn xi0
  (cec 20 0 (.aload_n 0) xi0
  (cec 21 0 (.getfield 148) (12, 64, 2, 0)
  (cec 24 0 (.iload_n 1) xi0
  (cec 25 0 (.iload_n 2) xi0
  (cec 26 0 (.ifCond .eq 7) xi0
  (cec 29 0 (.iconst 2) xi0
  (cec 30 0 (.goto 4) xi0
  (cec 33 0 (.iconst 3) xi0
  (cec 34 0 .iastore xi0
  (cec 35 0 (.iload_n 2) xi0
  (cec 36 0 (.ifCond .eq 7) xi0
  (cec 39 0 (.lconst 0) xi0
  (cec 40 0 (.goto 8) xi0
  (cec 43 0 (.aload_n 0) xi0
  (cec 44 0 (.iload_n 1) xi0
  (cec 45 0 (.invokevirtual 597) (305, 2, 1, 22)
  (cec 48 0 (.lstore_n 3) xi0
  (cec 49 0 (.iconst 1) xi0
  (cec 50 0 .ireturn xi0 []))))))))))))))))))))))))))))))
noncomputable def cs_305_1 : List CE := cec 74 0 (.getfield 23) (12, 9, 2, 0)
  (cec 77 0 (.iload 5) xi0
  (cec 79 0 .dup2 xi0
  (cec 80 0 .laload xi0
  (cec 81 0 (.aload_n 0) xi0
  (cec 82 0 (.getfield 127) (12, 57, 2, 0)
  (cec 85 0 (.iload_n 1) xi0
  (cec 86 0 .iaload xi0
  (cec 87 0 (.iload_n 3) xi0
  (cec 88 0 .idiv xi0
  (cec 89 0 (.iload 4) xi0
  (cec 91 0 (.ifCond .le 7) xi0
  (cec 94 0 (.iconst 1) xi0
  (cec 95 0 (.goto 4) xi0
  (cec 98 0 (.iconst 0) xi0
  (cec 99 0 .iadd xi0
  (cec 100 0 .i2l xi0
  (cec 101 0 .ladd xi0
  (cec 102 0 .lastore xi0
  (cec 103 0 (.iinc 4 (-1)) xi0
  (cec 106 0 (.iinc 5 1) xi0
  (cec 109 0 (.goto (-57)) xi0
  (cec 112 0 (.aload_n 0) xi0
  (cec 113 0 (.getfield 127) (12, 57, 2, 0)
  (cec 116 0 (.iload_n 1) xi0
  (cec 117 0 .iaload xi0
  (cec 118 0 .i2l xi0
  (cec 119 0 .lreturn xi0 [])))))))))))))))))))))))))))
/-- SupplyBookModel.surcharges(I)J -/
noncomputable def cs_305 : List CE := cec 0 0 (.aload_n 0) xi0
  (cec 1 0 (.getfield 151) (12, 65, 2, 0)
  (cec 4 0 (.iload_n 1) xi0
  (cec 5 0 .baload xi0
  (cec 6 0 (.ifCond .eq 5) xi0
  (cec 9 0 (.lconst 0) xi0
  (cec 10 0 .lreturn xi0
  (cec 11 0 (.aload_n 0) xi0
  (cec 12 0 (.getfield 151) (12, 65, 2, 0)
  (cec 15 0 (.iload_n 1) xi0
  (cec 16 0 (.iconst 1) xi0
  (cec 17 0 .bastore xi0
  (cec 18 0 (.aload_n 0) xi0
  (cec 19 0 (.getfield 136) (12, 60, 2, 0)
  (cec 22 0 (.iload_n 1) xi0
  (cec 23 0 .iaload xi0
  (cec 24 0 (.iconst 1) xi0
  (cec 25 0 (.aload_n 0) xi0
  (cec 26 0 (.getfield 118) (12, 54, 2, 0)
  (cec 29 0 (.iload_n 1) xi0
  (cec 30 0 .iaload xi0
  (cec 31 0 .ishl xi0
  (cec 32 0 .ior xi0
  (cec 33 0 (.istore_n 2) xi0
  (cec 34 0 (.iload_n 2) xi0
  (cec 35 0 (.invokestatic 571) (290, 1, 0, 0)
  (cec 38 0 (.istore_n 3) xi0
  (cec 39 0 (.aload_n 0) xi0
  (cec 40 0 (.getfield 127) (12, 57, 2, 0)
  (cec 43 0 (.iload_n 1) xi0
  (cec 44 0 .iaload xi0
  (cec 45 0 (.iload_n 3) xi0
  (cec 46 0 .irem xi0
  (cec 47 0 (.istore 4) xi0
  (cec 49 0 (.iconst 0) xi0
  (cec 50 0 (.istore 5) xi0
  (cec 52 127 (.iload 5) xi0
  (cec 54 0 (.aload_n 0) xi0
  (cec 55 0 (.getfield 259) (12, 5, 0, 0)
  (cec 58 0 (.if_icmp .ge 54) xi0
  (cec 61 0 (.iload_n 2) xi0
  (cec 62 0 (.iload 5) xi0
  (cec 64 0 .ishr xi0
  (cec 65 0 (.iconst 1) xi0
  (cec 66 0 .iand xi0
  (cec 67 0 (.ifCond .ne 6) xi0
  (cec 70 0 (.goto 36) xi0
  (cec 73 0 (.aload_n 0) xi0 cs_305_1)))))))))))))))))))))))))))))))))))))))))))))))
noncomputable def cs_306_1 : List CE := cec 83 0 (.aload_n 0) xi0
  (cec 84 0 (.getfield 109) (12, 49, 2, 0)
  (cec 87 0 (.iload_n 1) xi0
  (cec 88 0 (.iconst 1) xi0
  (cec 89 0 .bastore xi0
  (cec 90 0 (.lconst 0) xi0
  (cec 91 0 (.lstore_n 3) xi0
  (cec 92 0 (.iconst 0) xi0
  (cec 93 0 (.istore 5) xi0
  (cec 95 87 (.iload 5) xi0
  (cec 97 0 (.aload_n 0) xi0
  (cec 98 0 (.getfield 441) (12, 52, 0, 0)
  (cec 101 0 (.if_icmp .ge 29) xi0
  (cec 104 0 (.aload_n 0) xi0
  (cec 105 0 (.getfield 142) (12, 62, 2, 0)
  (cec 108 0 (.iload 5) xi0
  (cec 110 0 .iaload xi0
  (cec 111 0 (.iload_n 1) xi0
  (cec 112 0 (.if_icmp .ne 12) xi0
  (cec 115 0 (.lload_n 3) xi0
  (cec 116 0 (.aload_n 0) xi0
  (cec 117 0 (.iload 5) xi0
  (cec 119 0 (.invokevirtual 597) (305, 2, 1, 22)
  (cec 122 0 .ladd xi0
  (cec 123 0 (.lstore_n 3) xi0
  (cec 124 0 (.iinc 5 1) xi0
  (cec 127 0 (.goto (-32)) xi0
  (cec 130 0 (.lload_n 3) xi0
  (cec 131 0 .lreturn xi0 []))))))))))))))))))))))))))))
/-- SupplyBookModel.falls(I)J -/
noncomputable def cs_306 : List CE := cec 0 0 (.aload_n 0) xi0
  (cec 1 0 (.iload_n 1) xi0
  (cec 2 0 (.invokevirtual 433) (241, 2, 0, 22)
  (cec 5 0 (.ifCond .eq 22) xi0
  (cec 8 0 (.aload_n 0) xi0
  (cec 9 0 (.getfield 85) (12, 41, 2, 0)
  (cec 12 0 (.iload_n 1) xi0
  (cec 13 0 .iaload xi0
  (cec 14 0 (.iconst 4) xi0
  (cec 15 0 (.if_icmp .ne 12) xi0
  (cec 18 0 (.aload_n 0) xi0
  (cec 19 0 (.getfield 109) (12, 49, 2, 0)
  (cec 22 0 (.iload_n 1) xi0
  (cec 23 0 .baload xi0
  (cec 24 0 (.ifCond .eq 7) xi0
  (cec 27 0 (.ldc2_w 513) (0, 0, (-1), 0)
  (cec 30 0 .lreturn xi0
  (cec 31 0 (.aload_n 0) xi0
  (cec 32 0 (.getfield 106) (12, 48, 2, 0)
  (cec 35 0 (.iload_n 1) xi0
  (cec 36 0 .iaload xi0
  (cec 37 0 (.aload_n 0) xi0
  (cec 38 0 (.bipush 100) xi0
  (cec 40 0 (.aload_n 0) xi0
  (cec 41 0 (.getfield 106) (12, 48, 2, 0)
  (cec 44 0 (.iload_n 1) xi0
  (cec 45 0 .iaload xi0
  (cec 46 0 (.invokevirtual 419) (236, 3, 0, 22)
  (cec 49 0 .iadd xi0
  (cec 50 0 (.istore_n 2) xi0
  (cec 51 0 (.aload_n 0) xi0
  (cec 52 0 (.getfield 250) (12, 2, 0, 0)
  (cec 55 0 (.iload_n 2) xi0
  (cec 56 0 (.if_icmp .le 23) xi0
  (cec 59 0 (.aload_n 0) xi0
  (cec 60 0 (.getfield 100) (12, 46, 2, 0)
  (cec 63 0 (.iload_n 1) xi0
  (cec 64 0 .iaload xi0
  (cec 65 0 (.iconst (-1)) xi0
  (cec 66 0 (.if_icmp .eq 17) xi0
  (cec 69 0 (.aload_n 0) xi0
  (cec 70 0 (.getfield 103) (12, 47, 2, 0)
  (cec 73 0 (.iload_n 1) xi0
  (cec 74 0 .iaload xi0
  (cec 75 0 (.iload_n 2) xi0
  (cec 76 0 (.if_icmp .gt 7) xi0
  (cec 79 0 (.ldc2_w 513) (0, 0, (-1), 0)
  (cec 82 0 .lreturn xi0 cs_306_1)))))))))))))))))))))))))))))))))))))))))))))))
/-- SupplyBookModel.surcharged(I)J -/
noncomputable def cs_307 : List CE := cec 0 0 (.aload_n 0) xi0
  (cec 1 0 (.iload_n 1) xi0
  (cec 2 0 (.invokevirtual 510) (257, 2, 0, 22)
  (cec 5 0 (.ifCond .eq 12) xi0
  (cec 8 0 (.aload_n 0) xi0
  (cec 9 0 (.getfield 23) (12, 9, 2, 0)
  (cec 12 0 (.iload_n 1) xi0
  (cec 13 0 .laload xi0
  (cec 14 0 (.goto 6) xi0
  (cec 17 0 (.ldc2_w 513) (0, 0, (-1), 0)
  (cec 20 0 .lreturn xi0 []))))))))))
noncomputable def cs_308_1 : List CE := cec 77 0 (.getfield 600) (12, 102, 0, 0)
  (cec 80 0 (.iload_n 1) xi0
  (cec 81 0 .iastore xi0
  (cec 82 0 (.aload_n 0) xi0
  (cec 83 0 (.getfield 238) (12, 104, 2, 0)
  (cec 86 0 (.aload_n 0) xi0
  (cec 87 0 (.getfield 600) (12, 102, 0, 0)
  (cec 90 0 (.iload_n 2) xi0
  (cec 91 0 .iastore xi0
  (cec 92 0 (.aload_n 0) xi0
  (cec 93 0 (.getfield 241) (12, 105, 2, 0)
  (cec 96 0 (.aload_n 0) xi0
  (cec 97 0 (.getfield 600) (12, 102, 0, 0)
  (cec 100 0 (.aload_n 0) xi0
  (cec 101 0 (.getfield 250) (12, 2, 0, 0)
  (cec 104 0 .iastore xi0
  (cec 105 0 (.aload_n 0) xi0
  (cec 106 0 .dup xi0
  (cec 107 0 (.getfield 600) (12, 102, 0, 0)
  (cec 110 0 (.iconst 1) xi0
  (cec 111 0 .iadd xi0
  (cec 112 0 (.putfield 600) (12, 102, 0, 0)
  (cec 115 0 (.iconst 1) xi0
  (cec 116 0 .ireturn xi0 [])))))))))))))))))))))))
/-- SupplyBookModel.find(II)Z -/
noncomputable def cs_308 : List CE := cec 0 0 (.aload_n 0) xi0
  (cec 1 0 (.getfield 600) (12, 102, 0, 0)
  (cec 4 0 (.bipush 100) xi0
  (cec 6 0 (.if_icmp .eq 53) xi0
  (cec 9 0 (.aload_n 0) xi0
  (cec 10 0 (.iload_n 1) xi0
  (cec 11 0 (.invokevirtual 515) (259, 2, 0, 22)
  (cec 14 0 (.ifCond .eq 45) xi0
  (cec 17 0 (.aload_n 0) xi0
  (cec 18 0 (.getfield 139) (12, 61, 2, 0)
  (cec 21 0 (.iload_n 1) xi0
  (cec 22 0 .iaload xi0
  (cec 23 0 (.iconst (-1)) xi0
  (cec 24 0 (.if_icmp .eq 35) xi0
  (cec 27 0 (.iload_n 2) xi0
  (cec 28 0 .i2l xi0
  (cec 29 0 (.lconst 1) xi0
  (cec 30 0 (.ldc2_w 244) (0, 0, 1000000000, 0)
  (cec 33 0 (.invokestatic 246) (195, 3, 0, 0)
  (cec 36 0 (.ifCond .eq 23) xi0
  (cec 39 0 (.aload_n 0) xi0
  (cec 40 0 (.getfield 163) (12, 69, 2, 0)
  (cec 43 0 (.iload_n 1) xi0
  (cec 44 0 .laload xi0
  (cec 45 0 (.iload_n 2) xi0
  (cec 46 0 .i2l xi0
  (cec 47 0 .ladd xi0
  (cec 48 0 (.aload_n 0) xi0
  (cec 49 0 (.getfield 127) (12, 57, 2, 0)
  (cec 52 0 (.iload_n 1) xi0
  (cec 53 0 .iaload xi0
  (cec 54 0 .i2l xi0
  (cec 55 0 .lcmp xi0
  (cec 56 0 (.ifCond .le 5) xi0
  (cec 59 0 (.iconst 0) xi0
  (cec 60 0 .ireturn xi0
  (cec 61 0 (.aload_n 0) xi0
  (cec 62 0 (.getfield 163) (12, 69, 2, 0)
  (cec 65 0 (.iload_n 1) xi0
  (cec 66 0 .dup2 xi0
  (cec 67 0 .laload xi0
  (cec 68 0 (.iload_n 2) xi0
  (cec 69 0 .i2l xi0
  (cec 70 0 .ladd xi0
  (cec 71 0 .lastore xi0
  (cec 72 0 (.aload_n 0) xi0
  (cec 73 0 (.getfield 235) (12, 103, 2, 0)
  (cec 76 0 (.aload_n 0) xi0 cs_308_1)))))))))))))))))))))))))))))))))))))))))))))))
noncomputable def cs_309_1 : List CE := cec 91 0 (.aload_n 0) xi0
  (cec 92 0 (.getfield 600) (12, 102, 0, 0)
  (cec 95 0 (.if_icmp .ge 54) xi0
  (cec 98 0 (.lload 4) xi0
  (cec 100 0 (.aload_n 0) xi0
  (cec 101 0 (.getfield 241) (12, 105, 2, 0)
  (cec 104 0 (.iload 6) xi0
  (cec 106 0 .iaload xi0
  (cec 107 0 (.iload_n 3) xi0
  (cec 108 0 (.if_icmp .gt 31) xi0
  (cec 111 0 (.aload_n 0) xi0
  (cec 112 0 (.aload_n 0) xi0
  (cec 113 0 (.getfield 235) (12, 103, 2, 0)
  (cec 116 0 (.iload 6) xi0
  (cec 118 0 .iaload xi0
  (cec 119 0 (.iload_n 1) xi0
  (cec 120 0 (.iload_n 2) xi0
  (cec 121 0 (.iload_n 3) xi0
  (cec 122 0 (.invokevirtual 603) (310, 5, 0, 22)
  (cec 125 0 (.ifCond .eq 14) xi0
  (cec 128 0 (.aload_n 0) xi0
  (cec 129 0 (.getfield 238) (12, 104, 2, 0)
  (cec 132 0 (.iload 6) xi0
  (cec 134 0 .iaload xi0
  (cec 135 0 .i2l xi0
  (cec 136 0 (.goto 4) xi0
  (cec 139 0 (.lconst 0) xi0
  (cec 140 0 .lsub xi0
  (cec 141 0 (.lstore 4) xi0
  (cec 143 0 (.iinc 6 1) xi0
  (cec 146 0 (.goto (-57)) xi0
  (cec 149 0 (.lload 4) xi0
  (cec 151 0 .lreturn xi0 []))))))))))))))))))))))))))))))))
/-- SupplyBookModel.paid(III)J -/
noncomputable def cs_309 : List CE := cec 0 0 (.iload_n 1) xi0
  (cec 1 0 .i2l xi0
  (cec 2 0 (.lconst 0) xi0
  (cec 3 0 (.ldc2_w 270) (0, 0, 9, 0)
  (cec 6 0 (.invokestatic 246) (195, 3, 0, 0)
  (cec 9 0 (.ifCond .eq 23) xi0
  (cec 12 0 (.aload_n 0) xi0
  (cec 13 0 (.iload_n 2) xi0
  (cec 14 0 (.invokevirtual 262) (197, 2, 0, 22)
  (cec 17 0 (.ifCond .eq 15) xi0
  (cec 20 0 (.iload_n 3) xi0
  (cec 21 0 .i2l xi0
  (cec 22 0 (.lconst 0) xi0
  (cec 23 0 (.ldc2_w 254) (0, 0, 3599, 0)
  (cec 26 0 (.invokestatic 246) (195, 3, 0, 0)
  (cec 29 0 (.ifCond .ne 7) xi0
  (cec 32 0 (.ldc2_w 513) (0, 0, (-1), 0)
  (cec 35 0 .lreturn xi0
  (cec 36 0 (.lconst 0) xi0
  (cec 37 0 (.lstore 4) xi0
  (cec 39 0 (.iconst 0) xi0
  (cec 40 0 (.istore 6) xi0
  (cec 42 191 (.iload 6) xi0
  (cec 44 0 (.aload_n 0) xi0
  (cec 45 0 (.getfield 441) (12, 52, 0, 0)
  (cec 48 0 (.if_icmp .ge 38) xi0
  (cec 51 0 (.lload 4) xi0
  (cec 53 0 (.aload_n 0) xi0
  (cec 54 0 (.iload 6) xi0
  (cec 56 0 (.iload_n 1) xi0
  (cec 57 0 (.iload_n 2) xi0
  (cec 58 0 (.iload_n 3) xi0
  (cec 59 0 (.invokevirtual 603) (310, 5, 0, 22)
  (cec 62 0 (.ifCond .eq 14) xi0
  (cec 65 0 (.aload_n 0) xi0
  (cec 66 0 (.getfield 127) (12, 57, 2, 0)
  (cec 69 0 (.iload 6) xi0
  (cec 71 0 .iaload xi0
  (cec 72 0 .i2l xi0
  (cec 73 0 (.goto 4) xi0
  (cec 76 0 (.lconst 0) xi0
  (cec 77 0 .ladd xi0
  (cec 78 0 (.lstore 4) xi0
  (cec 80 0 (.iinc 6 1) xi0
  (cec 83 0 (.goto (-41)) xi0
  (cec 86 0 (.iconst 0) xi0
  (cec 87 0 (.istore 6) xi0
  (cec 89 191 (.iload 6) xi0 cs_309_1)))))))))))))))))))))))))))))))))))))))))))))))
/-- SupplyBookModel.isMeant(IIII)Z -/
noncomputable def cs_310 : List CE := cec 0 0 (.aload_n 0) xi0
  (cec 1 0 (.iload_n 1) xi0
  (cec 2 0 (.iload_n 2) xi0
  (cec 3 0 (.invokevirtual 444) (248, 3, 0, 22)
  (cec 6 0 (.ifCond .eq 32) xi0
  (cec 9 0 (.aload_n 0) xi0
  (cec 10 0 (.getfield 139) (12, 61, 2, 0)
  (cec 13 0 (.iload_n 1) xi0
  (cec 14 0 .iaload xi0
  (cec 15 0 (.iload 4) xi0
  (cec 17 0 (.if_icmp .gt 21) xi0
  (cec 20 0 (.aload_n 0) xi0
  (cec 21 0 (.aload_n 0) xi0
  (cec 22 0 (.getfield 121) (12, 55, 2, 0)
  (cec 25 0 (.iload_n 1) xi0
  (cec 26 0 .iaload xi0
  (cec 27 0 (.iload_n 3) xi0
  (cec 28 0 (.invokevirtual 266) (199, 3, 0, 22)
  (cec 31 0 (.ifCond .eq 7) xi0
  (cec 34 0 (.iconst 1) xi0
  (cec 35 0 (.goto 4) xi0
  (cec 38 0 (.iconst 0) xi0
  (cec 39 0 .ireturn xi0 []))))))))))))))))))))))
noncomputable def cs_311_2 : List CE := cec 173 0 (.iinc 4 1) xi0
  (cec 176 0 (.iinc 5 1) xi0
  (cec 179 0 (.goto (-132)) xi0
  (cec 182 0 (.aload_n 0) xi0
  (cec 183 0 .dup xi0
  (cec 184 0 (.getfield 607) (12, 106, 0, 0)
  (cec 187 0 (.iconst 1) xi0
  (cec 188 0 .iadd xi0
  (cec 189 0 (.putfield 607) (12, 106, 0, 0)
  (cec 192 0 (.iload 4) xi0
  (cec 194 0 .ireturn xi0 []))))))))))
noncomputable def cs_311_1 : List CE := cec 85 0 (.getfield 97) (12, 45, 2, 0)
  (cec 88 0 (.iload 5) xi0
  (cec 90 0 .iaload xi0
  (cec 91 0 (.iconst (-1)) xi0
  (cec 92 0 (.if_icmp .eq 6) xi0
  (cec 95 0 (.goto 81) xi0
  (cec 98 0 (.aload_n 0) xi0
  (cec 99 0 (.iload 5) xi0
  (cec 101 0 (.iload_n 1) xi0
  (cec 102 0 (.invokevirtual 464) (246, 3, 1, 22)
  (cec 105 0 (.iload_n 2) xi0
  (cec 106 0 .i2l xi0
  (cec 107 0 .lmul xi0
  (cec 108 0 (.ldc2_w 472) (0, 0, 100, 0)
  (cec 111 0 .ldiv xi0
  (cec 112 0 (.lstore 6) xi0
  (cec 114 0 (.lload 6) xi0
  (cec 116 0 (.lconst 0) xi0
  (cec 117 0 .lcmp xi0
  (cec 118 0 (.ifCond .gt 6) xi0
  (cec 121 0 (.goto 55) xi0
  (cec 124 0 (.aload_n 0) xi0
  (cec 125 0 (.iconst 2) xi0
  (cec 126 0 (.aload_n 0) xi0
  (cec 127 0 (.getfield 88) (12, 42, 2, 0)
  (cec 130 0 (.iload 5) xi0
  (cec 132 0 .iaload xi0
  (cec 133 0 (.lload 6) xi0
  (cec 135 0 (.ldc2_w 244) (0, 0, 1000000000, 0)
  (cec 138 0 .lcmp xi0
  (cec 139 0 (.ifCond .ge 8) xi0
  (cec 142 0 (.lload 6) xi0
  (cec 144 0 (.goto 6) xi0
  (cec 147 0 (.ldc2_w 244) (0, 0, 1000000000, 0)
  (cec 150 127 .l2i xi0
  (cec 151 0 (.iload_n 1) xi0
  (cec 152 0 (.iconst 1) xi0
  (cec 153 0 .iadd xi0
  (cec 154 0 (.invokevirtual 429) (239, 5, 0, 22)
  (cec 157 0 (.istore 8) xi0
  (cec 159 0 (.aload_n 0) xi0
  (cec 160 0 (.bipush 20) xi0
  (cec 162 0 (.iload 5) xi0
  (cec 164 0 .iadd xi0
  (cec 165 0 (.bipush 20) xi0
  (cec 167 0 (.iload 8) xi0
  (cec 169 0 .iadd xi0
  (cec 170 0 (.invokevirtual 610) (312, 3, 9, 22) cs_311_2)))))))))))))))))))))))))))))))))))))))))))))))
/-- SupplyBookModel.close(I)I -/
noncomputable def cs_311 : List CE := cec 0 0 (.iload_n 1) xi0
  (cec 1 0 (.aload_n 0) xi0
  (cec 2 0 (.getfield 607) (12, 106, 0, 0)
  (cec 5 0 (.if_icmp .ne 11) xi0
  (cec 8 0 (.iload_n 1) xi0
  (cec 9 0 (.aload_n 0) xi0
  (cec 10 0 (.invokevirtual 436) (243, 1, 0, 22)
  (cec 13 0 (.if_icmp .lt 5) xi0
  (cec 16 0 (.iconst (-1)) xi0
  (cec 17 0 .ireturn xi0
  (cec 18 0 (.aload_n 0) xi0
  (cec 19 0 (.bipush 99) xi0
  (cec 21 0 (.sipush 360) xi0
  (cec 24 0 (.iload_n 1) xi0
  (cec 25 0 .imul xi0
  (cec 26 0 (.sipush 360) xi0
  (cec 29 0 .iadd xi0
  (cec 30 0 (.iconst 1) xi0
  (cec 31 0 .isub xi0
  (cec 32 0 (.invokevirtual 419) (236, 3, 0, 22)
  (cec 35 0 (.istore_n 2) xi0
  (cec 36 0 (.aload_n 0) xi0
  (cec 37 0 (.getfield 423) (12, 40, 0, 0)
  (cec 40 0 (.istore_n 3) xi0
  (cec 41 0 (.iconst 0) xi0
  (cec 42 0 (.istore 4) xi0
  (cec 44 0 (.iconst 0) xi0
  (cec 45 0 (.istore 5) xi0
  (cec 47 127 (.iload 5) xi0
  (cec 49 0 (.iload_n 3) xi0
  (cec 50 0 (.if_icmp .ge 132) xi0
  (cec 53 0 (.aload_n 0) xi0
  (cec 54 0 (.getfield 423) (12, 40, 0, 0)
  (cec 57 0 (.bipush 80) xi0
  (cec 59 0 (.if_icmp .ge 123) xi0
  (cec 62 0 (.aload_n 0) xi0
  (cec 63 0 (.getfield 85) (12, 41, 2, 0)
  (cec 66 0 (.iload 5) xi0
  (cec 68 0 .iaload xi0
  (cec 69 0 (.iconst 2) xi0
  (cec 70 0 (.if_icmp .ne 106) xi0
  (cec 73 0 (.aload_n 0) xi0
  (cec 74 0 (.getfield 94) (12, 44, 2, 0)
  (cec 77 0 (.iload 5) xi0
  (cec 79 0 .iaload xi0
  (cec 80 0 (.iload_n 1) xi0
  (cec 81 0 (.if_icmp .ne 95) xi0
  (cec 84 0 (.aload_n 0) xi0 cs_311_1)))))))))))))))))))))))))))))))))))))))))))))))
noncomputable def cs_312_2 : List CE := cec 137 0 (.istore_n 3) xi0
  (cec 138 31 (.iload_n 3) xi0
  (cec 139 0 (.sipush 200) xi0
  (cec 142 0 (.if_icmp .ge 57) xi0
  (cec 145 0 (.aload_n 0) xi0
  (cec 146 0 (.getfield 45) (12, 16, 2, 0)
  (cec 149 0 (.sipush 200) xi0
  (cec 152 0 (.iload_n 2) xi0
  (cec 153 0 .imul xi0
  (cec 154 0 (.iload_n 3) xi0
  (cec 155 0 .iadd xi0
  (cec 156 0 (.aload_n 0) xi0
  (cec 157 0 (.getfield 45) (12, 16, 2, 0)
  (cec 160 0 (.sipush 200) xi0
  (cec 163 0 (.iload_n 1) xi0
  (cec 164 0 .imul xi0
  (cec 165 0 (.iload_n 3) xi0
  (cec 166 0 .iadd xi0
  (cec 167 0 .iaload xi0
  (cec 168 0 .iastore xi0
  (cec 169 0 (.aload_n 0) xi0
  (cec 170 0 (.getfield 48) (12, 17, 2, 0)
  (cec 173 0 (.sipush 200) xi0
  (cec 176 0 (.iload_n 2) xi0
  (cec 177 0 .imul xi0
  (cec 178 0 (.iload_n 3) xi0
  (cec 179 0 .iadd xi0
  (cec 180 0 (.aload_n 0) xi0
  (cec 181 0 (.getfield 48) (12, 17, 2, 0)
  (cec 184 0 (.sipush 200) xi0
  (cec 187 0 (.iload_n 1) xi0
  (cec 188 0 .imul xi0
  (cec 189 0 (.iload_n 3) xi0
  (cec 190 0 .iadd xi0
  (cec 191 0 .iaload xi0
  (cec 192 0 .iastore xi0
  (cec 193 0 (.iinc 3 1) xi0
  (cec 196 0 (.goto (-58)) xi0
  (cec 199 0 .return_ xi0 []))))))))))))))))))))))))))))))))))))))
noncomputable def cs_312_1 : List CE := cec 70 0 (.iload_n 2) xi0
  (cec 71 0 .imul xi0
  (cec 72 0 (.iload_n 3) xi0
  (cec 73 0 .iadd xi0
  (cec 74 0 (.aload_n 0) xi0
  (cec 75 0 (.getfield 36) (12, 13, 2, 0)
  (cec 78 0 (.bipush 16) xi0
  (cec 80 0 (.iload_n 1) xi0
  (cec 81 0 .imul xi0
  (cec 82 0 (.iload_n 3) xi0
  (cec 83 0 .iadd xi0
  (cec 84 0 .iaload xi0
  (cec 85 0 .iastore xi0
  (cec 86 0 (.aload_n 0) xi0
  (cec 87 0 (.getfield 39) (12, 14, 2, 0)
  (cec 90 0 (.bipush 16) xi0
  (cec 92 0 (.iload_n 2) xi0
  (cec 93 0 .imul xi0
  (cec 94 0 (.iload_n 3) xi0
  (cec 95 0 .iadd xi0
  (cec 96 0 (.aload_n 0) xi0
  (cec 97 0 (.getfield 39) (12, 14, 2, 0)
  (cec 100 0 (.bipush 16) xi0
  (cec 102 0 (.iload_n 1) xi0
  (cec 103 0 .imul xi0
  (cec 104 0 (.iload_n 3) xi0
  (cec 105 0 .iadd xi0
  (cec 106 0 .iaload xi0
  (cec 107 0 .iastore xi0
  (cec 108 0 (.aload_n 0) xi0
  (cec 109 0 (.getfield 42) (12, 15, 2, 0)
  (cec 112 0 (.bipush 16) xi0
  (cec 114 0 (.iload_n 2) xi0
  (cec 115 0 .imul xi0
  (cec 116 0 (.iload_n 3) xi0
  (cec 117 0 .iadd xi0
  (cec 118 0 (.aload_n 0) xi0
  (cec 119 0 (.getfield 42) (12, 15, 2, 0)
  (cec 122 0 (.bipush 16) xi0
  (cec 124 0 (.iload_n 1) xi0
  (cec 125 0 .imul xi0
  (cec 126 0 (.iload_n 3) xi0
  (cec 127 0 .iadd xi0
  (cec 128 0 .iaload xi0
  (cec 129 0 .iastore xi0
  (cec 130 0 (.iinc 3 1) xi0
  (cec 133 0 (.goto (-119)) xi0
  (cec 136 0 (.iconst 0) xi0 cs_312_2)))))))))))))))))))))))))))))))))))))))))))))))
/-- SupplyBookModel.copiesText(II)V -/
noncomputable def cs_312 : List CE := cec 0 0 (.aload_n 0) xi0
  (cec 1 0 (.getfield 27) (12, 10, 2, 0)
  (cec 4 0 (.iload_n 2) xi0
  (cec 5 0 (.aload_n 0) xi0
  (cec 6 0 (.getfield 27) (12, 10, 2, 0)
  (cec 9 0 (.iload_n 1) xi0
  (cec 10 0 .iaload xi0
  (cec 11 0 .iastore xi0
  (cec 12 0 (.iconst 0) xi0
  (cec 13 0 (.istore_n 3) xi0
  (cec 14 31 (.iload_n 3) xi0
  (cec 15 0 (.bipush 16) xi0
  (cec 17 0 (.if_icmp .ge 119) xi0
  (cec 20 0 (.aload_n 0) xi0
  (cec 21 0 (.getfield 30) (12, 11, 2, 0)
  (cec 24 0 (.bipush 16) xi0
  (cec 26 0 (.iload_n 2) xi0
  (cec 27 0 .imul xi0
  (cec 28 0 (.iload_n 3) xi0
  (cec 29 0 .iadd xi0
  (cec 30 0 (.aload_n 0) xi0
  (cec 31 0 (.getfield 30) (12, 11, 2, 0)
  (cec 34 0 (.bipush 16) xi0
  (cec 36 0 (.iload_n 1) xi0
  (cec 37 0 .imul xi0
  (cec 38 0 (.iload_n 3) xi0
  (cec 39 0 .iadd xi0
  (cec 40 0 .iaload xi0
  (cec 41 0 .iastore xi0
  (cec 42 0 (.aload_n 0) xi0
  (cec 43 0 (.getfield 33) (12, 12, 2, 0)
  (cec 46 0 (.bipush 16) xi0
  (cec 48 0 (.iload_n 2) xi0
  (cec 49 0 .imul xi0
  (cec 50 0 (.iload_n 3) xi0
  (cec 51 0 .iadd xi0
  (cec 52 0 (.aload_n 0) xi0
  (cec 53 0 (.getfield 33) (12, 12, 2, 0)
  (cec 56 0 (.bipush 16) xi0
  (cec 58 0 (.iload_n 1) xi0
  (cec 59 0 .imul xi0
  (cec 60 0 (.iload_n 3) xi0
  (cec 61 0 .iadd xi0
  (cec 62 0 .iaload xi0
  (cec 63 0 .iastore xi0
  (cec 64 0 (.aload_n 0) xi0
  (cec 65 0 (.getfield 36) (12, 13, 2, 0)
  (cec 68 0 (.bipush 16) xi0 cs_312_1)))))))))))))))))))))))))))))))))))))))))))))))
noncomputable def cs_313_1 : List CE := cec 77 0 .iadd xi0
  (cec 78 0 (.invokevirtual 616) (315, 2, 0, 22)
  (cec 81 0 (.aload_n 0) xi0
  (cec 82 0 (.getfield 142) (12, 62, 2, 0)
  (cec 85 0 (.iload 4) xi0
  (cec 87 0 .iaload xi0
  (cec 88 0 (.if_icmp .eq 9) xi0
  (cec 91 0 (.iconst 3) xi0
  (cec 92 0 (.iload_n 3) xi0
  (cec 93 0 .imul xi0
  (cec 94 0 (.iconst 1) xi0
  (cec 95 0 .iadd xi0
  (cec 96 0 .ireturn xi0
  (cec 97 0 (.aload_n 0) xi0
  (cec 98 0 (.iconst 3) xi0
  (cec 99 0 (.iload_n 3) xi0
  (cec 100 0 .imul xi0
  (cec 101 0 (.iconst 2) xi0
  (cec 102 0 .iadd xi0
  (cec 103 0 (.invokevirtual 616) (315, 2, 0, 22)
  (cec 106 0 (.aload_n 0) xi0
  (cec 107 0 (.getfield 139) (12, 61, 2, 0)
  (cec 110 0 (.iload 4) xi0
  (cec 112 0 .iaload xi0
  (cec 113 0 (.if_icmp .eq 9) xi0
  (cec 116 0 (.iconst 3) xi0
  (cec 117 0 (.iload_n 3) xi0
  (cec 118 0 .imul xi0
  (cec 119 0 (.iconst 2) xi0
  (cec 120 0 .iadd xi0
  (cec 121 0 .ireturn xi0
  (cec 122 0 (.iinc 3 1) xi0
  (cec 125 0 (.goto (-88)) xi0
  (cec 128 0 (.aload_n 0) xi0
  (cec 129 0 (.iload_n 1) xi0
  (cec 130 0 (.iload_n 2) xi0
  (cec 131 0 (.invokevirtual 613) (314, 3, 0, 22)
  (cec 134 0 (.iconst (-1)) xi0
  (cec 135 0 (.if_icmp .ne 7) xi0
  (cec 138 0 (.iconst (-1)) xi0
  (cec 139 0 (.goto 6) xi0
  (cec 142 0 (.iconst 3) xi0
  (cec 143 0 (.iload_n 2) xi0
  (cec 144 0 .imul xi0
  (cec 145 0 .ireturn xi0 []))))))))))))))))))))))))))))))))))))))))))))
/-- SupplyBookModel.check(II)I -/
noncomputable def cs_313 : List CE := cec 0 0 (.iload_n 1) xi0
  (cec 1 0 .i2l xi0
  (cec 2 0 (.lconst 0) xi0
  (cec 3 0 (.ldc2_w 270) (0, 0, 9, 0)
  (cec 6 0 (.invokestatic 246) (195, 3, 0, 0)
  (cec 9 0 (.ifCond .eq 18) xi0
  (cec 12 0 (.iload_n 2) xi0
  (cec 13 0 (.ifCond .lt 14) xi0
  (cec 16 0 (.iload_n 2) xi0
  (cec 17 0 (.aload_n 0) xi0
  (cec 18 0 (.getfield 272) (12, 1, 0, 0)
  (cec 21 0 (.bipush 12) xi0
  (cec 23 0 .idiv xi0
  (cec 24 0 (.if_icmp .le 6) xi0
  (cec 27 0 (.bipush (-2)) xi0
  (cec 29 0 .ireturn xi0
  (cec 30 0 (.aload_n 0) xi0
  (cec 31 0 (.iconst 0) xi0
  (cec 32 0 (.putfield 272) (12, 1, 0, 0)
  (cec 35 0 (.iconst 0) xi0
  (cec 36 0 (.istore_n 3) xi0
  (cec 37 31 (.iload_n 3) xi0
  (cec 38 0 (.iload_n 2) xi0
  (cec 39 0 (.if_icmp .ge 89) xi0
  (cec 42 0 (.aload_n 0) xi0
  (cec 43 0 (.iload_n 1) xi0
  (cec 44 0 (.iload_n 3) xi0
  (cec 45 0 (.invokevirtual 613) (314, 3, 0, 22)
  (cec 48 0 (.istore 4) xi0
  (cec 50 0 (.iload 4) xi0
  (cec 52 0 (.iconst (-1)) xi0
  (cec 53 0 (.if_icmp .eq 15) xi0
  (cec 56 0 (.aload_n 0) xi0
  (cec 57 0 (.iconst 3) xi0
  (cec 58 0 (.iload_n 3) xi0
  (cec 59 0 .imul xi0
  (cec 60 0 (.invokevirtual 616) (315, 2, 0, 22)
  (cec 63 0 (.iload 4) xi0
  (cec 65 0 (.if_icmp .eq 7) xi0
  (cec 68 0 (.iconst 3) xi0
  (cec 69 0 (.iload_n 3) xi0
  (cec 70 0 .imul xi0
  (cec 71 0 .ireturn xi0
  (cec 72 0 (.aload_n 0) xi0
  (cec 73 0 (.iconst 3) xi0
  (cec 74 0 (.iload_n 3) xi0
  (cec 75 0 .imul xi0
  (cec 76 0 (.iconst 1) xi0 cs_313_1)))))))))))))))))))))))))))))))))))))))))))))))
noncomputable def cs_314_1 : List CE := cec 90 0 (.goto (-88)) xi0
  (cec 93 0 (.iconst (-1)) xi0
  (cec 94 0 .ireturn xi0 []))
/-- SupplyBookModel.paidAfter(II)I -/
noncomputable def cs_314 : List CE := cec 0 0 (.iconst 0) xi0
  (cec 1 0 (.istore_n 3) xi0
  (cec 2 31 (.iload_n 3) xi0
  (cec 3 0 (.aload_n 0) xi0
  (cec 4 0 (.getfield 441) (12, 52, 0, 0)
  (cec 7 0 (.if_icmp .ge 86) xi0
  (cec 10 0 (.aload_n 0) xi0
  (cec 11 0 (.iload_n 3) xi0
  (cec 12 0 (.iload_n 1) xi0
  (cec 13 0 (.invokevirtual 444) (248, 3, 0, 22)
  (cec 16 0 (.ifCond .ne 6) xi0
  (cec 19 0 (.goto 68) xi0
  (cec 22 0 (.iconst 0) xi0
  (cec 23 0 (.istore 4) xi0
  (cec 25 0 (.iconst 0) xi0
  (cec 26 0 (.istore 5) xi0
  (cec 28 127 (.iload 5) xi0
  (cec 30 0 (.aload_n 0) xi0
  (cec 31 0 (.getfield 441) (12, 52, 0, 0)
  (cec 34 0 (.if_icmp .ge 45) xi0
  (cec 37 0 (.iload 4) xi0
  (cec 39 0 (.aload_n 0) xi0
  (cec 40 0 (.iload 5) xi0
  (cec 42 0 (.iload_n 1) xi0
  (cec 43 0 (.invokevirtual 444) (248, 3, 0, 22)
  (cec 46 0 (.ifCond .eq 23) xi0
  (cec 49 0 (.aload_n 0) xi0
  (cec 50 0 (.getfield 145) (12, 63, 2, 0)
  (cec 53 0 (.iload 5) xi0
  (cec 55 0 .iaload xi0
  (cec 56 0 (.aload_n 0) xi0
  (cec 57 0 (.getfield 145) (12, 63, 2, 0)
  (cec 60 0 (.iload_n 3) xi0
  (cec 61 0 .iaload xi0
  (cec 62 0 (.if_icmp .ge 7) xi0
  (cec 65 0 (.iconst 1) xi0
  (cec 66 0 (.goto 4) xi0
  (cec 69 0 (.iconst 0) xi0
  (cec 70 0 .iadd xi0
  (cec 71 0 (.istore 4) xi0
  (cec 73 0 (.iinc 5 1) xi0
  (cec 76 0 (.goto (-48)) xi0
  (cec 79 0 (.iload 4) xi0
  (cec 81 0 (.iload_n 2) xi0
  (cec 82 0 (.if_icmp .ne 5) xi0
  (cec 85 0 (.iload_n 3) xi0
  (cec 86 0 .ireturn xi0
  (cec 87 0 (.iinc 3 1) xi0 cs_314_1)))))))))))))))))))))))))))))))))))))))))))))))
/-- SupplyBookModel.numberAt(I)I -/
noncomputable def cs_315 : List CE := cec 0 0 (.iconst 0) xi0
  (cec 1 0 (.istore_n 2) xi0
  (cec 2 0 (.iconst 0) xi0
  (cec 3 0 (.istore_n 3) xi0
  (cec 4 31 (.iload_n 3) xi0
  (cec 5 0 (.iconst 4) xi0
  (cec 6 0 (.if_icmp .ge 29) xi0
  (cec 9 0 (.iload_n 2) xi0
  (cec 10 0 (.bipush 8) xi0
  (cec 12 0 .ishl xi0
  (cec 13 0 (.aload_n 0) xi0
  (cec 14 0 (.getfield 7) (12, 0, 2, 0)
  (cec 17 0 (.iconst 4) xi0
  (cec 18 0 (.iload_n 1) xi0
  (cec 19 0 .imul xi0
  (cec 20 0 (.iload_n 3) xi0
  (cec 21 0 .iadd xi0
  (cec 22 0 .baload xi0
  (cec 23 0 (.sipush 255) xi0
  (cec 26 0 .iand xi0
  (cec 27 0 .ior xi0
  (cec 28 0 (.istore_n 2) xi0
  (cec 29 0 (.iinc 3 1) xi0
  (cec 32 0 (.goto (-28)) xi0
  (cec 35 0 (.iload_n 2) xi0
  (cec 36 0 .ireturn xi0 [])))))))))))))))))))))))))
noncomputable def cs_316_1 : List CE := cec 122 0 (.getfield 139) (12, 61, 2, 0)
  (cec 125 0 (.iload_n 1) xi0
  (cec 126 0 .iaload xi0
  (cec 127 0 .ireturn xi0
  (cec 128 0 (.aload_n 0) xi0
  (cec 129 0 (.iload_n 1) xi0
  (cec 130 0 (.invokevirtual 447) (249, 2, 0, 22)
  (cec 133 0 .ireturn xi0
  (cec 134 0 (.aload_n 0) xi0
  (cec 135 0 (.getfield 148) (12, 64, 2, 0)
  (cec 138 0 (.iload_n 1) xi0
  (cec 139 0 .iaload xi0
  (cec 140 0 .ireturn xi0
  (cec 141 0 (.iconst (-1)) xi0
  (cec 142 0 .ireturn xi0 []))))))))))))))
/-- SupplyBookModel.look(II)I -/
noncomputable def cs_316 : List CE := cec 0 0 (.aload_n 0) xi0
  (cec 1 0 (.iload_n 1) xi0
  (cec 2 0 (.invokevirtual 515) (259, 2, 0, 22)
  (cec 5 0 (.ifCond .ne 5) xi0
  (cec 8 0 (.iconst (-1)) xi0
  (cec 9 0 .ireturn xi0
  (cec 10 0 (.iload_n 2) xi0
  (cec 11 0 (.tableswitch 130 0 9 #[53, 60, 67, 74, 81, 88, 103, 110, 117, 123]) xi0
  (cec 64 0 (.aload_n 0) xi0
  (cec 65 0 (.getfield 118) (12, 54, 2, 0)
  (cec 68 0 (.iload_n 1) xi0
  (cec 69 0 .iaload xi0
  (cec 70 0 .ireturn xi0
  (cec 71 0 (.aload_n 0) xi0
  (cec 72 0 (.getfield 121) (12, 55, 2, 0)
  (cec 75 0 (.iload_n 1) xi0
  (cec 76 0 .iaload xi0
  (cec 77 0 .ireturn xi0
  (cec 78 0 (.aload_n 0) xi0
  (cec 79 0 (.getfield 124) (12, 56, 2, 0)
  (cec 82 0 (.iload_n 1) xi0
  (cec 83 0 .iaload xi0
  (cec 84 0 .ireturn xi0
  (cec 85 0 (.aload_n 0) xi0
  (cec 86 0 (.getfield 127) (12, 57, 2, 0)
  (cec 89 0 (.iload_n 1) xi0
  (cec 90 0 .iaload xi0
  (cec 91 0 .ireturn xi0
  (cec 92 0 (.aload_n 0) xi0
  (cec 93 0 (.getfield 130) (12, 58, 2, 0)
  (cec 96 0 (.iload_n 1) xi0
  (cec 97 0 .iaload xi0
  (cec 98 0 .ireturn xi0
  (cec 99 0 (.aload_n 0) xi0
  (cec 100 0 (.getfield 133) (12, 59, 2, 0)
  (cec 103 0 (.iload_n 1) xi0
  (cec 104 0 .baload xi0
  (cec 105 0 (.ifCond .eq 7) xi0
  (cec 108 0 (.iconst 1) xi0
  (cec 109 0 (.goto 4) xi0
  (cec 112 0 (.iconst 0) xi0
  (cec 113 0 .ireturn xi0
  (cec 114 0 (.aload_n 0) xi0
  (cec 115 0 (.getfield 136) (12, 60, 2, 0)
  (cec 118 0 (.iload_n 1) xi0
  (cec 119 0 .iaload xi0
  (cec 120 0 .ireturn xi0
  (cec 121 0 (.aload_n 0) xi0 cs_316_1)))))))))))))))))))))))))))))))))))))))))))))))
noncomputable def cs_317_1 : List CE := cec 113 0 .iaload xi0
  (cec 114 0 .ireturn xi0
  (cec 115 0 (.iconst (-1)) xi0
  (cec 116 0 .ireturn xi0 [])))
/-- SupplyBookModel.about(II)I -/
noncomputable def cs_317 : List CE := cec 0 0 (.aload_n 0) xi0
  (cec 1 0 (.iload_n 1) xi0
  (cec 2 0 (.invokevirtual 433) (241, 2, 0, 22)
  (cec 5 0 (.ifCond .ne 5) xi0
  (cec 8 0 (.iconst (-1)) xi0
  (cec 9 0 .ireturn xi0
  (cec 10 0 (.iload_n 2) xi0
  (cec 11 0 (.tableswitch 104 0 7 #[45, 52, 59, 66, 73, 83, 90, 97]) xi0
  (cec 56 0 (.aload_n 0) xi0
  (cec 57 0 (.getfield 85) (12, 41, 2, 0)
  (cec 60 0 (.iload_n 1) xi0
  (cec 61 0 .iaload xi0
  (cec 62 0 .ireturn xi0
  (cec 63 0 (.aload_n 0) xi0
  (cec 64 0 (.getfield 88) (12, 42, 2, 0)
  (cec 67 0 (.iload_n 1) xi0
  (cec 68 0 .iaload xi0
  (cec 69 0 .ireturn xi0
  (cec 70 0 (.aload_n 0) xi0
  (cec 71 0 (.getfield 91) (12, 43, 2, 0)
  (cec 74 0 (.iload_n 1) xi0
  (cec 75 0 .iaload xi0
  (cec 76 0 .ireturn xi0
  (cec 77 0 (.aload_n 0) xi0
  (cec 78 0 (.getfield 94) (12, 44, 2, 0)
  (cec 81 0 (.iload_n 1) xi0
  (cec 82 0 .iaload xi0
  (cec 83 0 .ireturn xi0
  (cec 84 0 (.aload_n 0) xi0
  (cec 85 0 (.getfield 27) (12, 10, 2, 0)
  (cec 88 0 (.bipush 20) xi0
  (cec 90 0 (.iload_n 1) xi0
  (cec 91 0 .iadd xi0
  (cec 92 0 .iaload xi0
  (cec 93 0 .ireturn xi0
  (cec 94 0 (.aload_n 0) xi0
  (cec 95 0 (.getfield 97) (12, 45, 2, 0)
  (cec 98 0 (.iload_n 1) xi0
  (cec 99 0 .iaload xi0
  (cec 100 0 .ireturn xi0
  (cec 101 0 (.aload_n 0) xi0
  (cec 102 0 (.getfield 100) (12, 46, 2, 0)
  (cec 105 0 (.iload_n 1) xi0
  (cec 106 0 .iaload xi0
  (cec 107 0 .ireturn xi0
  (cec 108 0 (.aload_n 0) xi0
  (cec 109 0 (.getfield 106) (12, 48, 2, 0)
  (cec 112 0 (.iload_n 1) xi0 cs_317_1)))))))))))))))))))))))))))))))))))))))))))))))
/-- SupplyBookModel.count(I)I -/
noncomputable def cs_318 : List CE := cec 0 0 (.iload_n 1) xi0
  (cec 1 0 (.tableswitch 141 0 13 #[71, 76, 81, 86, 91, 96, 101, 106, 111, 116, 121, 126, 131, 136]) xi0
  (cec 72 0 (.aload_n 0) xi0
  (cec 73 0 (.getfield 250) (12, 2, 0, 0)
  (cec 76 0 .ireturn xi0
  (cec 77 0 (.aload_n 0) xi0
  (cec 78 0 (.getfield 256) (12, 4, 0, 0)
  (cec 81 0 .ireturn xi0
  (cec 82 0 (.aload_n 0) xi0
  (cec 83 0 (.getfield 259) (12, 5, 0, 0)
  (cec 86 0 .ireturn xi0
  (cec 87 0 (.aload_n 0) xi0
  (cec 88 0 (.getfield 397) (12, 36, 0, 0)
  (cec 91 0 .ireturn xi0
  (cec 92 0 (.aload_n 0) xi0
  (cec 93 0 (.getfield 423) (12, 40, 0, 0)
  (cec 96 0 .ireturn xi0
  (cec 97 0 (.aload_n 0) xi0
  (cec 98 0 (.getfield 454) (12, 70, 0, 0)
  (cec 101 0 .ireturn xi0
  (cec 102 0 (.aload_n 0) xi0
  (cec 103 0 (.getfield 441) (12, 52, 0, 0)
  (cec 106 0 .ireturn xi0
  (cec 107 0 (.aload_n 0) xi0
  (cec 108 0 (.getfield 524) (12, 53, 0, 0)
  (cec 111 0 .ireturn xi0
  (cec 112 0 (.aload_n 0) xi0
  (cec 113 0 (.getfield 527) (12, 79, 0, 0)
  (cec 116 0 .ireturn xi0
  (cec 117 0 (.aload_n 0) xi0
  (cec 118 0 (.getfield 562) (12, 87, 0, 0)
  (cec 121 0 .ireturn xi0
  (cec 122 0 (.aload_n 0) xi0
  (cec 123 0 (.getfield 574) (12, 92, 0, 0)
  (cec 126 0 .ireturn xi0
  (cec 127 0 (.aload_n 0) xi0
  (cec 128 0 (.getfield 579) (12, 93, 0, 0)
  (cec 131 0 .ireturn xi0
  (cec 132 0 (.aload_n 0) xi0
  (cec 133 0 (.getfield 272) (12, 1, 0, 0)
  (cec 136 0 .ireturn xi0
  (cec 137 0 (.aload_n 0) xi0
  (cec 138 0 (.getfield 607) (12, 106, 0, 0)
  (cec 141 0 .ireturn xi0
  (cec 142 0 (.iconst (-1)) xi0
  (cec 143 0 .ireturn xi0 [])))))))))))))))))))))))))))))))))))))))))))))
noncomputable def cs_319_1 : List CE := cec 117 0 (.aload_n 0) xi0
  (cec 118 0 (.getfield 196) (12, 84, 2, 0)
  (cec 121 0 (.bipush 52) xi0
  (cec 123 0 (.aload_n 0) xi0
  (cec 124 0 (.invokevirtual 436) (243, 1, 0, 22)
  (cec 127 0 .imul xi0
  (cec 128 0 (.iload 4) xi0
  (cec 130 0 .iadd xi0
  (cec 131 0 .laload xi0
  (cec 132 0 .ladd xi0
  (cec 133 0 (.lstore_n 2) xi0
  (cec 134 0 (.iinc 4 1) xi0
  (cec 137 0 (.goto (-28)) xi0
  (cec 140 0 (.lload_n 2) xi0
  (cec 141 0 .lreturn xi0
  (cec 142 0 (.ldc2_w 513) (0, 0, (-1), 0)
  (cec 145 0 .lreturn xi0 []))))))))))))))))
/-- SupplyBookModel.sum(I)J -/
noncomputable def cs_319 : List CE := cec 0 0 (.lconst 0) xi0
  (cec 1 0 (.lstore_n 2) xi0
  (cec 2 0 (.iload_n 1) xi0
  (cec 3 0 (.tableswitch 139 0 5 #[37, 42, 47, 93, 98, 103]) xi0
  (cec 40 0 (.aload_n 0) xi0
  (cec 41 0 (.getfield 521) (12, 3, 1, 0)
  (cec 44 0 .lreturn xi0
  (cec 45 0 (.aload_n 0) xi0
  (cec 46 0 (.getfield 552) (12, 85, 1, 0)
  (cec 49 0 .lreturn xi0
  (cec 50 0 (.iconst 0) xi0
  (cec 51 0 (.istore 4) xi0
  (cec 53 43 (.iload 4) xi0
  (cec 55 0 (.aload_n 0) xi0
  (cec 56 0 (.getfield 441) (12, 52, 0, 0)
  (cec 59 0 (.if_icmp .ge 35) xi0
  (cec 62 0 (.lload_n 2) xi0
  (cec 63 0 (.aload_n 0) xi0
  (cec 64 0 (.getfield 139) (12, 61, 2, 0)
  (cec 67 0 (.iload 4) xi0
  (cec 69 0 .iaload xi0
  (cec 70 0 (.iconst (-1)) xi0
  (cec 71 0 (.if_icmp .eq 14) xi0
  (cec 74 0 (.aload_n 0) xi0
  (cec 75 0 (.getfield 127) (12, 57, 2, 0)
  (cec 78 0 (.iload 4) xi0
  (cec 80 0 .iaload xi0
  (cec 81 0 .i2l xi0
  (cec 82 0 (.goto 4) xi0
  (cec 85 0 (.lconst 0) xi0
  (cec 86 0 .ladd xi0
  (cec 87 0 (.lstore_n 2) xi0
  (cec 88 0 (.iinc 4 1) xi0
  (cec 91 0 (.goto (-38)) xi0
  (cec 94 0 (.lload_n 2) xi0
  (cec 95 0 .lreturn xi0
  (cec 96 0 (.aload_n 0) xi0
  (cec 97 0 (.invokevirtual 585) (295, 1, 1, 22)
  (cec 100 0 .lreturn xi0
  (cec 101 0 (.aload_n 0) xi0
  (cec 102 0 (.getfield 594) (12, 86, 1, 0)
  (cec 105 0 .lreturn xi0
  (cec 106 0 (.iconst 0) xi0
  (cec 107 0 (.istore 4) xi0
  (cec 109 43 (.iload 4) xi0
  (cec 111 0 (.bipush 52) xi0
  (cec 113 0 (.if_icmp .ge 27) xi0
  (cec 116 0 (.lload_n 2) xi0 cs_319_1)))))))))))))))))))))))))))))))))))))))))))))))
/-- java/lang/Integer.bitCount(I)I -/
noncomputable def cs_320 : List CE := cec 0 0 (.iload_n 0) xi0
  (cec 1 0 (.iload_n 0) xi0
  (cec 2 0 (.iconst 1) xi0
  (cec 3 0 .iushr xi0
  (cec 4 0 (.ldc_w 265) (0, 0, 1431655765, 0)
  (cec 7 0 .iand xi0
  (cec 8 0 .isub xi0
  (cec 9 0 (.istore_n 0) xi0
  (cec 10 0 (.iload_n 0) xi0
  (cec 11 0 (.ldc_w 266) (0, 0, 858993459, 0)
  (cec 14 0 .iand xi0
  (cec 15 0 (.iload_n 0) xi0
  (cec 16 0 (.iconst 2) xi0
  (cec 17 0 .iushr xi0
  (cec 18 0 (.ldc_w 266) (0, 0, 858993459, 0)
  (cec 21 0 .iand xi0
  (cec 22 0 .iadd xi0
  (cec 23 0 (.istore_n 0) xi0
  (cec 24 0 (.iload_n 0) xi0
  (cec 25 0 (.iload_n 0) xi0
  (cec 26 0 (.iconst 4) xi0
  (cec 27 0 .iushr xi0
  (cec 28 0 .iadd xi0
  (cec 29 0 (.ldc_w 267) (0, 0, 252645135, 0)
  (cec 32 0 .iand xi0
  (cec 33 0 (.istore_n 0) xi0
  (cec 34 0 (.iload_n 0) xi0
  (cec 35 0 (.iload_n 0) xi0
  (cec 36 0 (.bipush 8) xi0
  (cec 38 0 .iushr xi0
  (cec 39 0 .iadd xi0
  (cec 40 0 (.istore_n 0) xi0
  (cec 41 0 (.iload_n 0) xi0
  (cec 42 0 (.iload_n 0) xi0
  (cec 43 0 (.bipush 16) xi0
  (cec 45 0 .iushr xi0
  (cec 46 0 .iadd xi0
  (cec 47 0 (.istore_n 0) xi0
  (cec 48 0 (.iload_n 0) xi0
  (cec 49 0 (.bipush 63) xi0
  (cec 51 0 .iand xi0
  (cec 52 0 .ireturn xi0 [])))))))))))))))))))))))))))))))))))))))))
/-- java/lang/String.length()I -/
noncomputable def cs_321 : List CE := cec 0 0 (.aload_n 0) xi0
  (cec 1 0 (.getfield 9) (13, 0, 2, 0)
  (cec 4 0 .arraylength xi0
  (cec 5 0 (.aload_n 0) xi0
  (cec 6 0 (.invokevirtual 335) (322, 1, 0, 23)
  (cec 9 0 .ishr xi0
  (cec 10 0 .ireturn xi0 []))))))
/-- java/lang/String.coder()B -/
noncomputable def cs_322 : List CE := cec 0 0 (.getstatic 38) (0, 0, 1, 0)
  (cec 3 0 (.ifCond .eq 10) xi0
  (cec 6 0 (.aload_n 0) xi0
  (cec 7 0 (.getfield 15) (13, 1, 3, 0)
  (cec 10 0 (.goto 4) xi0
  (cec 13 0 (.iconst 1) xi0
  (cec 14 0 .ireturn xi0 []))))))
/-- java/lang/String.indexOf(I)I -/
noncomputable def cs_323 : List CE := cec 0 0 (.aload_n 0) xi0
  (cec 1 0 (.iload_n 1) xi0
  (cec 2 0 (.iconst 0) xi0
  (cec 3 0 (.invokevirtual 633) (324, 3, 0, 23)
  (cec 6 0 .ireturn xi0 []))))
/-- java/lang/String.indexOf(II)I -/
noncomputable def cs_324 : List CE := cec 0 0 (.aload_n 0) xi0
  (cec 1 0 (.invokevirtual 492) (325, 1, 0, 23)
  (cec 4 0 (.ifCond .eq 19) xi0
  (cec 7 0 (.aload_n 0) xi0
  (cec 8 0 (.getfield 9) (13, 0, 2, 0)
  (cec 11 0 (.iload_n 1) xi0
  (cec 12 0 (.iload_n 2) xi0
  (cec 13 0 (.aload_n 0) xi0
  (cec 14 0 (.invokevirtual 505) (321, 1, 0, 23)
  (cec 17 0 (.invokestatic 637) (327, 4, 0, 0)
  (cec 20 0 (.goto 16) xi0
  (cec 23 0 (.aload_n 0) xi0
  (cec 24 0 (.getfield 9) (13, 0, 2, 0)
  (cec 27 0 (.iload_n 1) xi0
  (cec 28 0 (.iload_n 2) xi0
  (cec 29 0 (.aload_n 0) xi0
  (cec 30 0 (.invokevirtual 505) (321, 1, 0, 23)
  (cec 33 0 (.invokestatic 640) (9000, 4, 0, 0)
  (cec 36 0 .ireturn xi0 []))))))))))))))))))
/-- java/lang/String.isLatin1()Z -/
noncomputable def cs_325 : List CE := cec 0 0 (.getstatic 38) (0, 0, 1, 0)
  (cec 3 0 (.ifCond .eq 14) xi0
  (cec 6 0 (.aload_n 0) xi0
  (cec 7 0 (.getfield 15) (13, 1, 3, 0)
  (cec 10 0 (.ifCond .ne 7) xi0
  (cec 13 0 (.iconst 1) xi0
  (cec 14 0 (.goto 4) xi0
  (cec 17 0 (.iconst 0) xi0
  (cec 18 0 .ireturn xi0 []))))))))
/-- java/lang/String.charAt(I)C -/
noncomputable def cs_326 : List CE := cec 0 0 (.aload_n 0) xi0
  (cec 1 0 (.invokevirtual 492) (325, 1, 0, 23)
  (cec 4 0 (.ifCond .eq 12) xi0
  (cec 7 0 (.aload_n 0) xi0
  (cec 8 0 (.getfield 9) (13, 0, 2, 0)
  (cec 11 0 (.iload_n 1) xi0
  (cec 12 0 (.invokestatic 495) (330, 2, 0, 0)
  (cec 15 0 .ireturn xi0
  (cec 16 0 (.aload_n 0) xi0
  (cec 17 0 (.getfield 9) (13, 0, 2, 0)
  (cec 20 0 (.iload_n 1) xi0
  (cec 21 0 (.invokestatic 498) (9000, 2, 0, 0)
  (cec 24 0 .ireturn xi0 []))))))))))))
/-- java/lang/StringLatin1.indexOf([BIII)I -/
noncomputable def cs_327 : List CE := cec 0 0 (.iload_n 1) xi0
  (cec 1 0 (.invokestatic 88) (328, 1, 0, 0)
  (cec 4 0 (.ifCond .ne 5) xi0
  (cec 7 0 (.iconst (-1)) xi0
  (cec 8 0 .ireturn xi0
  (cec 9 0 (.iload_n 2) xi0
  (cec 10 0 (.iconst 0) xi0
  (cec 11 0 (.invokestatic 92) (9990, 2, 0, 0)
  (cec 14 0 (.istore_n 2) xi0
  (cec 15 0 (.iload_n 3) xi0
  (cec 16 0 (.aload_n 0) xi0
  (cec 17 0 .arraylength xi0
  (cec 18 0 (.invokestatic 38) (9991, 2, 0, 0)
  (cec 21 0 (.istore_n 3) xi0
  (cec 22 0 (.iload_n 2) xi0
  (cec 23 0 (.iload_n 3) xi0
  (cec 24 0 (.if_icmp .lt 5) xi0
  (cec 27 0 (.iconst (-1)) xi0
  (cec 28 0 .ireturn xi0
  (cec 29 0 (.aload_n 0) xi0
  (cec 30 0 (.iload_n 1) xi0
  (cec 31 0 (.iload_n 2) xi0
  (cec 32 0 (.iload_n 3) xi0
  (cec 33 0 (.invokestatic 95) (329, 4, 0, 0)
  (cec 36 0 .ireturn xi0 []))))))))))))))))))))))))
/-- java/lang/StringLatin1.canEncode(I)Z -/
noncomputable def cs_328 : List CE := cec 0 0 (.iload_n 0) xi0
  (cec 1 0 (.ifCond .lt 14) xi0
  (cec 4 0 (.iload_n 0) xi0
  (cec 5 0 (.sipush 255) xi0
  (cec 8 0 (.if_icmp .gt 7) xi0
  (cec 11 0 (.iconst 1) xi0
  (cec 12 0 (.goto 4) xi0
  (cec 15 0 (.iconst 0) xi0
  (cec 16 0 .ireturn xi0 []))))))))
/-- java/lang/StringLatin1.indexOfChar([BIII)I -/
noncomputable def cs_329 : List CE := cec 0 0 (.iload_n 1) xi0
  (cec 1 0 .i2b xi0
  (cec 2 0 (.istore 4) xi0
  (cec 4 0 (.iload_n 2) xi0
  (cec 5 0 (.istore 5) xi0
  (cec 7 115 (.iload 5) xi0
  (cec 9 0 (.iload_n 3) xi0
  (cec 10 0 (.if_icmp .ge 21) xi0
  (cec 13 0 (.aload_n 0) xi0
  (cec 14 0 (.iload 5) xi0
  (cec 16 0 .baload xi0
  (cec 17 0 (.iload 4) xi0
  (cec 19 0 (.if_icmp .ne 6) xi0
  (cec 22 0 (.iload 5) xi0
  (cec 24 0 .ireturn xi0
  (cec 25 0 (.iinc 5 1) xi0
  (cec 28 0 (.goto (-21)) xi0
  (cec 31 0 (.iconst (-1)) xi0
  (cec 32 0 .ireturn xi0 []))))))))))))))))))
/-- java/lang/StringLatin1.charAt([BI)C -/
noncomputable def cs_330 : List CE := cec 0 0 (.iload_n 1) xi0
  (cec 1 0 (.aload_n 0) xi0
  (cec 2 0 .arraylength xi0
  (cec 3 0 (.invokestatic 9) (331, 2, 9, 0)
  (cec 6 0 (.aload_n 0) xi0
  (cec 7 0 (.iload_n 1) xi0
  (cec 8 0 .baload xi0
  (cec 9 0 (.sipush 255) xi0
  (cec 12 0 .iand xi0
  (cec 13 0 .i2c xi0
  (cec 14 0 .ireturn xi0 []))))))))))
/-- java/lang/String.checkIndex(II)V -/
noncomputable def cs_331 : List CE := cec 0 0 (.iload_n 0) xi0
  (cec 1 0 (.iload_n 1) xi0
  (cec 2 0 (.getstatic 1053) (1, 14, 0, 0)
  (cec 5 0 (.invokestatic 1059) (336, 3, 0, 0)
  (cec 8 0 .pop xi0
  (cec 9 0 .return_ xi0 [])))))
/-- java/util/Arrays.copyOf([BI)[B -/
noncomputable def cs_332 : List CE := cec 0 0 (.iload_n 1) xi0
  (cec 1 0 (.aload_n 0) xi0
  (cec 2 0 .arraylength xi0
  (cec 3 0 (.if_icmp .ne 11) xi0
  (cec 6 0 (.aload_n 0) xi0
  (cec 7 0 (.invokevirtual 310) (9998, 1, 2, 0)
  (cec 10 0 (.checkcast 311) xi0
  (cec 13 0 .areturn xi0
  (cec 14 0 (.iload_n 1) xi0
  (cec 15 0 (.newarray .byte) xi0
  (cec 17 0 (.astore_n 2) xi0
  (cec 18 0 (.aload_n 0) xi0
  (cec 19 0 (.iconst 0) xi0
  (cec 20 0 (.aload_n 2) xi0
  (cec 21 0 (.iconst 0) xi0
  (cec 22 0 (.aload_n 0) xi0
  (cec 23 0 .arraylength xi0
  (cec 24 0 (.iload_n 1) xi0
  (cec 25 0 (.invokestatic 304) (9991, 2, 0, 0)
  (cec 28 0 (.invokestatic 150) (9997, 5, 9, 0)
  (cec 31 0 (.aload_n 2) xi0
  (cec 32 0 .areturn xi0 [])))))))))))))))))))))
/-- java/util/Arrays.copyOf([II)[I -/
noncomputable def cs_333 : List CE := cec 0 0 (.iload_n 1) xi0
  (cec 1 0 (.aload_n 0) xi0
  (cec 2 0 .arraylength xi0
  (cec 3 0 (.if_icmp .ne 11) xi0
  (cec 6 0 (.aload_n 0) xi0
  (cec 7 0 (.invokevirtual 316) (9998, 1, 2, 2)
  (cec 10 0 (.checkcast 317) (2, 0, 0, 0)
  (cec 13 0 .areturn xi0
  (cec 14 0 (.iload_n 1) xi0
  (cec 15 0 (.newarray .int) xi0
  (cec 17 0 (.astore_n 2) xi0
  (cec 18 0 (.aload_n 0) xi0
  (cec 19 0 (.iconst 0) xi0
  (cec 20 0 (.aload_n 2) xi0
  (cec 21 0 (.iconst 0) xi0
  (cec 22 0 (.aload_n 0) xi0
  (cec 23 0 .arraylength xi0
  (cec 24 0 (.iload_n 1) xi0
  (cec 25 0 (.invokestatic 304) (9991, 2, 0, 0)
  (cec 28 0 (.invokestatic 150) (9997, 5, 9, 0)
  (cec 31 0 (.aload_n 2) xi0
  (cec 32 0 .areturn xi0 [])))))))))))))))))))))
/-- java/util/Arrays.fill([JJ)V -/
noncomputable def cs_334 : List CE := cec 0 0 (.iconst 0) xi0
  (cec 1 0 (.istore_n 3) xi0
  (cec 2 0 (.aload_n 0) xi0
  (cec 3 0 .arraylength xi0
  (cec 4 0 (.istore 4) xi0
  (cec 6 55 (.iload_n 3) xi0
  (cec 7 0 (.iload 4) xi0
  (cec 9 0 (.if_icmp .ge 13) xi0
  (cec 12 0 (.aload_n 0) xi0
  (cec 13 0 (.iload_n 3) xi0
  (cec 14 0 (.lload_n 1) xi0
  (cec 15 0 .lastore xi0
  (cec 16 0 (.iinc 3 1) xi0
  (cec 19 0 (.goto (-13)) xi0
  (cec 22 0 .return_ xi0 []))))))))))))))
/-- jdk/internal/util/Preconditions.checkFromToIndex(IIILjava/util/function/BiFunction;)I -/
noncomputable def cs_335 : List CE := cec 0 0 (.iload_n 0) xi0
  (cec 1 0 (.ifCond .lt 13) xi0
  (cec 4 0 (.iload_n 0) xi0
  (cec 5 0 (.iload_n 1) xi0
  (cec 6 0 (.if_icmp .gt 8) xi0
  (cec 9 0 (.iload_n 1) xi0
  (cec 10 0 (.iload_n 2) xi0
  (cec 11 0 (.if_icmp .le 11) xi0
  (cec 14 0 (.aload_n 3) xi0
  (cec 15 0 (.iload_n 0) xi0
  (cec 16 0 (.iload_n 1) xi0
  (cec 17 0 (.iload_n 2) xi0
  (cec 18 0 (.invokestatic 99) (9000, 0, 0, 0)
  (cec 21 0 .athrow xi0
  (cec 22 0 (.iload_n 0) xi0
  (cec 23 0 .ireturn xi0 [])))))))))))))))
/-- jdk/internal/util/Preconditions.checkIndex(IILjava/util/function/BiFunction;)I -/
noncomputable def cs_336 : List CE := cec 0 0 (.iload_n 0) xi0
  (cec 1 0 (.ifCond .lt 8) xi0
  (cec 4 0 (.iload_n 0) xi0
  (cec 5 0 (.iload_n 1) xi0
  (cec 6 0 (.if_icmp .lt 10) xi0
  (cec 9 0 (.aload_n 2) xi0
  (cec 10 0 (.iload_n 0) xi0
  (cec 11 0 (.iload_n 1) xi0
  (cec 12 0 (.invokestatic 95) (9000, 0, 0, 0)
  (cec 15 0 .athrow xi0
  (cec 16 0 (.iload_n 0) xi0
  (cec 17 0 .ireturn xi0 [])))))))))))
/-- java/lang/Math.floorDiv(JJ)J -/
noncomputable def cs_337 : List CE := cec 0 0 (.lload_n 0) xi0
  (cec 1 0 (.lload_n 2) xi0
  (cec 2 0 .ldiv xi0
  (cec 3 0 (.lstore 4) xi0
  (cec 5 0 (.lload_n 0) xi0
  (cec 6 0 (.lload_n 2) xi0
  (cec 7 0 .lxor xi0
  (cec 8 0 (.lconst 0) xi0
  (cec 9 0 .lcmp xi0
  (cec 10 0 (.ifCond .ge 17) xi0
  (cec 13 0 (.lload 4) xi0
  (cec 15 0 (.lload_n 2) xi0
  (cec 16 0 .lmul xi0
  (cec 17 0 (.lload_n 0) xi0
  (cec 18 0 .lcmp xi0
  (cec 19 0 (.ifCond .eq 8) xi0
  (cec 22 0 (.lload 4) xi0
  (cec 24 0 (.lconst 1) xi0
  (cec 25 0 .lsub xi0
  (cec 26 0 .lreturn xi0
  (cec 27 0 (.lload 4) xi0
  (cec 29 0 .lreturn xi0 [])))))))))))))))))))))
/-- a list in pieces of twenty: what stands at a place -/
noncomputable def g2 {α : Type _} (l : List (List α)) (d : α) (m : Nat) : α := (l.getD (m / 20) []).getD (m % 20) d
theorem g2_none {α : Type _} {l : List (List α)} {d : α} {m : Nat} (h : l.length ≤ m / 20) : g2 l d m = d := by
  unfold g2
  rw [List.getD_eq_getElem?_getD (l := l), List.getElem?_eq_none h]
  rfl
noncomputable def csl : List (List (List CE)) := [
  [cs_0, cs_1, cs_2, cs_3, cs_4, cs_5, cs_6, cs_7, cs_8, cs_9, cs_10, cs_11, cs_12, cs_13, cs_14, cs_15, cs_16, cs_17, cs_18, cs_19],
  [cs_20, cs_21, cs_22, cs_23, cs_24, cs_25, cs_26, cs_27, cs_28, cs_29, cs_30, cs_31, cs_32, cs_33, cs_34, cs_35, cs_36, cs_37, cs_38, cs_39],
  [cs_40, cs_41, cs_42, cs_43, cs_44, cs_45, cs_46, cs_47, cs_48, cs_49, cs_50, cs_51, cs_52, cs_53, cs_54, cs_55, cs_56, cs_57, cs_58, cs_59],
  [cs_60, cs_61, cs_62, cs_63, cs_64, cs_65, cs_66, cs_67, cs_68, cs_69, cs_70, cs_71, cs_72, cs_73, cs_74, cs_75, cs_76, cs_77, cs_78, cs_79],
  [cs_80, cs_81, cs_82, cs_83, cs_84, cs_85, cs_86, cs_87, cs_88, cs_89, cs_90, cs_91, cs_92, cs_93, cs_94, cs_95, cs_96, cs_97, cs_98, cs_99],
  [cs_100, cs_101, cs_102, cs_103, cs_104, cs_105, cs_106, cs_107, cs_108, cs_109, cs_110, cs_111, cs_112, cs_113, cs_114, cs_115, cs_116, cs_117, cs_118, cs_119],
  [cs_120, cs_121, cs_122, cs_123, cs_124, cs_125, cs_126, cs_127, cs_128, cs_129, cs_130, cs_131, cs_132, cs_133, cs_134, cs_135, cs_136, cs_137, cs_138, cs_139],
  [cs_140, cs_141, cs_142, cs_143, cs_144, cs_145, cs_146, cs_147, cs_148, cs_149, cs_150, cs_151, cs_152, cs_153, cs_154, cs_155, cs_156, cs_157, cs_158, cs_159],
  [cs_160, cs_161, cs_162, cs_163, cs_164, cs_165, cs_166, cs_167, cs_168, cs_169, cs_170, cs_171, cs_172, cs_173, cs_174, cs_175, cs_176, cs_177, cs_178, cs_179],
  [cs_180, cs_181, cs_182, cs_183, cs_184, cs_185, cs_186, cs_187, cs_188, cs_189, cs_190, cs_191, cs_192, cs_193, cs_194, cs_195, cs_196, cs_197, cs_198, cs_199],
  [cs_200, cs_201, cs_202, cs_203, cs_204, cs_205, cs_206, cs_207, cs_208, cs_209, cs_210, cs_211, cs_212, cs_213, cs_214, cs_215, cs_216, cs_217, cs_218, cs_219],
  [cs_220, cs_221, cs_222, cs_223, cs_224, cs_225, cs_226, cs_227, cs_228, cs_229, cs_230, cs_231, cs_232, cs_233, cs_234, cs_235, cs_236, cs_237, cs_238, cs_239],
  [cs_240, cs_241, cs_242, cs_243, cs_244, cs_245, cs_246, cs_247, cs_248, cs_249, cs_250, cs_251, cs_252, cs_253, cs_254, cs_255, cs_256, cs_257, cs_258, cs_259],
  [cs_260, cs_261, cs_262, cs_263, cs_264, cs_265, cs_266, cs_267, cs_268, cs_269, cs_270, cs_271, cs_272, cs_273, cs_274, cs_275, cs_276, cs_277, cs_278, cs_279],
  [cs_280, cs_281, cs_282, cs_283, cs_284, cs_285, cs_286, cs_287, cs_288, cs_289, cs_290, cs_291, cs_292, cs_293, cs_294, cs_295, cs_296, cs_297, cs_298, cs_299],
  [cs_300, cs_301, cs_302, cs_303, cs_304, cs_305, cs_306, cs_307, cs_308, cs_309, cs_310, cs_311, cs_312, cs_313, cs_314, cs_315, cs_316, cs_317, cs_318, cs_319],
  [cs_320, cs_321, cs_322, cs_323, cs_324, cs_325, cs_326, cs_327, cs_328, cs_329, cs_330, cs_331, cs_332, cs_333, cs_334, cs_335, cs_336, cs_337]]
noncomputable def csOf (m : Nat) : List CE := g2 csl [] m
theorem csl_len : csl.length = 17 := by decide +kernel
theorem csOf_none {m : Nat} (h : 338 ≤ m) : csOf m = [] := by
  by_cases q : 340 ≤ m
  · exact g2_none (by rw [csl_len]; omega)
  · rcases (show m = 338 ∨ m = 339 by omega) with rfl | rfl <;> rfl
noncomputable def mll : List (List Nat) := [
  [4, 1, 2, 1, 2, 3, 3, 6, 3, 5, 3, 3, 8, 1, 1, 5, 6, 1, 6, 6],
  [7, 3, 9, 7, 4, 7, 4, 3, 7, 2, 11, 6, 5, 5, 2, 2, 3, 1, 1, 4],
  [1, 4, 3, 1, 5, 1, 3, 3, 7, 6, 3, 4, 3, 4, 3, 3, 4, 7, 4, 2],
  [4, 8, 9, 8, 4, 6, 4, 4, 2, 2, 8, 2, 4, 2, 1, 2, 1, 7, 2, 1],
  [2, 5, 2, 6, 5, 13, 6, 6, 9, 6, 5, 6, 2, 1, 4, 2, 9, 5, 2, 6],
  [1, 1, 4, 2, 5, 5, 2, 2, 7, 1, 3, 6, 4, 4, 1, 5, 2, 2, 4, 2],
  [5, 2, 2, 1, 2, 2, 2, 3, 3, 2, 2, 4, 6, 2, 1, 5, 4, 1, 4, 2],
  [1, 3, 3, 6, 1, 2, 3, 7, 7, 8, 2, 9, 9, 5, 2, 5, 3, 3, 7, 4],
  [4, 1, 3, 2, 2, 1, 1, 2, 2, 6, 6, 3, 2, 1, 5, 5, 2, 4, 1, 5],
  [4, 4, 21, 4, 12, 3, 6, 6, 5, 9, 5, 2, 5, 1, 2, 6, 2, 2, 3, 4],
  [3, 6, 3, 5, 4, 1, 2, 1, 1, 1, 3, 2, 1, 1, 4, 1, 3, 2, 1, 1],
  [2, 1, 1, 2, 1, 1, 1, 1, 2, 2, 3, 5, 4, 3, 4, 3, 5, 8, 1, 6],
  [5, 2, 6, 1, 3, 4, 6, 7, 3, 2, 6, 6, 4, 2, 3, 2, 7, 2, 3, 2],
  [2, 6, 5, 4, 5, 4, 5, 6, 5, 5, 4, 3, 5, 4, 3, 5, 4, 8, 3, 1],
  [4, 4, 4, 16, 3, 1, 6, 5, 3, 5, 3, 3, 3, 8, 3, 4, 2, 3, 3, 10],
  [5, 3, 7, 2, 5, 6, 6, 2, 3, 7, 5, 9, 4, 5, 6, 4, 3, 3, 2, 5],
  [1, 1, 1, 2, 3, 1, 2, 4, 1, 6, 2, 2, 3, 3, 5, 4, 3, 6]]
noncomputable def mlOf (m : Nat) : Nat := g2 mll 0 m
noncomputable def rtl : List (List Nat) := [
  [4, 9, 4, 4, 0, 0, 0, 0, 9, 0, 0, 0, 0, 4, 4, 0, 0, 0, 4, 1],
  [1, 4, 4, 0, 1, 0, 4, 0, 0, 9, 0, 4, 0, 0, 0, 1, 4, 4, 0, 1],
  [4, 1, 4, 0, 0, 0, 1, 0, 0, 4, 1, 0, 0, 4, 1, 4, 4, 1, 4, 1],
  [4, 1, 0, 0, 0, 0, 0, 0, 0, 1, 9, 1, 9, 4, 4, 4, 4, 9, 4, 9],
  [2, 9, 0, 0, 9, 0, 0, 1, 1, 1, 4, 1, 0, 9, 0, 0, 9, 4, 1, 9],
  [9, 4, 0, 4, 9, 9, 2, 0, 0, 9, 0, 1, 0, 1, 4, 0, 4, 0, 1, 0],
  [9, 0, 0, 9, 0, 4, 1, 4, 0, 4, 0, 0, 1, 1, 9, 0, 9, 9, 9, 4],
  [4, 9, 0, 0, 4, 9, 0, 4, 4, 4, 4, 1, 1, 1, 2, 9, 9, 9, 0, 0],
  [9, 0, 0, 0, 0, 9, 4, 0, 2, 1, 1, 1, 4, 4, 4, 0, 0, 9, 9, 4],
  [0, 1, 1, 9, 9, 1, 0, 9, 0, 0, 1, 4, 1, 9, 4, 4, 0, 4, 0, 4],
  [0, 0, 9, 0, 0, 4, 9, 0, 4, 4, 9, 9, 9, 9, 0, 4, 9, 9, 9, 4],
  [4, 4, 4, 9, 0, 4, 4, 9, 4, 9, 9, 0, 9, 4, 4, 0, 0, 0, 4, 0],
  [0, 4, 0, 0, 1, 4, 1, 1, 4, 0, 1, 0, 4, 4, 4, 4, 0, 4, 4, 4],
  [0, 0, 0, 4, 0, 0, 0, 9, 1, 1, 0, 0, 0, 0, 4, 1, 0, 1, 4, 0],
  [1, 1, 1, 1, 4, 0, 0, 0, 0, 1, 0, 1, 0, 0, 0, 1, 4, 1, 1, 0],
  [0, 4, 1, 4, 4, 1, 1, 1, 4, 1, 4, 0, 9, 0, 0, 0, 0, 0, 0, 1],
  [0, 0, 3, 0, 0, 4, 5, 0, 4, 0, 5, 9, 2, 2, 9, 0, 0, 1]]
noncomputable def rtOf (m : Nat) : Nat := g2 rtl 0 m
