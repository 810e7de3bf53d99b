/-! the law, instruction by instruction -/
theorem dL_law_1671 : decode code 1671 = .ok (.ireturn, 1) := by decide +kernel
theorem dL_law_1672 : decode code 1672 = .ok (.iload 5, 2) := by decide +kernel
theorem dL_law_1674 : decode code 1674 = .ok (.ifCond .ne 15, 3) := by decide +kernel
theorem dL_law_1677 : decode code 1677 = .ok (.aload_n 3, 1) := by decide +kernel
theorem dL_law_1678 : decode code 1678 = .ok (.iconst 0, 1) := by decide +kernel
theorem dL_law_1679 : decode code 1679 = .ok (.laload, 1) := by decide +kernel
theorem dL_law_1680 : decode code 1680 = .ok (.iload 6, 2) := by decide +kernel
theorem dL_law_1682 : decode code 1682 = .ok (.i2l, 1) := by decide +kernel
theorem dL_law_1683 : decode code 1683 = .ok (.lcmp, 1) := by decide +kernel
theorem dL_law_1684 : decode code 1684 = .ok (.ifCond .eq 5, 3) := by decide +kernel
theorem dL_law_1687 : decode code 1687 = .ok (.iconst 0, 1) := by decide +kernel
theorem dL_law_1688 : decode code 1688 = .ok (.ireturn, 1) := by decide +kernel
theorem dL_law_1689 : decode code 1689 = .ok (.goto 486, 3) := by decide +kernel
theorem dL_law_1692 : decode code 1692 = .ok (.aload_n 1, 1) := by decide +kernel
theorem dL_law_1693 : decode code 1693 = .ok (.aload_n 0, 1) := by decide +kernel
theorem dL_law_1694 : decode code 1694 = .ok (.iload 4, 2) := by decide +kernel
theorem dL_law_1696 : decode code 1696 = .ok (.iconst 1, 1) := by decide +kernel
theorem dL_law_1697 : decode code 1697 = .ok (.iadd, 1) := by decide +kernel
theorem dL_law_1698 : decode code 1698 = .ok (.iaload, 1) := by decide +kernel
theorem dL_law_1699 : decode code 1699 = .ok (.aload_n 0, 1) := by decide +kernel
theorem dL_law_1700 : decode code 1700 = .ok (.iload 4, 2) := by decide +kernel
theorem dL_law_1702 : decode code 1702 = .ok (.iconst 2, 1) := by decide +kernel
theorem dL_law_1703 : decode code 1703 = .ok (.iadd, 1) := by decide +kernel
theorem dL_law_1704 : decode code 1704 = .ok (.iaload, 1) := by decide +kernel
theorem dL_law_1705 : decode code 1705 = .ok (.aload_n 0, 1) := by decide +kernel
theorem dL_law_1706 : decode code 1706 = .ok (.iload 4, 2) := by decide +kernel
theorem dL_law_1708 : decode code 1708 = .ok (.iconst 3, 1) := by decide +kernel
theorem dL_law_1709 : decode code 1709 = .ok (.iadd, 1) := by decide +kernel
theorem dL_law_1710 : decode code 1710 = .ok (.iaload, 1) := by decide +kernel
theorem dL_law_1711 : decode code 1711 = .ok (.aload_n 3, 1) := by decide +kernel
theorem dL_law_1712 : decode code 1712 = .ok (.invokestatic 182, 3) := by decide +kernel
theorem dL_law_1715 : decode code 1715 = .ok (.istore 5, 2) := by decide +kernel
theorem dL_law_1717 : decode code 1717 = .ok (.aload_n 2, 1) := by decide +kernel
theorem dL_law_1718 : decode code 1718 = .ok (.aload_n 0, 1) := by decide +kernel
theorem dL_law_1719 : decode code 1719 = .ok (.iload 4, 2) := by decide +kernel
theorem dL_law_1721 : decode code 1721 = .ok (.iconst 1, 1) := by decide +kernel
theorem dL_law_1722 : decode code 1722 = .ok (.iadd, 1) := by decide +kernel
theorem dL_law_1723 : decode code 1723 = .ok (.iaload, 1) := by decide +kernel
theorem dL_law_1724 : decode code 1724 = .ok (.aload_n 0, 1) := by decide +kernel
theorem dL_law_1725 : decode code 1725 = .ok (.iload 4, 2) := by decide +kernel
theorem dL_law_1727 : decode code 1727 = .ok (.iconst 2, 1) := by decide +kernel
theorem dL_law_1728 : decode code 1728 = .ok (.iadd, 1) := by decide +kernel
theorem dL_law_1729 : decode code 1729 = .ok (.iaload, 1) := by decide +kernel
theorem dL_law_1730 : decode code 1730 = .ok (.aload_n 0, 1) := by decide +kernel
theorem dL_law_1731 : decode code 1731 = .ok (.iload 4, 2) := by decide +kernel
theorem dL_law_1733 : decode code 1733 = .ok (.iconst 3, 1) := by decide +kernel
theorem dL_law_1734 : decode code 1734 = .ok (.iadd, 1) := by decide +kernel
theorem dL_law_1735 : decode code 1735 = .ok (.iaload, 1) := by decide +kernel
theorem dL_law_1736 : decode code 1736 = .ok (.invokevirtual 184, 3) := by decide +kernel
theorem dL_law_1739 : decode code 1739 = .ok (.istore 6, 2) := by decide +kernel
theorem dL_law_1741 : decode code 1741 = .ok (.aload_n 2, 1) := by decide +kernel
theorem dL_law_1742 : decode code 1742 = .ok (.invokevirtual 109, 3) := by decide +kernel
theorem dL_law_1745 : decode code 1745 = .ok (.iload 5, 2) := by decide +kernel
theorem dL_law_1747 : decode code 1747 = .ok (.if_icmp .eq 5, 3) := by decide +kernel
theorem dL_law_1750 : decode code 1750 = .ok (.iconst 0, 1) := by decide +kernel
theorem dL_law_1751 : decode code 1751 = .ok (.ireturn, 1) := by decide +kernel
theorem dL_law_1752 : decode code 1752 = .ok (.iload 5, 2) := by decide +kernel
theorem dL_law_1754 : decode code 1754 = .ok (.ifCond .ne 15, 3) := by decide +kernel
theorem dL_law_1757 : decode code 1757 = .ok (.aload_n 3, 1) := by decide +kernel
theorem dL_law_1758 : decode code 1758 = .ok (.iconst 0, 1) := by decide +kernel
theorem dL_law_1759 : decode code 1759 = .ok (.laload, 1) := by decide +kernel
theorem dL_law_1760 : decode code 1760 = .ok (.iload 6, 2) := by decide +kernel
theorem dL_law_1762 : decode code 1762 = .ok (.i2l, 1) := by decide +kernel
theorem dL_law_1763 : decode code 1763 = .ok (.lcmp, 1) := by decide +kernel
theorem dL_law_1764 : decode code 1764 = .ok (.ifCond .eq 5, 3) := by decide +kernel
theorem dL_law_1767 : decode code 1767 = .ok (.iconst 0, 1) := by decide +kernel
theorem dL_law_1768 : decode code 1768 = .ok (.ireturn, 1) := by decide +kernel
theorem dL_law_1769 : decode code 1769 = .ok (.goto 406, 3) := by decide +kernel
theorem dL_law_1772 : decode code 1772 = .ok (.aload_n 1, 1) := by decide +kernel
theorem dL_law_1773 : decode code 1773 = .ok (.aload_n 0, 1) := by decide +kernel
theorem dL_law_1774 : decode code 1774 = .ok (.iload 4, 2) := by decide +kernel
theorem dL_law_1776 : decode code 1776 = .ok (.iconst 1, 1) := by decide +kernel
theorem dL_law_1777 : decode code 1777 = .ok (.iadd, 1) := by decide +kernel
theorem dL_law_1778 : decode code 1778 = .ok (.iaload, 1) := by decide +kernel
theorem dL_law_1779 : decode code 1779 = .ok (.aload_n 0, 1) := by decide +kernel
theorem dL_law_1780 : decode code 1780 = .ok (.iload 4, 2) := by decide +kernel
theorem dL_law_1782 : decode code 1782 = .ok (.iconst 2, 1) := by decide +kernel
theorem dL_law_1783 : decode code 1783 = .ok (.iadd, 1) := by decide +kernel
theorem dL_law_1784 : decode code 1784 = .ok (.iaload, 1) := by decide +kernel
theorem dL_law_1785 : decode code 1785 = .ok (.aload_n 3, 1) := by decide +kernel
theorem dL_law_1786 : decode code 1786 = .ok (.invokestatic 185, 3) := by decide +kernel
theorem dL_law_1789 : decode code 1789 = .ok (.istore 5, 2) := by decide +kernel
theorem dL_law_1791 : decode code 1791 = .ok (.aload_n 2, 1) := by decide +kernel
theorem dL_law_1792 : decode code 1792 = .ok (.aload_n 0, 1) := by decide +kernel
theorem dL_law_1793 : decode code 1793 = .ok (.iload 4, 2) := by decide +kernel
theorem dL_law_1795 : decode code 1795 = .ok (.iconst 1, 1) := by decide +kernel
theorem dL_law_1796 : decode code 1796 = .ok (.iadd, 1) := by decide +kernel
theorem dL_law_1797 : decode code 1797 = .ok (.iaload, 1) := by decide +kernel
theorem dL_law_1798 : decode code 1798 = .ok (.aload_n 0, 1) := by decide +kernel
theorem dL_law_1799 : decode code 1799 = .ok (.iload 4, 2) := by decide +kernel
theorem dL_law_1801 : decode code 1801 = .ok (.iconst 2, 1) := by decide +kernel
theorem dL_law_1802 : decode code 1802 = .ok (.iadd, 1) := by decide +kernel
theorem dL_law_1803 : decode code 1803 = .ok (.iaload, 1) := by decide +kernel
theorem dL_law_1804 : decode code 1804 = .ok (.invokevirtual 187, 3) := by decide +kernel
theorem dL_law_1807 : decode code 1807 = .ok (.istore 6, 2) := by decide +kernel
theorem dL_law_1809 : decode code 1809 = .ok (.aload_n 2, 1) := by decide +kernel
theorem dL_law_1810 : decode code 1810 = .ok (.invokevirtual 109, 3) := by decide +kernel
theorem dL_law_1813 : decode code 1813 = .ok (.iload 5, 2) := by decide +kernel
theorem dL_law_1815 : decode code 1815 = .ok (.if_icmp .eq 5, 3) := by decide +kernel
theorem dL_law_1818 : decode code 1818 = .ok (.iconst 0, 1) := by decide +kernel
theorem dL_law_1819 : decode code 1819 = .ok (.ireturn, 1) := by decide +kernel
theorem dL_law_1820 : decode code 1820 = .ok (.iload 5, 2) := by decide +kernel
theorem dL_law_1822 : decode code 1822 = .ok (.ifCond .ne 15, 3) := by decide +kernel
theorem dL_law_1825 : decode code 1825 = .ok (.aload_n 3, 1) := by decide +kernel
theorem dL_law_1826 : decode code 1826 = .ok (.iconst 0, 1) := by decide +kernel
theorem dL_law_1827 : decode code 1827 = .ok (.laload, 1) := by decide +kernel
theorem dL_law_1828 : decode code 1828 = .ok (.iload 6, 2) := by decide +kernel
theorem dL_law_1830 : decode code 1830 = .ok (.i2l, 1) := by decide +kernel
theorem dL_law_1831 : decode code 1831 = .ok (.lcmp, 1) := by decide +kernel
theorem dL_law_1832 : decode code 1832 = .ok (.ifCond .eq 5, 3) := by decide +kernel
theorem dL_law_1835 : decode code 1835 = .ok (.iconst 0, 1) := by decide +kernel
theorem dL_law_1836 : decode code 1836 = .ok (.ireturn, 1) := by decide +kernel
theorem dL_law_1837 : decode code 1837 = .ok (.goto 338, 3) := by decide +kernel
theorem dL_law_1840 : decode code 1840 = .ok (.aload_n 1, 1) := by decide +kernel
theorem dL_law_1841 : decode code 1841 = .ok (.aload_n 0, 1) := by decide +kernel
theorem dL_law_1842 : decode code 1842 = .ok (.iload 4, 2) := by decide +kernel
theorem dL_law_1844 : decode code 1844 = .ok (.iconst 1, 1) := by decide +kernel
theorem dL_law_1845 : decode code 1845 = .ok (.iadd, 1) := by decide +kernel
theorem dL_law_1846 : decode code 1846 = .ok (.iaload, 1) := by decide +kernel
theorem dL_law_1847 : decode code 1847 = .ok (.aload_n 0, 1) := by decide +kernel
theorem dL_law_1848 : decode code 1848 = .ok (.iload 4, 2) := by decide +kernel
theorem dL_law_1850 : decode code 1850 = .ok (.iconst 2, 1) := by decide +kernel
theorem dL_law_1851 : decode code 1851 = .ok (.iadd, 1) := by decide +kernel
theorem dL_law_1852 : decode code 1852 = .ok (.iaload, 1) := by decide +kernel
theorem dL_law_1853 : decode code 1853 = .ok (.aload_n 3, 1) := by decide +kernel
theorem dL_law_1854 : decode code 1854 = .ok (.invokestatic 188, 3) := by decide +kernel
theorem dL_law_1857 : decode code 1857 = .ok (.istore 5, 2) := by decide +kernel
theorem dL_law_1859 : decode code 1859 = .ok (.aload_n 2, 1) := by decide +kernel
theorem dL_law_1860 : decode code 1860 = .ok (.aload_n 0, 1) := by decide +kernel
theorem dL_law_1861 : decode code 1861 = .ok (.iload 4, 2) := by decide +kernel
theorem dL_law_1863 : decode code 1863 = .ok (.iconst 1, 1) := by decide +kernel
theorem dL_law_1864 : decode code 1864 = .ok (.iadd, 1) := by decide +kernel
theorem dL_law_1865 : decode code 1865 = .ok (.iaload, 1) := by decide +kernel
theorem dL_law_1866 : decode code 1866 = .ok (.aload_n 0, 1) := by decide +kernel
theorem dL_law_1867 : decode code 1867 = .ok (.iload 4, 2) := by decide +kernel
theorem dL_law_1869 : decode code 1869 = .ok (.iconst 2, 1) := by decide +kernel
theorem dL_law_1870 : decode code 1870 = .ok (.iadd, 1) := by decide +kernel
theorem dL_law_1871 : decode code 1871 = .ok (.iaload, 1) := by decide +kernel
theorem dL_law_1872 : decode code 1872 = .ok (.invokevirtual 190, 3) := by decide +kernel
theorem dL_law_1875 : decode code 1875 = .ok (.istore 6, 2) := by decide +kernel
theorem dL_law_1877 : decode code 1877 = .ok (.aload_n 2, 1) := by decide +kernel
theorem dL_law_1878 : decode code 1878 = .ok (.invokevirtual 109, 3) := by decide +kernel
theorem dL_law_1881 : decode code 1881 = .ok (.iload 5, 2) := by decide +kernel
theorem dL_law_1883 : decode code 1883 = .ok (.if_icmp .eq 5, 3) := by decide +kernel
theorem dL_law_1886 : decode code 1886 = .ok (.iconst 0, 1) := by decide +kernel
theorem dL_law_1887 : decode code 1887 = .ok (.ireturn, 1) := by decide +kernel
theorem dL_law_1888 : decode code 1888 = .ok (.iload 5, 2) := by decide +kernel
theorem dL_law_1890 : decode code 1890 = .ok (.ifCond .ne 15, 3) := by decide +kernel
theorem dL_law_1893 : decode code 1893 = .ok (.aload_n 3, 1) := by decide +kernel
theorem dL_law_1894 : decode code 1894 = .ok (.iconst 0, 1) := by decide +kernel
theorem dL_law_1895 : decode code 1895 = .ok (.laload, 1) := by decide +kernel
theorem dL_law_1896 : decode code 1896 = .ok (.iload 6, 2) := by decide +kernel
theorem dL_law_1898 : decode code 1898 = .ok (.i2l, 1) := by decide +kernel
theorem dL_law_1899 : decode code 1899 = .ok (.lcmp, 1) := by decide +kernel
theorem dL_law_1900 : decode code 1900 = .ok (.ifCond .eq 5, 3) := by decide +kernel
theorem dL_law_1903 : decode code 1903 = .ok (.iconst 0, 1) := by decide +kernel
theorem dL_law_1904 : decode code 1904 = .ok (.ireturn, 1) := by decide +kernel
theorem dL_law_1905 : decode code 1905 = .ok (.goto 270, 3) := by decide +kernel
theorem dL_law_1908 : decode code 1908 = .ok (.aload_n 1, 1) := by decide +kernel
theorem dL_law_1909 : decode code 1909 = .ok (.aload_n 0, 1) := by decide +kernel
theorem dL_law_1910 : decode code 1910 = .ok (.iload 4, 2) := by decide +kernel
theorem dL_law_1912 : decode code 1912 = .ok (.iconst 1, 1) := by decide +kernel
theorem dL_law_1913 : decode code 1913 = .ok (.iadd, 1) := by decide +kernel
theorem dL_law_1914 : decode code 1914 = .ok (.iaload, 1) := by decide +kernel
theorem dL_law_1915 : decode code 1915 = .ok (.aload_n 0, 1) := by decide +kernel
theorem dL_law_1916 : decode code 1916 = .ok (.iload 4, 2) := by decide +kernel
theorem dL_law_1918 : decode code 1918 = .ok (.iconst 2, 1) := by decide +kernel
theorem dL_law_1919 : decode code 1919 = .ok (.iadd, 1) := by decide +kernel
theorem dL_law_1920 : decode code 1920 = .ok (.iaload, 1) := by decide +kernel
theorem dL_law_1921 : decode code 1921 = .ok (.aload_n 0, 1) := by decide +kernel
theorem dL_law_1922 : decode code 1922 = .ok (.iload 4, 2) := by decide +kernel
theorem dL_law_1924 : decode code 1924 = .ok (.iconst 3, 1) := by decide +kernel
theorem dL_law_1925 : decode code 1925 = .ok (.iadd, 1) := by decide +kernel
theorem dL_law_1926 : decode code 1926 = .ok (.iaload, 1) := by decide +kernel
theorem dL_law_1927 : decode code 1927 = .ok (.aload_n 3, 1) := by decide +kernel
theorem dL_law_1928 : decode code 1928 = .ok (.invokestatic 191, 3) := by decide +kernel
theorem dL_law_1931 : decode code 1931 = .ok (.istore 5, 2) := by decide +kernel
theorem dL_law_1933 : decode code 1933 = .ok (.aload_n 2, 1) := by decide +kernel
theorem dL_law_1934 : decode code 1934 = .ok (.aload_n 0, 1) := by decide +kernel
theorem dL_law_1935 : decode code 1935 = .ok (.iload 4, 2) := by decide +kernel
theorem dL_law_1937 : decode code 1937 = .ok (.iconst 1, 1) := by decide +kernel
theorem dL_law_1938 : decode code 1938 = .ok (.iadd, 1) := by decide +kernel
theorem dL_law_1939 : decode code 1939 = .ok (.iaload, 1) := by decide +kernel
theorem dL_law_1940 : decode code 1940 = .ok (.aload_n 0, 1) := by decide +kernel
theorem dL_law_1941 : decode code 1941 = .ok (.iload 4, 2) := by decide +kernel
theorem dL_law_1943 : decode code 1943 = .ok (.iconst 2, 1) := by decide +kernel
theorem dL_law_1944 : decode code 1944 = .ok (.iadd, 1) := by decide +kernel
theorem dL_law_1945 : decode code 1945 = .ok (.iaload, 1) := by decide +kernel
theorem dL_law_1946 : decode code 1946 = .ok (.aload_n 0, 1) := by decide +kernel
theorem dL_law_1947 : decode code 1947 = .ok (.iload 4, 2) := by decide +kernel
theorem dL_law_1949 : decode code 1949 = .ok (.iconst 3, 1) := by decide +kernel
theorem dL_law_1950 : decode code 1950 = .ok (.iadd, 1) := by decide +kernel
theorem dL_law_1951 : decode code 1951 = .ok (.iaload, 1) := by decide +kernel
theorem dL_law_1952 : decode code 1952 = .ok (.invokevirtual 193, 3) := by decide +kernel
theorem dL_law_1955 : decode code 1955 = .ok (.istore 6, 2) := by decide +kernel
theorem dL_law_1957 : decode code 1957 = .ok (.aload_n 2, 1) := by decide +kernel
theorem dL_law_1958 : decode code 1958 = .ok (.invokevirtual 109, 3) := by decide +kernel
theorem dL_law_1961 : decode code 1961 = .ok (.iload 5, 2) := by decide +kernel
theorem dL_law_1963 : decode code 1963 = .ok (.if_icmp .eq 5, 3) := by decide +kernel
theorem dL_law_1966 : decode code 1966 = .ok (.iconst 0, 1) := by decide +kernel
theorem dL_law_1967 : decode code 1967 = .ok (.ireturn, 1) := by decide +kernel
theorem dL_law_1968 : decode code 1968 = .ok (.iload 5, 2) := by decide +kernel
theorem dL_law_1970 : decode code 1970 = .ok (.ifCond .ne 15, 3) := by decide +kernel
theorem dL_law_1973 : decode code 1973 = .ok (.aload_n 3, 1) := by decide +kernel
theorem dL_law_1974 : decode code 1974 = .ok (.iconst 0, 1) := by decide +kernel
theorem dL_law_1975 : decode code 1975 = .ok (.laload, 1) := by decide +kernel
theorem dL_law_1976 : decode code 1976 = .ok (.iload 6, 2) := by decide +kernel
theorem dL_law_1978 : decode code 1978 = .ok (.i2l, 1) := by decide +kernel
theorem dL_law_1979 : decode code 1979 = .ok (.lcmp, 1) := by decide +kernel
theorem dL_law_1980 : decode code 1980 = .ok (.ifCond .eq 5, 3) := by decide +kernel
theorem dL_law_1983 : decode code 1983 = .ok (.iconst 0, 1) := by decide +kernel
theorem dL_law_1984 : decode code 1984 = .ok (.ireturn, 1) := by decide +kernel
theorem dL_law_1985 : decode code 1985 = .ok (.goto 190, 3) := by decide +kernel
theorem dL_law_1988 : decode code 1988 = .ok (.aload_n 1, 1) := by decide +kernel
theorem dL_law_1989 : decode code 1989 = .ok (.aload_n 0, 1) := by decide +kernel
theorem dL_law_1990 : decode code 1990 = .ok (.iload 4, 2) := by decide +kernel
theorem dL_law_1992 : decode code 1992 = .ok (.iconst 1, 1) := by decide +kernel
theorem dL_law_1993 : decode code 1993 = .ok (.iadd, 1) := by decide +kernel
theorem dL_law_1994 : decode code 1994 = .ok (.iaload, 1) := by decide +kernel
theorem dL_law_1995 : decode code 1995 = .ok (.aload_n 0, 1) := by decide +kernel
theorem dL_law_1996 : decode code 1996 = .ok (.iload 4, 2) := by decide +kernel
theorem dL_law_1998 : decode code 1998 = .ok (.iconst 2, 1) := by decide +kernel
theorem dL_law_1999 : decode code 1999 = .ok (.iadd, 1) := by decide +kernel
theorem dL_law_2000 : decode code 2000 = .ok (.iaload, 1) := by decide +kernel
theorem dL_law_2001 : decode code 2001 = .ok (.aload_n 3, 1) := by decide +kernel
theorem dL_law_2002 : decode code 2002 = .ok (.invokestatic 194, 3) := by decide +kernel
theorem dL_law_2005 : decode code 2005 = .ok (.istore 5, 2) := by decide +kernel
theorem dL_law_2007 : decode code 2007 = .ok (.aload_n 2, 1) := by decide +kernel
theorem dL_law_2008 : decode code 2008 = .ok (.aload_n 0, 1) := by decide +kernel
theorem dL_law_2009 : decode code 2009 = .ok (.iload 4, 2) := by decide +kernel
theorem dL_law_2011 : decode code 2011 = .ok (.iconst 1, 1) := by decide +kernel
theorem dL_law_2012 : decode code 2012 = .ok (.iadd, 1) := by decide +kernel
theorem dL_law_2013 : decode code 2013 = .ok (.iaload, 1) := by decide +kernel
theorem dL_law_2014 : decode code 2014 = .ok (.aload_n 0, 1) := by decide +kernel
theorem dL_law_2015 : decode code 2015 = .ok (.iload 4, 2) := by decide +kernel
theorem dL_law_2017 : decode code 2017 = .ok (.iconst 2, 1) := by decide +kernel
theorem dL_law_2018 : decode code 2018 = .ok (.iadd, 1) := by decide +kernel
theorem dL_law_2019 : decode code 2019 = .ok (.iaload, 1) := by decide +kernel
theorem dL_law_2020 : decode code 2020 = .ok (.invokevirtual 196, 3) := by decide +kernel
theorem dL_law_2023 : decode code 2023 = .ok (.istore 6, 2) := by decide +kernel
theorem dL_law_2025 : decode code 2025 = .ok (.aload_n 2, 1) := by decide +kernel
theorem dL_law_2026 : decode code 2026 = .ok (.invokevirtual 109, 3) := by decide +kernel
theorem dL_law_2029 : decode code 2029 = .ok (.iload 5, 2) := by decide +kernel
theorem dL_law_2031 : decode code 2031 = .ok (.if_icmp .eq 5, 3) := by decide +kernel
theorem dL_law_2034 : decode code 2034 = .ok (.iconst 0, 1) := by decide +kernel
theorem dL_law_2035 : decode code 2035 = .ok (.ireturn, 1) := by decide +kernel
theorem dL_law_2036 : decode code 2036 = .ok (.iload 5, 2) := by decide +kernel
theorem dL_law_2038 : decode code 2038 = .ok (.ifCond .ne 15, 3) := by decide +kernel
theorem dL_law_2041 : decode code 2041 = .ok (.aload_n 3, 1) := by decide +kernel
theorem dL_law_2042 : decode code 2042 = .ok (.iconst 0, 1) := by decide +kernel
theorem dL_law_2043 : decode code 2043 = .ok (.laload, 1) := by decide +kernel
theorem dL_law_2044 : decode code 2044 = .ok (.iload 6, 2) := by decide +kernel
theorem dL_law_2046 : decode code 2046 = .ok (.i2l, 1) := by decide +kernel
theorem dL_law_2047 : decode code 2047 = .ok (.lcmp, 1) := by decide +kernel
theorem dL_law_2048 : decode code 2048 = .ok (.ifCond .eq 5, 3) := by decide +kernel
theorem dL_law_2051 : decode code 2051 = .ok (.iconst 0, 1) := by decide +kernel
theorem dL_law_2052 : decode code 2052 = .ok (.ireturn, 1) := by decide +kernel
theorem dL_law_2053 : decode code 2053 = .ok (.goto 122, 3) := by decide +kernel
theorem dL_law_2056 : decode code 2056 = .ok (.aload_n 1, 1) := by decide +kernel
theorem dL_law_2057 : decode code 2057 = .ok (.aload_n 0, 1) := by decide +kernel
theorem dL_law_2058 : decode code 2058 = .ok (.iload 4, 2) := by decide +kernel
theorem dL_law_2060 : decode code 2060 = .ok (.iconst 1, 1) := by decide +kernel
theorem dL_law_2061 : decode code 2061 = .ok (.iadd, 1) := by decide +kernel
theorem dL_law_2062 : decode code 2062 = .ok (.iaload, 1) := by decide +kernel
theorem dL_law_2063 : decode code 2063 = .ok (.aload_n 0, 1) := by decide +kernel
theorem dL_law_2064 : decode code 2064 = .ok (.iload 4, 2) := by decide +kernel
theorem dL_law_2066 : decode code 2066 = .ok (.iconst 2, 1) := by decide +kernel
theorem dL_law_2067 : decode code 2067 = .ok (.iadd, 1) := by decide +kernel
theorem dL_law_2068 : decode code 2068 = .ok (.iaload, 1) := by decide +kernel
theorem dL_law_2069 : decode code 2069 = .ok (.aload_n 0, 1) := by decide +kernel
theorem dL_law_2070 : decode code 2070 = .ok (.iload 4, 2) := by decide +kernel
theorem dL_law_2072 : decode code 2072 = .ok (.iconst 3, 1) := by decide +kernel
theorem dL_law_2073 : decode code 2073 = .ok (.iadd, 1) := by decide +kernel
theorem dL_law_2074 : decode code 2074 = .ok (.iaload, 1) := by decide +kernel
theorem dL_law_2075 : decode code 2075 = .ok (.aload_n 3, 1) := by decide +kernel
theorem dL_law_2076 : decode code 2076 = .ok (.invokestatic 197, 3) := by decide +kernel
theorem dL_law_2079 : decode code 2079 = .ok (.istore 5, 2) := by decide +kernel
theorem dL_law_2081 : decode code 2081 = .ok (.aload_n 2, 1) := by decide +kernel
theorem dL_law_2082 : decode code 2082 = .ok (.aload_n 0, 1) := by decide +kernel
theorem dL_law_2083 : decode code 2083 = .ok (.iload 4, 2) := by decide +kernel
theorem dL_law_2085 : decode code 2085 = .ok (.iconst 1, 1) := by decide +kernel
theorem dL_law_2086 : decode code 2086 = .ok (.iadd, 1) := by decide +kernel
theorem dL_law_2087 : decode code 2087 = .ok (.iaload, 1) := by decide +kernel
theorem dL_law_2088 : decode code 2088 = .ok (.aload_n 0, 1) := by decide +kernel
theorem dL_law_2089 : decode code 2089 = .ok (.iload 4, 2) := by decide +kernel
theorem dL_law_2091 : decode code 2091 = .ok (.iconst 2, 1) := by decide +kernel
theorem dL_law_2092 : decode code 2092 = .ok (.iadd, 1) := by decide +kernel
theorem dL_law_2093 : decode code 2093 = .ok (.iaload, 1) := by decide +kernel
theorem dL_law_2094 : decode code 2094 = .ok (.aload_n 0, 1) := by decide +kernel
theorem dL_law_2095 : decode code 2095 = .ok (.iload 4, 2) := by decide +kernel
theorem dL_law_2097 : decode code 2097 = .ok (.iconst 3, 1) := by decide +kernel
theorem dL_law_2098 : decode code 2098 = .ok (.iadd, 1) := by decide +kernel
theorem dL_law_2099 : decode code 2099 = .ok (.iaload, 1) := by decide +kernel
theorem dL_law_2100 : decode code 2100 = .ok (.invokevirtual 199, 3) := by decide +kernel
theorem dL_law_2103 : decode code 2103 = .ok (.istore 6, 2) := by decide +kernel
theorem dL_law_2105 : decode code 2105 = .ok (.aload_n 2, 1) := by decide +kernel
theorem dL_law_2106 : decode code 2106 = .ok (.invokevirtual 109, 3) := by decide +kernel
theorem dL_law_2109 : decode code 2109 = .ok (.iload 5, 2) := by decide +kernel
theorem dL_law_2111 : decode code 2111 = .ok (.if_icmp .eq 5, 3) := by decide +kernel
theorem dL_law_2114 : decode code 2114 = .ok (.iconst 0, 1) := by decide +kernel
theorem dL_law_2115 : decode code 2115 = .ok (.ireturn, 1) := by decide +kernel
theorem dL_law_2116 : decode code 2116 = .ok (.iload 5, 2) := by decide +kernel
theorem dL_law_2118 : decode code 2118 = .ok (.ifCond .ne 15, 3) := by decide +kernel
theorem dL_law_2121 : decode code 2121 = .ok (.aload_n 3, 1) := by decide +kernel
theorem dL_law_2122 : decode code 2122 = .ok (.iconst 0, 1) := by decide +kernel
theorem dL_law_2123 : decode code 2123 = .ok (.laload, 1) := by decide +kernel
theorem dL_law_2124 : decode code 2124 = .ok (.iload 6, 2) := by decide +kernel
theorem dL_law_2126 : decode code 2126 = .ok (.i2l, 1) := by decide +kernel
theorem dL_law_2127 : decode code 2127 = .ok (.lcmp, 1) := by decide +kernel
theorem dL_law_2128 : decode code 2128 = .ok (.ifCond .eq 5, 3) := by decide +kernel
theorem dL_law_2131 : decode code 2131 = .ok (.iconst 0, 1) := by decide +kernel
theorem dL_law_2132 : decode code 2132 = .ok (.ireturn, 1) := by decide +kernel
theorem dL_law_2133 : decode code 2133 = .ok (.goto 42, 3) := by decide +kernel
theorem dL_law_2136 : decode code 2136 = .ok (.aload_n 1, 1) := by decide +kernel
theorem dL_law_2137 : decode code 2137 = .ok (.invokevirtual 200, 3) := by decide +kernel
theorem dL_law_2140 : decode code 2140 = .ok (.aload_n 2, 1) := by decide +kernel
theorem dL_law_2141 : decode code 2141 = .ok (.invokevirtual 204, 3) := by decide +kernel
theorem dL_law_2144 : decode code 2144 = .ok (.lcmp, 1) := by decide +kernel
theorem dL_law_2145 : decode code 2145 = .ok (.ifCond .eq 30, 3) := by decide +kernel
theorem dL_law_2148 : decode code 2148 = .ok (.iconst 0, 1) := by decide +kernel
theorem dL_law_2149 : decode code 2149 = .ok (.ireturn, 1) := by decide +kernel
theorem dL_law_2150 : decode code 2150 = .ok (.aload_n 1, 1) := by decide +kernel
theorem dL_law_2151 : decode code 2151 = .ok (.aload_n 0, 1) := by decide +kernel
theorem dL_law_2152 : decode code 2152 = .ok (.iload 4, 2) := by decide +kernel
theorem dL_law_2154 : decode code 2154 = .ok (.iconst 1, 1) := by decide +kernel
theorem dL_law_2155 : decode code 2155 = .ok (.iadd, 1) := by decide +kernel
theorem dL_law_2156 : decode code 2156 = .ok (.iaload, 1) := by decide +kernel
theorem dL_law_2157 : decode code 2157 = .ok (.invokevirtual 205, 3) := by decide +kernel
theorem dL_law_2160 : decode code 2160 = .ok (.aload_n 2, 1) := by decide +kernel
theorem dL_law_2161 : decode code 2161 = .ok (.aload_n 0, 1) := by decide +kernel
theorem dL_law_2162 : decode code 2162 = .ok (.iload 4, 2) := by decide +kernel
theorem dL_law_2164 : decode code 2164 = .ok (.iconst 1, 1) := by decide +kernel
theorem dL_law_2165 : decode code 2165 = .ok (.iadd, 1) := by decide +kernel
theorem dL_law_2166 : decode code 2166 = .ok (.iaload, 1) := by decide +kernel
theorem dL_law_2167 : decode code 2167 = .ok (.invokevirtual 208, 3) := by decide +kernel
theorem dL_law_2170 : decode code 2170 = .ok (.if_icmp .eq 5, 3) := by decide +kernel
theorem dL_law_2173 : decode code 2173 = .ok (.iconst 0, 1) := by decide +kernel
theorem dL_law_2174 : decode code 2174 = .ok (.ireturn, 1) := by decide +kernel
theorem dL_law_2175 : decode code 2175 = .ok (.iinc 4 6, 3) := by decide +kernel
theorem dL_law_2178 : decode code 2178 = .ok (.goto (-2155), 3) := by decide +kernel
theorem dL_law_2181 : decode code 2181 = .ok (.iconst 1, 1) := by decide +kernel
theorem dL_law_2182 : decode code 2182 = .ok (.ireturn, 1) := by decide +kernel
