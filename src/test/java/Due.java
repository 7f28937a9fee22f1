/** What the tests share: answers set against those that are due, and texts put on the tape. */
final class Due {
    static final int NONE = SupplyBook.NONE;
    static final int MOST = 1000000000;
    private final String name;
    private int asked = 0;
    private int wrong = 0;

    Due(String name) {
        this.name = name;
    }

    void is(String what, long got, long want) {
        asked++;
        if (got != want) {
            wrong++;
            System.out.println(name + ": " + what + " answered " + got + ", due is " + want);
        }
    }

    void yes(String what, boolean got) {
        is(what, got ? 1 : 0, 1);
    }

    void no(String what, boolean got) {
        is(what, got ? 1 : 0, 0);
    }

    void end() {
        System.out.println(name + ": " + asked + " answers, " + wrong + " not as due");
        if (wrong != 0) {
            System.exit(1);
        }
    }

    /** Puts a text on the tape, with blanks behind it to the next twenty bytes. */
    static void feed(SupplyBook book, String text) {
        for (int i = 0; i < text.length(); i += 20) {
            int[] x = new int[5];
            for (int j = 0; j < 20; j++) {
                char c = i + j < text.length() ? text.charAt(i + j) : ' ';
                x[j / 4] = x[j / 4] << 8 | c & 255;
            }
            book.feed(x[0], x[1], x[2], x[3], x[4]);
        }
    }

    /** Puts numbers on the tape, with noughts behind them to the next five. */
    static void feedNumbers(SupplyBook book, int... numbers) {
        for (int i = 0; i < numbers.length; i += 5) {
            int[] x = new int[5];
            for (int j = 0; j < 5 && i + j < numbers.length; j++) {
                x[j] = numbers[i + j];
            }
            book.feed(x[0], x[1], x[2], x[3], x[4]);
        }
    }

    static int law(SupplyBook book, int from, int to, String text) {
        feed(book, text);
        return book.law(from, to, text.length());
    }

    static int law(SupplyBook book, String text) {
        return law(book, 0, 3599, text);
    }

    static int vote(SupplyBook book, int kind, int head, int sum, int year, String words) {
        feed(book, words);
        return book.vote(kind, head, sum, year, words.length());
    }

    /** A book with a head, two hands of it (ranks 3 and 5) and a full chest. */
    static SupplyBook filled() {
        SupplyBook book = new SupplyBook();
        book.head(NONE);
        book.hand(0, 3);
        book.hand(0, 5);
        book.comes(0, MOST);
        return book;
    }

    static int claim(SupplyBook book, int sum) {
        return book.claim(0, 0, 0, sum, NONE, false);
    }
}
