import java.io.IOException;
import java.nio.file.Files;
import java.nio.file.Path;

/** What README.md shows of the class is so: its calls, and the answers of refused ones. */
public final class ReadmeTest {
    private static final int NONE = SupplyBook.NONE;
    private static final Due DUE = new Due("ReadmeTest");

    private static void object() {
        SupplyBook book = new SupplyBook();
        int head = book.head(SupplyBook.NONE);
        int hand = book.hand(head, 3);
        int vote = book.vote(0, head, 1000, 0, 0);
        DUE.yes("comes", book.comes(0, 5000));
        int claim = book.claim(hand, head, 0, 400, SupplyBook.NONE, false);
        DUE.is("pay", book.pay(claim), vote);
        DUE.yes("now", book.now(7));
        DUE.is("feed", book.feed('o' << 24 | '(' << 16 | 'a' << 8 | '<', '5' << 24 | '0' << 16 | '0' << 8 | ')', 0, 0, 0),
                20);
        DUE.is("law", book.law(0, 3599, 8), 0);
        DUE.is("the tape", book.count(12), 0);
        DUE.is("499", book.may(book.claim(hand, head, 0, 499, NONE, false)), vote);
        DUE.is("500", book.may(book.claim(hand, head, 0, 500, NONE, false)), -10 - 5);
    }

    private static void refused() {
        SupplyBook book = Due.filled();
        Due.feed(book, "m1;q");
        DUE.is("a text that is longer than the tape", book.law(0, 3599, 21), NONE);
        DUE.is("the tape stays", book.count(12), 20);
        DUE.is("fault 1 at place 3", book.law(0, 3599, 4), -1000 - 3);
        DUE.is("the tape is empty", book.count(12), 0);
        DUE.is("left of none", book.left(0, 0), -1000000000000L);
        DUE.is("bar 1", book.may(Due.claim(book, 5)), -10 - 1);
        DUE.no("no such claim", book.sign(9, 1));
        DUE.is("check of more than there is", book.check(0, 1), -2);
        DUE.is("check of nothing", book.check(0, 0), NONE);
        book.vote(0, 0, Due.MOST, 0, 0);
        book.pay(Due.claim(book, Due.MOST));
        book.vote(0, 0, 5, 0, 0);
        DUE.is("the chest has not so much", book.pay(0), -9);
        book.due(10, 1);
        DUE.is("short in week 10", book.judge(0), -2 - 10);
        DUE.is("no plan", book.plan(), NONE);
    }

    /** Each call and each answer that is named here stands in the README, and each test in the notes. */
    private static void named() throws IOException {
        String readme = Files.readString(Path.of("README.md"));
        String[] due = {"new SupplyBook()", "at most 512 calls", "book.feed('o' << 24 | '(' << 16 | 'a' << 8 | '<', "
                + "'5' << 24 | '0' << 16 | '0' << 8 | ')', 0, 0, 0)", "`NONE` (-1)", "`false`", "-1000 f - p",
            "-1000000000000", "-10 - b", "-9", "-2 - w", "bash .ci/run", "java -cp build EdgesTest"};
        for (String s : due) {
            DUE.yes("in the README: " + s, readme.contains(s));
        }
        String notes = Files.readString(Path.of("NOTES.md"));
        try (var files = Files.list(Path.of("src/test/java"))) {
            for (Path p : files.sorted().toList()) {
                String name = p.getFileName().toString().replace(".java", "");
                DUE.yes("in the notes: " + name, notes.contains("`" + name + "`"));
            }
        }
    }

    public static void main(String[] args) throws IOException {
        object();
        refused();
        named();
        DUE.end();
    }
}
