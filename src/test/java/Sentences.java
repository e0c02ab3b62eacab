import java.io.IOException;
import java.nio.file.Files;
import java.nio.file.Path;
import java.util.ArrayList;
import java.util.BitSet;
import java.util.List;
import java.util.regex.Matcher;
import java.util.regex.Pattern;

/** Tests that quote a sentence of the document each, and what they share. */
abstract class Sentences extends Asking {
    interface Call {
        long on(SkyTenders x);
    }

    interface Maker {
        SkyTenders made();
    }

    /** What a new object and the terms of the document say, ahead of promise 1. */
    static final int TERMS = 0;

    private static final int PROMISES = 30;
    private static final Path DOCUMENT = Path.of("../shared/DOC.md");
    // By such words a sentence names a boundary case.
    private static final Pattern BOUNDARY = Pattern.compile("UNKNOWN|BAD|LATE|FULL|NONE|at most|at first"
            + "|-?\\d+ \\.\\. \\d+|[Ww]ithout|empty|is full|forgotten|wrapping|refused|or more|no fewer|no more");

    private static final List<String> SECTIONS = new ArrayList<>();
    private static final List<BitSet> QUOTED = new ArrayList<>();

    /** Section 0 are the terms, section n is promise n; all runs of white space are one blank. */
    static void readDocument() throws IOException {
        if (!Files.exists(DOCUMENT)) {
            System.out.println(DOCUMENT + " is not here: what is quoted is not looked up in it");
            return;
        }
        String whole = Files.readString(DOCUMENT).replaceAll("\\s+", " ");
        String life = between(whole, "An object is used", "## The public face");
        SECTIONS.add(life + between(whole, "## Terms", "## Promise 1:"));
        for (int promise = 1; promise <= PROMISES; promise++) {
            String next = promise == PROMISES ? "## Not promised" : "## Promise " + (promise + 1) + ":";
            SECTIONS.add(between(whole, "## Promise " + promise + ":", next));
        }
        for (int i = 0; i <= PROMISES; i++) {
            QUOTED.add(new BitSet());
        }
    }

    private static String between(String whole, String from, String to) {
        int start = whole.indexOf(from);
        int stop = whole.indexOf(to);
        if (start < 0 || stop < start) {
            asksOf("the document");
            fails("nothing stands from '" + from + "' to '" + to + "'");
            return "";
        }
        return whole.substring(start, stop);
    }

    /** What is asked from here on is due by this sentence. */
    static void says(int section, String sentence) {
        asksOf((section == TERMS ? "terms" : "promise " + section) + ", '" + sentence + "'");
        if (SECTIONS.isEmpty()) {
            return;
        }
        int start = SECTIONS.get(section).indexOf(sentence);
        if (start < 0) {
            fails("does not stand in the document");
            return;
        }
        QUOTED.get(section).set(start, start + sentence.length());
    }

    static void everyBoundaryIsQuoted() {
        for (int i = 0; i < SECTIONS.size(); i++) {
            Matcher boundary = BOUNDARY.matcher(SECTIONS.get(i));
            while (boundary.find()) {
                if (!QUOTED.get(i).get(boundary.start())) {
                    asksOf("section " + i);
                    int from = Math.max(0, boundary.start() - 40);
                    int to = Math.min(SECTIONS.get(i).length(), boundary.end() + 40);
                    fails("no test quotes '.. " + SECTIONS.get(i).substring(from, to) + " ..'");
                }
            }
        }
    }

    /** An object with something of everything: doings, sights, a seed, one slot kept, a text that goes on. */
    static SkyTenders rich() {
        SkyTenders x = told("Fr2Fr2Fw1Mr92Mrw54Ms91");
        x.keep(0);
        x.bear(2);
        x.reprice(0, 3);
        x.restock(1, 6);
        x.want(1, 1);
        x.see(1, 9, 1);
        x.see(0, 0, 0);
        x.seed(77);
        x.write('F');
        // Far from what stands: what only would be leaves nothing behind for the next call.
        x.judge(4, 1009210030054000L);
        return x;
    }

    static void refuses(int due, Call call) {
        refuses(due, Sentences::rich, call);
    }

    /** The refusal that is due, and that nothing is changed by it. */
    static void refuses(int due, Maker maker, Call call) {
        due(leavesAll(maker, call), due);
    }

    /** Asks one of two like objects, and looks whether they are alike then; the answer. */
    static long leavesAll(Maker maker, Call call) {
        SkyTenders asked = maker.made();
        SkyTenders other = maker.made();
        long answer = call.on(asked);
        List<Long> left = allOf(asked);
        List<Long> due = allOf(other);
        if (!left.equals(due)) {
            fails("something is changed: " + left + ", due is " + due);
        }
        return answer;
    }

    /** All that can be seen of an object, which is undone and gone through by it. */
    static List<Long> allOf(SkyTenders x) {
        List<Long> all = new ArrayList<>();
        long seed = x.seed(0);
        all.add(seed);
        look(x, all);
        for (int left = x.undo(); left >= 0; left = x.undo()) {
            all.add((long) left);
            look(x, all);
        }
        for (int slot = 0; slot < 2; slot++) {
            all.add((long) x.again(slot));
            look(x, all);
        }
        all.add((long) x.fault());
        all.add((long) x.tender());
        all.add((long) x.wipe());
        return all;
    }

    private static void look(SkyTenders x, List<Long> all) {
        for (int what = 0; what <= 8; what++) {
            all.add((long) x.about(what));
        }
        for (int f = 0; f < 4; f++) {
            all.add((long) x.field(f, 0));
            all.add((long) x.field(f, 1));
        }
        for (int m = 0; m < 4; m++) {
            all.add((long) x.maker(m, 0));
            all.add((long) x.maker(m, 1));
            all.add((long) x.maker(m, 2));
        }
        all.add((long) x.best());
        all.add((long) x.which(0));
        all.add((long) x.which(1));
    }

    static String times(int count, String text) {
        return text.repeat(count);
    }
}
