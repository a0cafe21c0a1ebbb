import com.sun.management.ThreadMXBean;
import java.lang.management.ManagementFactory;

/** What a whole run makes: all of it in the constructor, none in a call, so that many calls fit into one room. */
public final class RoomTest {
    private static final ThreadMXBean BEAN = (ThreadMXBean) ManagementFactory.getThreadMXBean();

    public static void main(String[] args) {
        long sum = run(new LetterTables());
        long before = BEAN.getCurrentThreadAllocatedBytes();
        LetterTables x = new LetterTables();
        long made = BEAN.getCurrentThreadAllocatedBytes();
        sum += run(x);
        long after = BEAN.getCurrentThreadAllocatedBytes();
        System.out.println("the constructor makes " + (made - before) + " bytes, 512 calls " + (after - made));
        Due.same("the constructor makes less than 200000 bytes", "true", "" + (made - before < 200000));
        Due.same("512 calls make next to nothing", "true", "" + (after - made < 5000));
        Due.same("they are done", "true", "" + (sum != 1));
        Due.end();
    }

    /** 512 calls of all kinds on full texts, none of which throws. */
    private static long run(LetterTables x) {
        long sum = 0;
        for (int i = 0; i < 40; i++) {
            x.letter(i, i % 4, i % 11, i % 7, i);
            x.weigh(0, i, i, 1, 1);
            sum += x.put(0, i) + x.put(1, 39 - i);
        }
        sum += x.save();
        for (int i = 0; i < 13; i++) {
            sum += x.form(0, 0, 2) + x.form(0, 1, 2) + x.form(0, 2, 2) + x.form(0, 3, 2) + (x.looksLike(0, 1) ? 1 : 0);
            sum += x.base(0) + x.level(0, i, -1) + x.shown(1, i, 1) + x.bySight(0, i, true) + x.breaks(0, 2);
            sum += x.bySense(0, i, false) + x.compare(0, 0, 1) + x.key(0, 0, i) + x.find(0, 1, 0);
            sum += x.feed('.', 1) + x.pattern() + x.match(0, i) + x.transliterate(0, 3, true) + x.classOf(0, i);
            sum += x.feed(0x7D307BL, 3) + x.message(0, i, 0, 0, 0) + x.word(0) + x.encode(0);
            sum += x.feed(i, 1) + x.decode(4) + x.at(0, i);
            x.use(0);
        }
        return sum;
    }
}
