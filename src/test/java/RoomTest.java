import com.sun.management.ThreadMXBean;
import java.lang.management.ManagementFactory;

/** All calls of a run live in one room: a new object and its parts take little of it, all other calls nothing. */
public final class RoomTest {
    private static final ThreadMXBean ROOM = (ThreadMXBean) ManagementFactory.getThreadMXBean();
    /** 600,000 objects and 7.3 million elements for all calls of a run: if each of 512 made an object anew. */
    private static final long MOST_FOR_AN_OBJECT = 7300000L * 8 / 512;
    private static final long MOST_FOR_A_PART = MOST_FOR_AN_OBJECT;

    public static void main(String[] args) {
        // Ahead of what is measured: the machine's own first needs.
        for (int i = 0; i < 50; i++) {
            measure(new ChairOld());
        }
        long start = used();
        ChairOld chair = new ChairOld();
        long made = used() - start;
        chair.part(12);
        long part = used() - start - made;
        long rest = measure(chair);
        System.out.println("bytes of an object " + made + ", of a part " + part + ", of all other calls " + rest);
        // A few hundred bytes may be the measuring's own.
        if (made > MOST_FOR_AN_OBJECT || part > MOST_FOR_A_PART || rest > 1000) {
            System.out.println("that is too much");
            System.exit(1);
        }
    }

    private static long used() {
        return ROOM.getThreadAllocatedBytes(Thread.currentThread().getId());
    }

    private static long measure(ChairOld chair) {
        for (int i = chair.count(0); i < 8; i++) {
            chair.part(11 * i);
        }
        long start = used();
        for (int i = 0; i < 20; i++) {
            law(chair, i % 6);
            looks(chair, i % 8);
            papersAndActs(chair, i);
        }
        return used() - start;
    }

    private static void law(ChairOld chair, int mark) {
        String text = "k=0?90-y;(y<20&k<3)*5+((w+p)%9)|!y";
        for (int i = 0; i < text.length(); i++) {
            chair.feed(text.charAt(i));
        }
        chair.law(mark);
    }

    private static void looks(ChairOld chair, int part) {
        chair.find(10 * part + part % 6, 1 + part % 2);
        chair.number(10 * part, 329);
        chair.likely(10 * part, 0);
        chair.percent(10 * part);
        chair.likeliest(part);
        chair.when(10 * part, part % 3);
        chair.whole(0);
        chair.whole(1);
        chair.odd();
        chair.next(part);
        chair.named(part, 63);
        chair.plan(part, 54);
        chair.believed(part, 21);
        chair.cheapest(part, 30, 0);
        chair.spoils(part, 63);
        chair.price(-1);
        chair.drawn(part, 30, 1000 * part);
    }

    private static void papersAndActs(ChairOld chair, int i) {
        chair.mend(i % 6, i % 4, 1 + i % 9);
        chair.paper(29, i % 10);
        chair.papers(0);
        chair.papers(1);
        chair.house(i);
        chair.image();
        chair.back();
        chair.undo();
        chair.redo();
        chair.body(i % 8);
        chair.act(i, 3, i);
        chair.trace(i);
        chair.keep(i % 6, 0);
        chair.row(i % 6, i % 5, 60);
        chair.put(i % 6, 59, i);
        chair.element(i % 6, 59);
        chair.shift(i % 6, 0, i % 6, 1, 59);
        chair.taken(i % 6, 0);
        chair.parts(i % 6, 0, 8);
        chair.count(i % 7);
        chair.of(i % 8, 10);
    }
}
