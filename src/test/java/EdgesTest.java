import java.util.List;

/**
 * Every call with all its numbers at their edges and beyond them, each with each, in posts of several states: a new
 * one, two ahead of their beginning, and others that have begun. The Model tells what is due, also of what is asked
 * then.
 */
public final class EdgesTest {
    private static final String RING = "MIN|-1..3|7|8|MAX";
    private static final String READER = "MIN|-1..9|15|16|MAX";
    private static final String CLAIM = "MIN|-1..5|MAX";
    private static final String LONG = "MIN|-1|0|1|7|8|9|MAX";

    /** Rings 0 and 1; readers 0 .. 6 are of kinds 1 .. 7, reader 7 is an ECHO that NAMES the GATE and three more. */
    private static final String AHEAD = "ring(2)=0 ring(4)=1 reader(1..7,0,1)=0..6 reader(7,0,1)=7 name(7,5)=1 "
        + "name(7,1)=1 name(7,2)=1 name(7,6)=1 ";
    private static final String READ = AHEAD + "begin()=1 claim(0,3)=0 fill(0,0,0..7,6)=1 publish(0,0,4,5)=1 round() ";
    private static final String[] STATES = {
        "made()=0",
        AHEAD,
        AHEAD + "ring(1*6)=2..7 join(4,2|3)=1 reader(2*8,0,0)=8..15 name(5,7)=CIRCLE",
        "ring(4)=0 ring(1)=1 reader(1..7,0,1)=0..6 begin()=1 batch(0,3,2)=0 publish(0,1,7,2)=1",
        READ + "claim(0,4)=1 claim(1,5)",
        READ + "claim(0,4)=1 close(1)=1 publish(0,1,31,8)=1",
        "ring(1*3)=0..2 reader(1..7,0,1)=0..6 begin()=1 claim(0,3)=0 publish(0,0,0,0)=1 round()=6 read(4)=1 give(0)=1",
        "ring(1)=0 ring(2)=1 reader(1|3|4,0,0)=0..2 reader(5,0,1)=3 begin()=1 give(0)=1 batch(1,0,2)=0 "
            + "publish(1,0,2,2)=1",
    };
    private static final String[] EDGES = {
        "ring(MIN|-2..9|15..17|31..33|63..65|128|MAX)", "begin()",
        "reader(MIN|-1..8|MAX," + RING + "," + READER + ")", "join(" + READER + "," + RING + ")",
        "name(" + READER + "," + READER + ")", "claim(" + RING + ",MIN|-1..6|MAX)",
        "batch(" + RING + ",MIN|-1..6|MAX,MIN|-1..5|MAX)", "fill(" + RING + "," + CLAIM + "," + LONG + ",9)",
        "copy(-1..2|8,-1..3|MAX,-1..1|7|8|16," + LONG + "," + LONG + ")",
        "publish(" + RING + "," + CLAIM + ",MIN|-1|0|31|32|MAX,MIN|-1|0|8|9|MAX)", "close(" + RING + ")",
        "give(" + RING + ")", "told(" + RING + ",MIN|-1..7|MAX)", "last(" + RING + ")", "read(" + READER + ")",
        "round()", "got(" + READER + ",MIN|-1..5|MAX)", "word(" + READER + ",MIN|-1..8|MAX)",
        "of(" + READER + ",MIN|-1..9|MAX)",
        "place(" + READER + "," + RING + ")", "named(" + READER + ",MIN|-1..5|MAX)",
        "entry(" + READER + ",MIN|-1..2|31|32|MAX)", "target(" + READER + ")", "why(" + READER + ")",
        "on(" + READER + ")", "stuck()", "found(MIN|-1..7|MAX)", "circle(MIN|-1..17|MAX)", "again()", "by()", "made()",
    };
    private static final String ASKED_THEN = "found(0..6) again() by() circle(0..3) made() told(0..2,1..3) "
        + "told(0..1,6) last(0..1) of(0..7,2) of(0..7,7) publish(0,0,3,3) publish(0,1,3,3) publish(1,0,3,3) round() "
        + "got(0..7,1) word(1|3,0) of(2,3..5) why(0..7) on(0..7) stuck()";

    private static final Checks CHECKS = new Checks();

    public static void main(String[] args) {
        List<Call> askedThen = Call.all(ASKED_THEN);
        for (int i = 0; i < STATES.length; i++) {
            List<Call> state = Call.all(STATES[i]);
            holds(i, state);
            for (String edges : EDGES) {
                for (Call edge : Call.all(edges)) {
                    CHECKS.part("state " + i + ", " + edge.text);
                    run(state, edge, askedThen);
                }
            }
        }
        CHECKS.end();
    }

    /** The calls that make a state are answered as the state is meant. */
    private static void holds(int number, List<Call> state) {
        CHECKS.part("state " + number);
        RingPost post = new RingPost();
        for (Call each : state) {
            long answer = each.answerOf(post);
            CHECKS.due(each.text, answer, each.isDue(answer), each.dueAsText());
        }
    }

    private static void run(List<Call> state, Call edge, List<Call> askedThen) {
        RingPost post = new RingPost();
        Model model = new Model();
        for (Call each : state) {
            same(each, post, model);
        }
        same(edge, post, model);
        for (Call each : askedThen) {
            same(each, post, model);
        }
    }

    private static void same(Call call, RingPost post, Model model) {
        CHECKS.due(call.text, call.answerOf(post), call.answerOf(model));
    }
}
