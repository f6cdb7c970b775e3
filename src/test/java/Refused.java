import java.util.HashSet;
import java.util.List;
import java.util.Set;

/** Holds terms 4 against a run of calls: a call that is refused changes nothing. */
final class Refused {
    private Refused() {
    }

    /** On a new object the calls answer the same without the refused ones among them. */
    static void changesNothing(Checks checks, List<Call> calls, long[] answers) {
        RingPost post = new RingPost();
        Set<Long> misses = new HashSet<>();
        for (int i = 0; i < answers.length; i++) {
            Call call = calls.get(i);
            if (call.name.equals("reader") && call.first() == 3) {
                misses.add(answers[i]);
            }
            // Reading of MISSES is what a refused call may change, as the document says.
            boolean readsMisses = call.name.equals("read") && misses.contains((long) call.first());
            if (answers[i] < 0 && call.mayBeRefused() && !readsMisses) {
                continue;
            }
            long answer = call.answerOf(post);
            if (!call.tellsOfRefusals()) {
                checks.due("without the refused calls ahead of it " + call.text, answer, answers[i]);
            }
        }
    }
}
