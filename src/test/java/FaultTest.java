import java.util.Random;

/** Promises 4 and 5: the faults of many spoilt texts are those by the document's definition. */
public final class FaultTest {
    public static void main(String[] args) {
        Random random = new Random(4);
        HiddenExits x = new HiddenExits();
        int faulty = 0;
        for (int k = 0; k < 1500; k++) {
            String text = Domains.spoilt(random);
            Check.write(x, text);
            int want = Reference.faultOf(text);
            Check.due(4, "fault() of " + text, x.fault(), want);
            Check.due(5, "domain() of " + text + " fails", x.domain() < 0 ? 1 : 0, want == Check.NONE ? 0 : 1);
            faulty += want == Check.NONE ? 0 : 1;
        }
        Check.due(4, "more than half of the texts are at fault", faulty > 750 ? 1 : 0, 1);
        Check.finish();
    }
}
