/** Promises 1 to 8. */
public final class PeopleTest {
    public static void main(String[] args) {
        Due.is("a new object has nobody", new Due().names.count(0), 0);
        Due.ends();
    }
}
